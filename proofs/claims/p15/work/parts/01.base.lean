/-! rows pasted from kit/rows (pk_, s_l, nx_and) -/
theorem s_l : ∀ n, n < 32 → ((nI n &&& 31).toBitVec.smod 32).toNat = n := by decide +kernel
theorem nx_and (a b : Nat) : nI a &&& nI b = nI (a &&& b) := by
  apply Int32.toBitVec_inj.1
  show BitVec.ofNat 32 a &&& BitVec.ofNat 32 b = BitVec.ofNat 32 (a &&& b)
  apply BitVec.eq_of_getLsbD_eq
  intro i hi
  simp [hi]
/-! own rows: signed small numbers -/
def wu_z (z : Int) : Int32 := Int32.ofInt z
theorem wu_zn (n : Nat) : wu_z (n : Int) = nI n := Int32.ofInt_eq_ofNat
theorem wu_zt {z : Int} (h : -2147483648 ≤ z) (h' : z < 2147483648) : (wu_z z).toInt = z :=
  Int32.toInt_ofInt_of_le (by omega) (by omega)
theorem wu_zle {a b : Int} (ha : -2147483648 ≤ a ∧ a < 2147483648) (hb : -2147483648 ≤ b ∧ b < 2147483648) : wu_z a ≤ wu_z b ↔ a ≤ b := by
  rw [Int32.le_iff_toInt_le, wu_zt ha.1 ha.2, wu_zt hb.1 hb.2]
theorem wu_zlt {a b : Int} (ha : -2147483648 ≤ a ∧ a < 2147483648) (hb : -2147483648 ≤ b ∧ b < 2147483648) : wu_z a < wu_z b ↔ a < b := by
  rw [Int32.lt_iff_toInt_lt, wu_zt ha.1 ha.2, wu_zt hb.1 hb.2]
theorem wu_zeq {a b : Int} (ha : -2147483648 ≤ a ∧ a < 2147483648) (hb : -2147483648 ≤ b ∧ b < 2147483648) : wu_z a = wu_z b ↔ a = b := by
  rw [← Int32.toInt_inj, wu_zt ha.1 ha.2, wu_zt hb.1 hb.2]
theorem wu_zadd (a b : Int) : wu_z a + wu_z b = wu_z (a + b) := (Int32.ofInt_add a b).symm
theorem wu_zsub (a b : Int) : wu_z a - wu_z b = wu_z (a - b) := (Int32.ofInt_sub a b).symm
theorem wu_zmul (a b : Int) : wu_z a * wu_z b = wu_z (a * b) := (Int32.ofInt_mul a b).symm
theorem wu_ble {x y : Int32} {A B : Prop} (a b : Int) (f : a ≤ b → A) (g : b < a → B) (hx : x = wu_z a) (hy : y = wu_z b) (ha : -2147483648 ≤ a ∧ a < 2147483648) (hb : -2147483648 ≤ b ∧ b < 2147483648) : (x ≤ y → A) ∧ (¬ x ≤ y → B) := by
  subst hx hy
  rw [wu_zle ha hb]
  exact ⟨f, fun z => g (by omega)⟩
theorem wu_blt {x y : Int32} {A B : Prop} (a b : Int) (f : a < b → A) (g : b ≤ a → B) (hx : x = wu_z a) (hy : y = wu_z b) (ha : -2147483648 ≤ a ∧ a < 2147483648) (hb : -2147483648 ≤ b ∧ b < 2147483648) : (x < y → A) ∧ (¬ x < y → B) := by
  subst hx hy
  rw [wu_zlt ha hb]
  exact ⟨f, fun z => g (by omega)⟩
theorem wu_beq {x y : Int32} {A B : Prop} (a b : Int) (f : a = b → A) (g : a ≠ b → B) (hx : x = wu_z a) (hy : y = wu_z b) (ha : -2147483648 ≤ a ∧ a < 2147483648) (hb : -2147483648 ≤ b ∧ b < 2147483648) : (x = y → A) ∧ (¬ x = y → B) := by
  subst hx hy
  rw [wu_zeq ha hb]
  exact ⟨f, g⟩
theorem wu_m1 : (-1 : Int32) = wu_z (-1) := by decide
theorem wu_zn1 (n : Nat) : nI n + (-1) = wu_z ((n : Int) - 1) := by
  rw [wu_m1, ← wu_zn, wu_zadd]; rfl
theorem wu_zs1 (n : Nat) : nI n - 1 = wu_z ((n : Int) - 1) := by
  rw [show (1 : Int32) = wu_z 1 from by decide, ← wu_zn, wu_zsub]
/-! indices -/
theorem wu_ix (s j : Nat) : nI s * 16 + nI j = nI (s * 16 + j) := by
  rw [show (16 : Int32) = nI 16 from rfl, pk_mul, nI_add]
theorem wu_ixc (s j : Nat) (h : s * 16 + j < 2 ^ 31) : (nI s * 16 + nI j).toNatClampNeg = s * 16 + j := by
  rw [wu_ix, nI_clamp h]
theorem wu_k (a : Nat) {b : Nat} : nI a + nI b = nI (a + b) := nI_add a b
/-! exponents -/
def wu_ex (v c : Nat) : Nat := c / 32 ^ v % 32
theorem wu_s5 {v : Nat} (hv : v < 6) : (((5 * nI v) &&& 31 : Int32).toBitVec.smod 32).toNat = 5 * v := by
  rw [show (5 : Int32) * nI v = nI (5 * v) from pk_mul 5 v]
  exact s_l (5 * v) (by omega)
theorem wu_s4 {v : Nat} (hv : v < 8) : (((4 * nI v) &&& 31 : Int32).toBitVec.smod 32).toNat = 4 * v := by
  rw [show (4 : Int32) * nI v = nI (4 * v) from pk_mul 4 v]
  exact s_l (4 * v) (by omega)
theorem wu_p5 (v : Nat) : (2 : Nat) ^ (5 * v) = 32 ^ v := Nat.pow_mul 2 5 v
theorem wu_p4 (v : Nat) : (2 : Nat) ^ (4 * v) = 16 ^ v := Nat.pow_mul 2 4 v
theorem wu_shr {c v : Nat} (hc : c < 2 ^ 31) (hv : v < 6) : (nI c >>> ((5 * nI v) &&& 31)) &&& 31 = nI (wu_ex v c) := by
  rw [pk_shrN hc _ (5 * v) (wu_s5 hv), pk_andN (Nat.lt_of_le_of_lt (Nat.div_le_self _ _) (Nat.lt_trans hc (by decide))) 5 (by decide), wu_p5]
  rfl
theorem wu_shr4 {c v : Nat} (hc : c < 2 ^ 31) (hv : v < 6) : (nI c >>> ((4 * nI v) &&& 31)) &&& 15 = nI (c / 16 ^ v % 16) := by
  rw [pk_shrN hc _ (4 * v) (wu_s4 (by omega)), pk_andN (Nat.lt_of_le_of_lt (Nat.div_le_self _ _) (Nat.lt_trans hc (by decide))) 4 (by decide), wu_p4]
theorem wu_32lt {v : Nat} (hv : v < 6) : 32 ^ v ≤ 33554432 := by
  have : 32 ^ v ≤ 32 ^ 5 := Nat.pow_le_pow_right (by decide) (by omega)
  simpa using this
theorem wu_16lt {v : Nat} (hv : v < 6) : 16 ^ v ≤ 1048576 := by
  have : 16 ^ v ≤ 16 ^ 5 := Nat.pow_le_pow_right (by decide) (by omega)
  simpa using this
theorem wu_shl5 (a : Int32) {v : Nat} (hv : v < 6) : a <<< ((5 * nI v) &&& 31) = a * nI (32 ^ v) := by
  apply Int32.toBitVec_inj.mp
  apply BitVec.eq_of_toNat_eq
  have := wu_32lt hv
  rw [pk_shl a _ (5 * v) (wu_s5 hv), Int32.toBitVec_mul, BitVec.toNat_mul, pk_tn (by omega), wu_p5]
theorem wu_shl4 (a : Int32) {v : Nat} (hv : v < 6) : a <<< ((4 * nI v) &&& 31) = a * nI (16 ^ v) := by
  apply Int32.toBitVec_inj.mp
  apply BitVec.eq_of_toNat_eq
  have := wu_16lt hv
  rw [pk_shl a _ (4 * v) (wu_s4 (by omega)), Int32.toBitVec_mul, BitVec.toNat_mul, pk_tn (by omega), wu_p4]
theorem wu_ex0 (c : Nat) : wu_ex 0 c = c % 32 := by simp [wu_ex]
theorem wu_exS (v c : Nat) : wu_ex (v + 1) c = wu_ex v (c / 32) := by
  unfold wu_ex
  rw [Nat.pow_succ', Nat.div_div_eq_div_mul]
theorem wu_exlt (v c : Nat) : wu_ex v c < 32 := Nat.mod_lt _ (by decide)
theorem wu_exz (v : Nat) : wu_ex v 0 = 0 := by simp [wu_ex]
theorem wu_exadd : ∀ (v a b : Nat), (∀ w, w ≤ v → wu_ex w a ≤ 15) → (∀ w, w ≤ v → wu_ex w b ≤ 15) → wu_ex v (a + b) = wu_ex v a + wu_ex v b := by
  intro v
  induction v with
  | zero =>
    intro a b ha hb
    have h1 := ha 0 (Nat.le_refl 0)
    have h2 := hb 0 (Nat.le_refl 0)
    rw [wu_ex0] at h1 h2
    rw [wu_ex0, wu_ex0, wu_ex0]
    omega
  | succ v ih =>
    intro a b ha hb
    have h1 := ha 0 (by omega)
    have h2 := hb 0 (by omega)
    rw [wu_ex0] at h1 h2
    have e : (a + b) / 32 = a / 32 + b / 32 := by omega
    rw [wu_exS, wu_exS, wu_exS, e]
    apply ih
    · intro w hw; rw [← wu_exS]; exact ha (w + 1) (by omega)
    · intro w hw; rw [← wu_exS]; exact hb (w + 1) (by omega)
theorem wu_exmono : ∀ (v w e : Nat), e < 32 → wu_ex w (e * 32 ^ v) = if w = v then e else 0 := by
  intro v
  induction v with
  | zero =>
    intro w e he
    cases w with
    | zero => rw [wu_ex0, if_pos rfl]; omega
    | succ w => rw [wu_exS, if_neg (by omega), show e * 32 ^ 0 / 32 = 0 by omega, wu_exz]
  | succ v ih =>
    intro w e he
    have q : e * 32 ^ (v + 1) = 32 * (e * 32 ^ v) := by rw [Nat.pow_succ]; ac_rfl
    cases w with
    | zero => rw [wu_ex0, if_neg (by omega), q]; omega
    | succ w =>
      rw [wu_exS, q, Nat.mul_div_cancel_left _ (by decide : 0 < 32), ih w e he]
      by_cases h : w = v
      · rw [if_pos h, if_pos (by omega)]
      · rw [if_neg h, if_neg (by omega)]
theorem wu_exle : ∀ (v c : Nat), wu_ex v c * 32 ^ v ≤ c := by
  intro v c
  unfold wu_ex
  exact Nat.le_trans (Nat.mul_le_mul_right _ (Nat.mod_le _ _)) (Nat.div_mul_le_self _ _)
theorem wu_exwipe : ∀ (v w c : Nat), wu_ex w (c - wu_ex v c * 32 ^ v) = if w = v then 0 else wu_ex w c := by
  intro v
  induction v with
  | zero =>
    intro w c
    have q : c - wu_ex 0 c * 32 ^ 0 = 32 * (c / 32) := by rw [wu_ex0]; omega
    rw [q]
    cases w with
    | zero => rw [wu_ex0, if_pos rfl]; omega
    | succ w => rw [wu_exS, if_neg (by omega), wu_exS, Nat.mul_div_cancel_left _ (by decide : 0 < 32)]
  | succ v ih =>
    intro w c
    have h1 := wu_exle v (c / 32)
    have q : c - wu_ex (v + 1) c * 32 ^ (v + 1) = c % 32 + 32 * (c / 32 - wu_ex v (c / 32) * 32 ^ v) := by
      rw [wu_exS, Nat.pow_succ, ← Nat.mul_assoc]
      generalize wu_ex v (c / 32) * 32 ^ v = m at h1 ⊢
      omega
    rw [q]
    cases w with
    | zero => rw [wu_ex0, if_neg (by omega), wu_ex0]; omega
    | succ w =>
      rw [wu_exS, wu_exS, show (c % 32 + 32 * (c / 32 - wu_ex v (c / 32) * 32 ^ v)) / 32 = c / 32 - wu_ex v (c / 32) * 32 ^ v by omega, ih w (c / 32)]
      by_cases h : w = v
      · rw [if_pos h, if_pos (by omega)]
      · rw [if_neg h, if_neg (by omega)]
/-! small codes -/
def wu_Sm (c : Nat) : Prop := c < 536870912 ∧ ∀ v, v < 6 → wu_ex v c ≤ 15
theorem wu_Sm_add {a b : Nat} (ha : wu_Sm a) (hb : wu_Sm b) : a + b < 1073741824 ∧ ∀ v, v < 6 → wu_ex v (a + b) = wu_ex v a + wu_ex v b :=
  ⟨by have := ha.1; have := hb.1; omega, fun v hv => wu_exadd v a b (fun w hw => ha.2 w (by omega)) (fun w hw => hb.2 w (by omega))⟩
theorem wu_Sm_of {c : Nat} (hc : c < 1073741824) (h : ∀ v, v < 6 → wu_ex v c ≤ 15) : wu_Sm c := by
  refine ⟨?_, h⟩
  have h5 := h 5 (by decide)
  have e : wu_ex 5 c = c / 33554432 % 32 := rfl
  rw [e] at h5
  omega
/-- the code without k times x_v, where k is at most its exponent -/
theorem wu_down {c v e k : Nat} (hv : v < 6) (he : wu_ex v c = e) (hk : k ≤ e) (hs : wu_Sm c) : k * 32 ^ v ≤ c ∧ wu_Sm (c - k * 32 ^ v) ∧ wu_ex v (c - k * 32 ^ v) = e - k ∧ (∀ w, w < 6 → w ≠ v → wu_ex w (c - k * 32 ^ v) = wu_ex w c) := by
  have h0 := wu_exle v c
  rw [he] at h0
  have e15 : e ≤ 15 := he ▸ hs.2 v hv
  have hm : k * 32 ^ v ≤ e * 32 ^ v := Nat.mul_le_mul_right _ hk
  have hsub : (e - k) * 32 ^ v = e * 32 ^ v - k * 32 ^ v := Nat.sub_mul _ _ _
  have q : c - k * 32 ^ v = (c - e * 32 ^ v) + (e - k) * 32 ^ v := by omega
  have hw1 : ∀ w, wu_ex w (c - e * 32 ^ v) = if w = v then 0 else wu_ex w c := by
    intro w; have := wu_exwipe v w c; rwa [he] at this
  have hw2 : ∀ w, wu_ex w ((e - k) * 32 ^ v) = if w = v then e - k else 0 := fun w => wu_exmono v w (e - k) (by omega)
  have hadd : ∀ w, w < 6 → wu_ex w (c - k * 32 ^ v) = if w = v then e - k else wu_ex w c := by
    intro w hw
    rw [q, wu_exadd w]
    · rw [hw1, hw2]; by_cases h : w = v
      · simp [h]
      · simp [h]
    · intro x hx; rw [hw1]; by_cases h : x = v
      · simp [h]
      · simp only [h, if_false]; exact hs.2 x (by omega)
    · intro x hx; rw [hw2]; by_cases h : x = v
      · simp only [h, if_true]; omega
      · simp [h]
  refine ⟨by omega, ⟨by have := hs.1; omega, ?_⟩, ?_, ?_⟩
  · intro w hw; rw [hadd w hw]; by_cases h : w = v
    · simp only [h, if_true]; omega
    · simp only [h, if_false]; exact hs.2 w hw
  · rw [hadd v hv, if_pos rfl]
  · intro w hw h; rw [hadd w hw, if_neg h]
