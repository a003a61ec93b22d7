section
/-! rows pasted from kit/rows (pk_, s_l, nx_and) -/
theorem s_l : ∀ n, n < 32 → ((nI n &&& 31).toBitVec.smod 32).toNat = n := by decide +kernel
theorem nx_and (a b : Nat) : nI a &&& nI b = nI (a &&& b) := by
  apply Int32.toBitVec_inj.1
  show BitVec.ofNat 32 a &&& BitVec.ofNat 32 b = BitVec.ofNat 32 (a &&& b)
  apply BitVec.eq_of_getLsbD_eq
  intro i hi
  simp [hi]
/-! own rows: signed small numbers -/
def wu_z (z : Int) : Int32 := Int32.ofInt z
theorem wu_zn (n : Nat) : wu_z (n : Int) = nI n := Int32.ofInt_eq_ofNat
theorem wu_zt {z : Int} (h : -2147483648 ≤ z) (h' : z < 2147483648) : (wu_z z).toInt = z :=
  Int32.toInt_ofInt_of_le (by omega) (by omega)
theorem wu_zle {a b : Int} (ha : -2147483648 ≤ a ∧ a < 2147483648) (hb : -2147483648 ≤ b ∧ b < 2147483648) : wu_z a ≤ wu_z b ↔ a ≤ b := by
  rw [Int32.le_iff_toInt_le, wu_zt ha.1 ha.2, wu_zt hb.1 hb.2]
theorem wu_zlt {a b : Int} (ha : -2147483648 ≤ a ∧ a < 2147483648) (hb : -2147483648 ≤ b ∧ b < 2147483648) : wu_z a < wu_z b ↔ a < b := by
  rw [Int32.lt_iff_toInt_lt, wu_zt ha.1 ha.2, wu_zt hb.1 hb.2]
theorem wu_zeq {a b : Int} (ha : -2147483648 ≤ a ∧ a < 2147483648) (hb : -2147483648 ≤ b ∧ b < 2147483648) : wu_z a = wu_z b ↔ a = b := by
  rw [← Int32.toInt_inj, wu_zt ha.1 ha.2, wu_zt hb.1 hb.2]
theorem wu_zadd (a b : Int) : wu_z a + wu_z b = wu_z (a + b) := (Int32.ofInt_add a b).symm
theorem wu_zsub (a b : Int) : wu_z a - wu_z b = wu_z (a - b) := (Int32.ofInt_sub a b).symm
theorem wu_zmul (a b : Int) : wu_z a * wu_z b = wu_z (a * b) := (Int32.ofInt_mul a b).symm
theorem wu_ble {x y : Int32} {A B : Prop} (a b : Int) (f : a ≤ b → A) (g : b < a → B) (hx : x = wu_z a) (hy : y = wu_z b) (ha : -2147483648 ≤ a ∧ a < 2147483648) (hb : -2147483648 ≤ b ∧ b < 2147483648) : (x ≤ y → A) ∧ (¬ x ≤ y → B) := by
  subst hx hy
  rw [wu_zle ha hb]
  exact ⟨f, fun z => g (by omega)⟩
theorem wu_blt {x y : Int32} {A B : Prop} (a b : Int) (f : a < b → A) (g : b ≤ a → B) (hx : x = wu_z a) (hy : y = wu_z b) (ha : -2147483648 ≤ a ∧ a < 2147483648) (hb : -2147483648 ≤ b ∧ b < 2147483648) : (x < y → A) ∧ (¬ x < y → B) := by
  subst hx hy
  rw [wu_zlt ha hb]
  exact ⟨f, fun z => g (by omega)⟩
theorem wu_beq {x y : Int32} {A B : Prop} (a b : Int) (f : a = b → A) (g : a ≠ b → B) (hx : x = wu_z a) (hy : y = wu_z b) (ha : -2147483648 ≤ a ∧ a < 2147483648) (hb : -2147483648 ≤ b ∧ b < 2147483648) : (x = y → A) ∧ (¬ x = y → B) := by
  subst hx hy
  rw [wu_zeq ha hb]
  exact ⟨f, g⟩
theorem wu_m1 : (-1 : Int32) = wu_z (-1) := by decide
theorem wu_zn1 (n : Nat) : nI n + (-1) = wu_z ((n : Int) - 1) := by
  rw [wu_m1, ← wu_zn, wu_zadd]; rfl
theorem wu_zs1 (n : Nat) : nI n - 1 = wu_z ((n : Int) - 1) := by
  rw [show (1 : Int32) = wu_z 1 from by decide, ← wu_zn, wu_zsub]
/-! indices -/
theorem wu_ix (s j : Nat) : nI s * 16 + nI j = nI (s * 16 + j) := by
  rw [show (16 : Int32) = nI 16 from rfl, pk_mul, nI_add]
theorem wu_ixc (s j : Nat) (h : s * 16 + j < 2 ^ 31) : (nI s * 16 + nI j).toNatClampNeg = s * 16 + j := by
  rw [wu_ix, nI_clamp h]
theorem wu_k (a : Nat) {b : Nat} : nI a + nI b = nI (a + b) := nI_add a b
/-! exponents -/
def wu_ex (v c : Nat) : Nat := c / 32 ^ v % 32
theorem wu_s5 {v : Nat} (hv : v < 6) : (((5 * nI v) &&& 31 : Int32).toBitVec.smod 32).toNat = 5 * v := by
  rw [show (5 : Int32) * nI v = nI (5 * v) from pk_mul 5 v]
  exact s_l (5 * v) (by omega)
theorem wu_s4 {v : Nat} (hv : v < 8) : (((4 * nI v) &&& 31 : Int32).toBitVec.smod 32).toNat = 4 * v := by
  rw [show (4 : Int32) * nI v = nI (4 * v) from pk_mul 4 v]
  exact s_l (4 * v) (by omega)
theorem wu_p5 (v : Nat) : (2 : Nat) ^ (5 * v) = 32 ^ v := Nat.pow_mul 2 5 v
theorem wu_p4 (v : Nat) : (2 : Nat) ^ (4 * v) = 16 ^ v := Nat.pow_mul 2 4 v
theorem wu_shr {c v : Nat} (hc : c < 2 ^ 31) (hv : v < 6) : (nI c >>> ((5 * nI v) &&& 31)) &&& 31 = nI (wu_ex v c) := by
  rw [pk_shrN hc _ (5 * v) (wu_s5 hv), pk_andN (Nat.lt_of_le_of_lt (Nat.div_le_self _ _) (Nat.lt_trans hc (by decide))) 5 (by decide), wu_p5]
  rfl
theorem wu_shr4 {c v : Nat} (hc : c < 2 ^ 31) (hv : v < 6) : (nI c >>> ((4 * nI v) &&& 31)) &&& 15 = nI (c / 16 ^ v % 16) := by
  rw [pk_shrN hc _ (4 * v) (wu_s4 (by omega)), pk_andN (Nat.lt_of_le_of_lt (Nat.div_le_self _ _) (Nat.lt_trans hc (by decide))) 4 (by decide), wu_p4]
theorem wu_32lt {v : Nat} (hv : v < 6) : 32 ^ v ≤ 33554432 := by
  have : 32 ^ v ≤ 32 ^ 5 := Nat.pow_le_pow_right (by decide) (by omega)
  simpa using this
theorem wu_16lt {v : Nat} (hv : v < 6) : 16 ^ v ≤ 1048576 := by
  have : 16 ^ v ≤ 16 ^ 5 := Nat.pow_le_pow_right (by decide) (by omega)
  simpa using this
theorem wu_shl5 (a : Int32) {v : Nat} (hv : v < 6) : a <<< ((5 * nI v) &&& 31) = a * nI (32 ^ v) := by
  apply Int32.toBitVec_inj.mp
  apply BitVec.eq_of_toNat_eq
  have := wu_32lt hv
  rw [pk_shl a _ (5 * v) (wu_s5 hv), Int32.toBitVec_mul, BitVec.toNat_mul, pk_tn (by omega), wu_p5]
theorem wu_shl4 (a : Int32) {v : Nat} (hv : v < 6) : a <<< ((4 * nI v) &&& 31) = a * nI (16 ^ v) := by
  apply Int32.toBitVec_inj.mp
  apply BitVec.eq_of_toNat_eq
  have := wu_16lt hv
  rw [pk_shl a _ (4 * v) (wu_s4 (by omega)), Int32.toBitVec_mul, BitVec.toNat_mul, pk_tn (by omega), wu_p4]
theorem wu_ex0 (c : Nat) : wu_ex 0 c = c % 32 := by simp [wu_ex]
theorem wu_exS (v c : Nat) : wu_ex (v + 1) c = wu_ex v (c / 32) := by
  unfold wu_ex
  rw [Nat.pow_succ', Nat.div_div_eq_div_mul]
theorem wu_exlt (v c : Nat) : wu_ex v c < 32 := Nat.mod_lt _ (by decide)
theorem wu_exz (v : Nat) : wu_ex v 0 = 0 := by simp [wu_ex]
theorem wu_exadd : ∀ (v a b : Nat), (∀ w, w ≤ v → wu_ex w a ≤ 15) → (∀ w, w ≤ v → wu_ex w b ≤ 15) → wu_ex v (a + b) = wu_ex v a + wu_ex v b := by
  intro v
  induction v with
  | zero =>
    intro a b ha hb
    have h1 := ha 0 (Nat.le_refl 0)
    have h2 := hb 0 (Nat.le_refl 0)
    rw [wu_ex0] at h1 h2
    rw [wu_ex0, wu_ex0, wu_ex0]
    omega
  | succ v ih =>
    intro a b ha hb
    have h1 := ha 0 (by omega)
    have h2 := hb 0 (by omega)
    rw [wu_ex0] at h1 h2
    have e : (a + b) / 32 = a / 32 + b / 32 := by omega
    rw [wu_exS, wu_exS, wu_exS, e]
    apply ih
    · intro w hw; rw [← wu_exS]; exact ha (w + 1) (by omega)
    · intro w hw; rw [← wu_exS]; exact hb (w + 1) (by omega)
theorem wu_exmono : ∀ (v w e : Nat), e < 32 → wu_ex w (e * 32 ^ v) = if w = v then e else 0 := by
  intro v
  induction v with
  | zero =>
    intro w e he
    cases w with
    | zero => rw [wu_ex0, if_pos rfl]; omega
    | succ w => rw [wu_exS, if_neg (by omega), show e * 32 ^ 0 / 32 = 0 by omega, wu_exz]
  | succ v ih =>
    intro w e he
    have q : e * 32 ^ (v + 1) = 32 * (e * 32 ^ v) := by rw [Nat.pow_succ]; ac_rfl
    cases w with
    | zero => rw [wu_ex0, if_neg (by omega), q]; omega
    | succ w =>
      rw [wu_exS, q, Nat.mul_div_cancel_left _ (by decide : 0 < 32), ih w e he]
      by_cases h : w = v
      · rw [if_pos h, if_pos (by omega)]
      · rw [if_neg h, if_neg (by omega)]
theorem wu_exle : ∀ (v c : Nat), wu_ex v c * 32 ^ v ≤ c := by
  intro v c
  unfold wu_ex
  exact Nat.le_trans (Nat.mul_le_mul_right _ (Nat.mod_le _ _)) (Nat.div_mul_le_self _ _)
theorem wu_exwipe : ∀ (v w c : Nat), wu_ex w (c - wu_ex v c * 32 ^ v) = if w = v then 0 else wu_ex w c := by
  intro v
  induction v with
  | zero =>
    intro w c
    have q : c - wu_ex 0 c * 32 ^ 0 = 32 * (c / 32) := by rw [wu_ex0]; omega
    rw [q]
    cases w with
    | zero => rw [wu_ex0, if_pos rfl]; omega
    | succ w => rw [wu_exS, if_neg (by omega), wu_exS, Nat.mul_div_cancel_left _ (by decide : 0 < 32)]
  | succ v ih =>
    intro w c
    have h1 := wu_exle v (c / 32)
    have q : c - wu_ex (v + 1) c * 32 ^ (v + 1) = c % 32 + 32 * (c / 32 - wu_ex v (c / 32) * 32 ^ v) := by
      rw [wu_exS, Nat.pow_succ, ← Nat.mul_assoc]
      generalize wu_ex v (c / 32) * 32 ^ v = m at h1 ⊢
      omega
    rw [q]
    cases w with
    | zero => rw [wu_ex0, if_neg (by omega), wu_ex0]; omega
    | succ w =>
      rw [wu_exS, wu_exS, show (c % 32 + 32 * (c / 32 - wu_ex v (c / 32) * 32 ^ v)) / 32 = c / 32 - wu_ex v (c / 32) * 32 ^ v by omega, ih w (c / 32)]
      by_cases h : w = v
      · rw [if_pos h, if_pos (by omega)]
      · rw [if_neg h, if_neg (by omega)]
/-! small codes -/
def wu_Sm (c : Nat) : Prop := c < 536870912 ∧ ∀ v, v < 6 → wu_ex v c ≤ 15
theorem wu_Sm_add {a b : Nat} (ha : wu_Sm a) (hb : wu_Sm b) : a + b < 1073741824 ∧ ∀ v, v < 6 → wu_ex v (a + b) = wu_ex v a + wu_ex v b :=
  ⟨by have := ha.1; have := hb.1; omega, fun v hv => wu_exadd v a b (fun w hw => ha.2 w (by omega)) (fun w hw => hb.2 w (by omega))⟩
theorem wu_Sm_of {c : Nat} (hc : c < 1073741824) (h : ∀ v, v < 6 → wu_ex v c ≤ 15) : wu_Sm c := by
  refine ⟨?_, h⟩
  have h5 := h 5 (by decide)
  have e : wu_ex 5 c = c / 33554432 % 32 := rfl
  rw [e] at h5
  omega
/-- the code without k times x_v, where k is at most its exponent -/
theorem wu_down {c v e k : Nat} (hv : v < 6) (he : wu_ex v c = e) (hk : k ≤ e) (hs : wu_Sm c) : k * 32 ^ v ≤ c ∧ wu_Sm (c - k * 32 ^ v) ∧ wu_ex v (c - k * 32 ^ v) = e - k ∧ (∀ w, w < 6 → w ≠ v → wu_ex w (c - k * 32 ^ v) = wu_ex w c) := by
  have h0 := wu_exle v c
  rw [he] at h0
  have e15 : e ≤ 15 := he ▸ hs.2 v hv
  have hm : k * 32 ^ v ≤ e * 32 ^ v := Nat.mul_le_mul_right _ hk
  have hsub : (e - k) * 32 ^ v = e * 32 ^ v - k * 32 ^ v := Nat.sub_mul _ _ _
  have q : c - k * 32 ^ v = (c - e * 32 ^ v) + (e - k) * 32 ^ v := by omega
  have hw1 : ∀ w, wu_ex w (c - e * 32 ^ v) = if w = v then 0 else wu_ex w c := by
    intro w; have := wu_exwipe v w c; rwa [he] at this
  have hw2 : ∀ w, wu_ex w ((e - k) * 32 ^ v) = if w = v then e - k else 0 := fun w => wu_exmono v w (e - k) (by omega)
  have hadd : ∀ w, w < 6 → wu_ex w (c - k * 32 ^ v) = if w = v then e - k else wu_ex w c := by
    intro w hw
    rw [q, wu_exadd w]
    · rw [hw1, hw2]; by_cases h : w = v
      · simp [h]
      · simp [h]
    · intro x hx; rw [hw1]; by_cases h : x = v
      · simp [h]
      · simp only [h, if_false]; exact hs.2 x (by omega)
    · intro x hx; rw [hw2]; by_cases h : x = v
      · simp only [h, if_true]; omega
      · simp [h]
  refine ⟨by omega, ⟨by have := hs.1; omega, ?_⟩, ?_, ?_⟩
  · intro w hw; rw [hadd w hw]; by_cases h : w = v
    · simp only [h, if_true]; omega
    · simp only [h, if_false]; exact hs.2 w hw
  · rw [hadd v hv, if_pos rfl]
  · intro w hw h; rw [hadd w hw, if_neg h]
end
section
/-! polynomials as lists of (code, coefficient); how arrays hold them -/
abbrev wu_P : Type := List (Nat × Nat)
def wu_At (d f : Nat → Int32) : Nat → wu_P → Prop
  | _, [] => True
  | b, t :: L => d b = nI t.1 ∧ f b = nI t.2 ∧ wu_At d f (b + 1) L
theorem wu_snoc (L : wu_P) : L = [] ∨ ∃ M t, L = M ++ [t] := by
  induction L with
  | nil => exact Or.inl rfl
  | cons a L ih =>
    rcases ih with rfl | ⟨M, t, rfl⟩
    · exact Or.inr ⟨[], a, rfl⟩
    · exact Or.inr ⟨a :: M, t, rfl⟩
theorem wu_At_app {d f : Nat → Int32} : ∀ (L M : wu_P) (b : Nat), wu_At d f b (L ++ M) ↔ wu_At d f b L ∧ wu_At d f (b + L.length) M := by
  intro L
  induction L with
  | nil => intro M b; simp [wu_At]
  | cons t L ih =>
    intro M b
    have e : b + (t :: L).length = b + 1 + L.length := by simp only [List.length_cons]; omega
    rw [e]
    show (d b = nI t.1 ∧ f b = nI t.2 ∧ wu_At d f (b + 1) (L ++ M)) ↔ (d b = nI t.1 ∧ f b = nI t.2 ∧ wu_At d f (b + 1) L) ∧ _
    rw [ih M (b + 1)]
    constructor
    · rintro ⟨h1, h2, h3, h4⟩; exact ⟨⟨h1, h2, h3⟩, h4⟩
    · rintro ⟨⟨h1, h2, h3⟩, h4⟩; exact ⟨h1, h2, h3, h4⟩
theorem wu_At_congr {d f d' f' : Nat → Int32} : ∀ (L : wu_P) (b : Nat), (∀ i, b ≤ i → i < b + L.length → d' i = d i ∧ f' i = f i) → wu_At d f b L → wu_At d' f' b L := by
  intro L
  induction L with
  | nil => intro b _ _; exact trivial
  | cons t L ih =>
    intro b h ⟨h1, h2, h3⟩
    have h0 := h b (Nat.le_refl b) (by simp only [List.length_cons]; omega)
    exact ⟨h0.1.trans h1, h0.2.trans h2, ih (b + 1) (fun i hi hi' => h i (by omega) (by simp only [List.length_cons]; omega)) h3⟩
theorem wu_At_get {d f : Nat → Int32} : ∀ (L : wu_P) (b j : Nat) (hj : j < L.length), wu_At d f b L → d (b + j) = nI (L[j]'hj).1 ∧ f (b + j) = nI (L[j]'hj).2 := by
  intro L
  induction L with
  | nil => intro b j hj; exact absurd hj (Nat.not_lt_zero j)
  | cons t L ih =>
    intro b j hj ⟨h1, h2, h3⟩
    cases j with
    | zero => exact ⟨h1, h2⟩
    | succ j =>
      have hj' : j < L.length := by simp only [List.length_cons] at hj; omega
      have := ih (b + 1) j hj' h3
      rw [show b + (j + 1) = b + 1 + j by omega]
      exact this
theorem wu_At_of {d f : Nat → Int32} : ∀ (L : wu_P) (b : Nat), (∀ j (hj : j < L.length), d (b + j) = nI (L[j]'hj).1 ∧ f (b + j) = nI (L[j]'hj).2) → wu_At d f b L := by
  intro L
  induction L with
  | nil => intro b _; exact trivial
  | cons t L ih =>
    intro b h
    refine ⟨(h 0 (by simp)).1, (h 0 (by simp)).2, ih (b + 1) (fun j hj => ?_)⟩
    have := h (j + 1) (by simp only [List.length_cons]; omega)
    rw [show b + (j + 1) = b + 1 + j by omega] at this
    exact this
theorem wu_At_snoc {d f : Nat → Int32} {L : wu_P} {t : Nat × Nat} {b : Nat} (h : wu_At d f b L) : wu_At (upd d (b + L.length) (nI t.1)) (upd f (b + L.length) (nI t.2)) b (L ++ [t]) := by
  refine (wu_At_app L [t] b).mpr ⟨wu_At_congr L b (fun i _ hi => ⟨pk_un (by omega), pk_un (by omega)⟩) h, pk_us, pk_us, trivial⟩
/-- slot s holds L -/
def wu_Ho (c d f : Nat → Int32) (s : Nat) (L : wu_P) : Prop := c s = nI L.length ∧ wu_At d f (s * 16) L
/-- slots outside Q are as they were -/
def wu_Fr (Q : Nat → Prop) (c d f c' d' f' : Nat → Int32) : Prop := ∀ s, ¬ Q s → c' s = c s ∧ ∀ j, j < 16 → d' (s * 16 + j) = d (s * 16 + j) ∧ f' (s * 16 + j) = f (s * 16 + j)
theorem wu_Fr_refl {Q : Nat → Prop} {c d f : Nat → Int32} : wu_Fr Q c d f c d f := fun _ _ => ⟨rfl, fun _ _ => ⟨rfl, rfl⟩⟩
theorem wu_Fr_trans {Q : Nat → Prop} {c d f c' d' f' c'' d'' f'' : Nat → Int32} (h : wu_Fr Q c d f c' d' f') (h' : wu_Fr Q c' d' f' c'' d'' f'') : wu_Fr Q c d f c'' d'' f'' :=
  fun s hs => ⟨(h' s hs).1.trans (h s hs).1, fun j hj => ⟨((h' s hs).2 j hj).1.trans ((h s hs).2 j hj).1, ((h' s hs).2 j hj).2.trans ((h s hs).2 j hj).2⟩⟩
theorem wu_Fr_mono {Q Q' : Nat → Prop} {c d f c' d' f' : Nat → Int32} (h : wu_Fr Q c d f c' d' f') (hQ : ∀ s, Q s → Q' s) : wu_Fr Q' c d f c' d' f' :=
  fun s hs => h s (fun z => hs (hQ s z))
theorem wu_Fr_cnt {c d f : Nat → Int32} {s : Nat} {x : Int32} : wu_Fr (fun i => i = s) c d f (upd c s x) d f :=
  fun i hi => ⟨pk_un hi, fun _ _ => ⟨rfl, rfl⟩⟩
theorem wu_Ho_fr {Q : Nat → Prop} {c d f c' d' f' : Nat → Int32} {s : Nat} {L : wu_P} (h : wu_Fr Q c d f c' d' f') (hs : ¬ Q s) (hl : L.length ≤ 16) (H : wu_Ho c d f s L) : wu_Ho c' d' f' s L := by
  refine ⟨(h s hs).1.trans H.1, wu_At_congr L (s * 16) (fun i hi hi' => ?_) H.2⟩
  have := (h s hs).2 (i - s * 16) (by omega)
  rw [show s * 16 + (i - s * 16) = i by omega] at this
  exact this
theorem wu_Ho_0 {c d f : Nat → Int32} {s : Nat} : wu_Ho (upd c s 0) d f s [] := ⟨pk_us, trivial⟩
theorem wu_Ho_z {c d f : Nat → Int32} {s : Nat} (h : c s = 0) : wu_Ho c d f s [] := ⟨h, trivial⟩
/-! formal sums -/
def wu_cf : wu_P → Nat → Nat
  | [], _ => 0
  | t :: A, x => (if t.1 = x then t.2 else 0) + wu_cf A x
theorem wu_cf_app (A B : wu_P) (x : Nat) : wu_cf (A ++ B) x = wu_cf A x + wu_cf B x := by
  induction A with
  | nil => simp [wu_cf]
  | cons t A ih => rw [List.cons_append, wu_cf, wu_cf, ih, Nat.add_assoc]
theorem wu_cf_perm {A B : wu_P} (h : List.Perm A B) (x : Nat) : wu_cf A x = wu_cf B x := by
  induction h with
  | nil => rfl
  | cons t _ ih => rw [wu_cf, wu_cf, ih]
  | swap a b l => rw [wu_cf, wu_cf, wu_cf, wu_cf]; exact Nat.add_left_comm _ _ _
  | trans _ _ h1 h2 => exact h1.trans h2
theorem wu_cf_zero {A : wu_P} {x : Nat} : (∀ t, t ∈ A → t.1 ≠ x) → wu_cf A x = 0 := by
  induction A with
  | nil => intro _; rfl
  | cons a A ih =>
    intro h
    rw [wu_cf, if_neg (h a List.mem_cons_self), ih (fun t ht => h t (List.mem_cons_of_mem _ ht))]
theorem wu_cf_mem {A : wu_P} {t : Nat × Nat} : (A.map (fun t => t.1)).Nodup → t ∈ A → wu_cf A t.1 = t.2 := by
  induction A with
  | nil => intro _ h; exact absurd h List.not_mem_nil
  | cons a A ih =>
    intro hn ht
    rw [List.map_cons, List.nodup_cons] at hn
    rcases List.mem_cons.mp ht with rfl | ht
    · rw [wu_cf, if_pos rfl, wu_cf_zero, Nat.add_zero]
      intro s hs e
      exact hn.1 (List.mem_map.mpr ⟨s, hs, e⟩)
    · have : a.1 ≠ t.1 := fun e => hn.1 (List.mem_map.mpr ⟨t, ht, e.symm⟩)
      rw [wu_cf, if_neg this, ih hn.2 ht, Nat.zero_add]
theorem wu_cf_pos {A : wu_P} {x : Nat} (h : wu_cf A x ≠ 0) : ∃ t, t ∈ A ∧ t.1 = x := by
  refine Classical.byContradiction fun hn => h (wu_cf_zero fun t ht e => hn ⟨t, ht, e⟩)
theorem wu_cf_lt {A : wu_P} {p : Nat} (hp : 0 < p) (hn : (A.map (fun t => t.1)).Nodup) (h : ∀ t, t ∈ A → t.2 < p) (x : Nat) : wu_cf A x < p := by
  by_cases z : wu_cf A x = 0
  · omega
  · obtain ⟨t, ht, rfl⟩ := wu_cf_pos z
    rw [wu_cf_mem hn ht]; exact h t ht
def wu_Eq (p : Nat) (A B : wu_P) : Prop := ∀ x, wu_cf A x % p = wu_cf B x % p
theorem wu_Eq_symm {p : Nat} {A B : wu_P} (h : wu_Eq p A B) : wu_Eq p B A := fun x => (h x).symm
theorem wu_Eq_trans {p : Nat} {A B C : wu_P} (h : wu_Eq p A B) (h' : wu_Eq p B C) : wu_Eq p A C := fun x => (h x).trans (h' x)
theorem wu_Eq_perm {p : Nat} {A B : wu_P} (h : List.Perm A B) : wu_Eq p A B := fun x => by rw [wu_cf_perm h]
theorem wu_Eq_app {p : Nat} {A B A' B' : wu_P} (h : wu_Eq p A A') (h' : wu_Eq p B B') : wu_Eq p (A ++ B) (A' ++ B') := by
  intro x
  rw [wu_cf_app, wu_cf_app, Nat.add_mod, h x, h' x, ← Nat.add_mod]
def wu_Srt (L : wu_P) : Prop := L.Pairwise (fun a b => a.1 < b.1)
theorem wu_Srt_nd {L : wu_P} (h : wu_Srt L) : (L.map (fun t => t.1)).Nodup := by
  unfold List.Nodup
  rw [List.pairwise_map]
  exact List.Pairwise.imp (fun h => Nat.ne_of_lt h) h
theorem wu_nd_of {L : wu_P} (h : (L.map (fun t => t.1)).Nodup) : L.Nodup := by
  unfold List.Nodup at h ⊢
  rw [List.pairwise_map] at h
  exact List.Pairwise.imp (fun h e => h (by rw [e])) h
/-! the two buffers -/
def wu_BX (p : Nat) (A B : wu_P) : Prop := wu_Srt B ∧ (∀ t, t ∈ B → t.2 < p ∧ t.1 < 1073741824) ∧ B.length ≤ A.length ∧ wu_Eq p A B
def wu_BY (p : Nat) (A B : wu_P) : Prop := (B.map (fun t => t.1)).Nodup ∧ (∀ t, t ∈ B → 0 < t.2 ∧ t.2 < p ∧ t.1 < 1073741824) ∧ B.length ≤ A.length ∧ wu_Eq p A B
theorem wu_BX_ins {p c k : Nat} {A B1 B2 : wu_P} (h : wu_BX p A (B1 ++ B2)) (hk : k < p) (hc : c < 1073741824) (h1 : ∀ t, t ∈ B1 → t.1 < c) (h2 : ∀ t, t ∈ B2 → c < t.1) : wu_BX p (A ++ [(c, k)]) (B1 ++ (c, k) :: B2) := by
  obtain ⟨hs, hb, hl, he⟩ := h
  refine ⟨?_, ?_, ?_, ?_⟩
  · unfold wu_Srt at hs ⊢
    rw [List.pairwise_append] at hs ⊢
    refine ⟨hs.1, List.pairwise_cons.mpr ⟨fun t ht => h2 t ht, hs.2.1⟩, fun a ha b hb => ?_⟩
    rcases List.mem_cons.mp hb with rfl | hb
    · exact h1 a ha
    · exact hs.2.2 a ha b hb
  · intro t ht
    rcases List.mem_append.mp ht with ht | ht
    · exact hb t (List.mem_append.mpr (Or.inl ht))
    · rcases List.mem_cons.mp ht with rfl | ht
      · exact ⟨hk, hc⟩
      · exact hb t (List.mem_append.mpr (Or.inr ht))
  · simp only [List.length_append, List.length_cons, List.length_nil] at hl ⊢; omega
  · intro x
    have hx := he x
    rw [wu_cf_app] at hx
    rw [wu_cf_app, wu_cf_app, wu_cf, wu_cf, wu_cf, Nat.add_mod, hx, ← Nat.add_mod]
    exact congrArg (· % p) (by dsimp only; omega)
theorem wu_Eq_upd {p c k l : Nat} {A B0 B2 : wu_P} (he : wu_Eq p A (B0 ++ (c, l) :: B2)) : wu_Eq p (A ++ [(c, k)]) (B0 ++ (c, (l + k) % p) :: B2) := by
  intro x
  have hx := he x
  rw [wu_cf_app, wu_cf] at hx
  rw [wu_cf_app, wu_cf_app, wu_cf, wu_cf, wu_cf, Nat.add_mod, hx, ← Nat.add_mod]
  by_cases e : c = x
  · simp only [e, if_true, Nat.add_zero]
    rw [show wu_cf B0 x + ((l + k) % p + wu_cf B2 x) = (wu_cf B0 x + wu_cf B2 x) + (l + k) % p by omega, Nat.add_mod_mod]
    exact congrArg (· % p) (by omega)
  · simp only [e, if_false, Nat.add_zero]
theorem wu_BX_upd {p c k l : Nat} {A B0 B2 : wu_P} (h : wu_BX p A (B0 ++ (c, l) :: B2)) (hp : 0 < p) : wu_BX p (A ++ [(c, k)]) (B0 ++ (c, (l + k) % p) :: B2) := by
  obtain ⟨hs, hb, hl, he⟩ := h
  refine ⟨?_, ?_, ?_, ?_⟩
  · unfold wu_Srt at hs ⊢
    rw [List.pairwise_append, List.pairwise_cons] at hs ⊢
    refine ⟨hs.1, hs.2.1, fun a ha b hb => ?_⟩
    rcases List.mem_cons.mp hb with rfl | hb
    · exact hs.2.2 a ha (c, l) List.mem_cons_self
    · exact hs.2.2 a ha b (List.mem_cons_of_mem _ hb)
  · intro t ht
    rcases List.mem_append.mp ht with ht | ht
    · exact hb t (List.mem_append.mpr (Or.inl ht))
    · rcases List.mem_cons.mp ht with rfl | ht
      · exact ⟨Nat.mod_lt _ hp, (hb (c, l) (List.mem_append.mpr (Or.inr List.mem_cons_self))).2⟩
      · exact hb t (List.mem_append.mpr (Or.inr (List.mem_cons_of_mem _ ht)))
  · simp only [List.length_append, List.length_cons, List.length_nil] at hl ⊢; omega
  · exact wu_Eq_upd he
theorem wu_BY_perm {p : Nat} {A B B' : wu_P} (h : wu_BY p A B) (hp : List.Perm B B') : wu_BY p A B' :=
  ⟨(hp.map _).nodup h.1, fun t ht => h.2.1 t (hp.mem_iff.mpr ht), hp.length_eq ▸ h.2.2.1, wu_Eq_trans h.2.2.2 (wu_Eq_perm hp)⟩
theorem wu_BY_new {p c k : Nat} {A B : wu_P} (h : wu_BY p A B) (hn : ∀ t, t ∈ B → t.1 ≠ c) (h0 : 0 < k) (hk : k < p) (hc : c < 1073741824) : wu_BY p (A ++ [(c, k)]) (B ++ [(c, k)]) := by
  obtain ⟨hd, hb, hl, he⟩ := h
  refine ⟨?_, ?_, ?_, wu_Eq_app he (fun _ => rfl)⟩
  · have : List.Perm (((c, k) :: B).map (fun t => t.1)) ((B ++ [(c, k)]).map (fun t => t.1)) := ((List.perm_append_singleton (c, k) B).symm).map _
    refine this.nodup ?_
    rw [List.map_cons, List.nodup_cons]
    refine ⟨fun hm => ?_, hd⟩
    obtain ⟨t, ht, e⟩ := List.mem_map.mp hm
    exact hn t ht e
  · intro t ht
    rcases List.mem_append.mp ht with ht | ht
    · exact hb t ht
    · rw [List.mem_singleton] at ht; subst ht; exact ⟨h0, hk, hc⟩
  · simp only [List.length_append, List.length_cons, List.length_nil]; omega
theorem wu_BY_upd {p c k l : Nat} {A B0 B2 : wu_P} (h : wu_BY p A (B0 ++ (c, l) :: B2)) (hp : 0 < p) (hz : (l + k) % p ≠ 0) : wu_BY p (A ++ [(c, k)]) (B0 ++ (c, (l + k) % p) :: B2) := by
  obtain ⟨hd, hb, hl, he⟩ := h
  refine ⟨?_, ?_, ?_, wu_Eq_upd he⟩
  · simpa only [List.map_append, List.map_cons] using hd
  · intro t ht
    rcases List.mem_append.mp ht with ht | ht
    · exact hb t (List.mem_append.mpr (Or.inl ht))
    · rcases List.mem_cons.mp ht with rfl | ht
      · exact ⟨Nat.pos_of_ne_zero hz, Nat.mod_lt _ hp, (hb (c, l) (List.mem_append.mpr (Or.inr List.mem_cons_self))).2.2⟩
      · exact hb t (List.mem_append.mpr (Or.inr (List.mem_cons_of_mem _ ht)))
  · simp only [List.length_append, List.length_cons, List.length_nil] at hl ⊢; omega
theorem wu_BY_del {p c k l : Nat} {A B0 B2 : wu_P} (h : wu_BY p A (B0 ++ (c, l) :: B2)) (hz : (l + k) % p = 0) : wu_BY p (A ++ [(c, k)]) (B0 ++ B2) := by
  obtain ⟨hd, hb, hl, he⟩ := h
  have sub : List.Sublist (B0 ++ B2) (B0 ++ (c, l) :: B2) := List.Sublist.append (List.Sublist.refl _) (List.sublist_cons_self _ _)
  refine ⟨?_, fun t ht => hb t (sub.subset ht), ?_, ?_⟩
  · exact List.Pairwise.sublist (sub.map _) hd
  · simp only [List.length_append, List.length_cons, List.length_nil] at hl ⊢; omega
  · refine wu_Eq_trans (wu_Eq_upd (k := k) he) ?_
    rw [hz]
    intro x
    rw [wu_cf_app, wu_cf_app, wu_cf]
    by_cases e : c = x
    · simp [e]
    · simp [e]
theorem wu_BY_zero {p c : Nat} {A B : wu_P} (h : wu_BY p A B) : wu_BY p (A ++ [(c, 0)]) B := by
  obtain ⟨hd, hb, hl, he⟩ := h
  refine ⟨hd, hb, by simp only [List.length_append, List.length_cons, List.length_nil]; omega, fun x => ?_⟩
  rw [wu_cf_app, wu_cf, wu_cf]
  simp only [ite_self, Nat.add_zero]
  exact he x
def wu_XB (p : Nat) (A : wu_P) (sn : Int32) (sd sf : Nat → Int32) : Prop := ∃ B, wu_BX p A B ∧ sn = nI B.length ∧ wu_At sd sf 0 B
def wu_YB (p : Nat) (A : wu_P) (sn : Int32) (sd sf : Nat → Int32) : Prop := ∃ B, wu_BY p A B ∧ sn = nI B.length ∧ wu_At sd sf 0 B
theorem wu_XB_nil {p : Nat} {sd sf : Nat → Int32} : wu_XB p [] 0 sd sf :=
  ⟨[], ⟨List.Pairwise.nil, fun _ h => absurd h List.not_mem_nil, Nat.le_refl _, fun _ => rfl⟩, rfl, trivial⟩
theorem wu_YB_nil {p : Nat} {sd sf : Nat → Int32} : wu_YB p [] 0 sd sf :=
  ⟨[], ⟨List.Pairwise.nil, fun _ h => absurd h List.not_mem_nil, Nat.le_refl _, fun _ => rfl⟩, rfl, trivial⟩
/-! normal forms -/
def wu_NF (p : Nat) (A L : wu_P) : Prop := (L.map (fun t => t.1)).Nodup ∧ (∀ t, t ∈ L → 0 < t.2 ∧ t.2 < p) ∧ wu_Eq p A L
theorem wu_NF_sub {p : Nat} {A A' L L' : wu_P} (h : wu_NF p A L) (h' : wu_NF p A' L') (e : wu_Eq p A A') {t : Nat × Nat} (ht : t ∈ L) : t ∈ L' := by
  have b := h.2.1 t ht
  have hp : 0 < p := by omega
  have e1 : wu_cf L t.1 = wu_cf L' t.1 := by
    have := ((wu_Eq_symm h.2.2) t.1).trans ((e t.1).trans (h'.2.2 t.1))
    rwa [Nat.mod_eq_of_lt (wu_cf_lt hp h.1 (fun t ht => (h.2.1 t ht).2) _), Nat.mod_eq_of_lt (wu_cf_lt hp h'.1 (fun t ht => (h'.2.1 t ht).2) _)] at this
  rw [wu_cf_mem h.1 ht] at e1
  obtain ⟨s, hs, es⟩ := wu_cf_pos (A := L') (x := t.1) (by omega)
  rw [← es, wu_cf_mem h'.1 hs] at e1
  have : t = s := Prod.ext es.symm e1
  rw [this]; exact hs
theorem wu_NF_perm {p : Nat} {A A' L L' : wu_P} (h : wu_NF p A L) (h' : wu_NF p A' L') (e : wu_Eq p A A') : List.Perm L L' :=
  (List.perm_ext_iff_of_nodup (wu_nd_of h.1) (wu_nd_of h'.1)).mpr fun _ => ⟨wu_NF_sub h h' e, wu_NF_sub h' h (wu_Eq_symm e)⟩
theorem wu_Srt_eq {L L' : wu_P} (h : wu_Srt L) (h' : wu_Srt L') (hp : List.Perm L L') : L = L' :=
  List.Perm.eq_of_pairwise (le := fun (a b : Nat × Nat) => a.1 < b.1) (fun _ _ _ _ h1 h2 => absurd h2 (Nat.lt_asymm h1)) h h' hp
noncomputable def wu_nf (p : Nat) (A : wu_P) : wu_P := Classical.epsilon (fun L => wu_Srt L ∧ wu_NF p A L)
theorem wu_nf_sp {p : Nat} {A L : wu_P} (h : wu_Srt L) (h' : wu_NF p A L) : wu_Srt (wu_nf p A) ∧ wu_NF p A (wu_nf p A) :=
  Classical.epsilon_spec (p := fun L => wu_Srt L ∧ wu_NF p A L) ⟨L, h, h'⟩
theorem wu_nf_X {p : Nat} {A L : wu_P} (h : wu_Srt L) (h' : wu_NF p A L) : wu_nf p A = L :=
  wu_Srt_eq (wu_nf_sp h h').1 h (wu_NF_perm (wu_nf_sp h h').2 h' (fun _ => rfl))
theorem wu_sort {L : wu_P} (h : (L.map (fun t => t.1)).Nodup) : ∃ M, wu_Srt M ∧ List.Perm L M := by
  have hq := List.mergeSort_perm L (fun a b => decide (a.1 ≤ b.1))
  refine ⟨L.mergeSort (fun a b => decide (a.1 ≤ b.1)), ?_, hq.symm⟩
  have h1 := List.pairwise_mergeSort (le := fun (a b : Nat × Nat) => decide (a.1 ≤ b.1)) (fun a b c h1 h2 => by simp only [decide_eq_true_eq] at *; omega) (fun a b => by simp only [Bool.or_eq_true, decide_eq_true_eq]; omega) L
  have h2 : ((L.mergeSort (fun a b => decide (a.1 ≤ b.1))).map (fun t => t.1)).Nodup := ((hq.symm).map _).nodup h
  unfold List.Nodup at h2
  rw [List.pairwise_map] at h2
  refine List.Pairwise.imp₂ (fun a b x y => ?_) h1 h2
  simp only [decide_eq_true_eq] at x
  omega
theorem wu_nf_Y {p : Nat} {A L : wu_P} (h : wu_NF p A L) : List.Perm L (wu_nf p A) := by
  obtain ⟨M, hM, hq⟩ := wu_sort h.1
  have hN : wu_NF p A M := ⟨(hq.map _).nodup h.1, fun t ht => h.2.1 t (hq.mem_iff.mpr ht), wu_Eq_trans h.2.2 (wu_Eq_perm hq)⟩
  rw [wu_nf_X hM hN]; exact hq
theorem wu_nf_congr {p : Nat} {A A' : wu_P} (e : wu_Eq p A A') : wu_nf p A = wu_nf p A' := by
  have : (fun L => wu_Srt L ∧ wu_NF p A L) = (fun L => wu_Srt L ∧ wu_NF p A' L) := by
    funext L
    exact propext ⟨fun h => ⟨h.1, h.2.1, h.2.2.1, wu_Eq_trans (wu_Eq_symm e) h.2.2.2⟩, fun h => ⟨h.1, h.2.1, h.2.2.1, wu_Eq_trans e h.2.2.2⟩⟩
  unfold wu_nf
  rw [this]
theorem wu_cf_fil (A : wu_P) (x : Nat) : wu_cf (A.filter (fun t => decide (t.2 ≠ 0))) x = wu_cf A x := by
  induction A with
  | nil => rfl
  | cons t A ih =>
    by_cases h : t.2 = 0
    · rw [List.filter_cons_of_neg (by simp [h]), ih, wu_cf, h]; simp
    · rw [List.filter_cons_of_pos (by simp [h]), wu_cf, wu_cf, ih]
theorem wu_nf_BX {p : Nat} {A B : wu_P} (h : wu_BX p A B) : wu_nf p A = B.filter (fun t => decide (t.2 ≠ 0)) ∧ wu_Srt (B.filter (fun t => decide (t.2 ≠ 0))) ∧ wu_NF p A (B.filter (fun t => decide (t.2 ≠ 0))) := by
  have hs : wu_Srt (B.filter (fun t => decide (t.2 ≠ 0))) := List.Pairwise.sublist List.filter_sublist h.1
  have hN : wu_NF p A (B.filter (fun t => decide (t.2 ≠ 0))) := by
    refine ⟨wu_Srt_nd hs, fun t ht => ?_, fun x => ?_⟩
    · rw [List.mem_filter, decide_eq_true_eq] at ht
      exact ⟨Nat.pos_of_ne_zero ht.2, (h.2.1 t ht.1).1⟩
    · rw [wu_cf_fil]; exact h.2.2.2 x
  exact ⟨wu_nf_X hs hN, hs, hN⟩
theorem wu_NF_BY {p : Nat} {A B : wu_P} (h : wu_BY p A B) : wu_NF p A B := ⟨h.1, fun t ht => ⟨(h.2.1 t ht).1, (h.2.1 t ht).2.1⟩, h.2.2.2⟩
/-- a sorted buffer has a place for c -/
theorem wu_split (c : Nat) : ∀ B : wu_P, wu_Srt B → ∃ B1 B2, B = B1 ++ B2 ∧ (∀ t, t ∈ B1 → t.1 < c) ∧ ((∀ t, t ∈ B2 → c < t.1) ∨ ∃ l B3, B2 = (c, l) :: B3) := by
  intro B
  induction B with
  | nil => intro _; exact ⟨[], [], rfl, fun _ h => absurd h List.not_mem_nil, Or.inl fun _ h => absurd h List.not_mem_nil⟩
  | cons a B ih =>
    intro hs
    unfold wu_Srt at hs
    rw [List.pairwise_cons] at hs
    rcases Nat.lt_trichotomy a.1 c with h | h | h
    · obtain ⟨B1, B2, e, h1, h2⟩ := ih hs.2
      refine ⟨a :: B1, B2, by rw [e]; rfl, fun t ht => ?_, h2⟩
      rcases List.mem_cons.mp ht with rfl | ht
      · exact h
      · exact h1 t ht
    · exact ⟨[], a :: B, rfl, fun _ h => absurd h List.not_mem_nil, Or.inr ⟨a.2, B, by rw [← h]⟩⟩
    · refine ⟨[], a :: B, rfl, fun _ h => absurd h List.not_mem_nil, Or.inl fun t ht => ?_⟩
      rcases List.mem_cons.mp ht with rfl | ht
      · exact h
      · exact Nat.lt_trans h (hs.1 t ht)
theorem wu_BX_step {p c k : Nat} {A B : wu_P} (h : wu_BX p A B) (hk : k < p) (hc : c < 1073741824) : ∃ B', wu_BX p (A ++ [(c, k)]) B' := by
  obtain ⟨B1, B2, rfl, h1, h2 | ⟨l, B3, rfl⟩⟩ := wu_split c B h.1
  · exact ⟨_, wu_BX_ins h hk hc h1 h2⟩
  · exact ⟨_, wu_BX_upd h (by omega)⟩
theorem wu_BX_ex {p : Nat} : ∀ (R A B : wu_P), wu_BX p A B → (∀ t, t ∈ R → t.2 < p ∧ t.1 < 1073741824) → ∃ B', wu_BX p (A ++ R) B' := by
  intro R
  induction R with
  | nil => intro A B h _; exact ⟨B, by rw [List.append_nil]; exact h⟩
  | cons t R ih =>
    intro A B h hb
    obtain ⟨B', h'⟩ := wu_BX_step h (hb t List.mem_cons_self).1 (hb t List.mem_cons_self).2
    obtain ⟨B'', h''⟩ := ih _ _ h' (fun s hs => hb s (List.mem_cons_of_mem _ hs))
    rw [List.append_assoc] at h''
    exact ⟨B'', h''⟩
/-- the additions of a list, within bounds -/
def wu_Ad (p : Nat) (A : wu_P) : Prop := ∀ t, t ∈ A → t.2 < p ∧ t.1 < 1073741824
theorem wu_Ad_app {p : Nat} {A B : wu_P} (h : wu_Ad p A) (h' : wu_Ad p B) : wu_Ad p (A ++ B) := fun t ht =>
  (List.mem_append.mp ht).elim (h t) (h' t)
theorem wu_BX_all {p : Nat} {A : wu_P} (h : wu_Ad p A) : ∃ B, wu_BX p A B :=
  wu_BX_ex A [] [] ⟨List.Pairwise.nil, fun _ h => absurd h List.not_mem_nil, Nat.le_refl _, fun _ => rfl⟩ h
/-! what a slot may hold -/
def wu_big (L : wu_P) : Prop := 16 < L.length ∨ ∃ t, t ∈ L ∧ ∃ v, v < 6 ∧ 15 < wu_ex v t.1
theorem wu_big_perm {L L' : wu_P} (h : List.Perm L L') : wu_big L ↔ wu_big L' := by
  unfold wu_big
  rw [h.length_eq]
  constructor
  · rintro (h1 | ⟨t, ht, z⟩)
    · exact Or.inl h1
    · exact Or.inr ⟨t, h.mem_iff.mp ht, z⟩
  · rintro (h1 | ⟨t, ht, z⟩)
    · exact Or.inl h1
    · exact Or.inr ⟨t, h.mem_iff.mpr ht, z⟩
noncomputable def wu_st (p : Nat) (A : wu_P) : Option wu_P := @ite _ (wu_big (wu_nf p A)) (Classical.propDecidable _) none (some (wu_nf p A))
theorem wu_st_n {p : Nat} {A : wu_P} (h : wu_big (wu_nf p A)) : wu_st p A = none := by unfold wu_st; rw [if_pos h]
theorem wu_st_s {p : Nat} {A : wu_P} (h : ¬ wu_big (wu_nf p A)) : wu_st p A = some (wu_nf p A) := by unfold wu_st; rw [if_neg h]
theorem wu_st_i {p : Nat} {A L : wu_P} (h : wu_st p A = some L) : ¬ wu_big (wu_nf p A) ∧ wu_nf p A = L := by
  by_cases hb : wu_big (wu_nf p A)
  · rw [wu_st_n hb] at h; exact absurd h (by simp)
  · rw [wu_st_s hb] at h; exact ⟨hb, Option.some.inj h⟩
theorem wu_st_congr {p : Nat} {A A' : wu_P} (e : wu_Eq p A A') : wu_st p A = wu_st p A' := by unfold wu_st; rw [wu_nf_congr e]
def wu_Ok (p : Nat) (L : wu_P) : Prop := L.length ≤ 16 ∧ (L.map (fun t => t.1)).Nodup ∧ ∀ t, t ∈ L → 0 < t.2 ∧ t.2 < p ∧ wu_Sm t.1
def wu_Cp (p : Nat) (L : wu_P) : Prop := wu_Srt L ∧ wu_Ok p L
theorem wu_Ok_perm {p : Nat} {L L' : wu_P} (h : wu_Ok p L) (hp : List.Perm L L') : wu_Ok p L' :=
  ⟨hp.length_eq ▸ h.1, (hp.map _).nodup h.2.1, fun t ht => h.2.2 t (hp.mem_iff.mpr ht)⟩
theorem wu_Ok_nil {p : Nat} : wu_Ok p [] := ⟨by simp, by simp, fun _ h => absurd h List.not_mem_nil⟩
theorem wu_Cp_nil {p : Nat} : wu_Cp p [] := ⟨List.Pairwise.nil, wu_Ok_nil⟩
theorem wu_Ok_Ad {p : Nat} {L : wu_P} (h : wu_Ok p L) : wu_Ad p L := fun t ht => ⟨(h.2.2 t ht).2.1, by have := (h.2.2 t ht).2.2.1; omega⟩
theorem wu_st_sp {p : Nat} {A L : wu_P} (hA : wu_Ad p A) (h : wu_st p A = some L) : wu_Cp p L ∧ wu_Eq p A L := by
  obtain ⟨hb, e⟩ := wu_st_i h
  obtain ⟨B, hB⟩ := wu_BX_all hA
  obtain ⟨e2, hs, hN⟩ := wu_nf_BX hB
  rw [e] at e2 hb
  rw [← e2] at hs hN
  refine ⟨⟨hs, ?_, hN.1, fun t ht => ⟨(hN.2.1 t ht).1, (hN.2.1 t ht).2, ?_⟩⟩, hN.2.2⟩
  · exact Nat.le_of_not_lt fun z => hb (Or.inl z)
  · have ht' : t ∈ B := by rw [e2] at ht; exact (List.mem_filter.mp ht).1
    exact wu_Sm_of (hB.2.1 t ht').2 (fun v hv => Nat.le_of_not_lt fun z => hb (Or.inr ⟨t, ht, v, hv, z⟩))
/-- a polynomial that a slot holds is its own normal form -/
theorem wu_st_id {p : Nat} {L : wu_P} (h : wu_Cp p L) : wu_st p L = some L := by
  have hN : wu_NF p L L := ⟨h.2.2.1, fun t ht => ⟨(h.2.2.2 t ht).1, (h.2.2.2 t ht).2.1⟩, fun _ => rfl⟩
  have e := wu_nf_X h.1 hN
  have : ¬ wu_big (wu_nf p L) := by
    rw [e]
    rintro (z | ⟨t, ht, v, hv, z⟩)
    · have := h.2.1; omega
    · have := (h.2.2.2 t ht).2.2.2 v hv; omega
  rw [wu_st_s this, e]
end
section
/-! the component's sum -/
theorem wu_z0 : (0 : Int32) = wu_z 0 := by decide
theorem wu_len1 (B : wu_P) (t : Nat × Nat) : (B ++ [t]).length = B.length + 1 := by simp
theorem wu_At_put {sd sf : Nat → Int32} {B1 D : wu_P} {cc k : Nat} (h1 : wu_At sd sf 0 B1) (h2 : wu_At sd sf (B1.length + 1) D) : wu_At (upd sd B1.length (nI cc)) (upd sf B1.length (nI k)) 0 (B1 ++ (cc, k) :: D) := by
  refine (wu_At_app B1 _ 0).mpr ⟨wu_At_congr B1 0 (fun i _ hi => ⟨pk_un (by omega), pk_un (by omega)⟩) h1, ?_⟩
  rw [Nat.zero_add]
  exact ⟨pk_us, pk_us, wu_At_congr D _ (fun i hi _ => ⟨pk_un (by omega), pk_un (by omega)⟩) h2⟩
theorem wu_X_76 {post : St2 → Prop} {cc k : Nat} {P V st : Int32} {c d f m : Nat → Int32} (B1 : wu_P) (N : Nat) (hN : N < 512) :
    ∀ (l : Nat) (C D : wu_P) (sd sf : Nat → Int32) (n : Nat), C.length = l → B1.length + C.length + D.length = N → wu_At sd sf 0 (B1 ++ C) → wu_At sd sf (B1.length + C.length + 1) D → l < n →
    (∀ sd' sf', wu_At sd' sf' 0 (B1 ++ (cc, k) :: (C ++ D)) → post (nI (N + 1), P, V, st, c, d, f, m, sd', sf')) →
    wX_addToSum_76 post (nI cc) (nI k) (nI B1.length) (nI N) P V st n (nI (B1.length + C.length)) c d f m sd sf := by
  intro l
  induction l with
  | zero =>
    intro C D sd sf n hC hL h1 h2 hn H
    obtain ⟨n, rfl⟩ : ∃ k, n = k + 1 := ⟨n - 1, by omega⟩
    obtain rfl := List.length_eq_zero_iff.mp hC
    rw [List.append_nil] at h1
    have hlt : B1.length < 512 := by omega
    have hin : vp_in (nI B1.length) 512 := vp_in_nI hlt (by decide)
    have hcl : (nI B1.length).toNatClampNeg = B1.length := nI_clamp (by omega)
    refine pk_le (B1.length + 0) B1.length (fun _ => ⟨hin, fun sd' e1 => ⟨hin, fun sf' e2 => fun sn' e3 => ?_⟩⟩) (fun h => absurd h (by omega)) rfl rfl (by omega) (by omega)
    subst e1 e2 e3
    rw [nI_1, hcl]
    exact H _ _ (wu_At_put h1 h2)
  | succ l ih =>
    intro C D sd sf n hC hL h1 h2 hn H
    obtain ⟨n, rfl⟩ : ∃ k, n = k + 1 := ⟨n - 1, by omega⟩
    rcases wu_snoc C with rfl | ⟨C', t, rfl⟩
    · exact absurd hC (by simp)
    rw [wu_len1] at hC hL h2 ⊢
    rw [← List.append_assoc] at h1
    have h1' := (wu_At_app (B1 ++ C') [t] 0).mp h1
    rw [Nat.zero_add, List.length_append] at h1'
    have g1 : sd (B1.length + C'.length) = nI t.1 := h1'.2.1
    have g2 : sf (B1.length + C'.length) = nI t.2 := h1'.2.2.1
    have hin : vp_in (nI (B1.length + (C'.length + 1)) - 1) 512 := pk_in (B1.length + C'.length) 512 (by omega) (nI_pred _)
    have hin2 : vp_in (nI (B1.length + (C'.length + 1))) 512 := vp_in_nI (by omega) (by decide)
    have hcl : (nI (B1.length + (C'.length + 1)) - 1).toNatClampNeg = B1.length + C'.length := pk_cl _ (nI_pred _) (by omega)
    have hcl2 : (nI (B1.length + (C'.length + 1))).toNatClampNeg = B1.length + (C'.length + 1) := nI_clamp (by omega)
    refine pk_le (B1.length + (C'.length + 1)) B1.length (fun h => absurd h (by omega)) (fun _ => ⟨hin, hin2, fun sd' e1 => ⟨hin, hin2, fun sf' e2 => fun x e3 => ?_⟩⟩) rfl rfl (by omega) (by omega)
    subst e1 e2 e3
    rw [hcl, hcl2, g1, g2, show nI (B1.length + (C'.length + 1)) + (-1) = nI (B1.length + C'.length) from pk_m1 _]
    refine ih C' (t :: D) _ _ n (by omega) (by simp only [List.length_cons]; omega) ?_ ?_ (by omega) ?_
    · exact wu_At_congr _ _ (fun i _ hi => by rw [List.length_append] at hi; exact ⟨pk_un (by omega), pk_un (by omega)⟩) h1'.1
    · refine ⟨?_, ?_, ?_⟩
      · rw [show B1.length + C'.length + 1 = B1.length + (C'.length + 1) by omega]; exact pk_us
      · rw [show B1.length + C'.length + 1 = B1.length + (C'.length + 1) by omega]; exact pk_us
      · rw [show B1.length + C'.length + 1 + 1 = B1.length + (C'.length + 1) + 1 by omega]
        exact wu_At_congr _ _ (fun i hi _ => ⟨pk_un (by omega), pk_un (by omega)⟩) h2
    · intro sd' sf' hh
      refine H sd' sf' ?_
      rw [List.append_assoc]
      exact hh
theorem wu_X_5 {post : St2 → Prop} {cc k : Nat} {P V st : Int32} {c d f m sd sf : Nat → Int32} (B : wu_P) (hB : ∀ t, t ∈ B → t.1 < 1073741824) (hc : cc < 1073741824) (hl : B.length ≤ 512) (hAt : wu_At sd sf 0 B)
    (H : ∀ B1 B2, B = B1 ++ B2 → (∀ t, t ∈ B2 → cc < t.1) → (B1 = [] ∨ ∃ B0 t, B1 = B0 ++ [t] ∧ t.1 ≤ cc) → wX_addToSum_30 post (nI cc) (nI k) (nI B1.length) (nI B.length) P V st c d f m sd sf) :
    ∀ (l : Nat) (B1 B2 : wu_P) (n : Nat), B1.length = l → B = B1 ++ B2 → (∀ t, t ∈ B2 → cc < t.1) → l < n → wX_addToSum_5 post (nI cc) (nI k) (nI B.length) P V st c d f m sd sf n (nI B1.length) := by
  intro l
  induction l with
  | zero =>
    intro B1 B2 n h1 e h2 hn
    obtain ⟨n, rfl⟩ : ∃ k, n = k + 1 := ⟨n - 1, by omega⟩
    obtain rfl := List.length_eq_zero_iff.mp h1
    exact pk_le 0 0 (fun _ => H [] B2 e h2 (Or.inl rfl)) (fun h => absurd h (by omega)) rfl rfl
  | succ l ih =>
    intro B1 B2 n h1 e h2 hn
    obtain ⟨n, rfl⟩ : ∃ k, n = k + 1 := ⟨n - 1, by omega⟩
    rcases wu_snoc B1 with rfl | ⟨B0, t, rfl⟩
    · exact absurd h1 (by simp)
    have hle : B0.length + 1 ≤ B.length := by rw [e, List.length_append, wu_len1]; omega
    have ht : t ∈ B := by rw [e]; simp
    have g : sd B0.length = nI t.1 := by
      have h := hAt
      rw [e, List.append_assoc] at h
      have h := ((wu_At_app B0 ([t] ++ B2) 0).mp h).2
      rw [Nat.zero_add] at h
      exact h.1
    have h30 := H (B0 ++ [t]) B2 e h2
    rw [wu_len1] at h1 h30 ⊢
    have hin : vp_in (nI (B0.length + 1) - 1) 512 := pk_in B0.length 512 (by omega) (nI_pred _)
    have hcl : (nI (B0.length + 1) - 1).toNatClampNeg = B0.length := pk_cl _ (nI_pred _) (by omega)
    refine pk_le (B0.length + 1) 0 (fun h => absurd h (by omega)) (fun _ => ⟨hin, pk_lt cc t.1 (fun h => ?_) (fun h => ?_) rfl (by rw [hcl]; exact g) (by omega) (by have := hB t ht; omega)⟩) rfl rfl (by omega) (by omega)
    · intro x ex
      subst ex
      rw [pk_m1]
      refine ih B0 (t :: B2) n (by omega) (by rw [e, List.append_assoc]; rfl) (fun s hs => ?_) (by omega)
      rcases List.mem_cons.mp hs with rfl | hs
      · exact h
      · exact h2 s hs
    · exact h30 (Or.inr ⟨B0, t, rfl, h⟩)
theorem wu_X_add {post : St2 → Prop} {p cc k : Nat} {sn V st : Int32} {c d f m sd sf : Nat → Int32} {A : wu_P} (hp : 2 ≤ p ∧ p ≤ 32749) (hX : wu_XB p A sn sd sf) (hA : A.length < 512) (hk : k < p) (hc : cc < 1073741824)
    (H : ∀ sn' sd' sf', wu_XB p (A ++ [(cc, k)]) sn' sd' sf' → post (sn', nI p, V, st, c, d, f, m, sd', sf')) : wpX_addToSum post (sn, nI p, V, st, c, d, f, m, sd, sf) (nI cc) (nI k) := by
  obtain ⟨B, hB, rfl, hAt⟩ := hX
  have hl : B.length ≤ A.length := hB.2.2.1
  refine ⟨B.length + 1, wu_X_5 B (fun t ht => (hB.2.1 t ht).2) hc (by omega) hAt ?_ B.length B [] (B.length + 1) rfl (by simp) (by simp) (by omega)⟩
  intro B1 B2 e h2 h1
  subst e
  rw [List.length_append] at hl ⊢
  have ins : (∀ t, t ∈ B1 → t.1 < cc) → ∃ n76, wX_addToSum_76 post (nI cc) (nI k) (nI B1.length) (nI (B1.length + B2.length)) (nI p) V st n76 (nI (B1.length + B2.length)) c d f m sd sf := by
    intro hlt
    refine ⟨B2.length + 1, wu_X_76 B1 (B1.length + B2.length) (by omega) B2.length B2 [] sd sf (B2.length + 1) rfl (by simp) hAt trivial (by omega) ?_⟩
    intro sd' sf' hh
    rw [List.append_nil] at hh
    refine H _ _ _ ⟨B1 ++ (cc, k) :: B2, wu_BX_ins hB hk hc hlt h2, ?_, hh⟩
    rw [List.length_append, List.length_cons]; rfl
  rcases h1 with rfl | ⟨B0, t, rfl, ht⟩
  · exact pk_le 0 0 (fun _ => ins (fun _ h => absurd h List.not_mem_nil)) (fun h => absurd h (by omega)) rfl rfl
  · obtain ⟨tc, tl⟩ := t
    rw [wu_len1] at hl
    have hAt' := hAt
    rw [List.append_assoc] at hAt'
    have hAt' := (wu_At_app B0 ([(tc, tl)] ++ B2) 0).mp hAt'
    rw [Nat.zero_add] at hAt'
    have g1 : sd B0.length = nI tc := hAt'.2.1
    have g2 : sf B0.length = nI tl := hAt'.2.2.1
    have hb := hB.2.1 (tc, tl) (by simp)
    have hin : vp_in (nI ((B0 ++ [(tc, tl)]).length) - 1) 512 := by rw [wu_len1]; exact pk_in B0.length 512 (by omega) (nI_pred _)
    have hcl : (nI ((B0 ++ [(tc, tl)]).length) - 1).toNatClampNeg = B0.length := by rw [wu_len1]; exact pk_cl _ (nI_pred _) (by omega)
    refine pk_le (B0.length + 1) 0 (fun h => absurd h (by omega)) (fun _ => ⟨hin, pk_eq tc cc (fun h => ?_) (fun h => ?_) (by rw [hcl]; exact g1) rfl (by have := hb.2; dsimp only at this; omega) (by omega)⟩) (by rw [wu_len1]) rfl (by omega) (by omega)
    · subst h
      refine ⟨hin, nI_ne0 (by omega) (by omega), hin, fun sf' e => ?_⟩
      subst e
      rw [hcl, g2, nI_add, pk_rem (by have := hb.1; dsimp only at this; omega) (by omega) (by omega)]
      have hB' : wu_BX p A (B0 ++ (tc, tl) :: B2) := by rw [List.append_assoc] at hB; exact hB
      refine H _ _ _ ⟨B0 ++ (tc, (tl + k) % p) :: B2, wu_BX_upd hB' (by omega), ?_, ?_⟩
      · simp only [List.length_append, List.length_cons, List.length_nil]; exact congrArg nI (by omega)
      · refine (wu_At_app B0 _ 0).mpr ⟨wu_At_congr B0 0 (fun i _ hi => ⟨rfl, pk_un (by omega)⟩) hAt'.1, ?_⟩
        rw [Nat.zero_add]
        exact ⟨g1, pk_us, wu_At_congr B2 _ (fun i hi _ => ⟨rfl, pk_un (by omega)⟩) hAt'.2.2.2⟩
    · refine ins (fun s hs => ?_)
      have hs' := hB.1
      unfold wu_Srt at hs'
      rw [List.pairwise_append, List.pairwise_append] at hs'
      rcases List.mem_append.mp hs with hs | hs
      · have := hs'.1.2.2 s hs (tc, tl) (by simp)
        dsimp only at this ht; omega
      · rw [List.mem_singleton] at hs; subst hs; dsimp only at ht ⊢; omega
/-- slots that a walk reads: the list and its bounds -/
theorem wu_X_addPoly_2 {post : St2 → Prop} {p s : Nat} {V st : Int32} {c d f m : Nat → Int32} (hp : 2 ≤ p ∧ p ≤ 32749) (hs : s < 34) :
    ∀ (R : wu_P) (j n : Nat) (A : wu_P) (sn : Int32) (sd sf : Nat → Int32), c s = nI (j + R.length) → j + R.length ≤ 16 → wu_At d f (s * 16 + j) R → wu_Ad p R → A.length + R.length ≤ 512 → wu_XB p A sn sd sf → R.length < n →
    (∀ sn' sd' sf', wu_XB p (A ++ R) sn' sd' sf' → post (sn', nI p, V, st, c, d, f, m, sd', sf')) →
    wX_addPoly_2 post (nI s) n (nI j) sn (nI p) V st c d f m sd sf := by
  intro R
  induction R with
  | nil =>
    intro j n A sn sd sf hc h16 hAt hb hA hX hn H
    obtain ⟨n, rfl⟩ : ∃ k, n = k + 1 := ⟨n - 1, by omega⟩
    refine ⟨vp_in_nI hs (by decide), pk_le (j + 0) j (fun _ => H _ _ _ (by rw [List.append_nil]; exact hX)) (fun h => absurd h (by omega)) (by rw [nI_clamp (by omega)]; exact hc) rfl (by omega) (by omega)⟩
  | cons t R ih =>
    intro j n A sn sd sf hc h16 hAt hb hA hX hn H
    obtain ⟨n, rfl⟩ : ∃ k, n = k + 1 := ⟨n - 1, by omega⟩
    rw [List.length_cons] at hc h16 hA hn
    have hin : vp_in (nI s * 16 + nI j) 544 := pk_in (s * 16 + j) 544 (by omega) (wu_ix s j)
    refine ⟨vp_in_nI hs (by decide), pk_le (j + (R.length + 1)) j (fun h => absurd h (by omega)) (fun _ => ⟨hin, hin, ?_⟩) (by rw [nI_clamp (by omega)]; exact hc) rfl (by omega) (by omega)⟩
    rw [wu_ixc s j (by omega), hAt.1, hAt.2.1]
    have ht := hb t List.mem_cons_self
    refine wu_X_add hp hX (by omega) ht.1 ht.2 (fun sn' sd' sf' hX' => ?_)
    intro x ex
    subst ex
    rw [nI_1]
    refine ih (j + 1) n (A ++ [t]) sn' sd' sf' (by rw [hc]; exact congrArg nI (by omega)) (by omega) hAt.2.2 (fun s hs => hb s (List.mem_cons_of_mem _ hs)) (by rw [wu_len1]; omega) hX' (by omega) ?_
    intro sn'' sd'' sf'' hh
    rw [List.append_assoc] at hh
    exact H _ _ _ hh
theorem wu_X_addPoly {post : St2 → Prop} {p s : Nat} {sn V st : Int32} {c d f m sd sf : Nat → Int32} {A L : wu_P} (hp : 2 ≤ p ∧ p ≤ 32749) (hs : s < 34) (hL : wu_Ho c d f s L) (hO : wu_Ok p L) (hA : A.length + L.length ≤ 512) (hX : wu_XB p A sn sd sf)
    (H : ∀ sn' sd' sf', wu_XB p (A ++ L) sn' sd' sf' → post (sn', nI p, V, st, c, d, f, m, sd', sf')) : wpX_addPoly post (sn, nI p, V, st, c, d, f, m, sd, sf) (nI s) :=
  ⟨L.length + 1, wu_X_addPoly_2 hp hs L 0 (L.length + 1) A sn sd sf (by rw [Nat.zero_add]; exact hL.1) (by have := hO.1; omega) hL.2 (wu_Ok_Ad hO) hA hX (by omega) H⟩
/-! products -/
def wu_mul (p sc : Nat) (I L : wu_P) : wu_P := I.flatMap (fun i => L.map (fun t => (i.1 + t.1, i.2 * sc % p * t.2 % p)))
theorem wu_mul_cons (p sc : Nat) (i : Nat × Nat) (I L : wu_P) : wu_mul p sc (i :: I) L = L.map (fun t => (i.1 + t.1, i.2 * sc % p * t.2 % p)) ++ wu_mul p sc I L := List.flatMap_cons
theorem wu_mul_len (p sc : Nat) (I L : wu_P) : (wu_mul p sc I L).length = I.length * L.length := by
  induction I with
  | nil => simp [wu_mul]
  | cons i I ih => rw [wu_mul_cons, List.length_append, List.length_map, ih, List.length_cons, Nat.add_mul]; omega
theorem wu_mul_mem {p sc : Nat} {I L : wu_P} {x : Nat × Nat} (h : x ∈ wu_mul p sc I L) : ∃ i, i ∈ I ∧ ∃ t, t ∈ L ∧ x = (i.1 + t.1, i.2 * sc % p * t.2 % p) := by
  unfold wu_mul at h
  obtain ⟨i, hi, h⟩ := List.mem_flatMap.mp h
  obtain ⟨t, ht, e⟩ := List.mem_map.mp h
  exact ⟨i, hi, t, ht, e.symm⟩
theorem wu_mul_Ad {p sc : Nat} {I L : wu_P} (hp : 0 < p) (hI : wu_Ok p I) (hL : wu_Ok p L) : wu_Ad p (wu_mul p sc I L) := by
  intro x hx
  obtain ⟨i, hi, t, ht, rfl⟩ := wu_mul_mem hx
  exact ⟨Nat.mod_lt _ hp, (wu_Sm_add (hI.2.2 i hi).2.2 (hL.2.2 t ht).2.2).1⟩
theorem wu_sq {a b p : Nat} (hp : p ≤ 32749) (ha : a < p) (hb : b < p) : a * b < 2147483648 := by
  have h1 : a * b ≤ 32748 * 32748 := Nat.mul_le_mul (by omega) (by omega)
  omega
theorem wu_X_52 {post : St2 → Prop} {J3 : Int32 → Int32 → Int32 → Int32 → Int32 → (Nat → Int32) → (Nat → Int32) → (Nat → Int32) → (Nat → Int32) → (Nat → Int32) → (Nat → Int32) → Prop} {p b ic ik : Nat} {x1 x3 x4 V st : Int32} {c d f m : Nat → Int32} (hp : 2 ≤ p ∧ p ≤ 32749) (hb : b < 34) (hik : ik < p) :
    ∀ (R : wu_P) (j n : Nat) (A : wu_P) (sn : Int32) (sd sf : Nat → Int32), c b = nI (j + R.length) → j + R.length ≤ 16 → wu_At d f (b * 16 + j) R → (∀ t, t ∈ R → t.2 < p ∧ ic + t.1 < 1073741824) → A.length + R.length ≤ 512 → wu_XB p A sn sd sf → R.length < n →
    (∀ sn' sd' sf', wu_XB p (A ++ R.map (fun t => (ic + t.1, ik * t.2 % p))) sn' sd' sf' → ∀ y, y = x4 + 1 → J3 y sn' (nI p) V st c d f m sd' sf') →
    wX_addProduct_52 post J3 x1 (nI b) x3 x4 (nI ic) (nI ik) n (nI j) sn (nI p) V st c d f m sd sf := by
  intro R
  induction R with
  | nil =>
    intro j n A sn sd sf hc h16 hAt hR hA hX hn H
    obtain ⟨n, rfl⟩ : ∃ k, n = k + 1 := ⟨n - 1, by omega⟩
    exact ⟨vp_in_nI hb (by decide), pk_le (j + 0) j (fun _ => H _ _ _ (by rw [List.map_nil, List.append_nil]; exact hX)) (fun h => absurd h (by omega)) (by rw [nI_clamp (by omega)]; exact hc) rfl (by omega) (by omega)⟩
  | cons t R ih =>
    intro j n A sn sd sf hc h16 hAt hR hA hX hn H
    obtain ⟨n, rfl⟩ : ∃ k, n = k + 1 := ⟨n - 1, by omega⟩
    rw [List.length_cons] at hc h16 hA hn
    have hin : vp_in (nI b * 16 + nI j) 544 := pk_in (b * 16 + j) 544 (by omega) (wu_ix b j)
    have ht := hR t List.mem_cons_self
    have hsq := wu_sq hp.2 hik ht.1
    refine ⟨vp_in_nI hb (by decide), pk_le (j + (R.length + 1)) j (fun h => absurd h (by omega)) (fun _ => ⟨hin, nI_ne0 (by omega) (by omega), fun x8 e8 => ⟨hin, ?_⟩⟩) (by rw [nI_clamp (by omega)]; exact hc) rfl (by omega) (by omega)⟩
    subst e8
    rw [wu_ixc b j (by omega), hAt.1, hAt.2.1, nI_add, pk_mul, pk_rem (by omega) (by omega) (by omega)]
    refine wu_X_add hp hX (by omega) (Nat.mod_lt _ (by omega)) ht.2 (fun sn' sd' sf' hX' => ?_)
    intro x ex
    subst ex
    rw [nI_1]
    refine ih (j + 1) n (A ++ [(ic + t.1, ik * t.2 % p)]) sn' sd' sf' (by rw [hc]; exact congrArg nI (by omega)) (by omega) hAt.2.2 (fun s hs => hR s (List.mem_cons_of_mem _ hs)) (by rw [wu_len1]; omega) hX' (by omega) ?_
    intro sn'' sd'' sf'' hh
    rw [List.append_assoc] at hh
    exact H _ _ _ hh
theorem wu_X_prod_3 {post : St2 → Prop} {p a b sc : Nat} {V st : Int32} {c d f m : Nat → Int32} {L : wu_P} (hp : 2 ≤ p ∧ p ≤ 32749) (ha : a < 34) (hb : b < 34) (hsc : sc < p) (hL : wu_Ho c d f b L) (hLO : wu_Ok p L) :
    ∀ (R : wu_P) (j n : Nat) (A : wu_P) (sn : Int32) (sd sf : Nat → Int32), c a = nI (j + R.length) → j + R.length ≤ 16 → wu_At d f (a * 16 + j) R → (∀ t, t ∈ R → t.2 < p ∧ wu_Sm t.1) → A.length + R.length * L.length ≤ 512 → wu_XB p A sn sd sf → R.length < n →
    (∀ sn' sd' sf', wu_XB p (A ++ wu_mul p sc R L) sn' sd' sf' → post (sn', nI p, V, st, c, d, f, m, sd', sf')) →
    wX_addProduct_3 post (nI a) (nI b) (nI sc) n (nI j) sn (nI p) V st c d f m sd sf := by
  intro R
  induction R with
  | nil =>
    intro j n A sn sd sf hc h16 hAt hR hA hX hn H
    obtain ⟨n, rfl⟩ : ∃ k, n = k + 1 := ⟨n - 1, by omega⟩
    exact ⟨vp_in_nI ha (by decide), pk_le (j + 0) j (fun _ => H _ _ _ (by rw [show wu_mul p sc [] L = [] from rfl, List.append_nil]; exact hX)) (fun h => absurd h (by omega)) (by rw [nI_clamp (by omega)]; exact hc) rfl (by omega) (by omega)⟩
  | cons t R ih =>
    intro j n A sn sd sf hc h16 hAt hR hA hX hn H
    obtain ⟨n, rfl⟩ : ∃ k, n = k + 1 := ⟨n - 1, by omega⟩
    rw [List.length_cons] at hc h16 hA hn
    rw [Nat.add_mul, Nat.one_mul] at hA
    have hin : vp_in (nI a * 16 + nI j) 544 := pk_in (a * 16 + j) 544 (by omega) (wu_ix a j)
    have ht := hR t List.mem_cons_self
    have hsq := wu_sq hp.2 ht.1 hsc
    refine ⟨vp_in_nI ha (by decide), pk_le (j + (R.length + 1)) j (fun h => absurd h (by omega)) (fun _ => ⟨hin, fun x5 e5 => ⟨hin, nI_ne0 (by omega) (by omega), fun x6 e6 => ?_⟩⟩) (by rw [nI_clamp (by omega)]; exact hc) rfl (by omega) (by omega)⟩
    subst e5 e6
    rw [wu_ixc a j (by omega), hAt.1, hAt.2.1, pk_mul, pk_rem (by omega) (by omega) (by omega)]
    refine ⟨L.length + 1, wu_X_52 hp hb (Nat.mod_lt _ (by omega)) L 0 (L.length + 1) A sn sd sf (by rw [Nat.zero_add]; exact hL.1) (by have := hLO.1; omega) hL.2 (fun s hs => ⟨(hLO.2.2 s hs).2.1, (wu_Sm_add ht.2 (hLO.2.2 s hs).2.2).1⟩) (by omega) hX (by omega) ?_⟩
    intro sn' sd' sf' hX' y ey
    subst ey
    rw [nI_1]
    refine ih (j + 1) n _ sn' sd' sf' (by rw [hc]; exact congrArg nI (by omega)) (by omega) hAt.2.2 (fun s hs => hR s (List.mem_cons_of_mem _ hs)) (by rw [List.length_append, List.length_map]; omega) hX' (by omega) ?_
    intro sn'' sd'' sf'' hh
    rw [List.append_assoc, ← wu_mul_cons] at hh
    exact H _ _ _ hh
theorem wu_X_prod {post : St2 → Prop} {p a b sc : Nat} {sn V st : Int32} {c d f m sd sf : Nat → Int32} {A I L : wu_P} (hp : 2 ≤ p ∧ p ≤ 32749) (ha : a < 34) (hb : b < 34) (hsc : sc < p) (hI : wu_Ho c d f a I) (hIO : wu_Ok p I) (hL : wu_Ho c d f b L) (hLO : wu_Ok p L) (hA : A.length ≤ 256) (hX : wu_XB p A sn sd sf)
    (H : ∀ sn' sd' sf', wu_XB p (A ++ wu_mul p sc I L) sn' sd' sf' → post (sn', nI p, V, st, c, d, f, m, sd', sf')) : wpX_addProduct post (sn, nI p, V, st, c, d, f, m, sd, sf) (nI a) (nI b) (nI sc) :=
  ⟨I.length + 1, wu_X_prod_3 hp ha hb hsc hL hLO I 0 (I.length + 1) A sn sd sf (by rw [Nat.zero_add]; exact hI.1) (by have := hIO.1; omega) hI.2 (fun t ht => ⟨(hIO.2.2 t ht).2.1, (hIO.2.2 t ht).2.2⟩) (by have h1 := hIO.1; have h2 := hLO.1; have := Nat.mul_le_mul h1 h2; omega) hX (by omega) H⟩
end
section
/-! the component's slots: store, copy, degree, class, coefficient -/
def wu_nz (t : Nat × Nat) : Bool := decide (t.2 ≠ 0)
theorem wu_mask {c : Nat} : c &&& 554189328 = 0 ↔ ∀ v, v < 6 → wu_ex v c ≤ 15 := by
  constructor
  · intro h v hv
    have h1 : (c &&& 554189328).testBit (5 * v + 4) = false := by rw [h]; exact Nat.zero_testBit _
    rw [Nat.testBit_and] at h1
    have h2 : ∀ w, w < 6 → (554189328 : Nat).testBit (5 * w + 4) = true := by decide
    rw [h2 v hv, Bool.and_true, Nat.testBit_eq_decide_div_mod_eq, Nat.pow_add, wu_p5, ← Nat.div_div_eq_div_mul, decide_eq_false_iff_not] at h1
    unfold wu_ex
    generalize c / 32 ^ v = y at h1 ⊢
    omega
  · intro h
    apply Nat.eq_of_testBit_eq
    intro i
    rw [Nat.testBit_and, Nat.zero_testBit]
    by_cases hi : i < 30
    · by_cases h4 : i % 5 = 4
      · have hv : i / 5 < 6 := by omega
        have e : i = 5 * (i / 5) + 4 := by omega
        have hx := h (i / 5) hv
        have : c.testBit i = false := by
          rw [e, Nat.testBit_eq_decide_div_mod_eq, Nat.pow_add, wu_p5, ← Nat.div_div_eq_div_mul, decide_eq_false_iff_not]
          unfold wu_ex at hx
          generalize c / 32 ^ (i / 5) = y at hx ⊢
          omega
        rw [this, Bool.false_and]
      · have h2 : ∀ j, j < 30 → j % 5 ≠ 4 → (554189328 : Nat).testBit j = false := by decide
        rw [h2 i hi h4, Bool.and_false]
    · have : (554189328 : Nat).testBit i = false := Nat.testBit_lt_two_pow (Nat.lt_of_lt_of_le (by decide : 554189328 < 2 ^ 30) (Nat.pow_le_pow_right (by decide) (by omega)))
      rw [this, Bool.and_false]
theorem wu_maskI {c : Nat} : nI c &&& 554189328 = 0 ↔ ∀ v, v < 6 → wu_ex v c ≤ 15 := by
  have hb : c &&& 554189328 ≤ 554189328 := Nat.and_le_right
  have e : nI c &&& 554189328 = nI (c &&& 554189328) := nx_and c 554189328
  rw [e, show (0 : Int32) = nI 0 from rfl, nI_eq (by omega) (by omega), wu_mask]
def wu_over (t : Nat × Nat) : Prop := t.2 ≠ 0 ∧ ∃ v, v < 6 ∧ 15 < wu_ex v t.1
theorem wu_X_over_4 {post : Int32 → Prop} {P V st : Int32} {c d f m sd sf : Nat → Int32} {B : wu_P} (hl : B.length ≤ 512) (hb : ∀ t, t ∈ B → t.2 < 2147483648) :
    ∀ (R M : wu_P) (k n : Nat), B = M ++ R → wu_At sd sf M.length R → k ≤ M.length → R.length < n →
    ((∀ t, t ∈ R → ¬ wu_over t) → k + (R.filter wu_nz).length ≤ 16 → post 0) → (((∃ t, t ∈ R ∧ wu_over t) ∨ 16 < k + (R.filter wu_nz).length) → post 1) →
    wX_isSumOversized_4 post (nI B.length) P V st c d f m sd sf n (nI k) (nI M.length) := by
  intro R
  induction R with
  | nil =>
    intro M k n e hAt hk hn h0 h1
    obtain ⟨n, rfl⟩ : ∃ k, n = k + 1 := ⟨n - 1, by omega⟩
    rw [List.append_nil] at e
    refine pk_le B.length M.length (fun _ => pk_le k 16 (fun h => h0 (fun _ h => absurd h List.not_mem_nil) h) (fun h => h1 (Or.inr h)) rfl rfl (by rw [← e] at hk; omega) (by omega)) (fun h => absurd h (by rw [e]; omega)) rfl rfl (by omega) (by rw [← e]; omega)
  | cons t R ih =>
    intro M k n e hAt hk hn h0 h1
    obtain ⟨n, rfl⟩ : ∃ k, n = k + 1 := ⟨n - 1, by omega⟩
    have hBl : B.length = M.length + (R.length + 1) := by rw [e, List.length_append, List.length_cons]
    rw [List.length_cons] at hn
    have hin : vp_in (nI M.length) 512 := vp_in_nI (by omega) (by decide)
    have hcl : (nI M.length).toNatClampNeg = M.length := nI_clamp (by omega)
    have ht := hb t (by rw [e]; simp)
    have e2 : B = (M ++ [t]) ++ R := by rw [List.append_assoc]; exact e
    have hAt2 : wu_At sd sf (M ++ [t]).length R := by rw [wu_len1]; exact hAt.2.2
    refine pk_le B.length M.length (fun h => absurd h (by omega)) (fun _ => ⟨hin, pk_eq t.2 0 (fun hz => ?_) (fun hz => ⟨hin, ?_⟩) (by rw [hcl]; exact hAt.2.1) rfl (by omega) (by omega)⟩) rfl rfl (by omega) (by omega)
    · intro x ex
      subst ex
      have := ih (M ++ [t]) k n e2 hAt2 (by rw [wu_len1]; omega) (by omega) ?_ ?_
      · rw [wu_len1] at this; rw [nI_1]; exact this
      · intro g1 g2
        refine h0 (fun s hs => ?_) ?_
        · rcases List.mem_cons.mp hs with rfl | hs
          · exact fun z => z.1 hz
          · exact g1 s hs
        · rw [List.filter_cons_of_neg (by simp [wu_nz, hz])]; exact g2
      · intro g
        refine h1 ?_
        rw [List.filter_cons_of_neg (by simp [wu_nz, hz])]
        rcases g with ⟨s, hs, g⟩ | g
        · exact Or.inl ⟨s, List.mem_cons_of_mem _ hs, g⟩
        · exact Or.inr g
    · rw [hcl, hAt.1]
      by_cases ho : ∀ v, v < 6 → wu_ex v t.1 ≤ 15
      · refine br_t (wu_maskI.mpr ho) (fun x ex y ey => ?_)
        subst ex ey
        have := ih (M ++ [t]) (k + 1) n e2 hAt2 (by rw [wu_len1]; omega) (by omega) ?_ ?_
        · rw [wu_len1] at this; rw [nI_1, nI_1]; exact this
        · intro g1 g2
          refine h0 (fun s hs => ?_) ?_
          · rcases List.mem_cons.mp hs with rfl | hs
            · rintro ⟨_, v, hv, z⟩; have := ho v hv; omega
            · exact g1 s hs
          · rw [List.filter_cons_of_pos (by simp [wu_nz, hz]), List.length_cons]; omega
        · intro g
          refine h1 ?_
          rw [List.filter_cons_of_pos (by simp [wu_nz, hz]), List.length_cons]
          rcases g with ⟨s, hs, g⟩ | g
          · exact Or.inl ⟨s, List.mem_cons_of_mem _ hs, g⟩
          · exact Or.inr (by omega)
      · refine br_f (fun z => ho (wu_maskI.mp z)) (h1 (Or.inl ⟨t, List.mem_cons_self, hz, ?_⟩))
        refine Classical.byContradiction fun z => ho (fun v hv => Nat.le_of_not_lt fun g => z ⟨v, hv, g⟩)
theorem wu_Fr_wr {c d f : Nat → Int32} {s i : Nat} {x y : Int32} (h : s * 16 ≤ i) (h' : i < s * 16 + 16) : wu_Fr (fun q => q = s) c d f c (upd d i x) (upd f i y) := by
  intro q hq
  refine ⟨rfl, fun j hj => ?_⟩
  have : q * 16 + j ≠ i := by
    intro e
    exact hq (by omega)
  exact ⟨pk_un this, pk_un this⟩
theorem wu_X_store_13 {post : Int32 → St2 → Prop} {P V st : Int32} {m sd sf : Nat → Int32} {B : wu_P} {s : Nat} (hs : s < 34) (hl : B.length ≤ 512) (hb : ∀ t, t ∈ B → t.2 < 2147483648) :
    ∀ (R M N : wu_P) (c d f : Nat → Int32) (n : Nat), B = M ++ R → wu_At sd sf M.length R → wu_At d f (s * 16) N → N.length + (R.filter wu_nz).length ≤ 16 → R.length < n →
    (∀ c' d' f', wu_Fr (fun q => q = s) c d f c' d' f' → wu_Ho c' d' f' s (N ++ R.filter wu_nz) → post 1 (nI B.length, P, V, st, c', d', f', m, sd, sf)) →
    wX_storeSum_13 post (nI s) (nI B.length) P V st n (nI N.length) (nI M.length) c d f m sd sf := by
  intro R
  induction R with
  | nil =>
    intro M N c d f n e hAt hN h16 hn H
    obtain ⟨n, rfl⟩ : ∃ k, n = k + 1 := ⟨n - 1, by omega⟩
    rw [List.append_nil] at e
    refine pk_le B.length M.length (fun _ => ⟨vp_in_nI hs (by decide), fun c' ec => ?_⟩) (fun h => absurd h (by rw [e]; omega)) rfl rfl (by omega) (by rw [← e]; omega)
    subst ec
    rw [nI_clamp (by omega)]
    refine H _ _ _ wu_Fr_cnt ?_
    rw [List.filter_nil, List.append_nil]
    exact ⟨pk_us, hN⟩
  | cons t R ih =>
    intro M N c d f n e hAt hN h16 hn H
    obtain ⟨n, rfl⟩ : ∃ k, n = k + 1 := ⟨n - 1, by omega⟩
    have hBl : B.length = M.length + (R.length + 1) := by rw [e, List.length_append, List.length_cons]
    rw [List.length_cons] at hn
    have hin : vp_in (nI M.length) 512 := vp_in_nI (by omega) (by decide)
    have hcl : (nI M.length).toNatClampNeg = M.length := nI_clamp (by omega)
    have ht := hb t (by rw [e]; simp)
    have e2 : B = (M ++ [t]) ++ R := by rw [List.append_assoc]; exact e
    have hAt2 : wu_At sd sf (M ++ [t]).length R := by rw [wu_len1]; exact hAt.2.2
    refine pk_le B.length M.length (fun h => absurd h (by omega)) (fun _ => ⟨hin, pk_eq t.2 0 (fun hz => ?_) (fun hz => ?_) (by rw [hcl]; exact hAt.2.1) rfl (by omega) (by omega)⟩) rfl rfl (by omega) (by omega)
    · intro x ex
      subst ex
      rw [List.filter_cons_of_neg (by simp [wu_nz, hz])] at h16 H
      have := ih (M ++ [t]) N c d f n e2 hAt2 hN h16 (by omega) H
      rw [wu_len1] at this; rw [nI_1]; exact this
    · rw [List.filter_cons_of_pos (by simp [wu_nz, hz])] at h16 H
      rw [List.length_cons] at h16
      have hix : vp_in (nI s * 16 + nI N.length) 544 := pk_in (s * 16 + N.length) 544 (by omega) (wu_ix s _)
      refine ⟨hin, hix, fun d' ed => ⟨hin, hix, fun f' ef => fun x ex y ey => ?_⟩⟩
      subst ed ef ex ey
      rw [wu_ixc s N.length (by omega), hcl, hAt.1, hAt.2.1, nI_1, nI_1]
      have := ih (M ++ [t]) (N ++ [t]) c (upd d (s * 16 + N.length) (nI t.1)) (upd f (s * 16 + N.length) (nI t.2)) n e2 hAt2 (wu_At_snoc hN) (by rw [wu_len1]; omega) (by omega) ?_
      · rw [wu_len1, wu_len1] at this; exact this
      · intro c' d' f' hF hH
        refine H _ _ _ (wu_Fr_trans (wu_Fr_wr (by omega) (by omega)) hF) ?_
        rw [List.append_assoc] at hH
        exact hH
theorem wu_X_store {post : Int32 → St2 → Prop} {p s : Nat} {sn P V st : Int32} {c d f m sd sf : Nat → Int32} {A : wu_P} (hp : 2 ≤ p ∧ p ≤ 32749) (hs : s < 34) (hX : wu_XB p A sn sd sf) (hA : A.length ≤ 512)
    (h0 : wu_st p A = none → post 0 (sn, P, V, st, c, d, f, m, sd, sf)) (h1 : ∀ L, wu_st p A = some L → ∀ c' d' f', wu_Fr (fun q => q = s) c d f c' d' f' → wu_Ho c' d' f' s L → post 1 (sn, P, V, st, c', d', f', m, sd, sf)) :
    wpX_storeSum post (sn, P, V, st, c, d, f, m, sd, sf) (nI s) := by
  obtain ⟨B, hB, rfl, hAt⟩ := hX
  have hl : B.length ≤ 512 := Nat.le_trans hB.2.2.1 hA
  have hb : ∀ t, t ∈ B → t.2 < 2147483648 := fun t ht => by have := (hB.2.1 t ht).1; omega
  obtain ⟨e, _, _⟩ := wu_nf_BX hB
  have e' : wu_nf p A = B.filter wu_nz := e
  unfold wpX_storeSum
  try dsimp only
  refine ⟨B.length + 1, wu_X_over_4 hl hb B [] 0 (B.length + 1) rfl hAt (by simp) (by omega) (fun g1 g2 => ?_) (fun g => ?_)⟩
  · have nb : ¬ wu_big (wu_nf p A) := by
      rw [e']
      rintro (z | ⟨t, ht, z⟩)
      · omega
      · rw [List.mem_filter] at ht
        exact g1 t ht.1 ⟨by simpa [wu_nz] using ht.2, z⟩
    have es := wu_st_s nb
    refine br_t rfl ⟨B.length + 1, wu_X_store_13 hs hl hb B [] [] c d f (B.length + 1) rfl hAt trivial (by simpa using g2) (by omega) (fun c' d' f' hF hH => h1 _ es c' d' f' hF ?_)⟩
    rw [e']
    exact hH
  · have nb : wu_big (wu_nf p A) := by
      rw [e']
      rcases g with ⟨t, ht, z, v, hv, w⟩ | g
      · exact Or.inr ⟨t, List.mem_filter.mpr ⟨ht, by simpa [wu_nz] using z⟩, v, hv, w⟩
      · exact Or.inl (by omega)
    exact br_f (by decide) (h0 (wu_st_n nb))
/-! copying -/
theorem wu_X_copy_14 {post : St2 → Prop} {sn P V st : Int32} {m sd sf : Nat → Int32} {a b : Nat} (ha : a < 34) (hb : b < 34) (hab : a ≠ b) :
    ∀ (R M : wu_P) (c d f : Nat → Int32) (n : Nat), c a = nI (M.length + R.length) → c b = nI (M.length + R.length) → M.length + R.length ≤ 16 → wu_At d f (a * 16 + M.length) R → wu_At d f (b * 16) M → R.length < n →
    (∀ c' d' f', wu_Fr (fun q => q = b) c d f c' d' f' → wu_Ho c' d' f' b (M ++ R) → post (sn, P, V, st, c', d', f', m, sd, sf)) →
    wX_copyPoly_14 post (nI a) (nI b) sn P V st n (nI M.length) c d f m sd sf := by
  intro R
  induction R with
  | nil =>
    intro M c d f n hc hcb h16 hA hM hn H
    obtain ⟨n, rfl⟩ : ∃ k, n = k + 1 := ⟨n - 1, by omega⟩
    refine ⟨vp_in_nI ha (by decide), pk_le (M.length + 0) M.length (fun _ => H _ _ _ wu_Fr_refl ?_) (fun h => absurd h (by omega)) (by rw [nI_clamp (by omega)]; exact hc) rfl (by omega) (by omega)⟩
    rw [List.append_nil]
    exact ⟨hcb, hM⟩
  | cons t R ih =>
    intro M c d f n hc hcb h16 hA hM hn H
    obtain ⟨n, rfl⟩ : ∃ k, n = k + 1 := ⟨n - 1, by omega⟩
    rw [List.length_cons] at hc hcb h16 hn
    have hia : vp_in (nI a * 16 + nI M.length) 544 := pk_in (a * 16 + M.length) 544 (by omega) (wu_ix a _)
    have hib : vp_in (nI b * 16 + nI M.length) 544 := pk_in (b * 16 + M.length) 544 (by omega) (wu_ix b _)
    refine ⟨vp_in_nI ha (by decide), pk_le (M.length + (R.length + 1)) M.length (fun h => absurd h (by omega)) (fun _ => ⟨hia, hib, fun d' ed => ⟨hia, hib, fun f' ef => fun x ex => ?_⟩⟩) (by rw [nI_clamp (by omega)]; exact hc) rfl (by omega) (by omega)⟩
    subst ed ef ex
    rw [wu_ixc a M.length (by omega), wu_ixc b M.length (by omega), hA.1, hA.2.1, nI_1]
    have := ih (M ++ [t]) c (upd d (b * 16 + M.length) (nI t.1)) (upd f (b * 16 + M.length) (nI t.2)) n (by rw [wu_len1, hc]; exact congrArg nI (by omega)) (by rw [wu_len1, hcb]; exact congrArg nI (by omega)) (by rw [wu_len1]; omega) ?_ (wu_At_snoc hM) (by omega) ?_
    · rw [wu_len1] at this; exact this
    · rw [wu_len1]
      refine wu_At_congr R _ (fun i hi hi' => ?_) hA.2.2
      have : i ≠ b * 16 + M.length := by
        intro e
        exact hab (by omega)
      exact ⟨pk_un this, pk_un this⟩
    · intro c' d' f' hF hH
      refine H _ _ _ (wu_Fr_trans (wu_Fr_wr (by omega) (by omega)) hF) ?_
      rw [List.append_assoc] at hH
      exact hH
theorem wu_X_copy {post : St2 → Prop} {sn P V st : Int32} {c d f m sd sf : Nat → Int32} {a b : Nat} {L : wu_P} (ha : a < 34) (hb : b < 34) (hab : a ≠ b) (hL : wu_Ho c d f a L) (h16 : L.length ≤ 16)
    (H : ∀ c' d' f', wu_Fr (fun q => q = b) c d f c' d' f' → wu_Ho c' d' f' b L → post (sn, P, V, st, c', d', f', m, sd, sf)) : wpX_copyPoly post (sn, P, V, st, c, d, f, m, sd, sf) (nI a) (nI b) := by
  refine ⟨vp_in_nI ha (by decide), vp_in_nI hb (by decide), fun c' ec => ?_⟩
  subst ec
  rw [nI_clamp (by omega), nI_clamp (by omega), hL.1]
  refine ⟨L.length + 1, wu_X_copy_14 ha hb hab L [] (upd c b (nI L.length)) d f (L.length + 1) ?_ ?_ (by simpa using h16) hL.2 trivial (by omega) (fun c' d' f' hF hH => ?_)⟩
  · rw [pk_un hab, hL.1]; simp
  · rw [pk_us]; simp
  · exact H _ _ _ (wu_Fr_trans wu_Fr_cnt hF) hH
/-! degrees and classes -/
def wu_dg (v : Nat) : wu_P → Int
  | [] => -1
  | t :: L => max (wu_ex v t.1 : Int) (wu_dg v L)
theorem wu_dg_b (v : Nat) (L : wu_P) : -1 ≤ wu_dg v L ∧ wu_dg v L < 32 := by
  induction L with
  | nil => exact ⟨Int.le_refl _, (by decide : (-1 : Int) < 32)⟩
  | cons t L ih =>
    have := wu_exlt v t.1
    show -1 ≤ max (wu_ex v t.1 : Int) (wu_dg v L) ∧ max (wu_ex v t.1 : Int) (wu_dg v L) < 32
    omega
theorem wu_dg_perm {v : Nat} {L L' : wu_P} (h : List.Perm L L') : wu_dg v L = wu_dg v L' := by
  induction h with
  | nil => rfl
  | cons t _ ih => show max _ _ = max _ _; rw [ih]
  | swap a b l => show max _ (max _ _) = max _ (max _ _); omega
  | trans _ _ h1 h2 => exact h1.trans h2
theorem wu_dg_le {v : Nat} {L : wu_P} {t : Nat × Nat} (h : t ∈ L) : (wu_ex v t.1 : Int) ≤ wu_dg v L := by
  induction L with
  | nil => exact absurd h List.not_mem_nil
  | cons a L ih =>
    show _ ≤ max (wu_ex v a.1 : Int) (wu_dg v L)
    rcases List.mem_cons.mp h with rfl | h
    · omega
    · have := ih h; omega
theorem wu_dg_ge {v : Nat} {L : wu_P} {k : Int} (h0 : -1 ≤ k) (h : ∀ t, t ∈ L → (wu_ex v t.1 : Int) ≤ k) : wu_dg v L ≤ k := by
  induction L with
  | nil => exact h0
  | cons a L ih =>
    show max (wu_ex v a.1 : Int) (wu_dg v L) ≤ k
    have h1 := h a List.mem_cons_self
    have h2 := ih (fun t ht => h t (List.mem_cons_of_mem _ ht))
    omega
theorem wu_dg_at {v : Nat} {L : wu_P} (h : 0 ≤ wu_dg v L) : ∃ t, t ∈ L ∧ (wu_ex v t.1 : Int) = wu_dg v L := by
  induction L with
  | nil => exact absurd h (by decide : ¬ (0 : Int) ≤ -1)
  | cons a L ih =>
    by_cases hc : wu_dg v L ≤ (wu_ex v a.1 : Int)
    · exact ⟨a, List.mem_cons_self, by show _ = max (wu_ex v a.1 : Int) (wu_dg v L); omega⟩
    · obtain ⟨t, ht, e⟩ := ih (by omega)
      exact ⟨t, List.mem_cons_of_mem _ ht, by show _ = max (wu_ex v a.1 : Int) (wu_dg v L); omega⟩
theorem wu_dg_ne {v : Nat} {L : wu_P} (h : L ≠ []) : 0 ≤ wu_dg v L := by
  cases L with
  | nil => exact absurd rfl h
  | cons a L => show 0 ≤ max (wu_ex v a.1 : Int) (wu_dg v L); omega
theorem wu_X_deg_5 {post : Int32 → Prop} {sn P V st : Int32} {c d f m sd sf : Nat → Int32} {s v : Nat} (hs : s < 34) (hv : v < 6) :
    ∀ (R : wu_P) (j n : Nat) (k : Int), c s = nI (j + R.length) → j + R.length ≤ 16 → wu_At d f (s * 16 + j) R → (∀ t, t ∈ R → t.1 < 2147483648) → R.length < n → -1 ≤ k → k < 32 →
    post (wu_z (max k (wu_dg v R))) → wX_degree_5 post (nI s) (nI v) sn P V st c d f m sd sf n (wu_z k) (nI j) := by
  intro R
  induction R with
  | nil =>
    intro j n k hc h16 hAt hb hn h1 h2 H
    obtain ⟨n, rfl⟩ : ∃ k, n = k + 1 := ⟨n - 1, by omega⟩
    refine ⟨vp_in_nI hs (by decide), pk_le (j + 0) j (fun _ => ?_) (fun h => absurd h (by omega)) (by rw [nI_clamp (by omega)]; exact hc) rfl (by omega) (by omega)⟩
    rw [show max k (wu_dg v []) = k by show max k (-1) = k; omega] at H
    exact H
  | cons t R ih =>
    intro j n k hc h16 hAt hb hn h1 h2 H
    obtain ⟨n, rfl⟩ : ∃ k, n = k + 1 := ⟨n - 1, by omega⟩
    rw [List.length_cons] at hc h16 hn
    have hin : vp_in (nI s * 16 + nI j) 544 := pk_in (s * 16 + j) 544 (by omega) (wu_ix s j)
    have ht := hb t List.mem_cons_self
    have hx := wu_exlt v t.1
    refine ⟨vp_in_nI hs (by decide), pk_le (j + (R.length + 1)) j (fun h => absurd h (by omega)) (fun _ => ⟨hin, ?_⟩) (by rw [nI_clamp (by omega)]; exact hc) rfl (by omega) (by omega)⟩
    have e : (d (nI s * 16 + nI j).toNatClampNeg >>> ((5 * nI v) &&& 31)) &&& 31 = wu_z (wu_ex v t.1 : Int) := by
      rw [wu_ixc s j (by omega), hAt.1, wu_shr ht hv, wu_zn]
    have em : max k (wu_dg v (t :: R)) = max (max k (wu_ex v t.1 : Int)) (wu_dg v R) := by
      show max k (max (wu_ex v t.1 : Int) (wu_dg v R)) = _; omega
    rw [em] at H
    refine wu_ble (wu_ex v t.1 : Int) k (fun hle => ?_) (fun hlt => ?_) e rfl (by omega) (by omega)
    · intro x ex
      subst ex
      rw [nI_1]
      exact ih (j + 1) n k (by rw [hc]; exact congrArg nI (by omega)) (by omega) hAt.2.2 (fun s hs => hb s (List.mem_cons_of_mem _ hs)) (by omega) h1 h2 (by rw [show max k (wu_ex v t.1 : Int) = k by omega] at H; exact H)
    · intro x ex
      subst ex
      rw [nI_1]
      show wX_degree_5 post (nI s) (nI v) sn P V st c d f m sd sf n ((d (nI s * 16 + nI j).toNatClampNeg >>> ((5 * nI v) &&& 31)) &&& 31) (nI (j + 1))
      rw [e]
      exact ih (j + 1) n _ (by rw [hc]; exact congrArg nI (by omega)) (by omega) hAt.2.2 (fun s hs => hb s (List.mem_cons_of_mem _ hs)) (by omega) (by omega) (by omega) (by rw [show max k (wu_ex v t.1 : Int) = (wu_ex v t.1 : Int) by omega] at H; exact H)
theorem wu_X_deg {post : Int32 → Prop} {p : Nat} {sn P V st : Int32} {c d f m sd sf : Nat → Int32} {s v : Nat} {L : wu_P} (hs : s < 34) (hv : v < 6) (hL : wu_Ho c d f s L) (hO : wu_Ok p L) (H : post (wu_z (wu_dg v L))) : wpX_degree post (sn, P, V, st, c, d, f, m, sd, sf) (nI s) (nI v) := by
  refine ⟨L.length + 1, ?_⟩
  rw [wu_m1]
  have hb := wu_dg_b v L
  refine wu_X_deg_5 hs hv L 0 (L.length + 1) (-1) (by rw [Nat.zero_add]; exact hL.1) (by have := hO.1; omega) hL.2 (fun t ht => by have := (hO.2.2 t ht).2.2.1; omega) (by omega) (by omega) (by omega) ?_
  rw [show max (-1) (wu_dg v L) = wu_dg v L by omega]
  exact H
def wu_cv (L : wu_P) : Nat → Int
  | 0 => -1
  | v + 1 => if 1 ≤ wu_dg v L then (v : Int) else wu_cv L v
def wu_cl (nv : Nat) (L : wu_P) : Int := if L.length = 0 then -2 else wu_cv L nv
theorem wu_cv_perm {L L' : wu_P} (h : List.Perm L L') (v : Nat) : wu_cv L v = wu_cv L' v := by
  induction v with
  | zero => rfl
  | succ v ih => unfold wu_cv; rw [wu_dg_perm h, ih]
theorem wu_cl_perm {nv : Nat} {L L' : wu_P} (h : List.Perm L L') : wu_cl nv L = wu_cl nv L' := by
  unfold wu_cl; rw [h.length_eq, wu_cv_perm h]
theorem wu_cv_b (L : wu_P) (v : Nat) : -1 ≤ wu_cv L v ∧ wu_cv L v < v := by
  induction v with
  | zero => exact ⟨Int.le_refl _, (by decide : (-1 : Int) < ((0 : Nat) : Int))⟩
  | succ v ih =>
    unfold wu_cv
    by_cases h : 1 ≤ wu_dg v L
    · rw [if_pos h]; omega
    · rw [if_neg h]; omega
theorem wu_cl_b (nv : Nat) (L : wu_P) : -2 ≤ wu_cl nv L ∧ wu_cl nv L < nv := by
  unfold wu_cl
  by_cases h : L.length = 0
  · rw [if_pos h]; omega
  · rw [if_neg h]; have := wu_cv_b L nv; omega
theorem wu_X_cls_19 {post : Int32 → Prop} {p : Nat} {sn P V st : Int32} {c d f m sd sf : Nat → Int32} {s : Nat} {L : wu_P} (hs : s < 34) (hL : wu_Ho c d f s L) (hO : wu_Ok p L) :
    ∀ (v n : Nat), v ≤ 6 → v < n → post (wu_z (wu_cv L v)) → wX_slotClass_19 post (nI s) sn P V st c d f m sd sf n (wu_z ((v : Int) - 1)) := by
  intro v
  induction v with
  | zero =>
    intro n _ hn H
    obtain ⟨n, rfl⟩ : ∃ k, n = k + 1 := ⟨n - 1, by omega⟩
    exact wu_blt (-1) 0 (fun _ => by rw [wu_m1]; exact H) (fun h => absurd h (by decide)) rfl wu_z0 (by omega) (by omega)
  | succ v ih =>
    intro n hv hn H
    obtain ⟨n, rfl⟩ : ∃ k, n = k + 1 := ⟨n - 1, by omega⟩
    have e : ((v + 1 : Nat) : Int) - 1 = (v : Int) := by omega
    rw [e]
    refine wu_blt (v : Int) 0 (fun h => absurd h (by omega)) (fun _ => ?_) rfl wu_z0 (by omega) (by omega)
    rw [wu_zn]
    have hb := wu_dg_b v L
    refine wu_X_deg hs (by omega) hL hO ?_
    unfold wu_cv at H
    refine wu_blt (wu_dg v L) 1 (fun hlt => ?_) (fun hle => ?_) rfl (by decide) (by omega) (by omega)
    · intro x ex
      subst ex
      rw [wu_zn1]
      rw [if_neg (by omega)] at H
      exact ih n (by omega) (by omega) H
    · rw [if_pos hle, wu_zn] at H
      exact H
theorem wu_X_cls {post : Int32 → Prop} {p nv : Nat} {sn P st : Int32} {c d f m sd sf : Nat → Int32} {s : Nat} {L : wu_P} (hnv : nv ≤ 6) (hs : s < 34) (hL : wu_Ho c d f s L) (hO : wu_Ok p L) (H : post (wu_z (wu_cl nv L))) : wpX_slotClass post (sn, P, nI nv, st, c, d, f, m, sd, sf) (nI s) := by
  have h16 := hO.1
  refine ⟨vp_in_nI hs (by decide), ?_⟩
  unfold wu_cl at H
  refine pk_eq L.length 0 (fun h => ?_) (fun h => ?_) (by rw [nI_clamp (by omega)]; exact hL.1) rfl (by omega) (by omega)
  · rw [if_pos h] at H
    rw [show (-2 : Int32) = wu_z (-2) from by decide]
    exact H
  · intro x ex
    subst ex
    rw [if_neg h] at H
    rw [wu_zs1]
    exact ⟨nv + 1, wu_X_cls_19 hs hL hO nv (nv + 1) hnv (by omega) H⟩
/-! a coefficient -/
def wu_pt (v e K : Nat) (L : wu_P) : wu_P := (L.filter (fun t => decide (wu_ex v t.1 = e))).map (fun t => (t.1 - K, t.2))
theorem wu_pt_pos {v e K : Nat} {t : Nat × Nat} {L : wu_P} (h : wu_ex v t.1 = e) : wu_pt v e K (t :: L) = (t.1 - K, t.2) :: wu_pt v e K L := by
  unfold wu_pt; rw [List.filter_cons_of_pos (by simp [h]), List.map_cons]
theorem wu_pt_neg {v e K : Nat} {t : Nat × Nat} {L : wu_P} (h : wu_ex v t.1 ≠ e) : wu_pt v e K (t :: L) = wu_pt v e K L := by
  unfold wu_pt; rw [List.filter_cons_of_neg (by simp [h])]
theorem wu_pt_len (v e K : Nat) (L : wu_P) : (wu_pt v e K L).length ≤ L.length := by
  unfold wu_pt; rw [List.length_map]; exact List.length_filter_le _ _
theorem wu_X_coef_16 {post : St2 → Prop} {sn P V st : Int32} {m sd sf : Nat → Int32} {a b v e K : Nat} {x6 : Int32} (ha : a < 34) (hb : b < 34) (hab : a ≠ b) (hv : v < 6) (he : e < 32) (hx6 : x6 = wu_z (-(K : Int))) :
    ∀ (R N : wu_P) (j : Nat) (c d f : Nat → Int32) (n : Nat), c a = nI (j + R.length) → j + R.length ≤ 16 → N.length ≤ j → wu_At d f (a * 16 + j) R → wu_At d f (b * 16) N → (∀ t, t ∈ R → t.1 < 2147483648 ∧ (wu_ex v t.1 = e → K ≤ t.1)) → R.length < n →
    (∀ c' d' f', wu_Fr (fun q => q = b) c d f c' d' f' → wu_Ho c' d' f' b (N ++ wu_pt v e K R) → post (sn, P, V, st, c', d', f', m, sd, sf)) →
    wX_copyCoefficient_16 post (nI a) (nI v) (nI e) (nI b) x6 sn P V st n (nI N.length) (nI j) c d f m sd sf := by
  intro R
  induction R with
  | nil =>
    intro N j c d f n hc h16 hNj hA hN hR hn H
    obtain ⟨n, rfl⟩ : ∃ k, n = k + 1 := ⟨n - 1, by omega⟩
    refine ⟨vp_in_nI ha (by decide), pk_le (j + 0) j (fun _ => ⟨vp_in_nI hb (by decide), fun c' ec => ?_⟩) (fun h => absurd h (by omega)) (by rw [nI_clamp (by omega)]; exact hc) rfl (by omega) (by omega)⟩
    subst ec
    rw [nI_clamp (by omega)]
    refine H _ _ _ wu_Fr_cnt ?_
    rw [show wu_pt v e K [] = [] from rfl, List.append_nil]
    exact ⟨pk_us, hN⟩
  | cons t R ih =>
    intro N j c d f n hc h16 hNj hA hN hR hn H
    obtain ⟨n, rfl⟩ : ∃ k, n = k + 1 := ⟨n - 1, by omega⟩
    rw [List.length_cons] at hc h16 hn
    have ht := hR t List.mem_cons_self
    have hia : vp_in (nI a * 16 + nI j) 544 := pk_in (a * 16 + j) 544 (by omega) (wu_ix a _)
    have hib : vp_in (nI b * 16 + nI N.length) 544 := pk_in (b * 16 + N.length) 544 (by omega) (wu_ix b _)
    refine ⟨vp_in_nI ha (by decide), pk_le (j + (R.length + 1)) j (fun h => absurd h (by omega)) (fun _ => ⟨hia, fun x9 e9 => ?_⟩) (by rw [nI_clamp (by omega)]; exact hc) rfl (by omega) (by omega)⟩
    rw [wu_ixc a j (by omega), hA.1] at e9
    subst e9
    have hx := wu_exlt v t.1
    refine pk_eq (wu_ex v t.1) e (fun heq => ?_) (fun hne => ?_) (wu_shr ht.1 hv) rfl (by omega) (by omega)
    · refine ⟨hib, fun d' ed => ⟨hia, hib, fun f' ef => fun x ex y ey => ?_⟩⟩
      subst ed ef ex ey
      rw [wu_ixc b N.length (by omega), wu_ixc a j (by omega), hA.2.1, nI_1, nI_1]
      have ec : nI t.1 + x6 = nI (t.1 - K) := by
        have := ht.2 heq
        rw [hx6, ← wu_zn, wu_zadd, ← wu_zn]; exact congrArg wu_z (by omega)
      rw [ec]
      have := ih (N ++ [(t.1 - K, t.2)]) (j + 1) c (upd d (b * 16 + N.length) (nI (t.1 - K))) (upd f (b * 16 + N.length) (nI t.2)) n (by rw [hc]; exact congrArg nI (by omega)) (by omega) (by rw [wu_len1]; omega) ?_ (wu_At_snoc (t := (t.1 - K, t.2)) hN) (fun s hs => hR s (List.mem_cons_of_mem _ hs)) (by omega) ?_
      · rw [wu_len1] at this; exact this
      · refine wu_At_congr R _ (fun i hi hi' => ?_) hA.2.2
        have : i ≠ b * 16 + N.length := by
          intro e
          exact hab (by omega)
        exact ⟨pk_un this, pk_un this⟩
      · intro c' d' f' hF hH
        refine H _ _ _ (wu_Fr_trans (wu_Fr_wr (by omega) (by omega)) hF) ?_
        rw [wu_pt_pos heq]
        rw [List.append_assoc] at hH
        exact hH
    · intro y ey
      subst ey
      rw [nI_1]
      refine ih N (j + 1) c d f n (by rw [hc]; exact congrArg nI (by omega)) (by omega) (by omega) hA.2.2 hN (fun s hs => hR s (List.mem_cons_of_mem _ hs)) (by omega) ?_
      intro c' d' f' hF hH
      refine H _ _ _ hF ?_
      rw [wu_pt_neg hne]
      exact hH
theorem wu_X_coef {post : St2 → Prop} {p : Nat} {sn P V st : Int32} {c d f m sd sf : Nat → Int32} {a b v e e' : Nat} {L : wu_P} (ha : a < 34) (hb : b < 34) (hab : a ≠ b) (hv : v < 6) (he : e < 32) (hle : e' ≤ e) (hL : wu_Ho c d f a L) (hO : wu_Ok p L)
    (H : ∀ c' d' f', wu_Fr (fun q => q = b) c d f c' d' f' → wu_Ho c' d' f' b (wu_pt v e ((e - e') * 32 ^ v) L) → post (sn, P, V, st, c', d', f', m, sd, sf)) :
    wpX_copyCoefficient post (sn, P, V, st, c, d, f, m, sd, sf) (nI a) (nI v) (nI e) (nI b) (nI e') := by
  intro x6 e6
  have hx6 : x6 = wu_z (-(((e - e') * 32 ^ v : Nat) : Int)) := by
    rw [e6, wu_shl5 _ hv, ← wu_zn, ← wu_zn, ← wu_zn, wu_zsub, wu_zmul]
    refine congrArg wu_z ?_
    rw [Int.natCast_mul, Int.natCast_sub hle, ← Int.neg_mul]
    congr 1
    omega
  refine ⟨L.length + 1, wu_X_coef_16 ha hb hab hv he hx6 L [] 0 c d f (L.length + 1) (by rw [Nat.zero_add]; exact hL.1) (by have := hO.1; omega) (Nat.le_refl _) hL.2 trivial (fun t ht => ⟨by have := (hO.2.2 t ht).2.2.1; omega, fun z => ?_⟩) (by omega) H⟩
  exact (wu_down hv z (by omega) (hO.2.2 t ht).2.2).1
end
section
/-! the reference's buffer -/
/-! its products -/
theorem wu_neg {p x y : Nat} (hp : 0 < p) : (p - x * y % p) % p = x * (p - 1) % p * y % p := by
  rw [Nat.mod_mul_mod]
  have e1 : x * (p - 1) * y + x * y = x * y * p := by
    obtain ⟨q, rfl⟩ : ∃ q, p = q + 1 := ⟨p - 1, by omega⟩
    rw [Nat.add_sub_cancel, Nat.mul_add, Nat.mul_one, Nat.mul_right_comm x q y]
  generalize x * (p - 1) * y = u at e1 ⊢
  generalize x * y = q at e1 ⊢
  have h1 : (u % p + q % p) % p = 0 := by rw [← Nat.add_mod, e1]; exact Nat.mul_mod_left _ _
  have hu := Nat.mod_lt u hp
  have hq := Nat.mod_lt q hp
  by_cases hlt : u % p + q % p < p
  · rw [Nat.mod_eq_of_lt hlt] at h1
    rw [show p - q % p = p by omega, Nat.mod_self]; omega
  · rw [Nat.mod_eq_sub_mod (by omega), Nat.mod_eq_of_lt (by omega)] at h1
    rw [Nat.mod_eq_of_lt (by omega)]; omega
theorem wu_mul1 {p x y : Nat} : x * 1 % p * y % p = x * y % p := by rw [Nat.mul_one, Nat.mod_mul_mod]
def wu_sh (sh : Nat) (I : wu_P) : wu_P := I.map (fun i => (i.1 + sh, i.2))
theorem wu_sh_cons (sh : Nat) (t : Nat × Nat) (R : wu_P) : wu_sh sh (t :: R) = (t.1 + sh, t.2) :: wu_sh sh R := rfl
/-! storing -/
end
section
/-! the reference's slots -/
theorem wu_At_mv {d f d' f' : Nat → Int32} {x y : Nat} {L : wu_P} (h : wu_At d f x L) (g : ∀ j, j < L.length → d' (y + j) = d (x + j) ∧ f' (y + j) = f (x + j)) : wu_At d' f' y L :=
  wu_At_of L y (fun j hj => ⟨(g j hj).1.trans (wu_At_get L x j hj h).1, (g j hj).2.trans (wu_At_get L x j hj h).2⟩)
theorem wu_dg_nat {p v : Nat} {L : wu_P} (hv : v < 6) (hO : wu_Ok p L) (hne : L ≠ []) : ∃ e : Nat, wu_dg v L = (e : Int) ∧ e ≤ 15 := by
  have h0 := wu_dg_ne (v := v) hne
  have h1 : wu_dg v L ≤ 15 := wu_dg_ge (by omega) (fun t ht => by have := (hO.2.2 t ht).2.2.2 v hv; omega)
  exact ⟨(wu_dg v L).toNat, by omega, by omega⟩
theorem wu_X_init {post : St2 → Prop} {p : Nat} {sn P V st : Int32} {c d f m sd sf : Nat → Int32} {a v e : Nat} {L : wu_P} (ha : a < 30) (hv : v < 6) (hL : wu_Ho c d f a L) (hO : wu_Ok p L) (hd : wu_dg v L = (e : Int))
    (H : ∀ c' d' f', wu_Fr (fun q => q = 30) c d f c' d' f' → wu_Ho c' d' f' 30 (wu_pt v e (e * 32 ^ v) L) → post (sn, P, V, st, c', d', f', m, sd, sf)) :
    wpX_copyInitial post (sn, P, V, st, c, d, f, m, sd, sf) (nI a) (nI v) := by
  have hb := wu_dg_b v L
  unfold wpX_copyInitial
  try dsimp only
  refine wu_X_deg (by omega) hv hL hO ?_
  rw [hd, wu_zn]
  exact wu_X_coef (b := 30) (e' := 0) (by omega) (by omega) (by omega) hv (by omega) (by omega) hL hO (fun c' d' f' hF hH => H c' d' f' hF hH)
end
section
/-! pseudo-division on lists -/
def wu_ld (v m : Nat) (a : wu_P) : wu_P := if wu_dg v a < (m : Int) then [] else wu_pt v (wu_dg v a).toNat (m * 32 ^ v) a
noncomputable def wu_rd (p v m : Nat) (I b : wu_P) (w : Bool) (a q : wu_P) : Option (wu_P × wu_P) :=
  (wu_st p (wu_mul p 1 I a ++ wu_mul p (p - 1) (wu_ld v m a) b)).bind fun a' =>
    (if w = true then wu_st p (wu_mul p 1 I q ++ wu_ld v m a) else some q).bind fun q' => some (a', q')
noncomputable def wu_rds (p v m : Nat) (I b : wu_P) (w : Bool) : Nat → wu_P → wu_P → Option (wu_P × wu_P)
  | 0, a, q => some (a, q)
  | n + 1, a, q => (wu_rd p v m I b w a q).bind fun r => wu_rds p v m I b w n r.1 r.2
def wu_in (v : Nat) (b : wu_P) : wu_P := wu_pt v (wu_dg v b).toNat ((wu_dg v b).toNat * 32 ^ v) b
def wu_kk (v : Nat) (a b : wu_P) : Nat := (wu_dg v a - wu_dg v b + 1).toNat
noncomputable def wu_dv (p v : Nat) (b : wu_P) (w : Bool) (a q : wu_P) : Option (wu_P × wu_P) :=
  wu_rds p v (wu_dg v b).toNat (wu_in v b) b w (wu_kk v a b) a q
theorem wu_rd_n1 {p v m : Nat} {I b a q : wu_P} {w : Bool} (h : wu_st p (wu_mul p 1 I a ++ wu_mul p (p - 1) (wu_ld v m a) b) = none) : wu_rd p v m I b w a q = none := by
  unfold wu_rd; rw [h]; rfl
theorem wu_rd_n2 {p v m : Nat} {I b a q a' : wu_P} (h : wu_st p (wu_mul p 1 I a ++ wu_mul p (p - 1) (wu_ld v m a) b) = some a') (h2 : wu_st p (wu_mul p 1 I q ++ wu_ld v m a) = none) : wu_rd p v m I b true a q = none := by
  unfold wu_rd; rw [h, if_pos rfl, h2]; rfl
theorem wu_rd_s1 {p v m : Nat} {I b a q a' : wu_P} (h : wu_st p (wu_mul p 1 I a ++ wu_mul p (p - 1) (wu_ld v m a) b) = some a') : wu_rd p v m I b false a q = some (a', q) := by
  unfold wu_rd; rw [h, if_neg (by decide)]; rfl
theorem wu_rd_s2 {p v m : Nat} {I b a q a' q' : wu_P} (h : wu_st p (wu_mul p 1 I a ++ wu_mul p (p - 1) (wu_ld v m a) b) = some a') (h2 : wu_st p (wu_mul p 1 I q ++ wu_ld v m a) = some q') : wu_rd p v m I b true a q = some (a', q') := by
  unfold wu_rd; rw [h, if_pos rfl, h2]; rfl
theorem wu_rd_i {p v m : Nat} {I b a q a' q' : wu_P} {w : Bool} (h : wu_rd p v m I b w a q = some (a', q')) : wu_st p (wu_mul p 1 I a ++ wu_mul p (p - 1) (wu_ld v m a) b) = some a' ∧ ((w = true ∧ wu_st p (wu_mul p 1 I q ++ wu_ld v m a) = some q') ∨ (w = false ∧ q' = q)) := by
  cases h1 : wu_st p (wu_mul p 1 I a ++ wu_mul p (p - 1) (wu_ld v m a) b) with
  | none => rw [wu_rd_n1 h1] at h; exact absurd h (by simp)
  | some a'' =>
    cases w with
    | false =>
      rw [wu_rd_s1 h1] at h
      have := Prod.mk.inj (Option.some.inj h)
      exact ⟨by rw [this.1], Or.inr ⟨rfl, this.2.symm⟩⟩
    | true =>
      cases h2 : wu_st p (wu_mul p 1 I q ++ wu_ld v m a) with
      | none => rw [wu_rd_n2 h1 h2] at h; exact absurd h (by simp)
      | some q'' =>
        rw [wu_rd_s2 h1 h2] at h
        have := Prod.mk.inj (Option.some.inj h)
        exact ⟨by rw [this.1], Or.inl ⟨rfl, by rw [this.2]⟩⟩
theorem wu_rds_n {p v m n : Nat} {I b a q : wu_P} {w : Bool} (h : wu_rd p v m I b w a q = none) : wu_rds p v m I b w (n + 1) a q = none := by
  rw [wu_rds, h]; rfl
theorem wu_rds_s {p v m n : Nat} {I b a q a' q' : wu_P} {w : Bool} (h : wu_rd p v m I b w a q = some (a', q')) : wu_rds p v m I b w (n + 1) a q = wu_rds p v m I b w n a' q' := by
  rw [wu_rds, h]; rfl
/-! the parts keep what a slot may hold -/
theorem wu_pt_mem {v e K : Nat} {L : wu_P} {x : Nat × Nat} (h : x ∈ wu_pt v e K L) : ∃ t, t ∈ L ∧ wu_ex v t.1 = e ∧ x = (t.1 - K, t.2) := by
  unfold wu_pt at h
  obtain ⟨t, ht, rfl⟩ := List.mem_map.mp h
  rw [List.mem_filter, decide_eq_true_eq] at ht
  exact ⟨t, ht.1, ht.2, rfl⟩
theorem wu_pt_Cp {p v e k : Nat} {L : wu_P} (hv : v < 6) (hk : k ≤ e) (h : wu_Cp p L) : wu_Cp p (wu_pt v e (k * 32 ^ v) L) := by
  have hs : wu_Srt (wu_pt v e (k * 32 ^ v) L) := by
    unfold wu_Srt wu_pt
    rw [List.pairwise_map]
    have h1 : List.Pairwise (fun a b : Nat × Nat => a.1 < b.1) (L.filter (fun t => decide (wu_ex v t.1 = e))) := List.Pairwise.sublist List.filter_sublist h.1
    refine List.Pairwise.imp_of_mem (fun {a b} ha hb hab => ?_) h1
    rw [List.mem_filter, decide_eq_true_eq] at ha hb
    have g1 := (wu_down hv ha.2 hk (h.2.2.2 a ha.1).2.2).1
    have g2 := (wu_down hv hb.2 hk (h.2.2.2 b hb.1).2.2).1
    dsimp only
    omega
  refine ⟨hs, Nat.le_trans (wu_pt_len _ _ _ _) h.2.1, wu_Srt_nd hs, fun x hx => ?_⟩
  obtain ⟨t, ht, he, rfl⟩ := wu_pt_mem hx
  exact ⟨(h.2.2.2 t ht).1, (h.2.2.2 t ht).2.1, (wu_down hv he hk (h.2.2.2 t ht).2.2).2.1⟩
theorem wu_pt_perm {v e K : Nat} {L L' : wu_P} (h : List.Perm L L') : List.Perm (wu_pt v e K L) (wu_pt v e K L') := (h.filter _).map _
theorem wu_ld_Cp {p v m : Nat} {a : wu_P} (hv : v < 6) (h : wu_Cp p a) : wu_Cp p (wu_ld v m a) := by
  unfold wu_ld
  by_cases hd : wu_dg v a < (m : Int)
  · rw [if_pos hd]; exact wu_Cp_nil
  · rw [if_neg hd]; exact wu_pt_Cp hv (by omega) h
theorem wu_in_Cp {p v : Nat} {b : wu_P} (hv : v < 6) (h : wu_Cp p b) : wu_Cp p (wu_in v b) := wu_pt_Cp hv (Nat.le_refl _) h
theorem wu_mul_perm {p sc : Nat} {I I' L L' : wu_P} (h : List.Perm I I') (h' : List.Perm L L') : List.Perm (wu_mul p sc I L) (wu_mul p sc I' L') := by
  have h1 : List.Perm (wu_mul p sc I L) (wu_mul p sc I' L) := List.Perm.flatMap_right _ h
  refine h1.trans ?_
  clear h h1
  induction I' with
  | nil => exact List.Perm.refl _
  | cons i I' ih => rw [wu_mul_cons, wu_mul_cons]; exact List.Perm.append (h'.map _) ih
theorem wu_rd_Cp {p v m : Nat} {I b a q a' q' : wu_P} {w : Bool} (hp : 2 ≤ p) (hv : v < 6) (hI : wu_Cp p I) (hb : wu_Cp p b) (ha : wu_Cp p a) (hq : wu_Cp p q) (h : wu_rd p v m I b w a q = some (a', q')) : wu_Cp p a' ∧ wu_Cp p q' := by
  obtain ⟨h1, h2⟩ := wu_rd_i h
  have hl := wu_ld_Cp (m := m) hv ha
  refine ⟨(wu_st_sp (wu_Ad_app (wu_mul_Ad (by omega) hI.2 ha.2) (wu_mul_Ad (by omega) hl.2 hb.2)) h1).1, ?_⟩
  rcases h2 with ⟨_, h2⟩ | ⟨_, rfl⟩
  · exact (wu_st_sp (wu_Ad_app (wu_mul_Ad (by omega) hI.2 hq.2) (wu_Ok_Ad hl.2)) h2).1
  · exact hq
theorem wu_rds_Cp {p v m : Nat} {I b : wu_P} {w : Bool} (hp : 2 ≤ p) (hv : v < 6) (hI : wu_Cp p I) (hb : wu_Cp p b) : ∀ (n : Nat) (a q a' q' : wu_P), wu_Cp p a → wu_Cp p q → wu_rds p v m I b w n a q = some (a', q') → wu_Cp p a' ∧ wu_Cp p q' := by
  intro n
  induction n with
  | zero =>
    intro a q a' q' ha hq h
    rw [wu_rds] at h
    have := Prod.mk.inj (Option.some.inj h)
    rw [← this.1, ← this.2]; exact ⟨ha, hq⟩
  | succ n ih =>
    intro a q a' q' ha hq h
    cases h1 : wu_rd p v m I b w a q with
    | none => rw [wu_rds_n h1] at h; exact absurd h (by simp)
    | some r =>
      obtain ⟨a1, q1⟩ := r
      rw [wu_rds_s h1] at h
      have := wu_rd_Cp hp hv hI hb ha hq h1
      exact ih a1 q1 a' q' this.1 this.2 h
theorem wu_dv_Cp {p v : Nat} {b a q a' q' : wu_P} {w : Bool} (hp : 2 ≤ p) (hv : v < 6) (hb : wu_Cp p b) (ha : wu_Cp p a) (hq : wu_Cp p q) (h : wu_dv p v b w a q = some (a', q')) : wu_Cp p a' ∧ wu_Cp p q' :=
  wu_rds_Cp hp hv (wu_in_Cp hv hb) hb _ a q a' q' ha hq h
theorem wu_kk_le {p v : Nat} {a b : wu_P} (hv : v < 6) (ha : wu_Ok p a) (hb : b ≠ []) : wu_kk v a b ≤ 16 := by
  have h0 := wu_dg_ne (v := v) hb
  have h1 : wu_dg v a ≤ 15 := wu_dg_ge (by omega) (fun t ht => by have := (ha.2.2 t ht).2.2.2 v hv; omega)
  unfold wu_kk
  omega
/-! the degree falls -/
theorem wu_st_mem {p : Nat} {A L : wu_P} (hA : wu_Ad p A) (h : wu_st p A = some L) {t : Nat × Nat} (ht : t ∈ L) : wu_cf A t.1 % p ≠ 0 ∧ ∃ s, s ∈ A ∧ s.1 = t.1 := by
  obtain ⟨hC, hE⟩ := wu_st_sp hA h
  have b := hC.2.2.2 t ht
  have e := hE t.1
  rw [wu_cf_mem hC.2.2.1 ht, Nat.mod_eq_of_lt b.2.1] at e
  have hne : wu_cf A t.1 % p ≠ 0 := by omega
  refine ⟨hne, wu_cf_pos (fun z => hne ?_)⟩
  rw [z]; exact Nat.zero_mod p
/-- a bound on the exponents of a product -/
theorem wu_mul_ex {p sc v : Nat} {I L : wu_P} {x : Nat × Nat} (hv : v < 6) (hI : wu_Ok p I) (hL : wu_Ok p L) (h : x ∈ wu_mul p sc I L) : ∃ i, i ∈ I ∧ ∃ t, t ∈ L ∧ x.1 = i.1 + t.1 ∧ wu_ex v x.1 = wu_ex v i.1 + wu_ex v t.1 := by
  obtain ⟨i, hi, t, ht, rfl⟩ := wu_mul_mem h
  exact ⟨i, hi, t, ht, rfl, (wu_Sm_add (hI.2.2 i hi).2.2 (hL.2.2 t ht).2.2).2 v hv⟩
theorem wu_in_ex {p v w : Nat} {b : wu_P} (hv : v < 6) (hw : w < 6) (hb : wu_Ok p b) (hne : b ≠ []) {x : Nat × Nat} (h : x ∈ wu_in v b) : wu_ex v x.1 = 0 ∧ ((wu_ex w x.1 : Int) ≤ wu_dg w b) := by
  obtain ⟨t, ht, he, rfl⟩ := wu_pt_mem h
  have g := wu_down hv he (Nat.le_refl _) (hb.2.2 t ht).2.2
  have z : wu_ex v (t.1 - (wu_dg v b).toNat * 32 ^ v) = 0 := by rw [g.2.2.1]; omega
  refine ⟨z, ?_⟩
  by_cases hwv : w = v
  · subst hwv
    have := wu_dg_ne (v := w) hne
    dsimp only
    rw [z]; omega
  · dsimp only
    rw [g.2.2.2 w hw hwv]; exact wu_dg_le ht
/-- sums over products, one code: the inner list -/
theorem wu_cf_map1 (p k ic x : Nat) (L : wu_P) : wu_cf (L.map (fun t => (ic + t.1, k * t.2 % p))) x % p = (if ic ≤ x then k * wu_cf L (x - ic) else 0) % p := by
  induction L with
  | nil => simp [wu_cf]
  | cons t L ih =>
    rw [List.map_cons, wu_cf, wu_cf]
    by_cases h : ic ≤ x
    · rw [if_pos h] at ih ⊢
      by_cases g : ic + t.1 = x
      · rw [if_pos g, if_pos (by omega), Nat.mod_add_mod, Nat.add_mod, ih, ← Nat.add_mod, Nat.mul_add]
      · rw [if_neg g, if_neg (by omega), Nat.zero_add, Nat.zero_add]; exact ih
    · rw [if_neg h] at ih ⊢
      rw [if_neg (by omega), Nat.zero_add]; exact ih
/-! sums over lists -/
def wu_s1 (g : Nat × Nat → Nat) : wu_P → Nat
  | [] => 0
  | t :: L => g t + wu_s1 g L
theorem wu_s1_app (g : Nat × Nat → Nat) (A B : wu_P) : wu_s1 g (A ++ B) = wu_s1 g A + wu_s1 g B := by
  induction A with
  | nil => simp [wu_s1]
  | cons t A ih => rw [List.cons_append, wu_s1, wu_s1, ih, Nat.add_assoc]
theorem wu_s1_map (g : Nat × Nat → Nat) (h : Nat × Nat → Nat × Nat) (L : wu_P) : wu_s1 g (L.map h) = wu_s1 (fun t => g (h t)) L := by
  induction L with
  | nil => rfl
  | cons t L ih => rw [List.map_cons, wu_s1, wu_s1, ih]
theorem wu_s1_fil (g : Nat × Nat → Nat) (P : Nat × Nat → Bool) (L : wu_P) : wu_s1 g (L.filter P) = wu_s1 (fun t => if P t = true then g t else 0) L := by
  induction L with
  | nil => rfl
  | cons t L ih =>
    by_cases h : P t = true
    · rw [List.filter_cons_of_pos h, wu_s1, wu_s1, ih, if_pos h]
    · rw [List.filter_cons_of_neg h, wu_s1, ih, if_neg h, Nat.zero_add]
theorem wu_s1_zero (L : wu_P) : wu_s1 (fun _ => 0) L = 0 := by
  induction L with
  | nil => rfl
  | cons t L ih => rw [wu_s1, ih]
theorem wu_s1_add (g h : Nat × Nat → Nat) (L : wu_P) : wu_s1 g L + wu_s1 h L = wu_s1 (fun t => g t + h t) L := by
  induction L with
  | nil => rfl
  | cons t L ih => rw [wu_s1, wu_s1, wu_s1, ← ih]; omega
theorem wu_s1_swap (g : Nat × Nat → Nat × Nat → Nat) (A B : wu_P) : wu_s1 (fun a => wu_s1 (fun b => g a b) B) A = wu_s1 (fun b => wu_s1 (fun a => g a b) A) B := by
  induction A with
  | nil => exact (wu_s1_zero B).symm
  | cons a A ih => rw [wu_s1, ih, wu_s1_add]; rfl
theorem wu_s1_mod {p : Nat} (g : Nat × Nat → Nat) (L : wu_P) (h : ∀ t, t ∈ L → g t % p = 0) : wu_s1 g L % p = 0 := by
  induction L with
  | nil => exact Nat.zero_mod p
  | cons t L ih =>
    rw [wu_s1, Nat.add_mod, h t List.mem_cons_self, ih (fun s hs => h s (List.mem_cons_of_mem _ hs)), Nat.zero_add, Nat.zero_mod]
theorem wu_cf_s1 (L : wu_P) (x : Nat) : wu_cf L x = wu_s1 (fun t => if t.1 = x then t.2 else 0) L := by
  induction L with
  | nil => rfl
  | cons t L ih => rw [wu_cf, wu_s1, ih]
theorem wu_cf_mul (p sc x : Nat) (I L : wu_P) : wu_cf (wu_mul p sc I L) x = wu_s1 (fun i => wu_s1 (fun t => if i.1 + t.1 = x then i.2 * sc % p * t.2 % p else 0) L) I := by
  induction I with
  | nil => rfl
  | cons i I ih => rw [wu_mul_cons, wu_cf_app, ih, wu_cf_s1, wu_s1_map]; rfl
theorem wu_s1_congr (g h : Nat × Nat → Nat) (L : wu_P) (e : ∀ t, t ∈ L → g t = h t) : wu_s1 g L = wu_s1 h L := by
  induction L with
  | nil => rfl
  | cons t L ih => rw [wu_s1, wu_s1, e t List.mem_cons_self, ih (fun s hs => e s (List.mem_cons_of_mem _ hs))]
theorem wu_canc {p x y : Nat} (hp : 2 ≤ p) : (x * 1 % p * y % p + y * (p - 1) % p * x % p) % p = 0 := by
  rw [wu_mul1, ← wu_neg (by omega), Nat.mul_comm y x]
  generalize x * y = q
  have hq := Nat.mod_lt q (show 0 < p by omega)
  rw [Nat.add_mod_mod, show q % p + (p - q % p) = p by omega, Nat.mod_self]
theorem wu_lead {p v m e x : Nat} {a b : wu_P} (hp : 2 ≤ p) (hv : v < 6) (ha : wu_Ok p a) (hb : wu_Ok p b) (hm : wu_dg v b = (m : Int)) (he : wu_dg v a = (e : Int)) (hme : m ≤ e) (hx : wu_ex v x = e) :
    wu_cf (wu_mul p 1 (wu_in v b) a ++ wu_mul p (p - 1) (wu_ld v m a) b) x % p = 0 := by
  have e1 : wu_in v b = wu_pt v m (m * 32 ^ v) b := by unfold wu_in; rw [hm]; rfl
  have e2 : wu_ld v m a = wu_pt v e (m * 32 ^ v) a := by unfold wu_ld; rw [he, if_neg (by omega)]; rfl
  rw [wu_cf_app, wu_cf_mul, wu_cf_mul, e1, e2]
  unfold wu_pt
  rw [wu_s1_map, wu_s1_map, wu_s1_fil, wu_s1_fil]
  have r1 : wu_s1 (fun t => if decide (wu_ex v t.1 = e) = true then wu_s1 (fun u => if t.1 - m * 32 ^ v + u.1 = x then t.2 * (p - 1) % p * u.2 % p else 0) b else 0) a = wu_s1 (fun t => wu_s1 (fun u => if wu_ex v t.1 = e ∧ t.1 - m * 32 ^ v + u.1 = x then t.2 * (p - 1) % p * u.2 % p else 0) b) a := by
    refine wu_s1_congr _ _ _ (fun t _ => ?_)
    by_cases h : wu_ex v t.1 = e
    · rw [if_pos (by simp [h])]
      exact wu_s1_congr _ _ _ (fun u _ => by simp [h])
    · rw [if_neg (by simp [h])]
      exact (wu_s1_zero b).symm.trans (wu_s1_congr _ _ _ (fun u _ => by simp [h]))
  have r2 : wu_s1 (fun u => if decide (wu_ex v u.1 = m) = true then wu_s1 (fun t => if u.1 - m * 32 ^ v + t.1 = x then u.2 * 1 % p * t.2 % p else 0) a else 0) b = wu_s1 (fun u => wu_s1 (fun t => if wu_ex v u.1 = m ∧ u.1 - m * 32 ^ v + t.1 = x then u.2 * 1 % p * t.2 % p else 0) a) b := by
    refine wu_s1_congr _ _ _ (fun u _ => ?_)
    by_cases h : wu_ex v u.1 = m
    · rw [if_pos (by simp [h])]
      exact wu_s1_congr _ _ _ (fun t _ => by simp [h])
    · rw [if_neg (by simp [h])]
      exact (wu_s1_zero a).symm.trans (wu_s1_congr _ _ _ (fun t _ => by simp [h]))
  rw [r1, r2, wu_s1_swap _ a b, wu_s1_add]
  refine wu_s1_mod _ _ (fun u hu => ?_)
  try dsimp only
  rw [wu_s1_add]
  refine wu_s1_mod _ _ (fun t ht => ?_)
  try dsimp only
  have su := (hb.2.2 u hu).2.2
  have stt := (ha.2.2 t ht).2.2
  by_cases hu' : wu_ex v u.1 = m
  · have du := wu_down hv hu' (Nat.le_refl _) su
    by_cases ht' : wu_ex v t.1 = e
    · have dt := wu_down hv ht' hme stt
      by_cases q : u.1 - m * 32 ^ v + t.1 = x
      · rw [if_pos ⟨hu', q⟩, if_pos ⟨ht', by omega⟩]
        exact wu_canc hp
      · rw [if_neg (fun z => q z.2), if_neg (fun z => q (by omega))]
        exact Nat.zero_mod p
    · rw [if_neg, if_neg (fun z => ht' z.1)]
      · exact Nat.zero_mod p
      · rintro ⟨_, q⟩
        have := (wu_Sm_add du.2.1 stt).2 v hv
        rw [q, hx, du.2.2.1] at this
        exact ht' (by omega)
  · rw [if_neg (fun z => hu' z.1), if_neg]
    · exact Nat.zero_mod p
    · rintro ⟨ht', q⟩
      have dt := wu_down hv ht' hme stt
      have := (wu_Sm_add dt.2.1 su).2 v hv
      rw [q, hx, dt.2.2.1] at this
      exact hu' (by omega)
theorem wu_rd_dg {p v m : Nat} {b a q a' q' : wu_P} {w : Bool} (hp : 2 ≤ p) (hv : v < 6) (hb : wu_Cp p b) (hne : b ≠ []) (hm : wu_dg v b = (m : Int)) (ha : wu_Cp p a) (h : wu_rd p v m (wu_in v b) b w a q = some (a', q')) :
    wu_dg v a' ≤ wu_dg v a ∧ ((m : Int) ≤ wu_dg v a → wu_dg v a' < wu_dg v a) ∧ (∀ u, u < 6 → u ≠ v → wu_dg u a ≤ 0 → wu_dg u b ≤ 0 → wu_dg u a' ≤ 0) := by
  obtain ⟨h1, _⟩ := wu_rd_i h
  have hI := wu_in_Cp hv hb
  have hl := wu_ld_Cp (m := m) hv ha
  have hAd := wu_Ad_app (wu_mul_Ad (sc := 1) (show 0 < p by omega) hI.2 ha.2) (wu_mul_Ad (sc := p - 1) (show 0 < p by omega) hl.2 hb.2)
  have bda := wu_dg_b v a
  have key : ∀ t, t ∈ a' → (wu_ex v t.1 : Int) ≤ wu_dg v a := by
    intro t ht
    obtain ⟨_, s, hs, es⟩ := wu_st_mem hAd h1 ht
    rw [← es]
    rcases List.mem_append.mp hs with hs | hs
    · obtain ⟨i, hi, s', hs', _, ex⟩ := wu_mul_ex hv hI.2 ha.2 hs
      have g1 := (wu_in_ex hv hv hb.2 hne hi).1
      have g2 := wu_dg_le (v := v) hs'
      omega
    · obtain ⟨i, hi, s', hs', _, ex⟩ := wu_mul_ex hv hl.2 hb.2 hs
      have g2 := wu_dg_le (v := v) hs'
      unfold wu_ld at hi
      by_cases hd : wu_dg v a < (m : Int)
      · rw [if_pos hd] at hi; exact absurd hi List.not_mem_nil
      · rw [if_neg hd] at hi
        obtain ⟨y, hy, he, rfl⟩ := wu_pt_mem hi
        have g := (wu_down hv he (show m ≤ (wu_dg v a).toNat by omega) (ha.2.2.2 y hy).2.2).2.2.1
        dsimp only at ex
        omega
  refine ⟨wu_dg_ge bda.1 key, fun hme => ?_, fun u hu huv hua hub => ?_⟩
  · obtain ⟨e, he⟩ : ∃ e : Nat, wu_dg v a = (e : Int) := ⟨(wu_dg v a).toNat, by omega⟩
    have : wu_dg v a' ≤ (e : Int) - 1 := by
      refine wu_dg_ge (by omega) (fun t ht => ?_)
      have k := key t ht
      have hne' : wu_ex v t.1 ≠ e := fun z => (wu_st_mem hAd h1 ht).1 (wu_lead hp hv ha.2 hb.2 hm he (by omega) z)
      omega
    omega
  · refine wu_dg_ge (by omega) (fun t ht => ?_)
    obtain ⟨_, s, hs, es⟩ := wu_st_mem hAd h1 ht
    rw [← es]
    rcases List.mem_append.mp hs with hs | hs
    · obtain ⟨i, hi, s', hs', _, ex⟩ := wu_mul_ex hu hI.2 ha.2 hs
      have g1 := (wu_in_ex hv hu hb.2 hne hi).2
      have g2 := wu_dg_le (v := u) hs'
      omega
    · obtain ⟨i, hi, s', hs', _, ex⟩ := wu_mul_ex hu hl.2 hb.2 hs
      have g2 := wu_dg_le (v := u) hs'
      unfold wu_ld at hi
      by_cases hd : wu_dg v a < (m : Int)
      · rw [if_pos hd] at hi; exact absurd hi List.not_mem_nil
      · rw [if_neg hd] at hi
        obtain ⟨y, hy, he, rfl⟩ := wu_pt_mem hi
        have g := (wu_down hv he (show m ≤ (wu_dg v a).toNat by omega) (ha.2.2.2 y hy).2.2).2.2.2 u hu huv
        have g3 := wu_dg_le (v := u) hy
        dsimp only at ex
        omega
theorem wu_rds_dg {p v m : Nat} {b : wu_P} {w : Bool} (hp : 2 ≤ p) (hv : v < 6) (hb : wu_Cp p b) (hne : b ≠ []) (hm : wu_dg v b = (m : Int)) : ∀ (n : Nat) (a q a' q' : wu_P), wu_Cp p a → wu_Cp p q → wu_rds p v m (wu_in v b) b w n a q = some (a', q') → wu_dg v a ≤ (m : Int) - 1 + n →
    wu_dg v a' ≤ (m : Int) - 1 ∧ (∀ u, u < 6 → u ≠ v → wu_dg u a ≤ 0 → wu_dg u b ≤ 0 → wu_dg u a' ≤ 0) := by
  intro n
  induction n with
  | zero =>
    intro a q a' q' ha hq h hd
    rw [wu_rds] at h
    have := Prod.mk.inj (Option.some.inj h)
    rw [← this.1]
    exact ⟨by omega, fun _ _ _ h _ => h⟩
  | succ n ih =>
    intro a q a' q' ha hq h hd
    cases h1 : wu_rd p v m (wu_in v b) b w a q with
    | none => rw [wu_rds_n h1] at h; exact absurd h (by simp)
    | some r =>
      obtain ⟨a1, q1⟩ := r
      rw [wu_rds_s h1] at h
      have c := wu_rd_Cp hp hv (wu_in_Cp hv hb) hb ha hq h1
      have g := wu_rd_dg hp hv hb hne hm ha h1
      have := ih a1 q1 a' q' c.1 c.2 h (by
        by_cases hme : (m : Int) ≤ wu_dg v a
        · have := g.2.1 hme; omega
        · have := g.1; omega)
      exact ⟨this.1, fun u hu huv hua hub => this.2 u hu huv (g.2.2 u hu huv hua hub) hub⟩
theorem wu_dv_dg {p v : Nat} {b a q a' q' : wu_P} {w : Bool} (hp : 2 ≤ p) (hv : v < 6) (hb : wu_Cp p b) (hne : b ≠ []) (ha : wu_Cp p a) (hq : wu_Cp p q) (h : wu_dv p v b w a q = some (a', q')) :
    wu_dg v a' < wu_dg v b ∧ (∀ u, u < 6 → u ≠ v → wu_dg u a ≤ 0 → wu_dg u b ≤ 0 → wu_dg u a' ≤ 0) := by
  have h0 := wu_dg_ne (v := v) hne
  have e : wu_dg v b = ((wu_dg v b).toNat : Int) := by omega
  have := wu_rds_dg hp hv hb hne e (wu_kk v a b) a q a' q' ha hq h (by unfold wu_kk; omega)
  exact ⟨by omega, this.2⟩
/-! what Y adds is what X adds -/
theorem wu_sh0 (I : wu_P) : wu_sh 0 I = I := by
  unfold wu_sh
  rw [show (fun i : Nat × Nat => (i.1 + 0, i.2)) = id from rfl, List.map_id]
theorem wu_sh_pt {p v e m : Nat} {L : wu_P} (hv : v < 6) (hL : wu_Ok p L) (hm : m ≤ e) : wu_sh ((e - m) * 32 ^ v) (wu_pt v e (e * 32 ^ v) L) = wu_pt v e (m * 32 ^ v) L := by
  unfold wu_sh wu_pt
  rw [List.map_map]
  apply List.map_congr_left
  intro t ht
  rw [List.mem_filter, decide_eq_true_eq] at ht
  have h1 := (wu_down hv ht.2 (Nat.le_refl _) (hL.2.2 t ht.1).2.2).1
  have h2 : (e - m) * 32 ^ v = e * 32 ^ v - m * 32 ^ v := Nat.sub_mul _ _ _
  have h3 : m * 32 ^ v ≤ e * 32 ^ v := Nat.mul_le_mul_right _ hm
  show (t.1 - e * 32 ^ v + (e - m) * 32 ^ v, t.2) = (t.1 - m * 32 ^ v, t.2)
  rw [show t.1 - e * 32 ^ v + (e - m) * 32 ^ v = t.1 - m * 32 ^ v by omega]
end
section
/-! the component divides -/
theorem wu_pm1 {p : Nat} (hp : 2 ≤ p) : nI p - 1 = nI (p - 1) := pk_sub (a := p) (b := 1) (by omega)
theorem wu_nm1 {q : Nat} (h : q < 2147483648) : ¬ nI q = -1 := fun e => nI_pos (n := q) (by omega) (by rw [e]; decide)
theorem wu_mul_256 {p sc : Nat} {I L : wu_P} (hI : wu_Ok p I) (hL : wu_Ok p L) : (wu_mul p sc I L).length ≤ 256 := by
  rw [wu_mul_len]
  exact Nat.le_trans (Nat.mul_le_mul hI.1 hL.1) (by decide)
theorem wu_X_prodN {post : St2 → Prop} {p a b : Nat} {sn V st : Int32} {c d f m sd sf : Nat → Int32} {A I L : wu_P} (hp : 2 ≤ p ∧ p ≤ 32749) (ha : a < 34) (hb : b < 34) (hI : wu_Ho c d f a I) (hIO : wu_Ok p I) (hL : wu_Ho c d f b L) (hLO : wu_Ok p L) (hA : A.length ≤ 256) (hX : wu_XB p A sn sd sf)
    (H : ∀ sn' sd' sf', wu_XB p (A ++ wu_mul p (p - 1) I L) sn' sd' sf' → post (sn', nI p, V, st, c, d, f, m, sd', sf')) : wpX_addProduct post (sn, nI p, V, st, c, d, f, m, sd, sf) (nI a) (nI b) (nI p - 1) := by
  rw [wu_pm1 hp.1]
  exact wu_X_prod hp ha hb (by omega) hI hIO hL hLO hA hX H
def wu_Qa (a q : Nat) (w : Bool) (s : Nat) : Prop := s = a ∨ (w = true ∧ s = q)
def wu_Qb (a q : Nat) (w : Bool) (s : Nat) : Prop := s = a ∨ s = 31 ∨ (w = true ∧ s = q)
def wu_Qd (a q : Nat) (w : Bool) (s : Nat) : Prop := s = a ∨ s = 30 ∨ s = 31 ∨ (w = true ∧ s = q)
theorem wu_Qa_b {a q : Nat} {w : Bool} (s : Nat) (h : wu_Qa a q w s) : wu_Qb a q w s := h.elim Or.inl (fun z => Or.inr (Or.inr z))
theorem wu_Qb_d {a q : Nat} {w : Bool} (s : Nat) (h : wu_Qb a q w s) : wu_Qd a q w s := h.elim Or.inl (fun z => Or.inr (Or.inr z))
theorem wu_X_d80 {post : Int32 → St2 → Prop} {J : Int32 → Int32 → Int32 → Int32 → Int32 → (Nat → Int32) → (Nat → Int32) → (Nat → Int32) → (Nat → Int32) → (Nat → Int32) → (Nat → Int32) → Prop} {p a b v q m : Nat} {w : Bool} {sn V st x3 x4 x5 x6 x7 : Int32} {c d f mm sd sf : Nat → Int32} {A B I Q : wu_P}
    (hp : 2 ≤ p ∧ p ≤ 32749) (ha : a < 30) (hb : b < 30) (hv : v < 6) (hA : wu_Ho c d f a A) (cA : wu_Cp p A) (hB : wu_Ho c d f b B) (cB : wu_Cp p B) (hI : wu_Ho c d f 30 I) (cI : wu_Cp p I) (hl : wu_Ho c d f 31 (wu_ld v m A)) (hq : w = true → q < 30 ∧ q ≠ a ∧ wu_Ho c d f q Q) (cQ : wu_Cp p Q) (hx4 : (w = false ∧ x4 = -1) ∨ (w = true ∧ x4 = nI q))
    (hN : wu_rd p v m I B w A Q = none → ∀ sn' c' d' f' sd' sf', wu_Fr (wu_Qa a q w) c d f c' d' f' → post (-1) (sn', nI p, V, st, c', d', f', mm, sd', sf'))
    (hS : ∀ A' Q', wu_rd p v m I B w A Q = some (A', Q') → ∀ sn' c' d' f' sd' sf', wu_Fr (wu_Qa a q w) c d f c' d' f' → wu_Ho c' d' f' a A' → (w = true → wu_Ho c' d' f' q Q') → ∀ y, y = x7 + 1 → J y sn' (nI p) V st c' d' f' mm sd' sf') :
    wX_divide_80 post J (nI a) (nI b) x3 x4 x5 x6 x7 sn (nI p) V st c d f mm sd sf := by
  have cl := wu_ld_Cp (m := m) hv cA
  unfold wX_divide_80
  try dsimp only
  refine wu_X_prod (a := 30) (b := a) (sc := 1) (A := []) hp (by omega) (by omega) (by omega) hI cI.2 hA cA.2 (Nat.zero_le _) wu_XB_nil (fun sn1 sd1 sf1 X1 => ?_)
  rw [List.nil_append] at X1
  have l1 := wu_mul_256 (sc := 1) cI.2 cA.2
  refine wu_X_prodN (a := 31) (b := b) hp (by omega) (by omega) hl cl.2 hB cB.2 l1 X1 (fun sn2 sd2 sf2 X2 => ?_)
  have l2 := wu_mul_256 (sc := p - 1) cl.2 cB.2
  refine wu_X_store hp (s := a) (by omega) X2 (by rw [List.length_append]; omega) (fun e0 => ?_) (fun A' e1 c' d' f' F1 HA' => ?_)
  · exact br_t rfl (hN (wu_rd_n1 e0) _ _ _ _ _ _ wu_Fr_refl)
  · have cA' := (wu_st_sp (wu_Ad_app (wu_mul_Ad (by omega) cI.2 cA.2) (wu_mul_Ad (by omega) cl.2 cB.2)) e1).1
    have F1' : wu_Fr (wu_Qa a q w) c d f c' d' f' := wu_Fr_mono F1 (fun s z => Or.inl z)
    refine br_f (by decide) ?_
    rcases hx4 with ⟨rfl, rfl⟩ | ⟨rfl, rfl⟩
    · exact br_t rfl (hS A' Q (wu_rd_s1 e1) _ _ _ _ _ _ F1' HA' (fun z => absurd z (by decide)))
    · obtain ⟨hq30, hqa, hQ⟩ := hq rfl
      refine br_f (wu_nm1 (by omega)) ?_
      refine wu_X_prod (a := 30) (b := q) (sc := 1) (A := []) hp (by omega) (by omega) (by omega) (wu_Ho_fr F1 (by omega) cI.2.1 hI) cI.2 (wu_Ho_fr F1 hqa cQ.2.1 hQ) cQ.2 (Nat.zero_le _) wu_XB_nil (fun sn3 sd3 sf3 X3 => ?_)
      rw [List.nil_append] at X3
      have l3 := wu_mul_256 (sc := 1) cI.2 cQ.2
      have l4 := cl.2.1
      refine wu_X_addPoly (s := 31) hp (by omega) (wu_Ho_fr F1 (by omega) cl.2.1 hl) cl.2 (by omega) X3 (fun sn4 sd4 sf4 X4 => ?_)
      refine wu_X_store hp (s := q) (by omega) X4 (by rw [List.length_append]; omega) (fun e0 => ?_) (fun Q' e2 c2 d2 f2 F2 HQ' => ?_)
      · exact br_t rfl (hN (wu_rd_n2 e1 e0) _ _ _ _ _ _ F1')
      · exact br_f (by decide) (hS A' Q' (wu_rd_s2 e1 e2) _ _ _ _ _ _ (wu_Fr_trans F1' (wu_Fr_mono F2 (fun s z => Or.inr ⟨rfl, z⟩))) (wu_Ho_fr F2 (fun z => hqa z.symm) cA'.2.1 HA') (fun _ => HQ'))
theorem wu_X_d35 {post : Int32 → St2 → Prop} {p a b v q m : Nat} {w : Bool} {V st x4 x6 : Int32} {mm : Nat → Int32} {B I : wu_P} {κ : Int} {k : Nat}
    (hp : 2 ≤ p ∧ p ≤ 32749) (ha : a < 30) (hb : b < 30) (hab : a ≠ b) (hv : v < 6) (hm : m ≤ 15) (cB : wu_Cp p B) (cI : wu_Cp p I) (hq : w = true → q < 30 ∧ q ≠ a ∧ q ≠ b) (hx4 : (w = false ∧ x4 = -1) ∨ (w = true ∧ x4 = nI q)) (hκ : -100 ≤ κ ∧ κ ≤ 100) (hx6 : x6 = wu_z κ) (hk : k = κ.toNat) :
    ∀ (l r n : Nat) (A Q : wu_P) (sn : Int32) (c d f sd sf : Nat → Int32), r + l = k → l < n → wu_Ho c d f a A → wu_Cp p A → wu_Ho c d f b B → wu_Ho c d f 30 I → (w = true → wu_Ho c d f q Q) → wu_Cp p Q →
    (wu_rds p v m I B w l A Q = none → ∀ sn' c' d' f' sd' sf', wu_Fr (wu_Qb a q w) c d f c' d' f' → post (-1) (sn', nI p, V, st, c', d', f', mm, sd', sf')) →
    (∀ A' Q', wu_rds p v m I B w l A Q = some (A', Q') → ∀ sn' c' d' f' sd' sf', wu_Fr (wu_Qb a q w) c d f c' d' f' → wu_Ho c' d' f' a A' → (w = true → wu_Ho c' d' f' q Q') → post (nI k) (sn', nI p, V, st, c', d', f', mm, sd', sf')) →
    wX_divide_35 post (nI a) (nI b) (nI v) x4 (nI m) x6 n (nI r) sn (nI p) V st c d f mm sd sf := by
  intro l
  induction l with
  | zero =>
    intro r n A Q sn c d f sd sf hr hn hA cA hB hI hQ cQ hN hS
    obtain ⟨n, rfl⟩ : ∃ k, n = k + 1 := ⟨n - 1, by omega⟩
    have fin := hS A Q rfl sn c d f sd sf wu_Fr_refl hA hQ
    refine wu_ble κ (r : Int) (fun _ => wu_ble κ 0 (fun h => ?_) (fun h => ?_) hx6 wu_z0 (by omega) (by omega)) (fun h => absurd h (by omega)) hx6 (wu_zn r).symm (by omega) (by omega)
    · have e : k = 0 := by omega
      rw [e] at fin
      exact fin
    · have e : x6 = nI k := by rw [hx6, ← wu_zn]; exact congrArg wu_z (by omega)
      rw [e]
      exact fin
  | succ l ih =>
    intro r n A Q sn c d f sd sf hr hn hA cA hB hI hQ cQ hN hS
    obtain ⟨n, rfl⟩ : ∃ k, n = k + 1 := ⟨n - 1, by omega⟩
    have bA := wu_dg_b v A
    have step : ∀ c1 d1 f1 : Nat → Int32, wu_Fr (fun s => s = 31) c d f c1 d1 f1 → wu_Ho c1 d1 f1 31 (wu_ld v m A) → wX_divide_80 post (wX_divide_35 post (nI a) (nI b) (nI v) x4 (nI m) x6 n) (nI a) (nI b) (nI v) x4 (nI m) x6 (nI r) sn (nI p) V st c1 d1 f1 mm sd sf := by
      intro c1 d1 f1 F0 H31
      have F0' : wu_Fr (wu_Qb a q w) c d f c1 d1 f1 := wu_Fr_mono F0 (fun s z => Or.inr (Or.inl z))
      have hB1 := wu_Ho_fr F0 (show ¬ b = 31 by omega) cB.2.1 hB
      have hI1 := wu_Ho_fr F0 (show ¬ 30 = 31 by omega) cI.2.1 hI
      refine wu_X_d80 hp ha hb hv (wu_Ho_fr F0 (by omega) cA.2.1 hA) cA hB1 cB hI1 cI H31 (fun hw => ?_) cQ hx4 (fun e sn' c' d' f' sd' sf' F => ?_) (fun A' Q' e sn' c' d' f' sd' sf' F HA HQ y ey => ?_)
      · have := hq hw
        exact ⟨this.1, this.2.1, wu_Ho_fr F0 (by omega) cQ.2.1 (hQ hw)⟩
      · exact hN (wu_rds_n e) _ _ _ _ _ _ (wu_Fr_trans F0' (wu_Fr_mono F wu_Qa_b))
      · subst ey
        rw [nI_1]
        have cc := wu_rd_Cp hp.1 hv cI cB cA cQ e
        have nb : ¬ wu_Qa a q w b := by
          rintro (z | ⟨z1, z2⟩)
          · exact hab z.symm
          · exact (hq z1).2.2 z2.symm
        have n30 : ¬ wu_Qa a q w 30 := by
          rintro (z | ⟨z1, z2⟩)
          · omega
          · have := (hq z1).1; omega
        have FF := wu_Fr_trans F0' (wu_Fr_mono F wu_Qa_b)
        refine ih (r + 1) n A' Q' sn' c' d' f' sd' sf' (by omega) (by omega) HA cc.1 (wu_Ho_fr F nb cB.2.1 hB1) (wu_Ho_fr F n30 cI.2.1 hI1) HQ cc.2 (fun e2 sn2 c2 d2 f2 sd2 sf2 F2 => ?_) (fun A2 Q2 e2 sn2 c2 d2 f2 sd2 sf2 F2 HA2 HQ2 => ?_)
        · exact hN (by rw [wu_rds_s e]; exact e2) _ _ _ _ _ _ (wu_Fr_trans FF F2)
        · exact hS A2 Q2 (by rw [wu_rds_s e]; exact e2) _ _ _ _ _ _ (wu_Fr_trans FF F2) HA2 HQ2
    refine wu_ble κ (r : Int) (fun h => absurd h (by omega)) (fun _ => ?_) hx6 (wu_zn r).symm (by omega) (by omega)
    refine wu_X_deg (s := a) (by omega) hv hA cA.2 ?_
    intro c1 ec
    subst ec
    refine wu_blt (wu_dg v A) (m : Int) (fun hlt => ?_) (fun hge => ?_) rfl (wu_zn m).symm (by omega) (by omega)
    · refine step _ _ _ wu_Fr_cnt ?_
      unfold wu_ld
      rw [if_pos hlt]
      exact wu_Ho_0
    · obtain ⟨e, he⟩ : ∃ e : Nat, wu_dg v A = (e : Int) := ⟨(wu_dg v A).toNat, by omega⟩
      rw [he, wu_zn, pk_sub (by omega)]
      have F0 : wu_Fr (fun s => s = 31) c d f (upd c 31 0) d f := wu_Fr_cnt
      refine wu_X_coef (b := 31) (e' := e - m) (by omega) (by omega) (by omega) hv (by omega) (by omega) (wu_Ho_fr F0 (by omega) cA.2.1 hA) cA.2 (fun c2 d2 f2 F2 H31 => ?_)
      refine step _ _ _ (wu_Fr_trans F0 F2) ?_
      unfold wu_ld
      rw [if_neg (by omega), he]
      rw [show e - (e - m) = m by omega] at H31
      exact H31
theorem wu_X_div {post : Int32 → St2 → Prop} {p a b v q : Nat} {w : Bool} {sn V st x4 : Int32} {c d f mm sd sf : Nat → Int32} {A B Q : wu_P}
    (hp : 2 ≤ p ∧ p ≤ 32749) (ha : a < 30) (hb : b < 30) (hab : a ≠ b) (hv : v < 6) (hA : wu_Ho c d f a A) (cA : wu_Cp p A) (hB : wu_Ho c d f b B) (cB : wu_Cp p B) (hBn : B ≠ []) (hq : w = true → q < 30 ∧ q ≠ a ∧ q ≠ b) (hQ : w = true → wu_Ho c d f q Q) (cQ : wu_Cp p Q) (hx4 : (w = false ∧ x4 = -1) ∨ (w = true ∧ x4 = nI q))
    (hN : wu_dv p v B w A Q = none → ∀ sn' c' d' f' sd' sf', wu_Fr (wu_Qd a q w) c d f c' d' f' → post (-1) (sn', nI p, V, st, c', d', f', mm, sd', sf'))
    (hS : ∀ A' Q', wu_dv p v B w A Q = some (A', Q') → ∀ sn' c' d' f' sd' sf', wu_Fr (wu_Qd a q w) c d f c' d' f' → wu_Ho c' d' f' a A' → (w = true → wu_Ho c' d' f' q Q') → post (nI (wu_kk v A B)) (sn', nI p, V, st, c', d', f', mm, sd', sf')) :
    wpX_divide post (sn, nI p, V, st, c, d, f, mm, sd, sf) (nI a) (nI b) (nI v) x4 := by
  obtain ⟨m, hm, hm15⟩ := wu_dg_nat hv cB.2 hBn
  have bA := wu_dg_b v A
  unfold wpX_divide
  try dsimp only
  refine wu_X_deg (s := b) (by omega) hv hB cB.2 ?_
  refine wu_X_deg (s := a) (by omega) hv hA cA.2 ?_
  intro x6 e6
  rw [hm, show (1 : Int32) = wu_z 1 from by decide, wu_zsub, wu_zadd] at e6
  rw [hm, wu_zn]
  refine wu_X_coef (b := 30) (e' := 0) (by omega) (by omega) (by omega) hv (by omega) (by omega) hB cB.2 (fun c1 d1 f1 F1 H30 => ?_)
  have hi : wu_in v B = wu_pt v m ((m - 0) * 32 ^ v) B := by unfold wu_in; rw [hm]; rfl
  rw [← hi] at H30
  have F1' : wu_Fr (wu_Qd a q w) c d f c1 d1 f1 := wu_Fr_mono F1 (fun s z => Or.inr (Or.inl z))
  have ek : wu_kk v A B = (wu_dg v A - (m : Int) + 1).toNat := by unfold wu_kk; rw [hm]
  have ed : wu_dv p v B w A Q = wu_rds p v m (wu_in v B) B w (wu_kk v A B) A Q := by unfold wu_dv; rw [hm]; rfl
  refine ⟨wu_kk v A B + 1, wu_X_d35 hp ha hb hab hv hm15 cB (wu_in_Cp hv cB) hq hx4 (κ := wu_dg v A - (m : Int) + 1) (by omega) e6 ek (wu_kk v A B) 0 _ A Q sn c1 d1 f1 sd sf (by omega) (by omega) (wu_Ho_fr F1 (by omega) cA.2.1 hA) cA (wu_Ho_fr F1 (by omega) cB.2.1 hB) H30 (fun hw => wu_Ho_fr F1 (by have := (hq hw).1; omega) cQ.2.1 (hQ hw)) cQ (fun e sn' c' d' f' sd' sf' F => ?_) (fun A' Q' e sn' c' d' f' sd' sf' F HA HQ => ?_)⟩
  · exact hN (by rw [ed]; exact e) _ _ _ _ _ _ (wu_Fr_trans F1' (wu_Fr_mono F wu_Qb_d))
  · exact hS A' Q' (by rw [ed]; exact e) _ _ _ _ _ _ (wu_Fr_trans F1' (wu_Fr_mono F wu_Qb_d)) HA HQ
end
section
/-! the reference divides -/
theorem wu_Ok_0 {p : Nat} {I : wu_P} (h : wu_Ok p I) : ∀ t, t ∈ I → t.2 < p ∧ wu_Sm (t.1 + 0) := fun t ht => ⟨(h.2.2 t ht).2.1, (h.2.2 t ht).2.2⟩
end
section
/-! triangulation on lists -/
def wu_up (W : Nat → wu_P) (i : Nat) (L : wu_P) : Nat → wu_P := fun j => if j = i then L else W j
theorem wu_up_s {W : Nat → wu_P} {i : Nat} {L : wu_P} : wu_up W i L i = L := if_pos rfl
theorem wu_up_n {W : Nat → wu_P} {i j : Nat} {L : wu_P} (h : j ≠ i) : wu_up W i L j = W j := if_neg h
def wu_ct (nv : Nat) (w : Int) (W : Nat → wu_P) : Nat → Nat → Nat
  | 0, _ => 0
  | n + 1, i => if wu_cl nv (W i) = w then wu_ct nv w W n (i + 1) + 1 else wu_ct nv w W n (i + 1)
def wu_ls (nv v : Nat) (W : Nat → wu_P) : Nat → Nat → Int → Int → Int
  | 0, _, b, _ => b
  | n + 1, i, b, bd => if wu_cl nv (W i) = (v : Int) ∧ wu_dg v (W i) < bd then wu_ls nv v W n (i + 1) (i : Int) (wu_dg v (W i)) else wu_ls nv v W n (i + 1) b bd
noncomputable def wu_do (p nv v b : Nat) : Nat → Nat → (Nat → wu_P) → Int × (Nat → wu_P)
  | 0, _, W => (0, W)
  | n + 1, i, W => if i = b ∨ wu_cl nv (W i) ≠ (v : Int) then wu_do p nv v b n (i + 1) W else
      match wu_dv p v (W b) false (W i) [] with
      | none => (4, W)
      | some r => if wu_cl nv r.1 = -1 then (3, wu_up W i r.1) else wu_do p nv v b n (i + 1) (wu_up W i r.1)
theorem wu_do_sk {p nv v b n i : Nat} {W : Nat → wu_P} (h : i = b ∨ wu_cl nv (W i) ≠ (v : Int)) : wu_do p nv v b (n + 1) i W = wu_do p nv v b n (i + 1) W := by
  rw [wu_do, if_pos h]
theorem wu_do_4 {p nv v b n i : Nat} {W : Nat → wu_P} (h : ¬ (i = b ∨ wu_cl nv (W i) ≠ (v : Int))) (e : wu_dv p v (W b) false (W i) [] = none) : wu_do p nv v b (n + 1) i W = (4, W) := by
  rw [wu_do, if_neg h, e]
theorem wu_do_3 {p nv v b n i : Nat} {W : Nat → wu_P} {A Q : wu_P} (h : ¬ (i = b ∨ wu_cl nv (W i) ≠ (v : Int))) (e : wu_dv p v (W b) false (W i) [] = some (A, Q)) (g : wu_cl nv A = -1) : wu_do p nv v b (n + 1) i W = (3, wu_up W i A) := by
  rw [wu_do, if_neg h, e]
  exact if_pos g
theorem wu_do_go {p nv v b n i : Nat} {W : Nat → wu_P} {A Q : wu_P} (h : ¬ (i = b ∨ wu_cl nv (W i) ≠ (v : Int))) (e : wu_dv p v (W b) false (W i) [] = some (A, Q)) (g : ¬ wu_cl nv A = -1) : wu_do p nv v b (n + 1) i W = wu_do p nv v b n (i + 1) (wu_up W i A) := by
  rw [wu_do, if_neg h, e]
  exact if_neg g
noncomputable def wu_tr (p nv v : Nat) : Nat → (Nat → wu_P) → Int × (Nat → wu_P) × wu_P
  | 0, W => (0, W, [])
  | n + 1, W =>
    if wu_ct nv v W 8 0 = 0 then (0, W, [])
    else if wu_ct nv v W 8 0 = 1 then (0, wu_up W (wu_ls nv v W 8 0 (-1) 16).toNat [], W (wu_ls nv v W 8 0 (-1) 16).toNat)
    else if (wu_do p nv v (wu_ls nv v W 8 0 (-1) 16).toNat 8 0 W).1 = 0 then wu_tr p nv v n (wu_do p nv v (wu_ls nv v W 8 0 (-1) 16).toNat 8 0 W).2
    else ((wu_do p nv v (wu_ls nv v W 8 0 (-1) 16).toNat 8 0 W).1, (wu_do p nv v (wu_ls nv v W 8 0 (-1) 16).toNat 8 0 W).2, [])
def wu_CW (p : Nat) (W : Nat → wu_P) : Prop := ∀ i, i < 8 → wu_Cp p (W i)
theorem wu_cl_ne {nv v : Nat} {L : wu_P} (h : wu_cl nv L = (v : Int)) : L ≠ [] := by
  intro e
  rw [e] at h
  have : wu_cl nv [] = -2 := rfl
  omega
theorem wu_cv_pos {L : wu_P} : ∀ (n v : Nat), wu_cv L n = (v : Int) → 1 ≤ wu_dg v L := by
  intro n
  induction n with
  | zero => intro v h; have : wu_cv L 0 = -1 := rfl; omega
  | succ n ih =>
    intro v h
    rw [wu_cv] at h
    by_cases g : 1 ≤ wu_dg n L
    · rw [if_pos g] at h
      have : n = v := by omega
      rw [← this]; exact g
    · rw [if_neg g] at h; exact ih v h
theorem wu_cl_pos {nv v : Nat} {L : wu_P} (h : wu_cl nv L = (v : Int)) : 1 ≤ wu_dg v L := by
  unfold wu_cl at h
  by_cases g : L.length = 0
  · rw [if_pos g] at h; omega
  · rw [if_neg g] at h; exact wu_cv_pos nv v h
theorem wu_cl_lt {nv v : Nat} {L : wu_P} (h : wu_cl nv L = (v : Int)) : v < nv := by
  have := wu_cl_b nv L; omega
theorem wu_dg_15 {p v : Nat} {L : wu_P} (hv : v < 6) (h : wu_Ok p L) : wu_dg v L ≤ 15 :=
  wu_dg_ge (by omega) (fun t ht => by have := (h.2.2 t ht).2.2.2 v hv; omega)
theorem wu_up_CW {p i : Nat} {W : Nat → wu_P} {L : wu_P} (h : wu_CW p W) (hL : wu_Cp p L) : wu_CW p (wu_up W i L) := by
  intro j hj
  by_cases e : j = i
  · rw [e, wu_up_s]; exact hL
  · rw [wu_up_n e]; exact h j hj
theorem wu_ls_sp {nv v : Nat} {W : Nat → wu_P} : ∀ (n i : Nat) (b bd : Int), (wu_ls nv v W n i b bd = b ∧ ∀ j, i ≤ j → j < i + n → wu_cl nv (W j) = (v : Int) → bd ≤ wu_dg v (W j)) ∨
    (∃ j : Nat, i ≤ j ∧ j < i + n ∧ wu_ls nv v W n i b bd = (j : Int) ∧ wu_cl nv (W j) = (v : Int) ∧ wu_dg v (W j) < bd ∧ ∀ k, i ≤ k → k < i + n → wu_cl nv (W k) = (v : Int) → wu_dg v (W j) ≤ wu_dg v (W k)) := by
  intro n
  induction n with
  | zero => intro i b bd; exact Or.inl ⟨rfl, fun j h1 h2 => absurd h2 (by omega)⟩
  | succ n ih =>
    intro i b bd
    rw [wu_ls]
    by_cases h : wu_cl nv (W i) = (v : Int) ∧ wu_dg v (W i) < bd
    · rw [if_pos h]
      rcases ih (i + 1) (i : Int) (wu_dg v (W i)) with ⟨e, g⟩ | ⟨j, h1, h2, e, hc, hd, g⟩
      · refine Or.inr ⟨i, Nat.le_refl i, by omega, e, h.1, h.2, fun k h1 h2 hk => ?_⟩
        by_cases q : k = i
        · rw [q]; exact Int.le_refl _
        · exact g k (by omega) (by omega) hk
      · refine Or.inr ⟨j, by omega, by omega, e, hc, by omega, fun k h3 h4 hk => ?_⟩
        by_cases q : k = i
        · rw [q]; omega
        · exact g k (by omega) (by omega) hk
    · rw [if_neg h]
      rcases ih (i + 1) b bd with ⟨e, g⟩ | ⟨j, h1, h2, e, hc, hd, g⟩
      · refine Or.inl ⟨e, fun k h1 h2 hk => ?_⟩
        by_cases q : k = i
        · rw [q] at hk ⊢
          by_cases z : wu_dg v (W i) < bd
          · exact absurd ⟨hk, z⟩ h
          · omega
        · exact g k (by omega) (by omega) hk
      · refine Or.inr ⟨j, by omega, by omega, e, hc, hd, fun k h3 h4 hk => ?_⟩
        by_cases q : k = i
        · rw [q] at hk ⊢
          by_cases z : wu_dg v (W i) < bd
          · exact absurd ⟨hk, z⟩ h
          · omega
        · exact g k (by omega) (by omega) hk
theorem wu_ct_0 {nv : Nat} {w : Int} {W : Nat → wu_P} : ∀ (n i : Nat), wu_ct nv w W n i = 0 → ∀ j, i ≤ j → j < i + n → wu_cl nv (W j) ≠ w := by
  intro n
  induction n with
  | zero => intro i _ j h1 h2; exact absurd h2 (by omega)
  | succ n ih =>
    intro i h j h1 h2
    rw [wu_ct] at h
    by_cases g : wu_cl nv (W i) = w
    · rw [if_pos g] at h; omega
    · rw [if_neg g] at h
      by_cases q : j = i
      · rw [q]; exact g
      · exact ih (i + 1) h j (by omega) (by omega)
theorem wu_ct_pos {nv : Nat} {w : Int} {W : Nat → wu_P} : ∀ (n i : Nat), wu_ct nv w W n i ≠ 0 → ∃ j, i ≤ j ∧ j < i + n ∧ wu_cl nv (W j) = w := by
  intro n
  induction n with
  | zero => intro i h; exact absurd rfl h
  | succ n ih =>
    intro i h
    rw [wu_ct] at h
    by_cases g : wu_cl nv (W i) = w
    · exact ⟨i, Nat.le_refl i, by omega, g⟩
    · rw [if_neg g] at h
      obtain ⟨j, h1, h2, h3⟩ := ih (i + 1) h
      exact ⟨j, by omega, by omega, h3⟩
/-- two of the class, one of them not b -/
theorem wu_ct_2 {nv : Nat} {w : Int} {W : Nat → wu_P} (b : Nat) : ∀ (n i : Nat), 2 ≤ wu_ct nv w W n i → ∃ j, i ≤ j ∧ j < i + n ∧ j ≠ b ∧ wu_cl nv (W j) = w := by
  intro n
  induction n with
  | zero => intro i h; have : wu_ct nv w W 0 i = 0 := rfl; omega
  | succ n ih =>
    intro i h
    rw [wu_ct] at h
    by_cases g : wu_cl nv (W i) = w
    · rw [if_pos g] at h
      by_cases q : i = b
      · obtain ⟨j, h1, h2, h3⟩ := wu_ct_pos (nv := nv) (w := w) (W := W) n (i + 1) (by omega)
        exact ⟨j, by omega, by omega, by omega, h3⟩
      · exact ⟨i, Nat.le_refl i, by omega, q, g⟩
    · rw [if_neg g] at h
      obtain ⟨j, h1, h2, h3, h4⟩ := ih (i + 1) h
      exact ⟨j, by omega, by omega, h3, h4⟩
/-- one of the class: no other -/
theorem wu_ct_1 {nv : Nat} {w : Int} {W : Nat → wu_P} (b : Nat) : ∀ (n i : Nat), wu_ct nv w W n i ≤ 1 → i ≤ b → b < i + n → wu_cl nv (W b) = w → ∀ j, i ≤ j → j < i + n → j ≠ b → wu_cl nv (W j) ≠ w := by
  intro n
  induction n with
  | zero => intro i _ h1 h2; exact absurd h2 (by omega)
  | succ n ih =>
    intro i h h1 h2 hb j h3 h4 hj
    rw [wu_ct] at h
    by_cases g : wu_cl nv (W i) = w
    · rw [if_pos g] at h
      by_cases q : i = b
      · exact wu_ct_0 n (i + 1) (by omega) j (by omega) (by omega)
      · exact absurd hb (wu_ct_0 n (i + 1) (by omega) b (by omega) (by omega))
    · rw [if_neg g] at h
      by_cases q : j = i
      · rw [q]; exact g
      · have : i ≠ b := fun z => g (by rw [z]; exact hb)
        exact ih (i + 1) h (by omega) (by omega) hb j (by omega) (by omega) hj
theorem wu_do_sp {p nv v b : Nat} (hp : 2 ≤ p) (hnv : nv ≤ 6) (hb : b < 8) : ∀ (n i : Nat) (W W' : Nat → wu_P), i + n ≤ 8 → wu_CW p W → wu_cl nv (W b) = (v : Int) → wu_do p nv v b n i W = (0, W') →
    wu_CW p W' ∧ W' b = W b ∧ (∀ j, j < i → W' j = W j) ∧ (∀ j, i ≤ j → j < i + n → j ≠ b → wu_cl nv (W' j) = (v : Int) → wu_dg v (W' j) < wu_dg v (W b)) := by
  intro n
  induction n with
  | zero =>
    intro i W W' hi hW hcb h
    have := (Prod.mk.inj h).2
    rw [← this]
    exact ⟨hW, rfl, fun _ _ => rfl, fun j h1 h2 => absurd h2 (by omega)⟩
  | succ n ih =>
    intro i W W' hi hW hcb h
    by_cases hs : i = b ∨ wu_cl nv (W i) ≠ (v : Int)
    · rw [wu_do_sk hs] at h
      obtain ⟨c, eb, el, hd⟩ := ih (i + 1) W W' (by omega) hW hcb h
      refine ⟨c, eb, fun j hj => el j (by omega), fun j h1 h2 hj hc => ?_⟩
      by_cases q : j = i
      · subst q
        have := el j (by omega)
        rw [this] at hc
        rcases hs with z | z
        · exact absurd z hj
        · exact absurd hc z
      · exact hd j (by omega) (by omega) hj hc
    · have hc : wu_cl nv (W i) = (v : Int) := Classical.byContradiction fun z => hs (Or.inr z)
      have hib : i ≠ b := fun z => hs (Or.inl z)
      have hv : v < 6 := by have := wu_cl_lt hc; omega
      cases e : wu_dv p v (W b) false (W i) [] with
      | none =>
        rw [wu_do_4 hs e] at h
        have := (Prod.mk.inj h).1
        omega
      | some r =>
        obtain ⟨A, Q⟩ := r
        by_cases g : wu_cl nv A = -1
        · rw [wu_do_3 hs e g] at h
          have := (Prod.mk.inj h).1
          omega
        · rw [wu_do_go hs e g] at h
          have cA := (wu_dv_Cp hp hv (hW b hb) (hW i (by omega)) wu_Cp_nil e).1
          have dA := (wu_dv_dg hp hv (hW b hb) (wu_cl_ne hcb) (hW i (by omega)) wu_Cp_nil e).1
          have eb' : wu_up W i A b = W b := wu_up_n (fun z => hib z.symm)
          obtain ⟨c, eb, el, hd⟩ := ih (i + 1) (wu_up W i A) W' (by omega) (wu_up_CW hW cA) (by rw [eb']; exact hcb) h
          rw [eb'] at eb hd
          refine ⟨c, eb, fun j hj => by rw [el j (by omega)]; exact wu_up_n (by omega), fun j h1 h2 hj hcj => ?_⟩
          by_cases q : j = i
          · subst q
            have := el j (by omega)
            rw [wu_up_s] at this
            rw [this]; exact dA
          · exact hd j (by omega) (by omega) hj hcj
/-- the measure of a pass: at most one of the class, or the least degree is below g -/
def wu_Me (nv v : Nat) (W : Nat → wu_P) (g : Nat) : Prop := 1 ≤ g ∧ (wu_ct nv v W 8 0 ≤ 1 ∨ ∃ j, j < 8 ∧ wu_cl nv (W j) = (v : Int) ∧ wu_dg v (W j) < g)
theorem wu_ls_at {p nv v : Nat} {W : Nat → wu_P} (hv : v < 6) (hW : wu_CW p W) (h : wu_ct nv v W 8 0 ≠ 0) : ∃ b : Nat, b < 8 ∧ wu_ls nv v W 8 0 (-1) 16 = (b : Int) ∧ wu_cl nv (W b) = (v : Int) ∧ ∀ k, k < 8 → wu_cl nv (W k) = (v : Int) → wu_dg v (W b) ≤ wu_dg v (W k) := by
  obtain ⟨j, _, hj, hc⟩ := wu_ct_pos 8 0 h
  rcases wu_ls_sp (nv := nv) (v := v) (W := W) 8 0 (-1) 16 with ⟨_, g⟩ | ⟨b, _, hb, e, hcb, _, g⟩
  · have := g j (by omega) hj hc
    have := wu_dg_15 hv (hW j (by omega)).2
    omega
  · exact ⟨b, by omega, e, hcb, fun k hk => g k (by omega) (by omega)⟩
theorem wu_Me_next {p nv v g b : Nat} {W W' : Nat → wu_P} (hp : 2 ≤ p) (hnv : nv ≤ 6) (hv : v < 6) (hW : wu_CW p W) (hM : wu_Me nv v W (g + 1)) (h2 : 2 ≤ wu_ct nv v W 8 0) (hb : b < 8) (hcb : wu_cl nv (W b) = (v : Int)) (hmin : ∀ k, k < 8 → wu_cl nv (W k) = (v : Int) → wu_dg v (W b) ≤ wu_dg v (W k)) (h : wu_do p nv v b 8 0 W = (0, W')) : wu_CW p W' ∧ wu_Me nv v W' g := by
  obtain ⟨c, eb, _, hd⟩ := wu_do_sp hp hnv hb 8 0 W W' (by omega) hW hcb h
  rcases hM.2 with z | ⟨j, hj, hcj, hdj⟩
  · omega
  · have h1 := wu_cl_pos hcb
    have h3 := hmin j hj hcj
    refine ⟨c, by omega, ?_⟩
    by_cases q : wu_ct nv v W' 8 0 ≤ 1
    · exact Or.inl q
    · obtain ⟨k, _, hk, hkb, hck⟩ := wu_ct_2 (nv := nv) (w := (v : Int)) (W := W') b 8 0 (by omega)
      have := hd k (by omega) hk hkb hck
      exact Or.inr ⟨k, by omega, hck, by omega⟩
theorem wu_Me_16 {p nv v : Nat} {W : Nat → wu_P} (hv : v < 6) (hW : wu_CW p W) : wu_Me nv v W 16 := by
  refine ⟨by omega, ?_⟩
  by_cases q : wu_ct nv v W 8 0 ≤ 1
  · exact Or.inl q
  · obtain ⟨k, _, hk, hck⟩ := wu_ct_pos (nv := nv) (w := (v : Int)) (W := W) 8 0 (by omega)
    have := wu_dg_15 hv (hW k (by omega)).2
    exact Or.inr ⟨k, by omega, hck, by omega⟩
/-! the steps of wu_tr -/
theorem wu_tr_0 {p nv v g : Nat} {W : Nat → wu_P} (h : wu_ct nv v W 8 0 = 0) : wu_tr p nv v (g + 1) W = (0, W, []) := by
  rw [wu_tr, if_pos h]
theorem wu_tr_1 {p nv v g b : Nat} {W : Nat → wu_P} (h : wu_ct nv v W 8 0 = 1) (hb : wu_ls nv v W 8 0 (-1) 16 = (b : Int)) : wu_tr p nv v (g + 1) W = (0, wu_up W b [], W b) := by
  rw [wu_tr, if_neg (by omega), if_pos h, hb]; rfl
theorem wu_tr_2 {p nv v g b : Nat} {W W' : Nat → wu_P} (h : 2 ≤ wu_ct nv v W 8 0) (hb : wu_ls nv v W 8 0 (-1) 16 = (b : Int)) (hd : wu_do p nv v b 8 0 W = (0, W')) : wu_tr p nv v (g + 1) W = wu_tr p nv v g W' := by
  rw [wu_tr, if_neg (by omega), if_neg (by omega), hb, Int.toNat_natCast, hd]
  exact if_pos rfl
theorem wu_tr_3 {p nv v g b : Nat} {W W' : Nat → wu_P} {e : Int} (h : 2 ≤ wu_ct nv v W 8 0) (hb : wu_ls nv v W 8 0 (-1) 16 = (b : Int)) (hd : wu_do p nv v b 8 0 W = (e, W')) (he : e ≠ 0) : wu_tr p nv v (g + 1) W = (e, W', []) := by
  rw [wu_tr, if_neg (by omega), if_neg (by omega), hb, Int.toNat_natCast, hd]
  exact if_neg he
noncomputable def wu_ta (p nv : Nat) : Nat → (Nat → wu_P) → (Nat → wu_P) → Int × (Nat → wu_P)
  | 0, _, C => (0, C)
  | v + 1, W, C => if (wu_tr p nv v 16 W).1 = 0 then wu_ta p nv v (wu_tr p nv v 16 W).2.1 (wu_up C v (wu_tr p nv v 16 W).2.2) else ((wu_tr p nv v 16 W).1, C)
theorem wu_ta_s {p nv v : Nat} {W W' C : Nat → wu_P} {ch : wu_P} (h : wu_tr p nv v 16 W = (0, W', ch)) : wu_ta p nv (v + 1) W C = wu_ta p nv v W' (wu_up C v ch) := by
  rw [wu_ta, h]; exact if_pos rfl
theorem wu_ta_e {p nv v : Nat} {W W' C : Nat → wu_P} {ch : wu_P} {e : Int} (h : wu_tr p nv v 16 W = (e, W', ch)) (he : e ≠ 0) : wu_ta p nv (v + 1) W C = (e, C) := by
  rw [wu_ta, h]; exact if_neg he
/-- the whole of triangulation: its status and the chain -/
noncomputable def wu_tt (p nv : Nat) (W : Nat → wu_P) : Int × (Nat → wu_P) := if wu_ct nv (-1) W 8 0 = 0 then wu_ta p nv nv W (fun _ => []) else (3, fun _ => [])
theorem wu_do_b {p nv v b : Nat} : ∀ (n i : Nat) (W : Nat → wu_P), (wu_do p nv v b n i W).1 = 0 ∨ (wu_do p nv v b n i W).1 = 3 ∨ (wu_do p nv v b n i W).1 = 4 := by
  intro n
  induction n with
  | zero => intro i W; exact Or.inl rfl
  | succ n ih =>
    intro i W
    by_cases hs : i = b ∨ wu_cl nv (W i) ≠ (v : Int)
    · rw [wu_do_sk hs]; exact ih _ _
    · cases e : wu_dv p v (W b) false (W i) [] with
      | none => rw [wu_do_4 hs e]; exact Or.inr (Or.inr rfl)
      | some r =>
        obtain ⟨A, Q⟩ := r
        by_cases g : wu_cl nv A = -1
        · rw [wu_do_3 hs e g]; exact Or.inr (Or.inl rfl)
        · rw [wu_do_go hs e g]; exact ih _ _
theorem wu_tr_b {p nv v : Nat} : ∀ (n : Nat) (W : Nat → wu_P), (wu_tr p nv v n W).1 = 0 ∨ (wu_tr p nv v n W).1 = 3 ∨ (wu_tr p nv v n W).1 = 4 := by
  intro n
  induction n with
  | zero => intro W; exact Or.inl rfl
  | succ n ih =>
    intro W
    rw [wu_tr]
    by_cases h0 : wu_ct nv v W 8 0 = 0
    · rw [if_pos h0]; exact Or.inl rfl
    · rw [if_neg h0]
      by_cases h1 : wu_ct nv v W 8 0 = 1
      · rw [if_pos h1]; exact Or.inl rfl
      · rw [if_neg h1]
        by_cases h2 : (wu_do p nv v (wu_ls nv v W 8 0 (-1) 16).toNat 8 0 W).1 = 0
        · rw [if_pos h2]; exact ih _
        · rw [if_neg h2]; exact wu_do_b 8 0 W
theorem wu_ta_b {p nv : Nat} : ∀ (v : Nat) (W C : Nat → wu_P), (wu_ta p nv v W C).1 = 0 ∨ (wu_ta p nv v W C).1 = 3 ∨ (wu_ta p nv v W C).1 = 4 := by
  intro v
  induction v with
  | zero => intro W C; exact Or.inl rfl
  | succ v ih =>
    intro W C
    rw [wu_ta]
    by_cases h : (wu_tr p nv v 16 W).1 = 0
    · rw [if_pos h]; exact ih _ _
    · rw [if_neg h]; exact wu_tr_b 16 W
theorem wu_tt_b {p nv : Nat} {W : Nat → wu_P} : (wu_tt p nv W).1 = 0 ∨ (wu_tt p nv W).1 = 3 ∨ (wu_tt p nv W).1 = 4 := by
  unfold wu_tt
  by_cases h : wu_ct nv (-1) W 8 0 = 0
  · rw [if_pos h]; exact wu_ta_b _ _ _
  · rw [if_neg h]; exact Or.inr (Or.inl rfl)
end
section
/-! the component triangulates -/
def wu_HW (c d f : Nat → Int32) (W : Nat → wu_P) : Prop := ∀ i, i < 8 → wu_Ho c d f (22 + i) (W i)
theorem wu_HW_fr {Q : Nat → Prop} {p : Nat} {c d f c' d' f' : Nat → Int32} {W : Nat → wu_P} (F : wu_Fr Q c d f c' d' f') (hQ : ∀ i, i < 8 → ¬ Q (22 + i)) (cW : wu_CW p W) (h : wu_HW c d f W) : wu_HW c' d' f' W :=
  fun i hi => wu_Ho_fr F (hQ i hi) (cW i hi).2.1 (h i hi)
theorem wu_X_ct_5 {post : Int32 → Prop} {p nv : Nat} {w : Int} {sn P st : Int32} {c d f m sd sf : Nat → Int32} {W : Nat → wu_P} (hnv : nv ≤ 6) (hw : -100 ≤ w ∧ w ≤ 100) (hW : wu_HW c d f W) (cW : wu_CW p W) :
    ∀ (l i k n : Nat), i + l = 8 → l < n → post (nI (k + wu_ct nv w W l i)) → wX_countOfClass_5 post (wu_z w) sn P (nI nv) st c d f m sd sf n (nI k) (nI (22 + i)) := by
  intro l
  induction l with
  | zero =>
    intro i k n hi hn H
    obtain ⟨n, rfl⟩ : ∃ k, n = k + 1 := ⟨n - 1, by omega⟩
    exact pk_le 30 (22 + i) (fun _ => H) (fun h => absurd h (by omega)) rfl rfl (by omega) (by omega)
  | succ l ih =>
    intro i k n hi hn H
    obtain ⟨n, rfl⟩ : ∃ k, n = k + 1 := ⟨n - 1, by omega⟩
    have bc := wu_cl_b nv (W i)
    rw [wu_ct] at H
    refine pk_le 30 (22 + i) (fun h => absurd h (by omega)) (fun _ => ?_) rfl rfl (by omega) (by omega)
    refine wu_X_cls (s := 22 + i) hnv (by omega) (hW i (by omega)) (cW i (by omega)).2 ?_
    refine wu_beq (wu_cl nv (W i)) w (fun he => ?_) (fun he => ?_) rfl rfl (by omega) (by omega)
    · intro x ex y ey
      subst ex ey
      rw [nI_1, nI_1]
      rw [if_pos he] at H
      exact ih (i + 1) (k + 1) n (by omega) (by omega) (by rw [show k + 1 + wu_ct nv w W l (i + 1) = k + (wu_ct nv w W l (i + 1) + 1) by omega]; exact H)
    · intro y ey
      subst ey
      rw [nI_1]
      rw [if_neg he] at H
      exact ih (i + 1) k n (by omega) (by omega) H
theorem wu_X_ct {post : Int32 → Prop} {p nv : Nat} {w : Int} {sn P st : Int32} {c d f m sd sf : Nat → Int32} {W : Nat → wu_P} (hnv : nv ≤ 6) (hw : -100 ≤ w ∧ w ≤ 100) (hW : wu_HW c d f W) (cW : wu_CW p W) (H : post (nI (wu_ct nv w W 8 0))) : wpX_countOfClass post (sn, P, nI nv, st, c, d, f, m, sd, sf) (wu_z w) :=
  ⟨9, wu_X_ct_5 hnv hw hW cW 8 0 0 9 rfl (by omega) (by rw [Nat.zero_add]; exact H)⟩
theorem wu_X_ls_10 {post : Int32 → Prop} {p nv v : Nat} {sn P st : Int32} {c d f m sd sf : Nat → Int32} {W : Nat → wu_P} (hnv : nv ≤ 6) (hv : v < 6) (hW : wu_HW c d f W) (cW : wu_CW p W) :
    ∀ (l i n : Nat) (b bd : Int), i + l = 8 → l < n → -1 ≤ bd → bd ≤ 16 → post (nI (22 + (wu_ls nv v W l i b bd).toNat)) → wX_leastOfClass_10 post (nI v) sn P (nI nv) st c d f m sd sf n (nI (22 + b.toNat)) (wu_z bd) (nI (22 + i)) := by
  intro l
  induction l with
  | zero =>
    intro i n b bd hi hn h1 h2 H
    obtain ⟨n, rfl⟩ : ∃ k, n = k + 1 := ⟨n - 1, by omega⟩
    exact pk_le 30 (22 + i) (fun _ => H) (fun h => absurd h (by omega)) rfl rfl (by omega) (by omega)
  | succ l ih =>
    intro i n b bd hi hn h1 h2 H
    obtain ⟨n, rfl⟩ : ∃ k, n = k + 1 := ⟨n - 1, by omega⟩
    have bc := wu_cl_b nv (W i)
    have bdg := wu_dg_b v (W i)
    have b15 := wu_dg_15 hv (cW i (by omega)).2
    have hwi := hW i (by omega)
    have cwi := (cW i (by omega)).2
    rw [wu_ls] at H
    refine pk_le 30 (22 + i) (fun h => absurd h (by omega)) (fun _ => ?_) rfl rfl (by omega) (by omega)
    refine wu_X_cls (s := 22 + i) hnv (by omega) hwi cwi ?_
    refine wu_beq (wu_cl nv (W i)) (v : Int) (fun he => ?_) (fun he => ?_) rfl (wu_zn v).symm (by omega) (by omega)
    · refine wu_X_deg (s := 22 + i) (by omega) hv hwi cwi ?_
      refine wu_ble bd (wu_dg v (W i)) (fun hle => ?_) (fun hlt => ?_) rfl rfl (by omega) (by omega)
      · intro y ey
        subst ey
        rw [nI_1]
        rw [if_neg (by omega)] at H
        exact ih (i + 1) n b bd (by omega) (by omega) h1 h2 H
      · refine wu_X_deg (s := 22 + i) (by omega) hv hwi cwi ?_
        intro y ey
        subst ey
        rw [nI_1]
        rw [if_pos ⟨he, hlt⟩] at H
        exact ih (i + 1) n (i : Int) (wu_dg v (W i)) (by omega) (by omega) (by omega) (by omega) H
    · intro y ey
      subst ey
      rw [nI_1]
      rw [if_neg (fun z => he z.1)] at H
      exact ih (i + 1) n b bd (by omega) (by omega) h1 h2 H
theorem wu_X_ls {post : Int32 → Prop} {p nv v : Nat} {sn P st : Int32} {c d f m sd sf : Nat → Int32} {W : Nat → wu_P} (hnv : nv ≤ 6) (hv : v < 6) (hW : wu_HW c d f W) (cW : wu_CW p W) (H : post (nI (22 + (wu_ls nv v W 8 0 (-1) 16).toNat))) : wpX_leastOfClass post (sn, P, nI nv, st, c, d, f, m, sd, sf) (nI v) :=
  ⟨9, wu_X_ls_10 hnv hv hW cW 8 0 9 (-1) 16 rfl (by omega) (by omega) (by omega) H⟩
def wu_Qw (s : Nat) : Prop := 22 ≤ s ∧ s < 32
theorem wu_HW_up {Q : Nat → Prop} {p : Nat} {c d f c' d' f' : Nat → Int32} {W : Nat → wu_P} {i : Nat} {L : wu_P} (F : wu_Fr Q c d f c' d' f') (hQ : ∀ j, j < 8 → j ≠ i → ¬ Q (22 + j)) (cW : wu_CW p W) (h : wu_HW c d f W) (hL : wu_Ho c' d' f' (22 + i) L) : wu_HW c' d' f' (wu_up W i L) := by
  intro j hj
  by_cases e : j = i
  · rw [e, wu_up_s]; exact hL
  · rw [wu_up_n e]; exact wu_Ho_fr F (hQ j hj e) (cW j hj).2.1 (h j hj)
theorem wu_X_do_3 {post : Int32 → St2 → Prop} {p nv v b : Nat} {st : Int32} {mm : Nat → Int32} (hp : 2 ≤ p ∧ p ≤ 32749) (hnv : nv ≤ 6) (hv : v < 6) (hb : b < 8) :
    ∀ (l i n : Nat) (W : Nat → wu_P) (sn : Int32) (c d f sd sf : Nat → Int32), i + l = 8 → l < n → wu_HW c d f W → wu_CW p W → wu_cl nv (W b) = (v : Int) →
    (∀ e W', wu_do p nv v b l i W = (e, W') → ∀ sn' c' d' f' sd' sf', wu_Fr wu_Qw c d f c' d' f' → (e = 0 → wu_HW c' d' f' W') → post (wu_z e) (sn', nI p, nI nv, st, c', d', f', mm, sd', sf')) →
    wX_divideOthers_3 post (nI (22 + b)) (nI v) n (nI (22 + i)) sn (nI p) (nI nv) st c d f mm sd sf := by
  intro l
  induction l with
  | zero =>
    intro i n W sn c d f sd sf hi hn hW cW hcb H
    obtain ⟨n, rfl⟩ : ∃ k, n = k + 1 := ⟨n - 1, by omega⟩
    refine pk_le 30 (22 + i) (fun _ => ?_) (fun h => absurd h (by omega)) rfl rfl (by omega) (by omega)
    rw [wu_z0]
    exact H 0 W rfl _ _ _ _ _ _ wu_Fr_refl (fun _ => hW)
  | succ l ih =>
    intro i n W sn c d f sd sf hi hn hW cW hcb H
    obtain ⟨n, rfl⟩ : ∃ k, n = k + 1 := ⟨n - 1, by omega⟩
    have bc := wu_cl_b nv (W i)
    have hwi := hW i (by omega)
    have cwi := cW i (by omega)
    refine pk_le 30 (22 + i) (fun h => absurd h (by omega)) (fun _ => ?_) rfl rfl (by omega) (by omega)
    refine pk_eq (22 + i) (22 + b) (fun he => ?_) (fun he => ?_) rfl rfl (by omega) (by omega)
    · intro y ey
      subst ey
      rw [nI_1]
      have hs : i = b ∨ wu_cl nv (W i) ≠ (v : Int) := Or.inl (by omega)
      exact ih (i + 1) n W sn c d f sd sf (by omega) (by omega) hW cW hcb (fun e W' h => H e W' (by rw [wu_do_sk hs]; exact h))
    · refine wu_X_cls (s := 22 + i) hnv (by omega) hwi cwi.2 ?_
      refine wu_beq (wu_cl nv (W i)) (v : Int) (fun hc => ?_) (fun hc => ?_) rfl (wu_zn v).symm (by omega) (by omega)
      · have hs : ¬ (i = b ∨ wu_cl nv (W i) ≠ (v : Int)) := by
          rintro (z | z)
          · omega
          · exact z hc
        refine wu_X_div (a := 22 + i) (b := 22 + b) (q := 0) (w := false) (Q := []) hp (by omega) (by omega) (by omega) hv hwi cwi (hW b hb) (cW b hb) (wu_cl_ne hcb) (fun z => absurd z (by decide)) (fun z => absurd z (by decide)) wu_Cp_nil (Or.inl ⟨rfl, rfl⟩) (fun e sn' c' d' f' sd' sf' F => ?_) (fun A Q e sn' c' d' f' sd' sf' F HA _ => ?_)
        · refine br_f (by decide) ?_
          rw [show (4 : Int32) = wu_z 4 from by decide]
          refine H 4 W (wu_do_4 hs e) _ _ _ _ _ _ (wu_Fr_mono F (fun s z => ?_)) (fun z => absurd z (by decide))
          rcases z with z | z | z | ⟨z, _⟩
          · exact ⟨by omega, by omega⟩
          · exact ⟨by omega, by omega⟩
          · exact ⟨by omega, by omega⟩
          · exact absurd z (by decide)
        · have F' : wu_Fr wu_Qw c d f c' d' f' := by
            refine wu_Fr_mono F (fun s z => ?_)
            rcases z with z | z | z | ⟨z, _⟩
            · exact ⟨by omega, by omega⟩
            · exact ⟨by omega, by omega⟩
            · exact ⟨by omega, by omega⟩
            · exact absurd z (by decide)
          have cA := (wu_dv_Cp hp.1 hv (cW b hb) cwi wu_Cp_nil e).1
          have bA := wu_cl_b nv A
          have hk := wu_kk_le hv cwi.2 (wu_cl_ne hcb)
          refine br_t (nI_pos' (by omega)) ?_
          refine wu_X_cls (s := 22 + i) hnv (by omega) HA cA.2 ?_
          refine wu_beq (wu_cl nv A) (-1) (fun g => ?_) (fun g => ?_) rfl wu_m1 (by omega) (by omega)
          · rw [show (3 : Int32) = wu_z 3 from by decide]
            exact H 3 _ (wu_do_3 hs e g) _ _ _ _ _ _ F' (fun z => absurd z (by decide))
          · intro y ey
            subst ey
            rw [nI_1]
            have hW' : wu_HW c' d' f' (wu_up W i A) := by
              refine wu_HW_up F (fun j hj hji z => ?_) cW hW HA
              rcases z with z | z | z | ⟨z, _⟩
              · omega
              · omega
              · omega
              · exact absurd z (by decide)
            refine ih (i + 1) n (wu_up W i A) sn' c' d' f' sd' sf' (by omega) (by omega) hW' (wu_up_CW cW cA) (by rw [wu_up_n (by omega)]; exact hcb) (fun e' W' h sn2 c2 d2 f2 sd2 sf2 F2 h0 => ?_)
            exact H e' W' (by rw [wu_do_go hs e g]; exact h) _ _ _ _ _ _ (wu_Fr_trans F' F2) h0
      · intro y ey
        subst ey
        rw [nI_1]
        have hs : i = b ∨ wu_cl nv (W i) ≠ (v : Int) := Or.inr hc
        exact ih (i + 1) n W sn c d f sd sf (by omega) (by omega) hW cW hcb (fun e W' h => H e W' (by rw [wu_do_sk hs]; exact h))
theorem wu_X_do {post : Int32 → St2 → Prop} {p nv v b : Nat} {sn st : Int32} {c d f mm sd sf : Nat → Int32} {W : Nat → wu_P} (hp : 2 ≤ p ∧ p ≤ 32749) (hnv : nv ≤ 6) (hv : v < 6) (hb : b < 8) (hW : wu_HW c d f W) (cW : wu_CW p W) (hcb : wu_cl nv (W b) = (v : Int))
    (H : ∀ e W', wu_do p nv v b 8 0 W = (e, W') → ∀ sn' c' d' f' sd' sf', wu_Fr wu_Qw c d f c' d' f' → (e = 0 → wu_HW c' d' f' W') → post (wu_z e) (sn', nI p, nI nv, st, c', d', f', mm, sd', sf')) :
    wpX_divideOthers post (sn, nI p, nI nv, st, c, d, f, mm, sd, sf) (nI (22 + b)) (nI v) :=
  ⟨9, wu_X_do_3 hp hnv hv hb 8 0 9 W sn c d f sd sf rfl (by omega) hW cW hcb H⟩
/-! the chain's element -/
theorem wu_X_tk_n {post : St2 → Prop} {p nv v : Nat} {sn P st : Int32} {c d f mm sd sf : Nat → Int32} {W : Nat → wu_P} (hnv : nv ≤ 6) (hv : v < 6) (hW : wu_HW c d f W) (cW : wu_CW p W) (H : post (sn, P, nI nv, st, c, d, f, mm, sd, sf)) :
    ∀ (l i n : Nat), i + l = 8 → l < n → (∀ j, i ≤ j → j < 8 → wu_cl nv (W j) ≠ (v : Int)) → wX_takeChainElement_3 post (nI v) n (nI (22 + i)) sn P (nI nv) st c d f mm sd sf := by
  intro l
  induction l with
  | zero =>
    intro i n hi hn hc
    obtain ⟨n, rfl⟩ : ∃ k, n = k + 1 := ⟨n - 1, by omega⟩
    exact pk_le 30 (22 + i) (fun _ => H) (fun h => absurd h (by omega)) rfl rfl (by omega) (by omega)
  | succ l ih =>
    intro i n hi hn hc
    obtain ⟨n, rfl⟩ : ∃ k, n = k + 1 := ⟨n - 1, by omega⟩
    have bc := wu_cl_b nv (W i)
    refine pk_le 30 (22 + i) (fun h => absurd h (by omega)) (fun _ => ?_) rfl rfl (by omega) (by omega)
    refine wu_X_cls (s := 22 + i) hnv (by omega) (hW i (by omega)) (cW i (by omega)).2 ?_
    refine wu_beq (wu_cl nv (W i)) (v : Int) (fun h => absurd h (hc i (Nat.le_refl i) (by omega))) (fun _ => ?_) rfl (wu_zn v).symm (by omega) (by omega)
    intro y ey
    subst ey
    rw [nI_1]
    exact ih (i + 1) n (by omega) (by omega) (fun j h1 h2 => hc j (by omega) h2)
theorem wu_X_tk_1 {post : St2 → Prop} {p nv v b : Nat} {sn P st : Int32} {c d f mm sd sf : Nat → Int32} {W : Nat → wu_P} (hnv : nv ≤ 6) (hv : v < 6) (hb : b < 8) (hW : wu_HW c d f W) (cW : wu_CW p W) (hcb : wu_cl nv (W b) = (v : Int)) (hc : ∀ j, j < 8 → j ≠ b → wu_cl nv (W j) ≠ (v : Int))
    (H : ∀ c' d' f', wu_Fr (fun s => s = 9 + v ∨ wu_Qw s) c d f c' d' f' → wu_Ho c' d' f' (9 + v) (W b) → wu_HW c' d' f' (wu_up W b []) → post (sn, P, nI nv, st, c', d', f', mm, sd, sf)) :
    ∀ (l i n : Nat), i + l = 8 → l < n → i ≤ b → wX_takeChainElement_3 post (nI v) n (nI (22 + i)) sn P (nI nv) st c d f mm sd sf := by
  intro l
  induction l with
  | zero => intro i n hi hn hib; exact absurd hib (by omega)
  | succ l ih =>
    intro i n hi hn hib
    obtain ⟨n, rfl⟩ : ∃ k, n = k + 1 := ⟨n - 1, by omega⟩
    have bc := wu_cl_b nv (W i)
    have cwi := cW i (by omega)
    refine pk_le 30 (22 + i) (fun h => absurd h (by omega)) (fun _ => ?_) rfl rfl (by omega) (by omega)
    refine wu_X_cls (s := 22 + i) hnv (by omega) (hW i (by omega)) cwi.2 ?_
    refine wu_beq (wu_cl nv (W i)) (v : Int) (fun h => ?_) (fun h => ?_) rfl (wu_zn v).symm (by omega) (by omega)
    · have e : i = b := Classical.byContradiction fun z => hc i (by omega) z h
      subst e
      rw [show (9 : Int32) + nI v = nI (9 + v) from nI_add 9 v]
      refine wu_X_copy (a := 22 + i) (b := 9 + v) (by omega) (by omega) (by omega) (hW i (by omega)) cwi.2.1 (fun c' d' f' F HC => ?_)
      refine ⟨vp_in_nI (by omega) (by decide), fun c2 e2 y ey => ?_⟩
      rw [nI_clamp (by omega)] at e2
      subst e2 ey
      rw [nI_1]
      have F2 : wu_Fr (fun s => s = 22 + i) c' d' f' (upd c' (22 + i) 0) d' f' := wu_Fr_cnt
      have FF : wu_Fr (fun s => s = 9 + v ∨ wu_Qw s) c d f (upd c' (22 + i) 0) d' f' := wu_Fr_trans (wu_Fr_mono F (fun s z => Or.inl z)) (wu_Fr_mono F2 (fun s z => Or.inr ⟨by omega, by omega⟩))
      have hW1 : wu_HW c' d' f' W := wu_HW_fr F (fun j hj => by omega) cW hW
      have hW2 : wu_HW (upd c' (22 + i) 0) d' f' (wu_up W i []) := wu_HW_up F2 (fun j hj hji => by omega) cW hW1 wu_Ho_0
      have cW2 : wu_CW p (wu_up W i []) := wu_up_CW cW wu_Cp_nil
      refine wu_X_tk_n hnv hv hW2 cW2 (H _ _ _ FF (wu_Ho_fr F2 (by omega) cwi.2.1 HC) hW2) l (i + 1) n (by omega) (by omega) (fun j h1 h2 => ?_)
      rw [wu_up_n (by omega)]
      exact hc j h2 (by omega)
    · intro y ey
      subst ey
      rw [nI_1]
      have : i ≠ b := fun z => h (by rw [z]; exact hcb)
      exact ih (i + 1) n (by omega) (by omega) (by omega)
theorem wu_X_t46 {post : Int32 → St2 → Prop} {J : Int32 → Int32 → Int32 → Int32 → Int32 → (Nat → Int32) → (Nat → Int32) → (Nat → Int32) → (Nat → Int32) → (Nat → Int32) → (Nat → Int32) → Prop} {p nv v : Nat} {st : Int32} {mm : Nat → Int32} (hp : 2 ≤ p ∧ p ≤ 32749) (hnv : nv ≤ 6) (hv : v < 6) :
    ∀ (g ps n : Nat) (W : Nat → wu_P) (sn : Int32) (c d f sd sf : Nat → Int32), ps + g ≤ 1000 → g < n → wu_HW c d f W → wu_CW p W → wu_Me nv v W g → wu_Ho c d f (9 + v) [] →
    (∀ W' ch, wu_tr p nv v g W = (0, W', ch) → ∀ sn' c' d' f' sd' sf', wu_Fr (fun s => s = 9 + v ∨ wu_Qw s) c d f c' d' f' → wu_HW c' d' f' W' → wu_CW p W' → wu_Ho c' d' f' (9 + v) ch → wu_Cp p ch → ∀ y, y = nI v + (-1) → J y sn' (nI p) (nI nv) st c' d' f' mm sd' sf') →
    (∀ e W' ch, wu_tr p nv v g W = (e, W', ch) → e ≠ 0 → ∀ sn' c' d' f' sd' sf', wu_Fr (fun s => s = 9 + v ∨ wu_Qw s) c d f c' d' f' → post (wu_z e) (sn', nI p, nI nv, st, c', d', f', mm, sd', sf')) →
    wX_triangulate_46 post J (nI v) n (nI ps) sn (nI p) (nI nv) st c d f mm sd sf := by
  intro g
  induction g with
  | zero => intro ps n W sn c d f sd sf h1 h2 hW cW hM; exact absurd hM.1 (by omega)
  | succ g ih =>
    intro ps n W sn c d f sd sf h1 h2 hW cW hM hch H0 H1
    obtain ⟨n, rfl⟩ : ∃ k, n = k + 1 := ⟨n - 1, by omega⟩
    refine pk_le 1000 ps (fun h => absurd h (by omega)) (fun _ => ?_) rfl rfl (by omega) (by omega)
    have key : wpX_countOfClass (fun r_29 => (((r_29 ≤ 1 → (wX_triangulate_90 post J (nI v) sn (nI p) (nI nv) st c d f mm sd sf)) ∧ (¬ r_29 ≤ 1 → (wpX_leastOfClass (fun r_41 => (wpX_divideOthers (fun r_52 u => match u with | (f_sumCount_53, f_p_54, f_vars_55, f_state_56, a_counts_57, a_codes_58, a_coefs_59, a_multipliers_60, a_sumCodes_61, a_sumCoefs_62) => (((r_52 = 0 → (∀ x2_64 : Int32, x2_64 = nI ps + 1 → (wX_triangulate_46 post J (nI v) n x2_64 f_sumCount_53 f_p_54 f_vars_55 f_state_56 a_counts_57 a_codes_58 a_coefs_59 a_multipliers_60 a_sumCodes_61 a_sumCoefs_62))) ∧ (¬ r_52 = 0 → (post r_52 (f_sumCount_53, f_p_54, f_vars_55, f_state_56, a_counts_57, a_codes_58, a_coefs_59, a_multipliers_60, a_sumCodes_61, a_sumCoefs_62)))))) (sn, nI p, nI nv, st, c, d, f, mm, sd, sf) r_41 (nI v))) (sn, nI p, nI nv, st, c, d, f, mm, sd, sf) (nI v)))))) (sn, nI p, nI nv, st, c, d, f, mm, sd, sf) (wu_z (v : Int)) := by
      have ctb : wu_ct nv v W 8 0 ≤ 1000 := by
        have : ∀ n i, wu_ct nv v W n i ≤ n := by
          intro n
          induction n with
          | zero => intro i; exact Nat.le_refl _
          | succ n ih => intro i; rw [wu_ct]; have := ih (i + 1); by_cases h : wu_cl nv (W i) = (v : Int)
                         · rw [if_pos h]; omega
                         · rw [if_neg h]; omega
        have := this 8 0; omega
      refine wu_X_ct hnv (by omega) hW cW ?_
      refine pk_le (wu_ct nv v W 8 0) 1 (fun hle => ?_) (fun hgt => ?_) rfl rfl (by omega) (by omega)
      · by_cases h0 : wu_ct nv v W 8 0 = 0
        · refine ⟨9, wu_X_tk_n hnv hv hW cW ?_ 8 0 9 rfl (by omega) (fun j hj hj' => wu_ct_0 8 0 h0 j hj (by omega))⟩
          exact H0 W [] (wu_tr_0 h0) _ _ _ _ _ _ wu_Fr_refl hW cW hch wu_Cp_nil
        · obtain ⟨b, hb, eb, hcb, _⟩ := wu_ls_at hv cW h0
          refine ⟨9, wu_X_tk_1 hnv hv hb hW cW hcb (fun j hj hjb => wu_ct_1 b 8 0 hle (by omega) (by omega) hcb j (by omega) (by omega) hjb) (fun c' d' f' F HC HW' => ?_) 8 0 9 rfl (by omega) (by omega)⟩
          exact H0 _ _ (wu_tr_1 (by omega) eb) _ _ _ _ _ _ F HW' (wu_up_CW cW wu_Cp_nil) HC (cW b hb)
      · obtain ⟨b, hb, eb, hcb, hmin⟩ := wu_ls_at hv cW (show wu_ct nv v W 8 0 ≠ 0 by omega)
        refine wu_X_ls hnv hv hW cW ?_
        rw [eb, Int.toNat_natCast]
        refine wu_X_do hp hnv hv hb hW cW hcb (fun e W' hd sn' c' d' f' sd' sf' F hW' => ?_)
        have F' : wu_Fr (fun s => s = 9 + v ∨ wu_Qw s) c d f c' d' f' := wu_Fr_mono F (fun s z => Or.inr z)
        have be : e = 0 ∨ e = 3 ∨ e = 4 := by have := wu_do_b (p := p) (nv := nv) (v := v) (b := b) 8 0 W; rw [hd] at this; exact this
        refine wu_beq e 0 (fun he => ?_) (fun he => ?_) rfl wu_z0 (by omega) (by omega)
        · intro y ey
          subst ey
          rw [nI_1]
          subst he
          obtain ⟨cW', hM'⟩ := wu_Me_next hp.1 hnv hv cW hM (by omega) hb hcb hmin hd
          refine ih (ps + 1) n W' sn' c' d' f' sd' sf' (by omega) (by omega) (hW' rfl) cW' hM' (wu_Ho_fr F (fun z => by have := z.1; omega) (by simp) hch) (fun W2 ch h sn2 c2 d2 f2 sd2 sf2 F2 => ?_) (fun e2 W2 ch h he2 sn2 c2 d2 f2 sd2 sf2 F2 => ?_)
          · exact H0 W2 ch (by rw [wu_tr_2 (by omega) eb hd]; exact h) _ _ _ _ _ _ (wu_Fr_trans F' F2)
          · exact H1 e2 W2 ch (by rw [wu_tr_2 (by omega) eb hd]; exact h) he2 _ _ _ _ _ _ (wu_Fr_trans F' F2)
        · exact H1 e W' [] (wu_tr_3 (by omega) eb hd he) he _ _ _ _ _ _ F'
    rw [wu_zn] at key
    exact key
def wu_Qt (s : Nat) : Prop := (9 ≤ s ∧ s < 15) ∨ wu_Qw s
theorem wu_X_t40 {post : Int32 → St2 → Prop} {p nv : Nat} {st : Int32} {mm : Nat → Int32} (hp : 2 ≤ p ∧ p ≤ 32749) (hnv : nv ≤ 6) :
    ∀ (v n : Nat) (W C : Nat → wu_P) (sn : Int32) (c d f sd sf : Nat → Int32), v ≤ nv → v < n → wu_HW c d f W → wu_CW p W → (∀ u, u < 6 → wu_Ho c d f (9 + u) (C u) ∧ wu_Cp p (C u)) → (∀ u, u < v → C u = []) →
    (∀ C', wu_ta p nv v W C = (0, C') → ∀ sn' c' d' f' sd' sf', wu_Fr wu_Qt c d f c' d' f' → (∀ u, u < 6 → wu_Ho c' d' f' (9 + u) (C' u) ∧ wu_Cp p (C' u)) → post 0 (sn', nI p, nI nv, st, c', d', f', mm, sd', sf')) →
    (∀ e C', wu_ta p nv v W C = (e, C') → e ≠ 0 → ∀ sn' c' d' f' sd' sf', wu_Fr wu_Qt c d f c' d' f' → post (wu_z e) (sn', nI p, nI nv, st, c', d', f', mm, sd', sf')) →
    wX_triangulate_40 post n (wu_z ((v : Int) - 1)) sn (nI p) (nI nv) st c d f mm sd sf := by
  intro v
  induction v with
  | zero =>
    intro n W C sn c d f sd sf h1 h2 hW cW hC hz H0 H1
    obtain ⟨n, rfl⟩ : ∃ k, n = k + 1 := ⟨n - 1, by omega⟩
    exact wu_blt (-1) 0 (fun _ => H0 C rfl _ _ _ _ _ _ wu_Fr_refl hC) (fun h => absurd h (by decide)) rfl wu_z0 (by omega) (by omega)
  | succ v ih =>
    intro n W C sn c d f sd sf h1 h2 hW cW hC hz H0 H1
    obtain ⟨n, rfl⟩ : ∃ k, n = k + 1 := ⟨n - 1, by omega⟩
    have e : ((v + 1 : Nat) : Int) - 1 = (v : Int) := by omega
    rw [e]
    have hv : v < 6 := by omega
    refine wu_blt (v : Int) 0 (fun h => absurd h (by omega)) (fun _ => ?_) rfl wu_z0 (by omega) (by omega)
    rw [wu_zn]
    have hCv := (hC v hv).1
    rw [hz v (by omega)] at hCv
    refine ⟨17, wu_X_t46 hp hnv hv 16 0 17 W sn c d f sd sf (by omega) (by omega) hW cW (wu_Me_16 hv cW) hCv (fun W' ch ht sn' c' d' f' sd' sf' F hW' cW' hch cch y ey => ?_) (fun e W' ch ht he sn' c' d' f' sd' sf' F => ?_)⟩
    · subst ey
      rw [wu_zn1]
      have F' : wu_Fr wu_Qt c d f c' d' f' := wu_Fr_mono F (fun s z => z.elim (fun z => Or.inl ⟨by omega, by omega⟩) Or.inr)
      refine ih n W' (wu_up C v ch) sn' c' d' f' sd' sf' (by omega) (by omega) hW' cW' (fun u hu => ?_) (fun u hu => by rw [wu_up_n (by omega)]; exact hz u (by omega)) (fun C' h sn2 c2 d2 f2 sd2 sf2 F2 => ?_) (fun e C' h he sn2 c2 d2 f2 sd2 sf2 F2 => ?_)
      · by_cases q : u = v
        · rw [q, wu_up_s]; exact ⟨hch, cch⟩
        · rw [wu_up_n q]
          refine ⟨wu_Ho_fr F ?_ (hC u hu).2.2.1 (hC u hu).1, (hC u hu).2⟩
          rintro (z | z)
          · omega
          · have := z.1; omega
      · exact H0 C' (by rw [wu_ta_s ht]; exact h) _ _ _ _ _ _ (wu_Fr_trans F' F2)
      · exact H1 e C' (by rw [wu_ta_s ht]; exact h) he _ _ _ _ _ _ (wu_Fr_trans F' F2)
    · exact H1 e C (wu_ta_e ht he) he _ _ _ _ _ _ (wu_Fr_mono F (fun s z => z.elim (fun z => Or.inl ⟨by omega, by omega⟩) Or.inr))
theorem wu_X_t2 {post : Int32 → St2 → Prop} {p nv : Nat} {st : Int32} {mm : Nat → Int32} {W : Nat → wu_P} (hp : 2 ≤ p ∧ p ≤ 32749) (hnv : nv ≤ 6) (cW : wu_CW p W) :
    ∀ (l i n : Nat) (sn : Int32) (c d f sd sf : Nat → Int32), i + l = 8 → l < n → (∀ j, j < 8 → wu_Ho c d f j (W j)) → (∀ j, j < i → wu_Ho c d f (22 + j) (W j)) → (∀ u, u < 6 → wu_Ho c d f (9 + u) []) →
    (∀ C', wu_tt p nv W = (0, C') → ∀ sn' c' d' f' sd' sf', wu_Fr wu_Qt c d f c' d' f' → (∀ u, u < 6 → wu_Ho c' d' f' (9 + u) (C' u) ∧ wu_Cp p (C' u)) → post 0 (sn', nI p, nI nv, st, c', d', f', mm, sd', sf')) →
    (∀ e C', wu_tt p nv W = (e, C') → e ≠ 0 → ∀ sn' c' d' f' sd' sf', wu_Fr wu_Qt c d f c' d' f' → post (wu_z e) (sn', nI p, nI nv, st, c', d', f', mm, sd', sf')) →
    wX_triangulate_2 post n (nI i) sn (nI p) (nI nv) st c d f mm sd sf := by
  intro l
  induction l with
  | zero =>
    intro i n sn c d f sd sf hi hn hin hw hch H0 H1
    obtain ⟨n, rfl⟩ : ∃ k, n = k + 1 := ⟨n - 1, by omega⟩
    have hW : wu_HW c d f W := fun j hj => hw j (by omega)
    have ctb : wu_ct nv (-1) W 8 0 ≤ 1000 := by
      have : ∀ n i, wu_ct nv (-1) W n i ≤ n := by
        intro n
        induction n with
        | zero => intro i; exact Nat.le_refl _
        | succ n ih => intro i; rw [wu_ct]; have := ih (i + 1); by_cases h : wu_cl nv (W i) = -1
                       · rw [if_pos h]; omega
                       · rw [if_neg h]; omega
      have := this 8 0; omega
    refine pk_le 8 i (fun _ => ?_) (fun h => absurd h (by omega)) rfl rfl (by omega) (by omega)
    rw [wu_m1]
    refine wu_X_ct hnv (by omega) hW cW ?_
    refine pk_le (wu_ct nv (-1) W 8 0) 0 (fun h0 => ?_) (fun h0 => ?_) rfl rfl (by omega) (by omega)
    · intro y ey
      subst ey
      rw [wu_zs1]
      have et : wu_tt p nv W = wu_ta p nv nv W (fun _ => []) := by unfold wu_tt; rw [if_pos (by omega)]
      rw [et] at H0 H1
      exact ⟨nv + 1, wu_X_t40 hp hnv nv (nv + 1) W (fun _ => []) sn c d f sd sf (by omega) (by omega) hW cW (fun u hu => ⟨hch u hu, wu_Cp_nil⟩) (fun _ _ => rfl) H0 H1⟩
    · have et : wu_tt p nv W = (3, fun _ => []) := by unfold wu_tt; rw [if_neg (by omega)]
      rw [show (3 : Int32) = wu_z 3 from by decide]
      exact H1 3 _ et (by decide) _ _ _ _ _ _ wu_Fr_refl
  | succ l ih =>
    intro i n sn c d f sd sf hi hn hin hw hch H0 H1
    obtain ⟨n, rfl⟩ : ∃ k, n = k + 1 := ⟨n - 1, by omega⟩
    refine pk_le 8 i (fun h => absurd h (by omega)) (fun _ => ?_) rfl rfl (by omega) (by omega)
    rw [show (22 : Int32) + nI i = nI (22 + i) from nI_add 22 i]
    refine wu_X_copy (a := i) (b := 22 + i) (by omega) (by omega) (by omega) (hin i (by omega)) (cW i (by omega)).2.1 (fun c' d' f' F HC => ?_)
    intro y ey
    subst ey
    rw [nI_1]
    have F' : wu_Fr wu_Qt c d f c' d' f' := wu_Fr_mono F (fun s z => Or.inr ⟨by omega, by omega⟩)
    refine ih (i + 1) n sn c' d' f' sd sf (by omega) (by omega) (fun j hj => wu_Ho_fr F (by omega) (cW j hj).2.1 (hin j hj)) (fun j hj => ?_) (fun u hu => wu_Ho_fr F (by omega) (by simp) (hch u hu)) (fun C' h sn2 c2 d2 f2 sd2 sf2 F2 => H0 C' h _ _ _ _ _ _ (wu_Fr_trans F' F2)) (fun e C' h he sn2 c2 d2 f2 sd2 sf2 F2 => H1 e C' h he _ _ _ _ _ _ (wu_Fr_trans F' F2))
    by_cases q : j = i
    · rw [q]; exact HC
    · exact wu_Ho_fr F (by omega) (cW j (by omega)).2.1 (hw j (by omega))
end
section
/-! the reference triangulates; its slots hold the lists up to order -/
def wu_Hp (c d f : Nat → Int32) (s : Nat) (L : wu_P) : Prop := ∃ L', List.Perm L' L ∧ wu_Ho c d f s L'
theorem wu_Hp_fr {Q : Nat → Prop} {p s : Nat} {c d f c' d' f' : Nat → Int32} {L : wu_P} (F : wu_Fr Q c d f c' d' f') (hs : ¬ Q s) (hL : wu_Cp p L) (h : wu_Hp c d f s L) : wu_Hp c' d' f' s L := by
  obtain ⟨L', hp, hL'⟩ := h
  exact ⟨L', hp, wu_Ho_fr F hs (hp.length_eq ▸ hL.2.1) hL'⟩
theorem wu_Hp_of {c d f : Nat → Int32} {s : Nat} {L : wu_P} (h : wu_Ho c d f s L) : wu_Hp c d f s L := ⟨L, List.Perm.refl _, h⟩
theorem wu_Hp_cnt {c d f : Nat → Int32} {s : Nat} {L : wu_P} (h : wu_Hp c d f s L) : c s = nI L.length := by
  obtain ⟨L', hp, hL'⟩ := h
  rw [hL'.1, hp.length_eq]
def wu_HY (c d f : Nat → Int32) (W : Nat → wu_P) : Prop := ∀ i, i < 8 → wu_Hp c d f (22 + i) (W i)
theorem wu_HY_fr {Q : Nat → Prop} {p : Nat} {c d f c' d' f' : Nat → Int32} {W : Nat → wu_P} (F : wu_Fr Q c d f c' d' f') (hQ : ∀ i, i < 8 → ¬ Q (22 + i)) (cW : wu_CW p W) (h : wu_HY c d f W) : wu_HY c' d' f' W :=
  fun i hi => wu_Hp_fr F (hQ i hi) (cW i hi) (h i hi)
theorem wu_HY_up {Q : Nat → Prop} {p : Nat} {c d f c' d' f' : Nat → Int32} {W : Nat → wu_P} {i : Nat} {L : wu_P} (F : wu_Fr Q c d f c' d' f') (hQ : ∀ j, j < 8 → j ≠ i → ¬ Q (22 + j)) (cW : wu_CW p W) (h : wu_HY c d f W) (hL : wu_Hp c' d' f' (22 + i) L) : wu_HY c' d' f' (wu_up W i L) := by
  intro j hj
  by_cases e : j = i
  · rw [e, wu_up_s]; exact hL
  · rw [wu_up_n e]; exact wu_Hp_fr F (hQ j hj e) (cW j hj) (h j hj)
def wu_Qx (s : Nat) : Prop := (22 ≤ s ∧ s < 32)
theorem wu_ct_le {nv : Nat} {w : Int} {W : Nat → wu_P} : ∀ n i, wu_ct nv w W n i ≤ n := by
  intro n
  induction n with
  | zero => intro i; exact Nat.le_refl _
  | succ n ih =>
    intro i
    rw [wu_ct]
    have := ih (i + 1)
    by_cases h : wu_cl nv (W i) = w
    · rw [if_pos h]; omega
    · rw [if_neg h]; omega
end
section
/-! reduction: pure -/
noncomputable def wu_mi (p : Nat) (I : wu_P) : Nat → wu_P → Option wu_P
  | 0, L => some L
  | n + 1, L => (wu_st p (wu_mul p 1 I L)).bind fun L' => wu_mi p I n L'
theorem wu_mi_n {p n : Nat} {I L : wu_P} (h : wu_st p (wu_mul p 1 I L) = none) : wu_mi p I (n + 1) L = none := by rw [wu_mi, h]; rfl
theorem wu_mi_s {p n : Nat} {I L L' : wu_P} (h : wu_st p (wu_mul p 1 I L) = some L') : wu_mi p I (n + 1) L = wu_mi p I n L' := by rw [wu_mi, h]; rfl
theorem wu_mul_nil (p sc : Nat) (I : wu_P) : wu_mul p sc I [] = [] := List.length_eq_zero_iff.mp (by rw [wu_mul_len]; rfl)
theorem wu_mi_nil {p : Nat} {I : wu_P} : ∀ n, wu_mi p I n [] = some [] := by
  intro n
  induction n with
  | zero => rfl
  | succ n ih => rw [wu_mi_s (L' := []) (by rw [wu_mul_nil]; exact wu_st_id wu_Cp_nil)]; exact ih
theorem wu_mi_Cp {p : Nat} {I : wu_P} (hp : 2 ≤ p) (cI : wu_Cp p I) : ∀ n L L', wu_Cp p L → wu_mi p I n L = some L' → wu_Cp p L' := by
  intro n
  induction n with
  | zero => intro L L' hL h; rw [← Option.some.inj h]; exact hL
  | succ n ih =>
    intro L L' hL h
    cases e : wu_st p (wu_mul p 1 I L) with
    | none => rw [wu_mi_n e] at h; exact absurd h (by simp)
    | some L1 => rw [wu_mi_s e] at h; exact ih L1 L' (wu_st_sp (wu_mul_Ad (by omega) cI.2 hL.2) e).1 h
noncomputable def wu_ra (p : Nat) (I : wu_P) (k v : Nat) : Nat → (Nat → wu_P) → Option (Nat → wu_P)
  | 0, Q => some Q
  | d + 1, Q => (wu_mi p I k (Q (v + (d + 1)))).bind fun L => wu_ra p I k v d (wu_up Q (v + (d + 1)) L)
theorem wu_ra_n {p k v d : Nat} {I : wu_P} {Q : Nat → wu_P} (h : wu_mi p I k (Q (v + (d + 1))) = none) : wu_ra p I k v (d + 1) Q = none := by rw [wu_ra, h]; rfl
theorem wu_ra_s {p k v d : Nat} {I L : wu_P} {Q : Nat → wu_P} (h : wu_mi p I k (Q (v + (d + 1))) = some L) : wu_ra p I k v (d + 1) Q = wu_ra p I k v d (wu_up Q (v + (d + 1)) L) := by rw [wu_ra, h]; rfl
theorem wu_up_id {Q : Nat → wu_P} {u : Nat} : wu_up Q u (Q u) = Q := by
  funext j
  by_cases h : j = u
  · rw [h, wu_up_s]
  · exact wu_up_n h
theorem wu_ra_z {p k v d : Nat} {I : wu_P} {Q : Nat → wu_P} (h : Q (v + (d + 1)) = []) : wu_ra p I k v (d + 1) Q = wu_ra p I k v d Q := by
  have e : wu_mi p I k (Q (v + (d + 1))) = some (Q (v + (d + 1))) := by rw [h]; exact wu_mi_nil k
  rw [wu_ra_s e, wu_up_id]
theorem wu_ra_lo {p k v : Nat} {I : wu_P} : ∀ (d : Nat) (Q Q' : Nat → wu_P), wu_ra p I k v d Q = some Q' → ∀ u, u ≤ v → Q' u = Q u := by
  intro d
  induction d with
  | zero => intro Q Q' h u _; rw [← Option.some.inj h]
  | succ d ih =>
    intro Q Q' h u hu
    cases e : wu_mi p I k (Q (v + (d + 1))) with
    | none => rw [wu_ra_n e] at h; exact absurd h (by simp)
    | some L =>
      rw [wu_ra_s e] at h
      rw [ih _ _ h u hu, wu_up_n (by omega)]
noncomputable def wu_re (p nv : Nat) (C : Nat → wu_P) : Nat → wu_P → (Nat → wu_P) → (Nat → Int) → Option (wu_P × (Nat → wu_P) × (Nat → Int))
  | 0, R, Q, K => some (R, Q, K)
  | v + 1, R, Q, K => if (C v).length = 0 then wu_re p nv C v R Q K else
      (wu_dv p v (C v) true R []).bind fun r => (wu_ra p (wu_in v (C v)) (wu_kk v R (C v)) v (nv - 1 - v) (wu_up Q v r.2)).bind fun Q' => wu_re p nv C v r.1 Q' (fun j => if j = v then (wu_kk v R (C v) : Int) else K j)
theorem wu_re_z {p nv v : Nat} {C Q : Nat → wu_P} {R : wu_P} {K : Nat → Int} (h : (C v).length = 0) : wu_re p nv C (v + 1) R Q K = wu_re p nv C v R Q K := by rw [wu_re, if_pos h]
theorem wu_re_n1 {p nv v : Nat} {C Q : Nat → wu_P} {R : wu_P} {K : Nat → Int} (h : (C v).length ≠ 0) (e : wu_dv p v (C v) true R [] = none) : wu_re p nv C (v + 1) R Q K = none := by rw [wu_re, if_neg h, e]; rfl
theorem wu_re_n2 {p nv v : Nat} {C Q : Nat → wu_P} {R R' q : wu_P} {K : Nat → Int} (h : (C v).length ≠ 0) (e : wu_dv p v (C v) true R [] = some (R', q)) (e2 : wu_ra p (wu_in v (C v)) (wu_kk v R (C v)) v (nv - 1 - v) (wu_up Q v q) = none) : wu_re p nv C (v + 1) R Q K = none := by
  rw [wu_re, if_neg h, e]
  show (wu_ra p (wu_in v (C v)) (wu_kk v R (C v)) v (nv - 1 - v) (wu_up Q v q)).bind _ = none
  rw [e2]; rfl
theorem wu_re_s {p nv v : Nat} {C Q Q' : Nat → wu_P} {R R' q : wu_P} {K : Nat → Int} (h : (C v).length ≠ 0) (e : wu_dv p v (C v) true R [] = some (R', q)) (e2 : wu_ra p (wu_in v (C v)) (wu_kk v R (C v)) v (nv - 1 - v) (wu_up Q v q) = some Q') : wu_re p nv C (v + 1) R Q K = wu_re p nv C v R' Q' (fun j => if j = v then (wu_kk v R (C v) : Int) else K j) := by
  rw [wu_re, if_neg h, e]
  show (wu_ra p (wu_in v (C v)) (wu_kk v R (C v)) v (nv - 1 - v) (wu_up Q v q)).bind _ = _
  rw [e2]; rfl
/-! the component: times the initial -/
theorem wu_X_mi_2 {post : Int32 → St2 → Prop} {p s : Nat} {V st x2 : Int32} {mm : Nat → Int32} {I : wu_P} {κ : Int} {k : Nat} (hp : 2 ≤ p ∧ p ≤ 32749) (hs : s < 34) (hs30 : s ≠ 30) (cI : wu_Cp p I) (hκ : -1 ≤ κ ∧ κ ≤ 16) (hx2 : x2 = wu_z κ) (hk : k = κ.toNat) :
    ∀ (l r n : Nat) (L : wu_P) (sn : Int32) (c d f sd sf : Nat → Int32), r + l = k → l < n → wu_Ho c d f 30 I → wu_Ho c d f s L → wu_Cp p L →
    (wu_mi p I l L = none → ∀ sn' c' d' f' sd' sf', wu_Fr (fun q => q = s) c d f c' d' f' → post 0 (sn', nI p, V, st, c', d', f', mm, sd', sf')) →
    (∀ L', wu_mi p I l L = some L' → ∀ sn' c' d' f' sd' sf', wu_Fr (fun q => q = s) c d f c' d' f' → wu_Ho c' d' f' s L' → post 1 (sn', nI p, V, st, c', d', f', mm, sd', sf')) →
    wX_multiplyByInitial_2 post (nI s) x2 n (nI r) sn (nI p) V st c d f mm sd sf := by
  intro l
  induction l with
  | zero =>
    intro r n L sn c d f sd sf hr hn hI hL cL H1 H0
    obtain ⟨n, rfl⟩ : ∃ k, n = k + 1 := ⟨n - 1, by omega⟩
    exact wu_ble κ (r : Int) (fun _ => H0 L rfl _ _ _ _ _ _ wu_Fr_refl hL) (fun h => absurd h (by omega)) hx2 (wu_zn r).symm (by omega) (by omega)
  | succ l ih =>
    intro r n L sn c d f sd sf hr hn hI hL cL H1 H0
    obtain ⟨n, rfl⟩ : ∃ k, n = k + 1 := ⟨n - 1, by omega⟩
    refine wu_ble κ (r : Int) (fun h => absurd h (by omega)) (fun _ => ?_) hx2 (wu_zn r).symm (by omega) (by omega)
    refine wu_X_prod (a := 30) (b := s) (sc := 1) (A := []) hp (by omega) hs (by omega) hI cI.2 hL cL.2 (Nat.zero_le _) wu_XB_nil (fun sn1 sd1 sf1 X1 => ?_)
    rw [List.nil_append] at X1
    have l1 := wu_mul_256 (sc := 1) cI.2 cL.2
    refine wu_X_store hp (s := s) hs X1 (by omega) (fun e0 => ?_) (fun L' e1 c' d' f' F HL => ?_)
    · exact br_t rfl (H1 (wu_mi_n e0) _ _ _ _ _ _ wu_Fr_refl)
    · refine br_f (by decide) (fun y ey => ?_)
      subst ey
      rw [nI_1]
      have cL' := (wu_st_sp (wu_mul_Ad (by omega) cI.2 cL.2) e1).1
      refine ih (r + 1) n L' sn1 c' d' f' sd1 sf1 (by omega) (by omega) (wu_Ho_fr F (fun z => hs30 z.symm) cI.2.1 hI) HL cL' (fun e sn2 c2 d2 f2 sd2 sf2 F2 => ?_) (fun L2 e sn2 c2 d2 f2 sd2 sf2 F2 HL2 => ?_)
      · exact H1 (by rw [wu_mi_s e1]; exact e) _ _ _ _ _ _ (wu_Fr_trans F F2)
      · exact H0 L2 (by rw [wu_mi_s e1]; exact e) _ _ _ _ _ _ (wu_Fr_trans F F2) HL2
theorem wu_X_mi {post : Int32 → St2 → Prop} {p s : Nat} {sn V st x2 : Int32} {c d f mm sd sf : Nat → Int32} {I L : wu_P} {κ : Int} (hp : 2 ≤ p ∧ p ≤ 32749) (hs : s < 34) (hs30 : s ≠ 30) (cI : wu_Cp p I) (hκ : -1 ≤ κ ∧ κ ≤ 16) (hx2 : x2 = wu_z κ) (hI : wu_Ho c d f 30 I) (hL : wu_Ho c d f s L) (cL : wu_Cp p L)
    (H1 : wu_mi p I κ.toNat L = none → ∀ sn' c' d' f' sd' sf', wu_Fr (fun q => q = s) c d f c' d' f' → post 0 (sn', nI p, V, st, c', d', f', mm, sd', sf'))
    (H0 : ∀ L', wu_mi p I κ.toNat L = some L' → ∀ sn' c' d' f' sd' sf', wu_Fr (fun q => q = s) c d f c' d' f' → wu_Ho c' d' f' s L' → post 1 (sn', nI p, V, st, c', d', f', mm, sd', sf')) :
    wpX_multiplyByInitial post (sn, nI p, V, st, c, d, f, mm, sd, sf) (nI s) x2 :=
  ⟨κ.toNat + 1, wu_X_mi_2 hp hs hs30 cI hκ hx2 rfl κ.toNat 0 _ L sn c d f sd sf (by omega) (by omega) hI hL cL H1 H0⟩
theorem wu_X_ra_16 {post : Int32 → St2 → Prop} {p nv v k : Nat} {V st : Int32} {mm : Nat → Int32} {I : wu_P} (hp : 2 ≤ p ∧ p ≤ 32749) (hnv : nv ≤ 6) (cI : wu_Cp p I) (hk : k ≤ 16) :
    ∀ (l n : Nat) (Q : Nat → wu_P) (sn : Int32) (c d f sd sf : Nat → Int32), v + l < nv → l < n → wu_Ho c d f 30 I → (∀ u, u < 6 → wu_Ho c d f (15 + u) (Q u) ∧ wu_Cp p (Q u)) →
    (wu_ra p I k v l Q = none → ∀ sn' c' d' f' sd' sf', wu_Fr (fun s => 15 ≤ s ∧ s < 21) c d f c' d' f' → post 0 (sn', nI p, V, st, c', d', f', mm, sd', sf')) →
    (∀ Q', wu_ra p I k v l Q = some Q' → ∀ sn' c' d' f' sd' sf', wu_Fr (fun s => 15 ≤ s ∧ s < 21) c d f c' d' f' → (∀ u, u < 6 → wu_Ho c' d' f' (15 + u) (Q' u) ∧ wu_Cp p (Q' u)) → post 1 (sn', nI p, V, st, c', d', f', mm, sd', sf')) →
    wX_raiseQuotientsAbove_16 post (nI v) (nI k) n (nI (v + l)) sn (nI p) V st c d f mm sd sf := by
  intro l
  induction l with
  | zero =>
    intro n Q sn c d f sd sf hl hn hI hQ H1 H0
    obtain ⟨n, rfl⟩ : ∃ k, n = k + 1 := ⟨n - 1, by omega⟩
    exact pk_le (v + 0) v (fun _ => H0 Q rfl _ _ _ _ _ _ wu_Fr_refl hQ) (fun h => absurd h (by omega)) rfl rfl (by omega) (by omega)
  | succ l ih =>
    intro n Q sn c d f sd sf hl hn hI hQ H1 H0
    obtain ⟨n, rfl⟩ : ∃ k, n = k + 1 := ⟨n - 1, by omega⟩
    have hu := hQ (v + (l + 1)) (by omega)
    refine pk_le (v + (l + 1)) v (fun h => absurd h (by omega)) (fun _ => ?_) rfl rfl (by omega) (by omega)
    rw [show (15 : Int32) + nI (v + (l + 1)) = nI (15 + (v + (l + 1))) from nI_add 15 _]
    refine wu_X_mi (s := 15 + (v + (l + 1))) (κ := (k : Int)) hp (by omega) (by omega) cI (by omega) (wu_zn k).symm hI hu.1 hu.2 (fun e sn' c' d' f' sd' sf' F => ?_) (fun L' e sn' c' d' f' sd' sf' F HL => ?_)
    · exact br_t rfl (H1 (wu_ra_n e) _ _ _ _ _ _ (wu_Fr_mono F (fun s z => ⟨by omega, by omega⟩)))
    · refine br_f (by decide) (fun y ey => ?_)
      subst ey
      rw [show nI (v + (l + 1)) + (-1) = nI (v + l) from pk_m1 _]
      rw [Int.toNat_natCast] at e
      have F' : wu_Fr (fun s => 15 ≤ s ∧ s < 21) c d f c' d' f' := wu_Fr_mono F (fun s z => ⟨by omega, by omega⟩)
      have cL' := wu_mi_Cp hp.1 cI _ _ _ hu.2 e
      refine ih n (wu_up Q (v + (l + 1)) L') sn' c' d' f' sd' sf' (by omega) (by omega) (wu_Ho_fr F (by omega) cI.2.1 hI) (fun u hu6 => ?_) (fun e2 sn2 c2 d2 f2 sd2 sf2 F2 => ?_) (fun Q' e2 sn2 c2 d2 f2 sd2 sf2 F2 HQ => ?_)
      · by_cases q : u = v + (l + 1)
        · rw [q, wu_up_s]; exact ⟨HL, cL'⟩
        · rw [wu_up_n q]; exact ⟨wu_Ho_fr F (by omega) (hQ u hu6).2.2.1 (hQ u hu6).1, (hQ u hu6).2⟩
      · exact H1 (by rw [wu_ra_s e]; exact e2) _ _ _ _ _ _ (wu_Fr_trans F' F2)
      · exact H0 Q' (by rw [wu_ra_s e]; exact e2) _ _ _ _ _ _ (wu_Fr_trans F' F2) HQ
theorem wu_X_ra {post : Int32 → St2 → Prop} {p nv v k : Nat} {sn st : Int32} {c d f mm sd sf : Nat → Int32} {B : wu_P} {Q : Nat → wu_P} (hp : 2 ≤ p ∧ p ≤ 32749) (hnv : nv ≤ 6) (hv : v < nv) (hk : k ≤ 16) (hB : wu_Ho c d f (9 + v) B) (cB : wu_Cp p B) (hne : B ≠ []) (hQ : ∀ u, u < 6 → wu_Ho c d f (15 + u) (Q u) ∧ wu_Cp p (Q u))
    (H1 : wu_ra p (wu_in v B) k v (nv - 1 - v) Q = none → ∀ sn' c' d' f' sd' sf', wu_Fr (fun s => (15 ≤ s ∧ s < 21) ∨ s = 30) c d f c' d' f' → post 0 (sn', nI p, nI nv, st, c', d', f', mm, sd', sf'))
    (H0 : ∀ Q', wu_ra p (wu_in v B) k v (nv - 1 - v) Q = some Q' → ∀ sn' c' d' f' sd' sf', wu_Fr (fun s => (15 ≤ s ∧ s < 21) ∨ s = 30) c d f c' d' f' → (∀ u, u < 6 → wu_Ho c' d' f' (15 + u) (Q' u) ∧ wu_Cp p (Q' u)) → post 1 (sn', nI p, nI nv, st, c', d', f', mm, sd', sf')) :
    wpX_raiseQuotientsAbove post (sn, nI p, nI nv, st, c, d, f, mm, sd, sf) (nI v) (nI k) := by
  have hv6 : v < 6 := by omega
  obtain ⟨m, hm, hm15⟩ := wu_dg_nat hv6 cB.2 hne
  have ein : wu_in v B = wu_pt v m (m * 32 ^ v) B := by unfold wu_in; rw [hm]; rfl
  have cI := wu_in_Cp hv6 cB
  unfold wpX_raiseQuotientsAbove
  try dsimp only
  rw [show (9 : Int32) + nI v = nI (9 + v) from nI_add 9 v]
  refine wu_X_init (a := 9 + v) (by omega) hv6 hB cB.2 hm (fun c2 d2 f2 F2 HI => ?_)
  rw [← ein] at HI
  intro x3 e3
  rw [show nI nv - 1 = nI (v + (nv - 1 - v)) from (pk_sub (a := nv) (b := 1) (by omega)).trans (congrArg nI (by omega))] at e3
  subst e3
  have F2' : wu_Fr (fun s => (15 ≤ s ∧ s < 21) ∨ s = 30) c d f c2 d2 f2 := wu_Fr_mono F2 (fun s z => Or.inr z)
  refine ⟨nv - 1 - v + 1, wu_X_ra_16 hp hnv cI hk (nv - 1 - v) _ Q sn c2 d2 f2 sd sf (by omega) (by omega) HI (fun u hu => ⟨wu_Ho_fr F2 (by omega) (hQ u hu).2.2.1 (hQ u hu).1, (hQ u hu).2⟩) (fun er sn3 c3 d3 f3 sd3 sf3 F3 => ?_) (fun Q3 er sn3 c3 d3 f3 sd3 sf3 F3 HQ3 => ?_)⟩
  · exact H1 er _ _ _ _ _ _ (wu_Fr_trans F2' (wu_Fr_mono F3 (fun s z => Or.inl z)))
  · exact H0 Q3 er _ _ _ _ _ _ (wu_Fr_trans F2' (wu_Fr_mono F3 (fun s z => Or.inl z))) HQ3
def wu_Qr (s : Nat) : Prop := (15 ≤ s ∧ s ≤ 21) ∨ (30 ≤ s ∧ s ≤ 32)
def wu_KO (m : Nat → Int32) (K : Nat → Int) : Prop := ∀ u, u < 6 → m u = wu_z (K u) ∧ -1 ≤ K u ∧ K u ≤ 16
theorem wu_KO_up {m : Nat → Int32} {K : Nat → Int} {v k : Nat} (h : wu_KO m K) (hk : k ≤ 16) : wu_KO (upd m v (nI k)) (fun j => if j = v then (k : Int) else K j) := by
  intro u hu
  by_cases q : u = v
  · subst q
    rw [pk_us]
    dsimp only
    rw [if_pos rfl, wu_zn]
    exact ⟨rfl, by omega, by omega⟩
  · rw [pk_un q]
    dsimp only
    rw [if_neg q]
    exact h u hu
theorem wu_X_re_15 {post : Int32 → St2 → Prop} {p nv : Nat} {st : Int32} {C : Nat → wu_P} (hp : 2 ≤ p ∧ p ≤ 32749) (hnv : nv ≤ 6) (cC : ∀ u, u < 6 → wu_Cp p (C u)) :
    ∀ (v n : Nat) (R : wu_P) (Q : Nat → wu_P) (K : Nat → Int) (sn : Int32) (c d f mm sd sf : Nat → Int32), v ≤ nv → v < n → wu_Ho c d f 21 R → wu_Cp p R → (∀ u, u < 6 → wu_Ho c d f (9 + u) (C u)) → (∀ u, u < 6 → wu_Ho c d f (15 + u) (Q u) ∧ wu_Cp p (Q u)) → (∀ u, u < v → Q u = []) → wu_KO mm K →
    (∀ R' Q' K', wu_re p nv C v R Q K = some (R', Q', K') → ∀ sn' c' d' f' m' sd' sf', wu_Fr wu_Qr c d f c' d' f' → wu_Ho c' d' f' 21 R' → wu_Cp p R' → (∀ u, u < 6 → wu_Ho c' d' f' (15 + u) (Q' u) ∧ wu_Cp p (Q' u)) → wu_KO m' K' → post (if R'.length = 0 then 1 else 2) (sn', nI p, nI nv, st, c', d', f', m', sd', sf')) →
    (wu_re p nv C v R Q K = none → ∀ sn' c' d' f' m' sd' sf', wu_Fr wu_Qr c d f c' d' f' → post 4 (sn', nI p, nI nv, st, c', d', f', m', sd', sf')) →
    wX_reduce_15 post n (wu_z ((v : Int) - 1)) sn (nI p) (nI nv) st c d f mm sd sf := by
  intro v
  induction v with
  | zero =>
    intro n R Q K sn c d f mm sd sf h1 h2 hR cR hC hQ hz hK H0 H1
    obtain ⟨n, rfl⟩ : ∃ k, n = k + 1 := ⟨n - 1, by omega⟩
    have fin := H0 R Q K rfl sn c d f mm sd sf wu_Fr_refl hR cR hQ hK
    have hR16 := cR.2.1
    refine wu_blt (-1) 0 (fun _ => ?_) (fun h => absurd h (by decide)) rfl wu_z0 (by omega) (by omega)
    refine pk_eq R.length 0 (fun h => ?_) (fun h => ?_) hR.1 rfl (by omega) (by omega)
    · rw [if_pos h] at fin; exact fin
    · rw [if_neg h] at fin; exact fin
  | succ v ih =>
    intro n R Q K sn c d f mm sd sf h1 h2 hR cR hC hQ hz hK H0 H1
    obtain ⟨n, rfl⟩ : ∃ k, n = k + 1 := ⟨n - 1, by omega⟩
    have hv : v < 6 := by omega
    have e : ((v + 1 : Nat) : Int) - 1 = (v : Int) := by omega
    rw [e]
    have c16 := (cC v hv).2.1
    refine wu_blt (v : Int) 0 (fun h => absurd h (by omega)) (fun _ => ?_) rfl wu_z0 (by omega) (by omega)
    rw [wu_zn, show (9 : Int32) + nI v = nI (9 + v) from nI_add 9 v, show (15 : Int32) + nI v = nI (15 + v) from nI_add 15 v]
    refine ⟨vp_in_nI (by omega) (by decide), ?_⟩
    refine pk_eq (C v).length 0 (fun h => ?_) (fun h => ?_) (by rw [nI_clamp (by omega)]; exact (hC v hv).1) rfl (by omega) (by omega)
    · intro y ey
      subst ey
      rw [wu_zn1]
      rw [wu_re_z h] at H0 H1
      exact ih n R Q K sn c d f mm sd sf (by omega) (by omega) hR cR hC hQ (fun u hu => hz u (by omega)) hK H0 H1
    · have hne : C v ≠ [] := fun z => h (by rw [z]; rfl)
      have hQv := (hQ v hv).1
      rw [hz v (by omega)] at hQv
      have hk := wu_kk_le hv cR.2 hne
      have q1 : ∀ s, wu_Qd 21 (15 + v) true s → wu_Qr s := by
        intro s z
        rcases z with z | z | z | ⟨_, z⟩
        · exact Or.inl ⟨by omega, by omega⟩
        · exact Or.inr ⟨by omega, by omega⟩
        · exact Or.inr ⟨by omega, by omega⟩
        · exact Or.inl ⟨by omega, by omega⟩
      have q2 : ∀ s, ((15 ≤ s ∧ s < 21) ∨ s = 30) → wu_Qr s := by
        intro s z
        rcases z with z | z
        · exact Or.inl ⟨by omega, by omega⟩
        · exact Or.inr ⟨by omega, by omega⟩
      refine wu_X_div (a := 21) (b := 9 + v) (q := 15 + v) (w := true) (Q := []) hp (by omega) (by omega) (by omega) hv hR cR (hC v hv) (cC v hv) hne (fun _ => ⟨by omega, by omega, by omega⟩) (fun _ => hQv) wu_Cp_nil (Or.inr ⟨rfl, rfl⟩) (fun ed sn' c' d' f' sd' sf' F => ?_) (fun R' q ed sn' c' d' f' sd' sf' F HR Hq => ?_)
      · exact br_t (by decide) (H1 (wu_re_n1 h ed) _ _ _ _ _ _ _ (wu_Fr_mono F q1))
      · have cc := wu_dv_Cp hp.1 hv (cC v hv) cR wu_Cp_nil ed
        have F' : wu_Fr wu_Qr c d f c' d' f' := wu_Fr_mono F q1
        have hC' : ∀ u, u < 6 → wu_Ho c' d' f' (9 + u) (C u) := fun u hu => wu_Ho_fr F' (by rintro (z | z) <;> omega) (cC u hu).2.1 (hC u hu)
        have hQ' : ∀ u, u < 6 → wu_Ho c' d' f' (15 + u) (wu_up Q v q u) ∧ wu_Cp p (wu_up Q v q u) := by
          intro u hu
          by_cases z : u = v
          · rw [z, wu_up_s]; exact ⟨Hq rfl, cc.2⟩
          · rw [wu_up_n z]
            refine ⟨wu_Ho_fr F ?_ (hQ u hu).2.2.1 (hQ u hu).1, (hQ u hu).2⟩
            rintro (z | z | z | ⟨_, z⟩) <;> omega
        refine br_f (nI_pos (by omega)) ?_
        refine wu_X_ra hp hnv (by omega) hk (hC' v hv) (cC v hv) hne hQ' (fun er sn3 c3 d3 f3 sd3 sf3 F3 => ?_) (fun Q3 er sn3 c3 d3 f3 sd3 sf3 F3 HQ3 => ?_)
        · exact br_t rfl (H1 (wu_re_n2 h ed er) _ _ _ _ _ _ _ (wu_Fr_trans F' (wu_Fr_mono F3 q2)))
        · refine br_f (by decide) ⟨vp_in_nI hv (by decide), fun m' em y ey => ?_⟩
          subst ey
          rw [nI_clamp (by omega)] at em
          subst em
          rw [wu_zn1]
          have FF : wu_Fr wu_Qr c d f c3 d3 f3 := wu_Fr_trans F' (wu_Fr_mono F3 q2)
          have hQz : ∀ u, u < v → Q3 u = [] := by
            intro u hu
            have := wu_ra_lo (nv - 1 - v) (wu_up Q v q) Q3 er u (by omega)
            rw [this, wu_up_n (by omega)]; exact hz u (by omega)
          rw [wu_re_s h ed er] at H0 H1
          exact ih n R' Q3 _ sn3 c3 d3 f3 _ sd3 sf3 (by omega) (by omega) (wu_Ho_fr F3 (by rintro (z | z) <;> omega) cc.1.2.1 HR) cc.1 (fun u hu => wu_Ho_fr F3 (by rintro (z | z) <;> omega) (cC u hu).2.1 (hC' u hu)) HQ3 hQz (wu_KO_up hK hk) (fun R4 Q4 K4 e4 sn4 c4 d4 f4 m4 sd4 sf4 F4 => H0 R4 Q4 K4 e4 _ _ _ _ _ _ _ (wu_Fr_trans FF F4)) (fun e4 sn4 c4 d4 f4 m4 sd4 sf4 F4 => H1 e4 _ _ _ _ _ _ _ (wu_Fr_trans FF F4))
end
section
/-! clearing the results, on both sides -/
def wu_Cz (c c' : Nat → Int32) : Prop := (∀ s, 9 ≤ s → s ≤ 21 → c' s = 0) ∧ (∀ s, (s < 9 ∨ 21 < s) → c' s = c s)
def wu_Mz (m : Nat → Int32) : Prop := ∀ u, u < 6 → m u = -1
theorem wu_X_cl_24 {post : St2 → Prop} {sn P V st : Int32} {c d f sd sf : Nat → Int32} (H : ∀ m', wu_Mz m' → post (sn, P, V, 0, c, d, f, m', sd, sf)) :
    ∀ (l i n : Nat) (m : Nat → Int32), i + l = 6 → l < n → (∀ u, u < i → m u = -1) → wX_clearResults_24 post sn P V st n (nI i) c d f m sd sf := by
  intro l
  induction l with
  | zero =>
    intro i n m hi hn hm
    obtain ⟨n, rfl⟩ : ∃ k, n = k + 1 := ⟨n - 1, by omega⟩
    exact pk_le 6 i (fun _ => H m (fun u hu => hm u (by omega))) (fun h => absurd h (by omega)) rfl rfl (by omega) (by omega)
  | succ l ih =>
    intro i n m hi hn hm
    obtain ⟨n, rfl⟩ : ∃ k, n = k + 1 := ⟨n - 1, by omega⟩
    refine pk_le 6 i (fun h => absurd h (by omega)) (fun _ => ⟨vp_in_nI (by omega) (by decide), fun m' em y ey => ?_⟩) rfl rfl (by omega) (by omega)
    rw [nI_clamp (by omega)] at em
    subst em ey
    rw [nI_1]
    refine ih (i + 1) n _ (by omega) (by omega) (fun u hu => ?_)
    by_cases q : u = i
    · rw [q, pk_us]
    · rw [pk_un q]; exact hm u (by omega)
theorem wu_X_cl_3 {post : St2 → Prop} {sn P V st : Int32} {c0 d f m sd sf : Nat → Int32} (H : ∀ c' m', wu_Cz c0 c' → wu_Mz m' → post (sn, P, V, 0, c', d, f, m', sd, sf)) :
    ∀ (l i n : Nat) (c : Nat → Int32), i + l = 22 → 9 ≤ i → l < n → (∀ s, 9 ≤ s → s < i → c s = 0) → (∀ s, (s < 9 ∨ i ≤ s) → c s = c0 s) → wX_clearResults_3 post sn P V st n (nI i) c d f m sd sf := by
  intro l
  induction l with
  | zero =>
    intro i n c hi h9 hn h1 h2
    obtain ⟨n, rfl⟩ : ∃ k, n = k + 1 := ⟨n - 1, by omega⟩
    refine pk_lt 21 i (fun _ => ⟨7, wu_X_cl_24 (fun m' hm => H c m' ⟨fun s h h' => h1 s h (by omega), fun s h => h2 s (by omega)⟩ hm) 6 0 7 m rfl (by omega) (fun u hu => absurd hu (by omega))⟩) (fun h => absurd h (by omega)) rfl rfl (by omega) (by omega)
  | succ l ih =>
    intro i n c hi h9 hn h1 h2
    obtain ⟨n, rfl⟩ : ∃ k, n = k + 1 := ⟨n - 1, by omega⟩
    refine pk_lt 21 i (fun h => absurd h (by omega)) (fun _ => ⟨vp_in_nI (by omega) (by decide), fun c' ec y ey => ?_⟩) rfl rfl (by omega) (by omega)
    rw [nI_clamp (by omega)] at ec
    subst ec ey
    rw [nI_1]
    refine ih (i + 1) n _ (by omega) (by omega) (by omega) (fun s h h' => ?_) (fun s h => ?_)
    · by_cases q : s = i
      · rw [q, pk_us]
      · rw [pk_un q]; exact h1 s h (by omega)
    · rw [pk_un (by omega)]; exact h2 s (by omega)
theorem wu_X_clear {post : St2 → Prop} {sn P V st : Int32} {c d f m sd sf : Nat → Int32} (H : ∀ c' m', wu_Cz c c' → wu_Mz m' → post (sn, P, V, 0, c', d, f, m', sd, sf)) : wpX_clearResults post (sn, P, V, st, c, d, f, m, sd, sf) :=
  ⟨14, wu_X_cl_3 H 13 9 14 c rfl (by omega) (by omega) (fun s h h' => absurd h' (by omega)) (fun s _ => rfl)⟩
theorem wu_Cz_fr {c c' d f : Nat → Int32} (h : wu_Cz c c') : wu_Fr (fun s => 9 ≤ s ∧ s ≤ 21) c d f c' d f :=
  fun s hs => ⟨h.2 s (by omega), fun _ _ => ⟨rfl, rfl⟩⟩
theorem wu_Cz_ho {c c' d f : Nat → Int32} {s : Nat} (h : wu_Cz c c') (h1 : 9 ≤ s) (h2 : s ≤ 21) : wu_Ho c' d f s [] := wu_Ho_z (h.1 s h1 h2)
theorem wu_Mz_KO {m : Nat → Int32} (h : wu_Mz m) : wu_KO m (fun _ => -1) := fun u hu => ⟨by rw [h u hu]; exact wu_m1, by dsimp only; omega, by dsimp only; omega⟩
end
section
/-! prove() on both sides -/
def wu_Z (r : Nat) : Int32 := if r = 0 then 1 else 2
/-- what prove ends with, if not with results: its status; else 0 -/
noncomputable def wu_pe (p nv : Nat) (σ : Nat → wu_P) : Int := if (wu_tt p nv σ).1 = 0 then (if wu_re p nv (wu_tt p nv σ).2 nv (σ 8) (fun _ => []) (fun _ => -1) = none then 4 else 0) else (wu_tt p nv σ).1
theorem wu_pe_t {p nv : Nat} {σ C : Nat → wu_P} {e : Int} (h : wu_tt p nv σ = (e, C)) (he : e ≠ 0) : wu_pe p nv σ = e := by
  unfold wu_pe; rw [h]; exact if_neg he
theorem wu_pe_r {p nv : Nat} {σ C : Nat → wu_P} (h : wu_tt p nv σ = (0, C)) (h2 : wu_re p nv C nv (σ 8) (fun _ => []) (fun _ => -1) = none) : wu_pe p nv σ = 4 := by
  unfold wu_pe; rw [h]; rw [if_pos rfl]; exact if_pos h2
theorem wu_pe_0 {p nv : Nat} {σ C : Nat → wu_P} {r : wu_P × (Nat → wu_P) × (Nat → Int)} (h : wu_tt p nv σ = (0, C)) (h2 : wu_re p nv C nv (σ 8) (fun _ => []) (fun _ => -1) = some r) : wu_pe p nv σ = 0 := by
  unfold wu_pe; rw [h]; rw [if_pos rfl]; refine if_neg ?_
  show ¬ wu_re p nv C nv (σ 8) (fun _ => []) (fun _ => -1) = none
  rw [h2]; simp
/-! the component -/
theorem wu_X_18 {post : Int32 → St2 → Prop} {sn P V st : Int32} {c d f mm sd sf : Nat → Int32} {e : Int} (he : e = 3 ∨ e = 4) (H : ∀ c' m', wu_Cz c c' → wu_Mz m' → post (wu_z e) (sn, P, V, wu_z e, c', d, f, m', sd, sf)) : wX_prove_18 post (wu_z e) sn P V st c d f mm sd sf := by
  unfold wX_prove_18
  rcases he with rfl | rfl
  · refine br_t (by decide) ?_
    unfold wX_prove_28
    exact wu_X_clear (fun c' m' h1 h2 => H c' m' h1 h2)
  · refine br_f (by decide) (br_t (by decide) ?_)
    unfold wX_prove_28
    exact wu_X_clear (fun c' m' h1 h2 => H c' m' h1 h2)
theorem wu_X_prove {post : Int32 → St2 → Prop} {p nv : Nat} {sn st : Int32} {c d f mm sd sf : Nat → Int32} {σ : Nat → wu_P} (hp : 2 ≤ p ∧ p ≤ 32749) (hnv : nv ≤ 6) (cW : ∀ j, j < 9 → wu_Cp p (σ j)) (hin : ∀ s, s < 9 → wu_Ho c d f s (σ s))
    (H0 : ∀ C R Q K, wu_tt p nv σ = (0, C) → wu_re p nv C nv (σ 8) (fun _ => []) (fun _ => -1) = some (R, Q, K) → ∀ sn' c' d' f' m' sd' sf', (∀ u, u < 6 → wu_Ho c' d' f' (9 + u) (C u) ∧ wu_Cp p (C u)) → wu_Ho c' d' f' 21 R → wu_Cp p R → (∀ u, u < 6 → wu_Ho c' d' f' (15 + u) (Q u) ∧ wu_Cp p (Q u)) → wu_KO m' K → (∀ s, s < 9 → wu_Ho c' d' f' s (σ s)) → post (if R.length = 0 then 1 else 2) (sn', nI p, nI nv, (if R.length = 0 then 1 else 2), c', d', f', m', sd', sf'))
    (H1 : wu_pe p nv σ ≠ 0 → ∀ sn' c' d' f' m' sd' sf', (∀ s, s < 9 → wu_Ho c' d' f' s (σ s)) → (∀ s, 9 ≤ s → s ≤ 21 → c' s = 0) → wu_Mz m' → post (wu_z (wu_pe p nv σ)) (sn', nI p, nI nv, wu_z (wu_pe p nv σ), c', d', f', m', sd', sf')) :
    wpX_prove post (sn, nI p, nI nv, st, c, d, f, mm, sd, sf) := by
  unfold wpX_prove
  try dsimp only
  refine wu_X_clear (fun c1 m1 hc hm => ?_)
  have F1 : wu_Fr (fun s => 9 ≤ s ∧ s ≤ 21) c d f c1 d f := wu_Cz_fr hc
  have hin1 : ∀ s, s < 9 → wu_Ho c1 d f s (σ s) := fun s hs => wu_Ho_fr F1 (by omega) (cW s hs).2.1 (hin s hs)
  refine ⟨9, wu_X_t2 (W := σ) hp hnv (fun i hi => cW i (by omega)) 8 0 9 sn c1 d f sd sf rfl (by omega) (fun j hj => hin1 j (by omega)) (fun j hj => absurd hj (by omega)) (fun u hu => wu_Cz_ho hc (by omega) (by omega)) (fun C et sn2 c2 d2 f2 sd2 sf2 F2 hC => ?_) (fun e C et he sn2 c2 d2 f2 sd2 sf2 F2 => ?_)⟩
  · refine br_t rfl ?_
    unfold wpX_reduce
    try dsimp only
    have q9 : ∀ s, s < 9 → ¬ wu_Qt s := by
      intro s hs z
      rcases z with z | z
      · omega
      · have := z.1; omega
    have q15 : ∀ s, 15 ≤ s → s ≤ 21 → ¬ wu_Qt s := by
      intro s hs hs' z
      rcases z with z | z
      · omega
      · have := z.1; omega
    refine wu_X_copy (a := 8) (b := 21) (by omega) (by omega) (by omega) (wu_Ho_fr F2 (q9 8 (by omega)) (cW 8 (by omega)).2.1 (hin1 8 (by omega))) (cW 8 (by omega)).2.1 (fun c3 d3 f3 F3 HR => ?_)
    intro x1 e1
    rw [wu_zs1] at e1
    subst e1
    refine ⟨nv + 1, wu_X_re_15 hp hnv (fun u hu => (hC u hu).2) nv (nv + 1) (σ 8) (fun _ => []) (fun _ => -1) sn2 c3 d3 f3 m1 sd2 sf2 (by omega) (by omega) HR (cW 8 (by omega)) (fun u hu => wu_Ho_fr F3 (by omega) (hC u hu).2.2.1 (hC u hu).1) (fun u hu => ⟨wu_Ho_fr F3 (by omega) (by simp) (wu_Ho_fr F2 (q15 _ (by omega) (by omega)) (by simp) (wu_Cz_ho hc (by omega) (by omega))), wu_Cp_nil⟩) (fun _ _ => rfl) (wu_Mz_KO hm) (fun R Q K er sn4 c4 d4 f4 m4 sd4 sf4 F4 hR cR hQ hK => ?_) (fun er sn4 c4 d4 f4 m4 sd4 sf4 F4 => ?_)⟩
    · have fin := H0 C R Q K et er sn4 c4 d4 f4 m4 sd4 sf4 (fun u hu => ⟨wu_Ho_fr F4 (by rintro (z | z) <;> omega) (hC u hu).2.2.1 (wu_Ho_fr F3 (by omega) (hC u hu).2.2.1 (hC u hu).1), (hC u hu).2⟩) hR cR hQ hK (fun s hs => wu_Ho_fr F4 (by rintro (z | z) <;> omega) (cW s hs).2.1 (wu_Ho_fr F3 (by omega) (cW s hs).2.1 (wu_Ho_fr F2 (q9 s hs) (cW s hs).2.1 (hin1 s hs))))
      by_cases hl : R.length = 0
      · rw [if_pos hl] at fin ⊢
        exact br_f (by decide) (br_f (by decide) fin)
      · rw [if_neg hl] at fin ⊢
        exact br_f (by decide) (br_f (by decide) fin)
    · have ep := wu_pe_r et er
      rw [show (4 : Int32) = wu_z 4 from by decide]
      refine wu_X_18 (Or.inr rfl) (fun c5 m5 hc5 hm5 => ?_)
      have := H1 (by rw [ep]; decide) sn4 c5 d4 f4 m5 sd4 sf4 (fun s hs => wu_Ho_fr (wu_Cz_fr hc5) (by omega) (cW s hs).2.1 (wu_Ho_fr F4 (by rintro (z | z) <;> omega) (cW s hs).2.1 (wu_Ho_fr F3 (by omega) (cW s hs).2.1 (wu_Ho_fr F2 (q9 s hs) (cW s hs).2.1 (hin1 s hs))))) hc5.1 hm5
      rw [ep] at this
      exact this
  · have be : e = 0 ∨ e = 3 ∨ e = 4 := by have := wu_tt_b (p := p) (nv := nv) (W := σ); rw [et] at this; exact this
    have ep := wu_pe_t et he
    refine br_f (fun z => he ?_) ?_
    · rw [wu_z0, wu_zeq (by omega) (by omega)] at z
      exact z
    refine wu_X_18 (by omega) (fun c5 m5 hc5 hm5 => ?_)
    have := H1 (by rw [ep]; exact he) sn2 c5 d2 f2 m5 sd2 sf2 (fun s hs => ?_) hc5.1 hm5
    · rw [ep] at this
      exact this
    · refine wu_Ho_fr (wu_Cz_fr hc5) (by omega) (cW s hs).2.1 (wu_Ho_fr F2 ?_ (cW s hs).2.1 (hin1 s hs))
      rintro (z | z)
      · omega
      · have := z.1; omega
end
section
/-! codes of callers and held codes -/
theorem wu_or (a b : Nat) : nI a ||| nI b = nI (a ||| b) := by
  apply Int32.toBitVec_inj.1
  show BitVec.ofNat 32 a ||| BitVec.ofNat 32 b = BitVec.ofNat 32 (a ||| b)
  exact BitVec.ofNat_or.symm
theorem wu_orp {a e k : Nat} (h : a < 2 ^ k) : a ||| e * 2 ^ k = a + e * 2 ^ k := by
  rw [Nat.or_comm, Nat.mul_comm, ← Nat.two_pow_add_eq_or_of_lt h e, Nat.add_comm]
def wu_hc (c : Nat) : Nat → Nat
  | 0 => 0
  | n + 1 => wu_hc c n + c / 16 ^ n % 16 * 32 ^ n
theorem wu_hc_lt (c n : Nat) : wu_hc c n < 32 ^ n := by
  induction n with
  | zero => exact Nat.zero_lt_one
  | succ n ih =>
    rw [wu_hc, Nat.pow_succ]
    have h1 : c / 16 ^ n % 16 * 32 ^ n ≤ 15 * 32 ^ n := Nat.mul_le_mul_right _ (by have := Nat.mod_lt (c / 16 ^ n) (show 0 < 16 by decide); omega)
    generalize 32 ^ n = y at ih h1 ⊢
    omega
theorem wu_hc_ex (c : Nat) : ∀ n w, wu_ex w (wu_hc c n) = if w < n then c / 16 ^ w % 16 else 0 := by
  intro n
  induction n with
  | zero => intro w; rw [if_neg (by omega)]; exact wu_exz w
  | succ n ih =>
    intro w
    have d15 : ∀ w, c / 16 ^ w % 16 ≤ 15 := fun w => by have := Nat.mod_lt (c / 16 ^ w) (show 0 < 16 by decide); omega
    rw [wu_hc, wu_exadd w, ih w, wu_exmono n w _ (by have := d15 n; omega)]
    · by_cases h1 : w < n
      · rw [if_pos h1, if_neg (by omega), if_pos (by omega)]; rfl
      · by_cases h2 : w = n
        · subst h2; rw [if_neg h1, if_pos rfl, if_pos (by omega), Nat.zero_add]
        · rw [if_neg h1, if_neg h2, if_neg (by omega)]
    · intro x _
      rw [ih x]
      by_cases h : x < n
      · rw [if_pos h]; exact d15 x
      · rw [if_neg h]; exact Nat.zero_le _
    · intro x _
      rw [wu_exmono n x _ (by have := d15 n; omega)]
      by_cases h : x = n
      · rw [if_pos h]; exact d15 n
      · rw [if_neg h]; exact Nat.zero_le _
theorem wu_hc_Sm (c : Nat) : wu_Sm (wu_hc c 6) := by
  refine wu_Sm_of ?_ (fun v hv => ?_)
  · have := wu_hc_lt c 6
    exact Nat.lt_of_lt_of_le this (by decide)
  · rw [wu_hc_ex, if_pos hv]
    have := Nat.mod_lt (c / 16 ^ v) (show 0 < 16 by decide)
    omega
theorem wu_X_held_4 {post : Int32 → Prop} {c : Nat} (hc : c < 2147483648) (H : post (nI (wu_hc c 6))) : ∀ (l v n : Nat), v + l = 6 → l < n → wX_heldCode_4 post (nI c) n (nI (wu_hc c v)) (nI v) := by
  intro l
  induction l with
  | zero =>
    intro v n e hn
    obtain ⟨n, rfl⟩ : ∃ k, n = k + 1 := ⟨n - 1, by omega⟩
    have : v = 6 := by omega
    subst this
    exact pk_le 6 6 (fun _ => H) (fun h => absurd h (by omega)) rfl rfl (by omega) (by omega)
  | succ l ih =>
    intro v n e hn
    obtain ⟨n, rfl⟩ : ∃ k, n = k + 1 := ⟨n - 1, by omega⟩
    refine pk_le 6 v (fun h => absurd h (by omega)) (fun _ x3 e3 x1 e1 x2 e2 => ?_) rfl rfl (by omega) (by omega)
    rw [wu_shr4 hc (by omega)] at e3
    subst e3
    have hlt := wu_hc_lt c v
    rw [wu_shl5 _ (by omega), pk_mul, wu_or, ← wu_p5, wu_orp (by rw [wu_p5]; exact hlt), wu_p5] at e1
    subst e1 e2
    rw [nI_1]
    exact ih (v + 1) n (by omega) (by omega)
/-! the selected slot -/
/-! the j-th term -/
def wu_rk (L : wu_P) (x : Nat) : Nat := (L.filter (fun t => decide (t.1 < x))).length
theorem wu_rk_perm {L L' : wu_P} (h : List.Perm L L') (x : Nat) : wu_rk L x = wu_rk L' x := (h.filter _).length_eq
theorem wu_rk_at : ∀ (L : wu_P), wu_Srt L → ∀ (j : Nat) (hj : j < L.length), wu_rk L (L[j]'hj).1 = j := by
  intro L
  induction L with
  | nil => intro _ j hj; exact absurd hj (Nat.not_lt_zero j)
  | cons a L ih =>
    intro hs j hj
    unfold wu_Srt at hs
    rw [List.pairwise_cons] at hs
    cases j with
    | zero =>
      show ((a :: L).filter (fun t => decide (t.1 < a.1))).length = 0
      rw [List.filter_cons_of_neg (by simp)]
      rw [List.length_eq_zero_iff, List.filter_eq_nil_iff]
      intro t ht
      have := hs.1 t ht
      simp only [decide_eq_true_eq]
      omega
    | succ j =>
      have hj' : j < L.length := by simp only [List.length_cons] at hj; omega
      have h1 := ih hs.2 j hj'
      have h2 := hs.1 (L[j]'hj') (List.getElem_mem hj')
      show ((a :: L).filter (fun t => decide (t.1 < (L[j]'hj').1))).length = j + 1
      rw [List.filter_cons_of_pos (by simpa using h2), List.length_cons]
      exact congrArg (· + 1) h1
end
section
/-! nth, same -/
theorem wu_rk_le (L : wu_P) (x : Nat) : wu_rk L x ≤ L.length := List.length_filter_le _ _
/-! the two comparisons -/
theorem wu_X_same_19 {post : Int32 → Prop} {sn P V st : Int32} {c d f m sd sf : Nat → Int32} {a b : Nat} (ha : a < 34) (hb : b < 34) :
    ∀ (A B : wu_P) (j n : Nat), A.length = B.length → c a = nI (j + A.length) → j + A.length ≤ 16 → wu_At d f (a * 16 + j) A → wu_At d f (b * 16 + j) B → (∀ t, t ∈ A → t.1 < 2147483648 ∧ t.2 < 2147483648) → (∀ t, t ∈ B → t.1 < 2147483648 ∧ t.2 < 2147483648) → A.length < n → (A = B → post 1) → (A ≠ B → post 0) → wX_samePoly_19 post (nI a) (nI b) sn P V st c d f m sd sf n (nI j) := by
  intro A
  induction A with
  | nil =>
    intro B j n hl hc h16 hA hB bA bB hn h1 h0
    obtain ⟨n, rfl⟩ : ∃ k, n = k + 1 := ⟨n - 1, by omega⟩
    have : B = [] := List.length_eq_zero_iff.mp hl.symm
    exact ⟨vp_in_nI ha (by decide), pk_le (j + 0) j (fun _ => h1 this.symm) (fun h => absurd h (by omega)) (by rw [nI_clamp (by omega)]; exact hc) rfl (by omega) (by omega)⟩
  | cons t A ih =>
    intro B j n hl hc h16 hA hB bA bB hn h1 h0
    obtain ⟨n, rfl⟩ : ∃ k, n = k + 1 := ⟨n - 1, by omega⟩
    cases B with
    | nil => exact absurd hl (by simp)
    | cons u B =>
      rw [List.length_cons] at hc h16 hn
      have hl' : A.length = B.length := by simp only [List.length_cons] at hl; omega
      have hia : vp_in (nI a * 16 + nI j) 544 := pk_in (a * 16 + j) 544 (by omega) (wu_ix a _)
      have hib : vp_in (nI b * 16 + nI j) 544 := pk_in (b * 16 + j) 544 (by omega) (wu_ix b _)
      have bt := bA t List.mem_cons_self
      have bu := bB u List.mem_cons_self
      have hca := wu_ixc a j (by omega)
      have hcb := wu_ixc b j (by omega)
      refine ⟨vp_in_nI ha (by decide), pk_le (j + (A.length + 1)) j (fun h => absurd h (by omega)) (fun _ => ⟨hia, hib, pk_eq t.1 u.1 (fun e1 => ⟨hia, hib, pk_eq t.2 u.2 (fun e2 => ?_) (fun e2 => h0 ?_) (by rw [hca]; exact hA.2.1) (by rw [hcb]; exact hB.2.1) (by omega) (by omega)⟩) (fun e1 => h0 ?_) (by rw [hca]; exact hA.1) (by rw [hcb]; exact hB.1) (by omega) (by omega)⟩) (by rw [nI_clamp (by omega)]; exact hc) rfl (by omega) (by omega)⟩
      · intro y ey
        subst ey
        rw [nI_1]
        have etu : t = u := Prod.ext e1 e2
        refine ih B (j + 1) n hl' (by rw [hc]; exact congrArg nI (by omega)) (by omega) hA.2.2 hB.2.2 (fun s hs => bA s (List.mem_cons_of_mem _ hs)) (fun s hs => bB s (List.mem_cons_of_mem _ hs)) (by omega) (fun e => h1 (by rw [etu, e])) (fun e => h0 (fun z => e (List.cons.inj z).2))
      · intro z; exact e2 (congrArg Prod.snd (List.cons.inj z).1)
      · intro z; exact e1 (congrArg Prod.fst (List.cons.inj z).1)
theorem wu_X_same {post : Int32 → Prop} {p : Nat} {sn P V st : Int32} {c d f m sd sf : Nat → Int32} {a b : Nat} {A B : wu_P} (hp : p ≤ 32749) (ha : a < 34) (hb : b < 34) (hA : wu_Ho c d f a A) (oA : wu_Ok p A) (hB : wu_Ho c d f b B) (oB : wu_Ok p B) (h1 : A = B → post 1) (h0 : A ≠ B → post 0) : wpX_samePoly post (sn, P, V, st, c, d, f, m, sd, sf) (nI a) (nI b) := by
  have a16 := oA.1
  have b16 := oB.1
  have bd : ∀ L : wu_P, wu_Ok p L → ∀ t, t ∈ L → t.1 < 2147483648 ∧ t.2 < 2147483648 := fun L oL t ht => by
    have h := oL.2.2 t ht
    have := h.2.2.1
    exact ⟨by omega, by omega⟩
  refine ⟨vp_in_nI ha (by decide), vp_in_nI hb (by decide), pk_eq A.length B.length (fun hl => ?_) (fun hl => h0 (fun z => hl (by rw [z]))) (by rw [nI_clamp (by omega)]; exact hA.1) (by rw [nI_clamp (by omega)]; exact hB.1) (by omega) (by omega)⟩
  exact ⟨A.length + 1, wu_X_same_19 ha hb A B 0 (A.length + 1) hl (by rw [Nat.zero_add]; exact hA.1) (by omega) hA.2 hB.2 (bd A oA) (bd B oB) (by omega) h1 h0⟩
theorem wu_sub_perm {A B : wu_P} (hA : A.Nodup) (hB : B.Nodup) (hl : A.length = B.length) (h : ∀ t, t ∈ A → t ∈ B) : List.Perm A B := by
  refine (List.perm_ext_iff_of_nodup hA hB).mpr (fun t => ⟨h t, fun ht => Classical.byContradiction fun hn => ?_⟩)
  have : (t :: A).Nodup := List.nodup_cons.mpr ⟨hn, hA⟩
  have h2 := List.Nodup.length_le_of_subset this (l₂ := B) (fun x hx => by
    rcases List.mem_cons.mp hx with rfl | hx
    · exact ht
    · exact h x hx)
  rw [List.length_cons] at h2
  omega
end
section
/-! check(): pure -/
noncomputable def wu_le (p : Nat) (C : Nat → wu_P) (K : Nat → Int) : Nat → wu_P → Option wu_P
  | 0, L => some L
  | v + 1, L => if (C v).length = 0 then wu_le p C K v L else (wu_mi p (wu_in v (C v)) (K v).toNat L).bind fun L' => wu_le p C K v L'
noncomputable def wu_ri (p : Nat) (C Q : Nat → wu_P) : Nat → wu_P → Option wu_P
  | 0, R => some R
  | v + 1, R => (wu_st p (R ++ wu_mul p 1 (Q v) (C v))).bind fun R' => wu_ri p C Q v R'
theorem wu_le_z {p v : Nat} {C : Nat → wu_P} {K : Nat → Int} {L : wu_P} (h : (C v).length = 0) : wu_le p C K (v + 1) L = wu_le p C K v L := by rw [wu_le, if_pos h]
theorem wu_le_n {p v : Nat} {C : Nat → wu_P} {K : Nat → Int} {L : wu_P} (h : (C v).length ≠ 0) (e : wu_mi p (wu_in v (C v)) (K v).toNat L = none) : wu_le p C K (v + 1) L = none := by rw [wu_le, if_neg h, e]; rfl
theorem wu_le_s {p v : Nat} {C : Nat → wu_P} {K : Nat → Int} {L L' : wu_P} (h : (C v).length ≠ 0) (e : wu_mi p (wu_in v (C v)) (K v).toNat L = some L') : wu_le p C K (v + 1) L = wu_le p C K v L' := by rw [wu_le, if_neg h, e]; rfl
theorem wu_ri_n {p v : Nat} {C Q : Nat → wu_P} {R : wu_P} (e : wu_st p (R ++ wu_mul p 1 (Q v) (C v)) = none) : wu_ri p C Q (v + 1) R = none := by rw [wu_ri, e]; rfl
theorem wu_ri_s {p v : Nat} {C Q : Nat → wu_P} {R R' : wu_P} (e : wu_st p (R ++ wu_mul p 1 (Q v) (C v)) = some R') : wu_ri p C Q (v + 1) R = wu_ri p C Q v R' := by rw [wu_ri, e]; rfl
theorem wu_ri_z {p v : Nat} {C Q : Nat → wu_P} {R : wu_P} (h : C v = []) (cR : wu_Cp p R) : wu_ri p C Q (v + 1) R = wu_ri p C Q v R :=
  wu_ri_s (by rw [h, wu_mul_nil, List.append_nil]; exact wu_st_id cR)
/-! the component -/
theorem wu_X_left_15 {post : Int32 → St2 → Prop} {p nv : Nat} {st : Int32} {mm : Nat → Int32} {C : Nat → wu_P} {K : Nat → Int} (hp : 2 ≤ p ∧ p ≤ 32749) (hnv : nv ≤ 6) (cC : ∀ u, u < 6 → wu_Cp p (C u)) (hK : wu_KO mm K) :
    ∀ (v n : Nat) (L : wu_P) (sn : Int32) (c d f sd sf : Nat → Int32), v ≤ nv → v < n → (∀ u, u < 6 → wu_Ho c d f (9 + u) (C u)) → wu_Ho c d f 32 L → wu_Cp p L →
    (wu_le p C K v L = none → ∀ sn' c' d' f' sd' sf', wu_Fr (fun s => s = 30 ∨ s = 32) c d f c' d' f' → post 0 (sn', nI p, nI nv, st, c', d', f', mm, sd', sf')) →
    (∀ L', wu_le p C K v L = some L' → ∀ sn' c' d' f' sd' sf', wu_Fr (fun s => s = 30 ∨ s = 32) c d f c' d' f' → wu_Ho c' d' f' 32 L' → wu_Cp p L' → post 1 (sn', nI p, nI nv, st, c', d', f', mm, sd', sf')) →
    wX_expandLeft_15 post n (wu_z ((v : Int) - 1)) sn (nI p) (nI nv) st c d f mm sd sf := by
  intro v
  induction v with
  | zero =>
    intro n L sn c d f sd sf h1 h2 hC hL cL H1 H0
    obtain ⟨n, rfl⟩ : ∃ k, n = k + 1 := ⟨n - 1, by omega⟩
    exact wu_blt (-1) 0 (fun _ => H0 L rfl _ _ _ _ _ _ wu_Fr_refl hL cL) (fun h => absurd h (by decide)) rfl wu_z0 (by omega) (by omega)
  | succ v ih =>
    intro n L sn c d f sd sf h1 h2 hC hL cL H1 H0
    obtain ⟨n, rfl⟩ : ∃ k, n = k + 1 := ⟨n - 1, by omega⟩
    have hv : v < 6 := by omega
    have e : ((v + 1 : Nat) : Int) - 1 = (v : Int) := by omega
    rw [e]
    have c16 := (cC v hv).2.1
    refine wu_blt (v : Int) 0 (fun h => absurd h (by omega)) (fun _ => ?_) rfl wu_z0 (by omega) (by omega)
    rw [wu_zn, show (9 : Int32) + nI v = nI (9 + v) from nI_add 9 v]
    refine ⟨vp_in_nI (by omega) (by decide), ?_⟩
    refine pk_eq (C v).length 0 (fun h => ?_) (fun h => ?_) (by rw [nI_clamp (by omega)]; exact (hC v hv).1) rfl (by omega) (by omega)
    · intro y ey
      subst ey
      rw [wu_zn1]
      rw [wu_le_z h] at H0 H1
      exact ih n L sn c d f sd sf (by omega) (by omega) hC hL cL H1 H0
    · have hne : C v ≠ [] := fun z => h (by rw [z]; rfl)
      obtain ⟨m, hm, hm15⟩ := wu_dg_nat hv (cC v hv).2 hne
      have ein : wu_in v (C v) = wu_pt v m (m * 32 ^ v) (C v) := by unfold wu_in; rw [hm]; rfl
      have cI := wu_in_Cp hv (cC v hv)
      refine wu_X_init (a := 9 + v) (by omega) hv (hC v hv) (cC v hv).2 hm (fun c2 d2 f2 F2 HI => ?_)
      rw [← ein] at HI
      refine ⟨vp_in_nI hv (by decide), ?_⟩
      have F2' : wu_Fr (fun s => s = 30 ∨ s = 32) c d f c2 d2 f2 := wu_Fr_mono F2 (fun s z => Or.inl z)
      refine wu_X_mi (s := 32) (κ := K v) hp (by omega) (by omega) cI (hK v hv).2 (by rw [nI_clamp (by omega)]; exact (hK v hv).1) HI (wu_Ho_fr F2 (by omega) cL.2.1 hL) cL (fun e sn' c' d' f' sd' sf' F => ?_) (fun L' e sn' c' d' f' sd' sf' F HL => ?_)
      · exact br_t rfl (H1 (wu_le_n h e) _ _ _ _ _ _ (wu_Fr_trans F2' (wu_Fr_mono F (fun s z => Or.inr z))))
      · refine br_f (by decide) (fun y ey => ?_)
        subst ey
        rw [wu_zn1]
        have FF : wu_Fr (fun s => s = 30 ∨ s = 32) c d f c' d' f' := wu_Fr_trans F2' (wu_Fr_mono F (fun s z => Or.inr z))
        have cL' := wu_mi_Cp hp.1 cI _ _ _ cL e
        rw [wu_le_s h e] at H0 H1
        exact ih n L' sn' c' d' f' sd' sf' (by omega) (by omega) (fun u hu => wu_Ho_fr FF (by omega) (cC u hu).2.1 (hC u hu)) HL cL' (fun e2 sn2 c3 d3 f3 sd2 sf2 F3 => H1 e2 _ _ _ _ _ _ (wu_Fr_trans FF F3)) (fun L2 e2 sn2 c3 d3 f3 sd2 sf2 F3 => H0 L2 e2 _ _ _ _ _ _ (wu_Fr_trans FF F3))
theorem wu_X_right_15 {post : Int32 → St2 → Prop} {p nv : Nat} {st : Int32} {mm : Nat → Int32} {C Q : Nat → wu_P} (hp : 2 ≤ p ∧ p ≤ 32749) (hnv : nv ≤ 6) (cC : ∀ u, u < 6 → wu_Cp p (C u)) (cQ : ∀ u, u < 6 → wu_Cp p (Q u)) :
    ∀ (v n : Nat) (R : wu_P) (sn : Int32) (c d f sd sf : Nat → Int32), v ≤ nv → v < n → (∀ u, u < 6 → wu_Ho c d f (9 + u) (C u)) → (∀ u, u < 6 → wu_Ho c d f (15 + u) (Q u)) → wu_Ho c d f 33 R → wu_Cp p R →
    (wu_ri p C Q v R = none → ∀ sn' c' d' f' sd' sf', wu_Fr (fun s => s = 33) c d f c' d' f' → post 0 (sn', nI p, nI nv, st, c', d', f', mm, sd', sf')) →
    (∀ R', wu_ri p C Q v R = some R' → ∀ sn' c' d' f' sd' sf', wu_Fr (fun s => s = 33) c d f c' d' f' → wu_Ho c' d' f' 33 R' → wu_Cp p R' → post 1 (sn', nI p, nI nv, st, c', d', f', mm, sd', sf')) →
    wX_expandRight_15 post n (wu_z ((v : Int) - 1)) sn (nI p) (nI nv) st c d f mm sd sf := by
  intro v
  induction v with
  | zero =>
    intro n R sn c d f sd sf h1 h2 hC hQ hR cR H1 H0
    obtain ⟨n, rfl⟩ : ∃ k, n = k + 1 := ⟨n - 1, by omega⟩
    exact wu_blt (-1) 0 (fun _ => H0 R rfl _ _ _ _ _ _ wu_Fr_refl hR cR) (fun h => absurd h (by decide)) rfl wu_z0 (by omega) (by omega)
  | succ v ih =>
    intro n R sn c d f sd sf h1 h2 hC hQ hR cR H1 H0
    obtain ⟨n, rfl⟩ : ∃ k, n = k + 1 := ⟨n - 1, by omega⟩
    have hv : v < 6 := by omega
    have e : ((v + 1 : Nat) : Int) - 1 = (v : Int) := by omega
    rw [e]
    refine wu_blt (v : Int) 0 (fun h => absurd h (by omega)) (fun _ => ?_) rfl wu_z0 (by omega) (by omega)
    rw [wu_zn, show (9 : Int32) + nI v = nI (9 + v) from nI_add 9 v, show (15 : Int32) + nI v = nI (15 + v) from nI_add 15 v]
    have r16 := cR.2.1
    refine wu_X_addPoly (s := 33) (A := []) hp (by omega) hR cR.2 (by rw [List.length_nil]; omega) wu_XB_nil (fun sn1 sd1 sf1 X1 => ?_)
    rw [List.nil_append] at X1
    refine wu_X_prod (a := 15 + v) (b := 9 + v) (sc := 1) hp (by omega) (by omega) (by omega) (hQ v hv) (cQ v hv).2 (hC v hv) (cC v hv).2 (by omega) X1 (fun sn2 sd2 sf2 X2 => ?_)
    have l2 := wu_mul_256 (sc := 1) (cQ v hv).2 (cC v hv).2
    refine wu_X_store hp (s := 33) (by omega) X2 (by rw [List.length_append]; omega) (fun e0 => ?_) (fun R' e1 c' d' f' F HR => ?_)
    · exact br_t rfl (H1 (wu_ri_n e0) _ _ _ _ _ _ wu_Fr_refl)
    · refine br_f (by decide) (fun y ey => ?_)
      subst ey
      rw [wu_zn1]
      have cR' := (wu_st_sp (wu_Ad_app (wu_Ok_Ad cR.2) (wu_mul_Ad (by omega) (cQ v hv).2 (cC v hv).2)) e1).1
      rw [wu_ri_s e1] at H0 H1
      exact ih n R' sn2 c' d' f' sd2 sf2 (by omega) (by omega) (fun u hu => wu_Ho_fr F (by omega) (cC u hu).2.1 (hC u hu)) (fun u hu => wu_Ho_fr F (by omega) (cQ u hu).2.1 (hQ u hu)) HR cR' (fun e2 sn3 c3 d3 f3 sd3 sf3 F3 => H1 e2 _ _ _ _ _ _ (wu_Fr_trans F F3)) (fun R2 e2 sn3 c3 d3 f3 sd3 sf3 F3 => H0 R2 e2 _ _ _ _ _ _ (wu_Fr_trans F F3))
/-- what check answers where there are results -/
noncomputable def wu_ch (p nv : Nat) (C Q : Nat → wu_P) (K : Nat → Int) (G R : wu_P) : Int :=
  match wu_le p C K nv G, wu_ri p C Q nv R with
  | some L, some S => @ite _ (L = S) (Classical.propDecidable _) 1 2
  | _, _ => 3
theorem wu_ch_n1 {p nv : Nat} {C Q : Nat → wu_P} {K : Nat → Int} {G R : wu_P} (h : wu_le p C K nv G = none) : wu_ch p nv C Q K G R = 3 := by unfold wu_ch; rw [h]
theorem wu_ch_n2 {p nv : Nat} {C Q : Nat → wu_P} {K : Nat → Int} {G R L : wu_P} (h : wu_le p C K nv G = some L) (h2 : wu_ri p C Q nv R = none) : wu_ch p nv C Q K G R = 3 := by unfold wu_ch; rw [h, h2]
theorem wu_ch_1 {p nv : Nat} {C Q : Nat → wu_P} {K : Nat → Int} {G R L S : wu_P} (h : wu_le p C K nv G = some L) (h2 : wu_ri p C Q nv R = some S) (e : L = S) : wu_ch p nv C Q K G R = 1 := by unfold wu_ch; rw [h, h2]; exact if_pos e
theorem wu_ch_2 {p nv : Nat} {C Q : Nat → wu_P} {K : Nat → Int} {G R L S : wu_P} (h : wu_le p C K nv G = some L) (h2 : wu_ri p C Q nv R = some S) (e : L ≠ S) : wu_ch p nv C Q K G R = 2 := by unfold wu_ch; rw [h, h2]; exact if_neg e
theorem wu_X_check_18 {post : Int32 → St2 → Prop} {p nv : Nat} {sn st : Int32} {c d f mm sd sf : Nat → Int32} {C Q : Nat → wu_P} {K : Nat → Int} {G R : wu_P} (hp : 2 ≤ p ∧ p ≤ 32749) (hnv : nv ≤ 6) (cC : ∀ u, u < 6 → wu_Cp p (C u)) (cQ : ∀ u, u < 6 → wu_Cp p (Q u)) (cG : wu_Cp p G) (cR : wu_Cp p R) (hK : wu_KO mm K) (hC : ∀ u, u < 6 → wu_Ho c d f (9 + u) (C u)) (hQ : ∀ u, u < 6 → wu_Ho c d f (15 + u) (Q u)) (hG : wu_Ho c d f 8 G) (hR : wu_Ho c d f 21 R)
    (H : ∀ sn' c' d' f' sd' sf', wu_Fr (fun s => 22 ≤ s) c d f c' d' f' → post (wu_z (wu_ch p nv C Q K G R)) (sn', nI p, nI nv, st, c', d', f', mm, sd', sf')) :
    wX_check_18 post sn (nI p) (nI nv) st c d f mm sd sf := by
  unfold wX_check_18
  try dsimp only
  unfold wpX_expandLeft
  try dsimp only
  refine wu_X_copy (a := 8) (b := 32) (by omega) (by omega) (by omega) hG cG.2.1 (fun c1 d1 f1 F1 HL => ?_)
  intro x1 e1
  rw [wu_zs1] at e1
  subst e1
  have F1' : wu_Fr (fun s => 22 ≤ s) c d f c1 d1 f1 := wu_Fr_mono F1 (fun s z => by omega)
  refine ⟨nv + 1, wu_X_left_15 hp hnv cC hK nv (nv + 1) G sn c1 d1 f1 sd sf (by omega) (by omega) (fun u hu => wu_Ho_fr F1 (by omega) (cC u hu).2.1 (hC u hu)) HL cG (fun e sn2 c2 d2 f2 sd2 sf2 F2 => ?_) (fun L e sn2 c2 d2 f2 sd2 sf2 F2 HL2 cL => ?_)⟩
  · refine br_t rfl ?_
    have := H sn2 c2 d2 f2 sd2 sf2 (wu_Fr_trans F1' (wu_Fr_mono F2 (fun s z => by omega)))
    rw [wu_ch_n1 e] at this
    exact this
  · refine br_f (by decide) ?_
    unfold wpX_expandRight
    try dsimp only
    have F2' : wu_Fr (fun s => 22 ≤ s) c d f c2 d2 f2 := wu_Fr_trans F1' (wu_Fr_mono F2 (fun s z => by omega))
    refine wu_X_copy (a := 21) (b := 33) (by omega) (by omega) (by omega) (wu_Ho_fr F2' (by omega) cR.2.1 hR) cR.2.1 (fun c3 d3 f3 F3 HR => ?_)
    intro x1 e1
    rw [wu_zs1] at e1
    subst e1
    have F3' : wu_Fr (fun s => 22 ≤ s) c d f c3 d3 f3 := wu_Fr_trans F2' (wu_Fr_mono F3 (fun s z => by omega))
    refine ⟨nv + 1, wu_X_right_15 hp hnv cC cQ nv (nv + 1) R sn2 c3 d3 f3 sd2 sf2 (by omega) (by omega) (fun u hu => wu_Ho_fr F3' (by omega) (cC u hu).2.1 (hC u hu)) (fun u hu => wu_Ho_fr F3' (by omega) (cQ u hu).2.1 (hQ u hu)) HR cR (fun e2 sn4 c4 d4 f4 sd4 sf4 F4 => ?_) (fun S e2 sn4 c4 d4 f4 sd4 sf4 F4 HS cS => ?_)⟩
    · refine br_t rfl ?_
      have := H sn4 c4 d4 f4 sd4 sf4 (wu_Fr_trans F3' (wu_Fr_mono F4 (fun s z => by omega)))
      rw [wu_ch_n2 e e2] at this
      exact this
    · refine br_f (by decide) ?_
      have fin := H sn4 c4 d4 f4 sd4 sf4 (wu_Fr_trans F3' (wu_Fr_mono F4 (fun s z => by omega)))
      refine wu_X_same (a := 32) (b := 33) hp.2 (by omega) (by omega) (wu_Ho_fr F4 (by omega) cL.2.1 (wu_Ho_fr F3 (by omega) cL.2.1 HL2)) cL.2 HS cS.2 (fun q => br_f (by decide) ?_) (fun q => br_t rfl ?_)
      · rw [wu_ch_1 e e2 q] at fin
        exact fin
      · rw [wu_ch_2 e e2 q] at fin
        exact fin
/-! the reference -/
end
section
/-! residues, addTerm on both sides -/
theorem wu_res {p : Nat} (hp : 2 ≤ p ∧ p ≤ 32749) (x : Int32) : ∃ r : Nat, r < p ∧ ((0 ≤ x - x / nI p * nI p ∧ x - x / nI p * nI p = nI r) ∨ (¬ 0 ≤ x - x / nI p * nI p ∧ x - x / nI p * nI p + nI p = nI r)) := by
  have e0 : x = wu_z x.toInt := (Int32.ofInt_toInt x).symm
  have hn : nI p ≠ -1 := wu_nm1 (by omega)
  have e1 : x / nI p = wu_z (x.toInt.tdiv (p : Int)) := by
    have h := Int32.toInt_div_of_ne_right x (nI p) hn
    rw [nI_toInt (by omega)] at h
    rw [← h]
    exact (Int32.ofInt_toInt _).symm
  have e2 : x - x / nI p * nI p = wu_z (x.toInt.tmod (p : Int)) := by
    rw [e1, ← wu_zn p, wu_zmul]
    have : x - wu_z (x.toInt.tdiv (p : Int) * (p : Int)) = wu_z x.toInt - wu_z (x.toInt.tdiv (p : Int) * (p : Int)) := by rw [← e0]
    rw [this, wu_zsub, Int.tmod_def, Int.mul_comm]
  have b1 := Int.lt_tmod_of_pos x.toInt (show (0 : Int) < (p : Int) by omega)
  have b2 := Int.tmod_lt_of_pos x.toInt (show (0 : Int) < (p : Int) by omega)
  rw [e2]
  generalize x.toInt.tmod (p : Int) = z at b1 b2
  by_cases h : 0 ≤ z
  · refine ⟨z.toNat, by omega, Or.inl ⟨?_, ?_⟩⟩
    · rw [wu_z0, wu_zle (by omega) (by omega)]; exact h
    · rw [← wu_zn]; exact congrArg wu_z (by omega)
  · refine ⟨(z + p).toNat, by omega, Or.inr ⟨?_, ?_⟩⟩
    · rw [wu_z0, wu_zle (by omega) (by omega)]; omega
    · rw [← wu_zn, ← wu_zn, wu_zadd]; exact congrArg wu_z (by omega)
theorem wu_X_at45 {post : Int32 → St2 → Prop} {p t h r : Nat} {sn V st : Int32} {c d f m sd sf : Nat → Int32} {L : wu_P} (hp : 2 ≤ p ∧ p ≤ 32749) (ht : t ≤ 8) (hL : wu_Ho c d f t L) (cL : wu_Cp p L) (hh : wu_Sm h) (hr : r < p)
    (h0 : wu_st p (L ++ [(h, r)]) = none → ∀ sn' sd' sf', post (-1) (sn', nI p, V, st, c, d, f, m, sd', sf'))
    (h1 : ∀ L', wu_st p (L ++ [(h, r)]) = some L' → ∀ sn' c' d' f' m' sd' sf', wu_Fr (fun s => s = t ∨ (9 ≤ s ∧ s ≤ 21)) c d f c' d' f' → wu_Ho c' d' f' t L' → (∀ s, 9 ≤ s → s ≤ 21 → c' s = 0) → wu_Mz m' → post (nI L'.length) (sn', nI p, V, 0, c', d', f', m', sd', sf')) :
    wX_addTerm_45 post (nI t) (nI h) (nI r) sn (nI p) V st c d f m sd sf := by
  unfold wX_addTerm_45
  try dsimp only
  have l16 := cL.2.1
  refine wu_X_addPoly (s := t) (A := []) hp (by omega) hL cL.2 (by rw [List.length_nil]; omega) wu_XB_nil (fun sn1 sd1 sf1 X1 => ?_)
  rw [List.nil_append] at X1
  refine wu_X_add hp X1 (by omega) hr (by have := hh.1; omega) (fun sn2 sd2 sf2 X2 => ?_)
  refine wu_X_store hp (s := t) (by omega) X2 (by rw [wu_len1]; omega) (fun e0 => ?_) (fun L' e1 c' d' f' F HL => ?_)
  · exact br_t rfl (h0 e0 _ _ _)
  · refine br_f (by decide) ?_
    refine wu_X_clear (fun c2 m2 hc hm => ?_)
    refine ⟨vp_in_nI (by omega) (by decide), ?_⟩
    have hA : wu_Ad p (L ++ [(h, r)]) := wu_Ad_app (wu_Ok_Ad cL.2) (fun x hx => by rw [List.mem_singleton] at hx; subst hx; exact ⟨hr, by have := hh.1; dsimp only; omega⟩)
    have cL' := (wu_st_sp hA e1).1
    have HL2 : wu_Ho c2 d' f' t L' := wu_Ho_fr (wu_Cz_fr hc) (by omega) cL'.2.1 HL
    dsimp only
    rw [nI_clamp (by omega), HL2.1]
    exact h1 L' e1 _ _ _ _ _ _ _ (wu_Fr_trans (wu_Fr_mono F (fun s z => Or.inl z)) (wu_Fr_mono (wu_Cz_fr hc) (fun s z => Or.inr z))) HL2 hc.1 hm
/-- a list of Y's that is a buffer for A, of what a slot may hold -/
theorem wu_BY_st {p : Nat} {A B : wu_P} (h : wu_BY p A B) (hl : B.length ≤ 16) (hs : ∀ t, t ∈ B → wu_Sm t.1) : ∃ L, wu_st p A = some L ∧ List.Perm B L := by
  have hq := wu_nf_Y (wu_NF_BY h)
  have nb : ¬ wu_big (wu_nf p A) := by
    rw [← wu_big_perm hq]
    rintro (z | ⟨t, ht, v, hv, z⟩)
    · omega
    · have := (hs t ht).2 v hv; omega
  exact ⟨_, wu_st_s nb, hq⟩
theorem wu_Fr_wr2 {c d f : Nat → Int32} {s i : Nat} {y : Int32} (h : s * 16 ≤ i) (h' : i < s * 16 + 16) : wu_Fr (fun q => q = s) c d f c d (upd f i y) := by
  intro q hq
  refine ⟨rfl, fun j hj => ⟨rfl, pk_un ?_⟩⟩
  intro e
  exact hq (by omega)
/-! the chain's size -/
/-! the constructors -/
end
section
/-! the identity of pseudo-division, on formal sums mod p -/
def wu_L (φ : Nat → Nat) (A : wu_P) : Nat := wu_s1 (fun a => a.2 * φ a.1) A
theorem wu_L_app (φ : Nat → Nat) (A B : wu_P) : wu_L φ (A ++ B) = wu_L φ A + wu_L φ B := wu_s1_app _ A B
theorem wu_L_cons (φ : Nat → Nat) (t : Nat × Nat) (A : wu_P) : wu_L φ (t :: A) = t.2 * φ t.1 + wu_L φ A := rfl
theorem wu_L_cf (A : wu_P) (x : Nat) : wu_L (fun y => if y = x then 1 else 0) A = wu_cf A x := by
  induction A with
  | nil => rfl
  | cons t A ih =>
    rw [wu_L_cons, wu_cf, ih]
    by_cases h : t.1 = x
    · simp [h]
    · simp [h]
theorem wu_Eq_of_L {p : Nat} {A B : wu_P} (h : ∀ φ, wu_L φ A % p = wu_L φ B % p) : wu_Eq p A B := by
  intro x
  rw [← wu_L_cf, ← wu_L_cf]
  exact h _
def wu_sr (g : Nat → Nat) : Nat → Nat
  | 0 => 0
  | n + 1 => wu_sr g n + g n
theorem wu_sr_add (g h : Nat → Nat) (n : Nat) : wu_sr (fun x => g x + h x) n = wu_sr g n + wu_sr h n := by
  induction n with
  | zero => rfl
  | succ n ih => rw [wu_sr, wu_sr, wu_sr, ih]; omega
theorem wu_sr_0 {g : Nat → Nat} (n : Nat) (h : ∀ x, x < n → g x = 0) : wu_sr g n = 0 := by
  induction n with
  | zero => rfl
  | succ n ih => rw [wu_sr, ih (fun x hx => h x (by omega)), h n (by omega)]
theorem wu_sr_1 {g : Nat → Nat} {a : Nat} (n : Nat) (ha : a < n) (h : ∀ x, x ≠ a → g x = 0) : wu_sr g n = g a := by
  induction n with
  | zero => exact absurd ha (Nat.not_lt_zero a)
  | succ n ih =>
    rw [wu_sr]
    by_cases e : a = n
    · subst e
      rw [wu_sr_0 a (fun x hx => h x (by omega)), Nat.zero_add]
    · rw [ih (by omega), h n (fun z => e z.symm), Nat.add_zero]
theorem wu_sr_mod {p : Nat} {g h : Nat → Nat} (n : Nat) (e : ∀ x, g x % p = h x % p) : wu_sr g n % p = wu_sr h n % p := by
  induction n with
  | zero => rfl
  | succ n ih => rw [wu_sr, wu_sr, Nat.add_mod, ih, e n, ← Nat.add_mod]
theorem wu_L_sr (φ : Nat → Nat) (N : Nat) : ∀ A : wu_P, (∀ t, t ∈ A → t.1 < N) → wu_L φ A = wu_sr (fun x => wu_cf A x * φ x) N := by
  intro A
  induction A with
  | nil => intro _; exact (wu_sr_0 N (fun x _ => Nat.zero_mul _)).symm
  | cons t A ih =>
    intro h
    rw [wu_L_cons, ih (fun s hs => h s (List.mem_cons_of_mem _ hs))]
    have e : (fun x => wu_cf (t :: A) x * φ x) = (fun x => (if t.1 = x then t.2 else 0) * φ x + wu_cf A x * φ x) := by
      funext x; rw [wu_cf, Nat.add_mul]
    have e1 : wu_sr (fun x => (if t.1 = x then t.2 else 0) * φ x) N = t.2 * φ t.1 := by
      have := wu_sr_1 (g := fun x => (if t.1 = x then t.2 else 0) * φ x) (a := t.1) N (h t List.mem_cons_self) (fun x hx => by rw [if_neg (fun z => hx z.symm), Nat.zero_mul])
      rw [this, if_pos rfl]
    rw [e, wu_sr_add, e1]
theorem wu_bound : ∀ A : wu_P, ∃ N, ∀ t, t ∈ A → t.1 < N := by
  intro A
  induction A with
  | nil => exact ⟨0, fun _ h => absurd h List.not_mem_nil⟩
  | cons a A ih =>
    obtain ⟨N, h⟩ := ih
    refine ⟨N + a.1 + 1, fun t ht => ?_⟩
    rcases List.mem_cons.mp ht with rfl | ht
    · omega
    · have := h t ht; omega
theorem wu_L_of_Eq {p : Nat} {A B : wu_P} (h : wu_Eq p A B) (φ : Nat → Nat) : wu_L φ A % p = wu_L φ B % p := by
  obtain ⟨N, hN⟩ := wu_bound A
  obtain ⟨M, hM⟩ := wu_bound B
  rw [wu_L_sr φ (N + M) A (fun t ht => by have := hN t ht; omega), wu_L_sr φ (N + M) B (fun t ht => by have := hM t ht; omega)]
  refine wu_sr_mod _ (fun x => ?_)
  rw [Nat.mul_mod, h x, ← Nat.mul_mod]
theorem wu_L_congr {p : Nat} {φ ψ : Nat → Nat} (h : ∀ x, φ x % p = ψ x % p) (A : wu_P) : wu_L φ A % p = wu_L ψ A % p := by
  induction A with
  | nil => rfl
  | cons t A ih =>
    rw [wu_L_cons, wu_L_cons, Nat.add_mod, ih, Nat.mul_mod, h t.1, ← Nat.mul_mod, ← Nat.add_mod]
theorem wu_L_add (φ ψ : Nat → Nat) (A : wu_P) : wu_L (fun x => φ x + ψ x) A = wu_L φ A + wu_L ψ A := by
  induction A with
  | nil => rfl
  | cons t A ih => rw [wu_L_cons, wu_L_cons, wu_L_cons, ih, Nat.mul_add]; omega
theorem wu_L_map1 (p k ic : Nat) (φ : Nat → Nat) (B : wu_P) : wu_L φ (B.map (fun t => (ic + t.1, k % p * t.2 % p))) % p = (k * wu_L (fun y => φ (ic + y)) B) % p := by
  induction B with
  | nil => rfl
  | cons t B ih =>
    rw [List.map_cons, wu_L_cons, wu_L_cons, Nat.add_mod, ih, ← Nat.add_mod, Nat.mul_add]
    rw [Nat.add_mod, Nat.mod_mul_mod, Nat.mul_assoc, Nat.mod_mul_mod, ← Nat.add_mod]
theorem wu_L_mul (p sc : Nat) (φ : Nat → Nat) (A B : wu_P) : wu_L φ (wu_mul p sc A B) % p = (sc * wu_L (fun x => wu_L (fun y => φ (x + y)) B) A) % p := by
  induction A with
  | nil => rfl
  | cons i A ih =>
    rw [wu_mul_cons, wu_L_app, Nat.add_mod, ih, wu_L_map1, ← Nat.add_mod, wu_L_cons, Nat.mul_add]
    refine congrArg (· % p) ?_
    rw [Nat.mul_comm i.2 sc, Nat.mul_assoc]
theorem wu_M_L (p : Nat) (φ : Nat → Nat) (A B : wu_P) : wu_L φ (wu_mul p 1 A B) % p = wu_L (fun x => wu_L (fun y => φ (x + y)) B) A % p := by
  rw [wu_L_mul, Nat.one_mul]
theorem wu_M_congr {p : Nat} {A A' B B' : wu_P} (h : wu_Eq p A A') (h' : wu_Eq p B B') : wu_Eq p (wu_mul p 1 A B) (wu_mul p 1 A' B') := by
  refine wu_Eq_of_L (fun φ => ?_)
  rw [wu_M_L, wu_M_L, wu_L_congr (fun x => wu_L_of_Eq h' (fun y => φ (x + y))) A]
  exact wu_L_of_Eq h _
theorem wu_M_assoc (p : Nat) (A B C : wu_P) : wu_Eq p (wu_mul p 1 A (wu_mul p 1 B C)) (wu_mul p 1 (wu_mul p 1 A B) C) := by
  refine wu_Eq_of_L (fun φ => ?_)
  rw [wu_M_L, wu_M_L, wu_M_L, wu_L_congr (fun x => wu_M_L p (fun y => φ (x + y)) B C) A]
  refine wu_L_congr (fun x => wu_L_congr (fun y => wu_L_congr (fun z => ?_) C) B) A
  rw [Nat.add_assoc]
theorem wu_M_addr (p : Nat) (A B C : wu_P) : wu_Eq p (wu_mul p 1 A (B ++ C)) (wu_mul p 1 A B ++ wu_mul p 1 A C) := by
  refine wu_Eq_of_L (fun φ => ?_)
  rw [wu_M_L, wu_L_app, Nat.add_mod, wu_M_L, wu_M_L, ← Nat.add_mod, ← wu_L_add]
  refine wu_L_congr (fun x => ?_) A
  rw [wu_L_app]
theorem wu_M_addl (p sc : Nat) (A B C : wu_P) : wu_mul p sc (A ++ B) C = wu_mul p sc A C ++ wu_mul p sc B C := by
  induction A with
  | nil => rfl
  | cons a A ih => rw [List.cons_append, wu_mul_cons, wu_mul_cons, ih, List.append_assoc]
theorem wu_M_neg {p : Nat} (hp : 2 ≤ p) (A B : wu_P) : wu_Eq p (wu_mul p 1 A B ++ wu_mul p (p - 1) A B) [] := by
  refine wu_Eq_of_L (fun φ => ?_)
  rw [wu_L_app, Nat.add_mod, wu_L_mul, wu_L_mul, ← Nat.add_mod, ← Nat.add_mul, show 1 + (p - 1) = p by omega, Nat.mul_mod_right]
  exact (Nat.zero_mod p).symm
/-! powers -/
def wu_pw (p : Nat) (I : wu_P) : Nat → wu_P → wu_P
  | 0, A => A
  | n + 1, A => wu_pw p I n (wu_mul p 1 I A)
theorem wu_Eq_refl {p : Nat} (A : wu_P) : wu_Eq p A A := fun _ => rfl
theorem wu_pw_congr {p : Nat} {I : wu_P} : ∀ (n : Nat) (A B : wu_P), wu_Eq p A B → wu_Eq p (wu_pw p I n A) (wu_pw p I n B) := by
  intro n
  induction n with
  | zero => intro A B h; exact h
  | succ n ih => intro A B h; exact ih _ _ (wu_M_congr (wu_Eq_refl I) h)
theorem wu_pw_app {p : Nat} {I : wu_P} : ∀ (n : Nat) (A B : wu_P), wu_Eq p (wu_pw p I n (A ++ B)) (wu_pw p I n A ++ wu_pw p I n B) := by
  intro n
  induction n with
  | zero => intro A B; exact wu_Eq_refl _
  | succ n ih => intro A B; exact wu_Eq_trans (wu_pw_congr n _ _ (wu_M_addr p I A B)) (ih _ _)
theorem wu_pw_M {p : Nat} {I : wu_P} (C : wu_P) : ∀ (n : Nat) (A : wu_P), wu_Eq p (wu_pw p I n (wu_mul p 1 A C)) (wu_mul p 1 (wu_pw p I n A) C) := by
  intro n
  induction n with
  | zero => intro A; exact wu_Eq_refl _
  | succ n ih => intro A; exact wu_Eq_trans (wu_pw_congr n _ _ (wu_M_assoc p I A C)) (ih _)
theorem wu_pw_nil {p : Nat} {I : wu_P} : ∀ n : Nat, wu_pw p I n [] = [] := by
  intro n
  induction n with
  | zero => rfl
  | succ n ih => rw [wu_pw, wu_mul_nil]; exact ih
theorem wu_mi_pw {p : Nat} {I : wu_P} (hp : 2 ≤ p) (cI : wu_Cp p I) : ∀ (n : Nat) (L L' : wu_P), wu_Cp p L → wu_mi p I n L = some L' → wu_Eq p (wu_pw p I n L) L' := by
  intro n
  induction n with
  | zero => intro L L' _ h; rw [← Option.some.inj h]; exact wu_Eq_refl _
  | succ n ih =>
    intro L L' cL h
    cases e : wu_st p (wu_mul p 1 I L) with
    | none => rw [wu_mi_n e] at h; exact absurd h (by simp)
    | some L1 =>
      rw [wu_mi_s e] at h
      have g := wu_st_sp (wu_mul_Ad (by omega) cI.2 cL.2) e
      exact wu_Eq_trans (wu_pw_congr n _ _ g.2) (ih L1 L' g.1 h)
/-! one round, all rounds -/
theorem wu_rd_id {p v m : Nat} {I b a q a' q' : wu_P} (hp : 2 ≤ p) (hv : v < 6) (cI : wu_Cp p I) (cb : wu_Cp p b) (ca : wu_Cp p a) (cq : wu_Cp p q) (h : wu_rd p v m I b true a q = some (a', q')) :
    wu_Eq p (wu_mul p 1 I (wu_mul p 1 q b ++ a)) (wu_mul p 1 q' b ++ a') := by
  obtain ⟨h1, h2⟩ := wu_rd_i h
  have cl := wu_ld_Cp (m := m) hv ca
  have e1 := (wu_st_sp (wu_Ad_app (wu_mul_Ad (by omega) cI.2 ca.2) (wu_mul_Ad (by omega) cl.2 cb.2)) h1).2
  rcases h2 with ⟨_, h2⟩ | ⟨z, _⟩
  · have e2 := (wu_st_sp (wu_Ad_app (wu_mul_Ad (by omega) cI.2 cq.2) (wu_Ok_Ad cl.2)) h2).2
    have r1 : wu_Eq p (wu_mul p 1 I (wu_mul p 1 q b ++ a)) (wu_mul p 1 (wu_mul p 1 I q) b ++ wu_mul p 1 I a) :=
      wu_Eq_trans (wu_M_addr p I _ a) (wu_Eq_app (wu_M_assoc p I q b) (wu_Eq_refl _))
    have r2 : wu_Eq p (wu_mul p 1 q' b ++ a') (wu_mul p 1 (wu_mul p 1 I q ++ wu_ld v m a) b ++ (wu_mul p 1 I a ++ wu_mul p (p - 1) (wu_ld v m a) b)) :=
      wu_Eq_app (wu_M_congr (wu_Eq_symm e2) (wu_Eq_refl b)) (wu_Eq_symm e1)
    refine wu_Eq_trans r1 (wu_Eq_symm (wu_Eq_trans r2 ?_))
    rw [wu_M_addl]
    intro x
    have c := wu_M_neg hp (wu_ld v m a) b x
    rw [wu_cf_app] at c
    rw [wu_cf_app, wu_cf_app, wu_cf_app, wu_cf_app]
    have s : wu_cf (wu_mul p 1 (wu_mul p 1 I q) b) x + wu_cf (wu_mul p 1 (wu_ld v m a) b) x + (wu_cf (wu_mul p 1 I a) x + wu_cf (wu_mul p (p - 1) (wu_ld v m a) b) x) = (wu_cf (wu_mul p 1 (wu_mul p 1 I q) b) x + wu_cf (wu_mul p 1 I a) x) + (wu_cf (wu_mul p 1 (wu_ld v m a) b) x + wu_cf (wu_mul p (p - 1) (wu_ld v m a) b) x) := by omega
    rw [s, Nat.add_mod, c]
    show (_ % p + (0 % p)) % p = _
    rw [Nat.zero_mod, Nat.add_zero, Nat.mod_mod]
  · exact absurd z (by decide)
theorem wu_rds_id {p v m : Nat} {I b : wu_P} (hp : 2 ≤ p) (hv : v < 6) (cI : wu_Cp p I) (cb : wu_Cp p b) : ∀ (n : Nat) (a q a' q' : wu_P), wu_Cp p a → wu_Cp p q → wu_rds p v m I b true n a q = some (a', q') → wu_Eq p (wu_pw p I n (wu_mul p 1 q b ++ a)) (wu_mul p 1 q' b ++ a') := by
  intro n
  induction n with
  | zero =>
    intro a q a' q' ca cq h
    rw [wu_rds] at h
    have := Prod.mk.inj (Option.some.inj h)
    rw [← this.1, ← this.2]
    exact wu_Eq_refl _
  | succ n ih =>
    intro a q a' q' ca cq h
    cases h1 : wu_rd p v m I b true a q with
    | none => rw [wu_rds_n h1] at h; exact absurd h (by simp)
    | some r =>
      obtain ⟨a1, q1⟩ := r
      rw [wu_rds_s h1] at h
      have c := wu_rd_Cp hp hv cI cb ca cq h1
      exact wu_Eq_trans (wu_pw_congr n _ _ (wu_rd_id hp hv cI cb ca cq h1)) (ih a1 q1 a' q' c.1 c.2 h)
theorem wu_dv_id {p v : Nat} {b a a' q' : wu_P} (hp : 2 ≤ p) (hv : v < 6) (cb : wu_Cp p b) (ca : wu_Cp p a) (h : wu_dv p v b true a [] = some (a', q')) : wu_Eq p (wu_pw p (wu_in v b) (wu_kk v a b) a) (wu_mul p 1 q' b ++ a') := by
  have := wu_rds_id hp hv (wu_in_Cp hv cb) cb (wu_kk v a b) a [] a' q' ca wu_Cp_nil h
  exact this
theorem wu_ra_id {p k v : Nat} {I : wu_P} (hp : 2 ≤ p) (cI : wu_Cp p I) : ∀ (d : Nat) (Q Q' : Nat → wu_P), v + d < 6 → (∀ u, u < 6 → wu_Cp p (Q u)) → wu_ra p I k v d Q = some Q' → (∀ u, v < u → u ≤ v + d → wu_Eq p (wu_pw p I k (Q u)) (Q' u)) ∧ (∀ u, (u ≤ v ∨ v + d < u) → Q' u = Q u) ∧ (∀ u, u < 6 → wu_Cp p (Q' u)) := by
  intro d
  induction d with
  | zero =>
    intro Q Q' _ cQ h
    rw [← Option.some.inj h]
    exact ⟨fun u h1 h2 => absurd h1 (by omega), fun _ _ => rfl, cQ⟩
  | succ d ih =>
    intro Q Q' hd cQ h
    cases e : wu_mi p I k (Q (v + (d + 1))) with
    | none => rw [wu_ra_n e] at h; exact absurd h (by simp)
    | some L =>
      rw [wu_ra_s e] at h
      have eL := wu_mi_pw hp cI k _ L (cQ _ (by omega)) e
      have cL := wu_mi_Cp hp cI k _ L (cQ _ (by omega)) e
      have cQ1 : ∀ u, u < 6 → wu_Cp p (wu_up Q (v + (d + 1)) L u) := by
        intro u hu
        by_cases z : u = v + (d + 1)
        · rw [z, wu_up_s]; exact cL
        · rw [wu_up_n z]; exact cQ u hu
      obtain ⟨g1, g2, g3⟩ := ih _ Q' (by omega) cQ1 h
      refine ⟨fun u h1 h2 => ?_, fun u hu => ?_, g3⟩
      · by_cases z : u = v + (d + 1)
        · rw [z, g2 _ (by omega), wu_up_s]; exact eL
        · have := g1 u h1 (by omega)
          rw [wu_up_n z] at this
          exact this
      · rw [g2 u (by omega), wu_up_n (by omega)]
/-! the sum of the quotients times the chain -/
def wu_sg (p : Nat) (C Q : Nat → wu_P) : Nat → Nat → wu_P
  | 0, _ => []
  | n + 1, v => wu_mul p 1 (Q v) (C v) ++ wu_sg p C Q n (v + 1)
theorem wu_sg_pw {p k : Nat} {I : wu_P} {C Q Q1 : Nat → wu_P} : ∀ (n v : Nat), (∀ u, v ≤ u → u < v + n → wu_Eq p (wu_pw p I k (Q u)) (Q1 u)) → wu_Eq p (wu_pw p I k (wu_sg p C Q n v)) (wu_sg p C Q1 n v) := by
  intro n
  induction n with
  | zero => intro v _; show wu_Eq p (wu_pw p I k []) []; rw [wu_pw_nil]; exact wu_Eq_refl _
  | succ n ih =>
    intro v h
    refine wu_Eq_trans (wu_pw_app k _ _) (wu_Eq_app ?_ (ih (v + 1) (fun u h1 h2 => h u (by omega) (by omega))))
    exact wu_Eq_trans (wu_pw_M (C v) k (Q v)) (wu_M_congr (h v (Nat.le_refl v) (by omega)) (wu_Eq_refl _))
theorem wu_sg_snoc {p : Nat} {C Q : Nat → wu_P} : ∀ (n v : Nat), wu_Eq p (wu_sg p C Q (n + 1) v) (wu_sg p C Q n v ++ wu_mul p 1 (Q (v + n)) (C (v + n))) := by
  intro n
  induction n with
  | zero => intro v; show wu_Eq p (wu_mul p 1 (Q v) (C v) ++ []) ([] ++ wu_mul p 1 (Q v) (C v)); rw [List.append_nil, List.nil_append]; exact wu_Eq_refl _
  | succ n ih =>
    intro v
    have := wu_Eq_app (wu_Eq_refl (p := p) (wu_mul p 1 (Q v) (C v))) (ih (v + 1))
    rw [show v + 1 + n = v + (n + 1) by omega, ← List.append_assoc] at this
    exact this
def wu_lf (p : Nat) (C : Nat → wu_P) (K : Nat → Int) : Nat → wu_P → wu_P
  | 0, L => L
  | v + 1, L => if (C v).length = 0 then wu_lf p C K v L else wu_lf p C K v (wu_pw p (wu_in v (C v)) (K v).toNat L)
theorem wu_lf_congr {p : Nat} {C : Nat → wu_P} {K : Nat → Int} : ∀ (v : Nat) (A B : wu_P), wu_Eq p A B → wu_Eq p (wu_lf p C K v A) (wu_lf p C K v B) := by
  intro v
  induction v with
  | zero => intro A B h; exact h
  | succ v ih =>
    intro A B h
    rw [wu_lf, wu_lf]
    by_cases z : (C v).length = 0
    · rw [if_pos z, if_pos z]; exact ih A B h
    · rw [if_neg z, if_neg z]; exact ih _ _ (wu_pw_congr _ _ _ h)
theorem wu_le_lf {p : Nat} {C : Nat → wu_P} {K : Nat → Int} (hp : 2 ≤ p) (cC : ∀ u, u < 6 → wu_Cp p (C u)) : ∀ (v : Nat) (L L' : wu_P), v ≤ 6 → wu_Cp p L → wu_le p C K v L = some L' → wu_Eq p (wu_lf p C K v L) L' ∧ wu_Cp p L' := by
  intro v
  induction v with
  | zero => intro L L' _ cL h; rw [← Option.some.inj h]; exact ⟨wu_Eq_refl _, cL⟩
  | succ v ih =>
    intro L L' hv cL h
    rw [wu_lf]
    by_cases z : (C v).length = 0
    · rw [wu_le_z z] at h
      rw [if_pos z]
      exact ih L L' (by omega) cL h
    · rw [if_neg z]
      cases e : wu_mi p (wu_in v (C v)) (K v).toNat L with
      | none => rw [wu_le_n z e] at h; exact absurd h (by simp)
      | some L1 =>
        rw [wu_le_s z e] at h
        have cI := wu_in_Cp (show v < 6 by omega) (cC v (by omega))
        have g := ih L1 L' (by omega) (wu_mi_Cp hp cI _ _ _ cL e) h
        exact ⟨wu_Eq_trans (wu_lf_congr v _ _ (wu_mi_pw hp cI _ _ _ cL e)) g.1, g.2⟩
theorem wu_ri_sg {p : Nat} {C Q : Nat → wu_P} (hp : 2 ≤ p) (cC : ∀ u, u < 6 → wu_Cp p (C u)) (cQ : ∀ u, u < 6 → wu_Cp p (Q u)) : ∀ (v : Nat) (R S : wu_P), v ≤ 6 → wu_Cp p R → wu_ri p C Q v R = some S → wu_Eq p (R ++ wu_sg p C Q v 0) S ∧ wu_Cp p S := by
  intro v
  induction v with
  | zero => intro R S _ cR h; rw [← Option.some.inj h]; exact ⟨by show wu_Eq p (R ++ []) R; rw [List.append_nil]; exact wu_Eq_refl _, cR⟩
  | succ v ih =>
    intro R S hv cR h
    cases e : wu_st p (R ++ wu_mul p 1 (Q v) (C v)) with
    | none => rw [wu_ri_n e] at h; exact absurd h (by simp)
    | some R1 =>
      rw [wu_ri_s e] at h
      have g := wu_st_sp (wu_Ad_app (wu_Ok_Ad cR.2) (wu_mul_Ad (by omega) (cQ v (by omega)).2 (cC v (by omega)).2)) e
      have g2 := ih R1 S (by omega) g.1 h
      refine ⟨wu_Eq_trans ?_ g2.1, g2.2⟩
      have s := wu_Eq_app (wu_Eq_refl (p := p) R) (wu_sg_snoc (p := p) (C := C) (Q := Q) v 0)
      rw [Nat.zero_add] at s
      refine wu_Eq_trans s ?_
      refine wu_Eq_trans (wu_Eq_perm ?_) (wu_Eq_app g.2 (wu_Eq_refl (p := p) (wu_sg p C Q v 0)))
      rw [List.append_assoc]
      exact List.Perm.append_left R List.perm_append_comm
theorem wu_re_id {p nv : Nat} {C : Nat → wu_P} (hp : 2 ≤ p) (hnv : nv ≤ 6) (cC : ∀ u, u < 6 → wu_Cp p (C u)) : ∀ (v : Nat) (R : wu_P) (Q : Nat → wu_P) (K : Nat → Int) (R' : wu_P) (Q' : Nat → wu_P) (K' : Nat → Int), v ≤ nv → wu_Cp p R → (∀ u, u < 6 → wu_Cp p (Q u)) → wu_re p nv C v R Q K = some (R', Q', K') →
    (∀ u, v ≤ u → K' u = K u) ∧ ∀ H, wu_Eq p H (R ++ wu_sg p C Q (nv - v) v) → wu_Eq p (wu_lf p C K' v H) (R' ++ wu_sg p C Q' nv 0) := by
  intro v
  induction v with
  | zero =>
    intro R Q K R' Q' K' _ cR cQ h
    have e := Prod.mk.inj (Option.some.inj h)
    have e2 := Prod.mk.inj e.2
    rw [← e.1, ← e2.1, ← e2.2]
    exact ⟨fun _ _ => rfl, fun H h => h⟩
  | succ v ih =>
    intro R Q K R' Q' K' hv cR cQ h
    have hv6 : v < 6 := by omega
    have en : nv - v = (nv - (v + 1)) + 1 := by omega
    by_cases z : (C v).length = 0
    · rw [wu_re_z z] at h
      obtain ⟨g1, g2⟩ := ih R Q K R' Q' K' (by omega) cR cQ h
      refine ⟨fun u hu => g1 u (by omega), fun H hH => ?_⟩
      rw [wu_lf, if_pos z]
      refine g2 H ?_
      have z' : C v = [] := List.length_eq_zero_iff.mp z
      rw [en]
      show wu_Eq p H (R ++ (wu_mul p 1 (Q v) (C v) ++ wu_sg p C Q (nv - (v + 1)) (v + 1)))
      rw [z', wu_mul_nil, List.nil_append]
      exact hH
    · cases ed : wu_dv p v (C v) true R [] with
      | none => rw [wu_re_n1 z ed] at h; exact absurd h (by simp)
      | some r =>
        obtain ⟨R1, q⟩ := r
        have cc := wu_dv_Cp hp hv6 (cC v hv6) cR wu_Cp_nil ed
        cases er : wu_ra p (wu_in v (C v)) (wu_kk v R (C v)) v (nv - 1 - v) (wu_up Q v q) with
        | none => rw [wu_re_n2 z ed er] at h; exact absurd h (by simp)
        | some Q1 =>
          rw [wu_re_s z ed er] at h
          have cQu : ∀ u, u < 6 → wu_Cp p (wu_up Q v q u) := by
            intro u hu
            by_cases y : u = v
            · rw [y, wu_up_s]; exact cc.2
            · rw [wu_up_n y]; exact cQ u hu
          have cI := wu_in_Cp hv6 (cC v hv6)
          obtain ⟨a1, a2, a3⟩ := wu_ra_id hp cI (nv - 1 - v) (wu_up Q v q) Q1 (by omega) cQu er
          obtain ⟨g1, g2⟩ := ih R1 Q1 _ R' Q' K' (by omega) cc.1 a3 h
          have eK : K' v = (wu_kk v R (C v) : Int) := by rw [g1 v (Nat.le_refl v)]; exact if_pos rfl
          refine ⟨fun u hu => by rw [g1 u (by omega)]; exact if_neg (by omega), fun H hH => ?_⟩
          rw [wu_lf, if_neg z, eK, Int.toNat_natCast]
          refine g2 _ ?_
          have s1 := wu_Eq_trans (wu_pw_congr (I := wu_in v (C v)) (wu_kk v R (C v)) _ _ hH) (wu_pw_app (wu_kk v R (C v)) R (wu_sg p C Q (nv - (v + 1)) (v + 1)))
          have s2 := wu_dv_id hp hv6 (cC v hv6) cR ed
          have s3 : wu_Eq p (wu_pw p (wu_in v (C v)) (wu_kk v R (C v)) (wu_sg p C Q (nv - (v + 1)) (v + 1))) (wu_sg p C Q1 (nv - (v + 1)) (v + 1)) := by
            refine wu_sg_pw (nv - (v + 1)) (v + 1) (fun u h1 h2 => ?_)
            have := a1 u (by omega) (by omega)
            rw [wu_up_n (by omega)] at this
            exact this
          have eq1 : Q1 v = q := by rw [a2 v (by omega), wu_up_s]
          rw [en]
          show wu_Eq p _ (R1 ++ (wu_mul p 1 (Q1 v) (C v) ++ wu_sg p C Q1 (nv - (v + 1)) (v + 1)))
          rw [eq1]
          refine wu_Eq_trans s1 (wu_Eq_trans (wu_Eq_app s2 s3) (wu_Eq_perm ?_))
          rw [← List.append_assoc]
          exact List.Perm.append_right _ List.perm_append_comm
/-- check never answers CHECK_BAD on the results of prove -/
theorem wu_good {p nv : Nat} {C Q : Nat → wu_P} {K : Nat → Int} {G R : wu_P} (hp : 2 ≤ p) (hnv : nv ≤ 6) (cC : ∀ u, u < 6 → wu_Cp p (C u)) (cQ : ∀ u, u < 6 → wu_Cp p (Q u)) (cG : wu_Cp p G) (cR : wu_Cp p R) (h : wu_re p nv C nv G (fun _ => []) (fun _ => -1) = some (R, Q, K)) : wu_ch p nv C Q K G R = 1 ∨ wu_ch p nv C Q K G R = 3 := by
  have id := (wu_re_id hp hnv cC nv G (fun _ => []) (fun _ => -1) R Q K (Nat.le_refl _) cG (fun _ _ => wu_Cp_nil) h).2 G (by
    rw [Nat.sub_self]
    show wu_Eq p G (G ++ [])
    rw [List.append_nil]; exact wu_Eq_refl _)
  cases el : wu_le p C K nv G with
  | none => exact Or.inr (wu_ch_n1 el)
  | some L =>
    cases er : wu_ri p C Q nv R with
    | none => exact Or.inr (wu_ch_n2 el er)
    | some S =>
      have hl := wu_le_lf hp cC nv G L hnv cG el
      have hr := wu_ri_sg hp cC cQ nv R S hnv cR er
      have e : wu_Eq p L S := wu_Eq_trans (wu_Eq_symm hl.1) (wu_Eq_trans id hr.1)
      refine Or.inl (wu_ch_1 el er ?_)
      have nL : wu_NF p L L := ⟨hl.2.2.2.1, fun t ht => ⟨(hl.2.2.2.2 t ht).1, (hl.2.2.2.2 t ht).2.1⟩, wu_Eq_refl _⟩
      have nS : wu_NF p S S := ⟨hr.2.2.2.1, fun t ht => ⟨(hr.2.2.2.2 t ht).1, (hr.2.2.2.2 t ht).2.1⟩, wu_Eq_refl _⟩
      exact wu_Srt_eq hl.2.1 hr.2.1 (wu_NF_perm nL nS e)
end
section
/-! the law -/
def wu_J (p nv : Nat) (u : St2) : Prop := ∃ (σ C Q : Nat → wu_P) (R : wu_P) (K : Nat → Int) (sn st : Int32) (c d f m sd sf : Nat → Int32), u = (sn, nI p, nI nv, st, c, d, f, m, sd, sf) ∧ (∀ s, s < 9 → wu_Cp p (σ s) ∧ wu_Ho c d f s (σ s)) ∧ (∀ u, u < 6 → wu_Cp p (C u) ∧ wu_Ho c d f (9 + u) (C u)) ∧ (∀ u, u < 6 → wu_Cp p (Q u) ∧ wu_Ho c d f (15 + u) (Q u)) ∧ wu_Cp p R ∧ wu_Ho c d f 21 R ∧ wu_KO m K ∧ ((st = 1 ∨ st = 2) → wu_ch p nv C Q K (σ 8) R = 1 ∨ wu_ch p nv C Q K (σ 8) R = 3) ∧ (st = 1 → R = [])
theorem wu_J_z {p nv : Nat} {σ : Nat → wu_P} {sn st : Int32} {c d f m sd sf : Nat → Int32} (hin : ∀ s, s < 9 → wu_Cp p (σ s) ∧ wu_Ho c d f s (σ s)) (z : ∀ s, 9 ≤ s → s ≤ 21 → c s = 0) (hm : wu_Mz m) (h1 : st ≠ 1) (h2 : st ≠ 2) : wu_J p nv (sn, nI p, nI nv, st, c, d, f, m, sd, sf) :=
  ⟨σ, fun _ => [], fun _ => [], [], fun _ => -1, sn, st, c, d, f, m, sd, sf, rfl, hin, fun u hu => ⟨wu_Cp_nil, wu_Ho_z (z _ (by omega) (by omega))⟩, fun u hu => ⟨wu_Cp_nil, wu_Ho_z (z _ (by omega) (by omega))⟩, wu_Cp_nil, wu_Ho_z (z _ (by omega) (by omega)), wu_Mz_KO hm, fun h => h.elim (fun e => absurd e h1) (fun e => absurd e h2), fun e => absurd e h1⟩
theorem wu_pe_b {p nv : Nat} {σ : Nat → wu_P} : wu_pe p nv σ = 0 ∨ wu_pe p nv σ = 3 ∨ wu_pe p nv σ = 4 := by
  unfold wu_pe
  have b := wu_tt_b (p := p) (nv := nv) (W := σ)
  by_cases h : (wu_tt p nv σ).1 = 0
  · rw [if_pos h]
    by_cases h2 : wu_re p nv (wu_tt p nv σ).2 nv (σ 8) (fun _ => []) (fun _ => -1) = none
    · rw [if_pos h2]; exact Or.inr (Or.inr rfl)
    · rw [if_neg h2]; exact Or.inl rfl
  · rw [if_neg h]; exact b
theorem wu_J_prove {post : Int32 → St2 → Prop} {p nv : Nat} {u : St2} (hp : 2 ≤ p ∧ p ≤ 32749) (hnv : nv ≤ 6) (hJ : wu_J p nv u) (H : ∀ r sn st c d f m sd sf, wu_J p nv (sn, nI p, nI nv, st, c, d, f, m, sd, sf) → post r (sn, nI p, nI nv, st, c, d, f, m, sd, sf)) : wpX_prove post u := by
  obtain ⟨σ, C0, Q0, R0, K0, sn, st, c, d, f, m, sd, sf, rfl, hin, _⟩ := hJ
  refine wu_X_prove hp hnv (fun j hj => (hin j hj).1) (fun s hs => (hin s hs).2) (fun C R Q K et er sn2 c2 d2 f2 m2 sd2 sf2 hC hR cR hQ hK hin2 => ?_) (fun hpe sn2 c2 d2 f2 m2 sd2 sf2 hin2 hz hm => ?_)
  · refine H _ _ _ _ _ _ _ _ _ ⟨σ, C, Q, R, K, sn2, _, c2, d2, f2, m2, sd2, sf2, rfl, fun s hs => ⟨(hin s hs).1, hin2 s hs⟩, fun u hu => ⟨(hC u hu).2, (hC u hu).1⟩, fun u hu => ⟨(hQ u hu).2, (hQ u hu).1⟩, cR, hR, hK, fun _ => wu_good hp.1 hnv (fun u hu => (hC u hu).2) (fun u hu => (hQ u hu).2) (hin 8 (by omega)).1 cR er, fun e => ?_⟩
    by_cases z : R.length = 0
    · exact List.length_eq_zero_iff.mp z
    · rw [if_neg z] at e
      exact absurd e (by decide)
  · refine H _ _ _ _ _ _ _ _ _ (wu_J_z (fun s hs => ⟨(hin s hs).1, hin2 s hs⟩) hz hm ?_ ?_)
    · rcases wu_pe_b (p := p) (nv := nv) (σ := σ) with e | e | e
      · exact absurd e hpe
      · rw [e]; decide
      · rw [e]; decide
    · rcases wu_pe_b (p := p) (nv := nv) (σ := σ) with e | e | e
      · exact absurd e hpe
      · rw [e]; decide
      · rw [e]; decide
theorem wu_J_clear {post : Int32 → St2 → Prop} {p nv t : Nat} {u : St2} (ht : t ≤ 8) (hJ : wu_J p nv u) (H : ∀ r sn st c d f m sd sf, wu_J p nv (sn, nI p, nI nv, st, c, d, f, m, sd, sf) → post r (sn, nI p, nI nv, st, c, d, f, m, sd, sf)) : wpX_clearPoly post u (nI t) := by
  obtain ⟨σ, C0, Q0, R0, K0, sn, st, c, d, f, m, sd, sf, rfl, hin, _⟩ := hJ
  unfold wpX_clearPoly
  try dsimp only
  refine br_f (nI_pos (by omega)) (br_f (nI_nlt (b := t) (a := 8) ht (by decide)) (br_f (by decide) ⟨vp_in_nI (by omega) (by decide), fun c1 e1 => ?_⟩))
  rw [nI_clamp (by omega)] at e1
  subst e1
  refine wu_X_clear (fun c2 m2 hc hm => ?_)
  refine H _ _ _ _ _ _ _ _ _ (wu_J_z (σ := fun s => if s = t then [] else σ s) (fun s hs => ?_) hc.1 hm (by decide : (0 : Int32) ≠ 1) (by decide : (0 : Int32) ≠ 2))
  have F : wu_Fr (fun s => s = t ∨ (9 ≤ s ∧ s ≤ 21)) c d f c2 d f := wu_Fr_trans (wu_Fr_mono wu_Fr_cnt (fun s z => Or.inl z)) (wu_Fr_mono (wu_Cz_fr hc) (fun s z => Or.inr z))
  try dsimp only
  by_cases q : s = t
  · subst q
    rw [if_pos rfl]
    exact ⟨wu_Cp_nil, wu_Ho_fr (wu_Cz_fr hc) (by omega) (by simp) wu_Ho_0⟩
  · rw [if_neg q]
    exact ⟨(hin s hs).1, wu_Ho_fr F (by omega) (hin s hs).1.2.1 (hin s hs).2⟩
theorem wu_J_add {post : Int32 → St2 → Prop} {p nv t : Nat} {u : St2} (hp : 2 ≤ p ∧ p ≤ 32749) (ht : t ≤ 8) (hJ : wu_J p nv u) (v2 v3 : Int32) (H : ∀ r sn st c d f m sd sf, wu_J p nv (sn, nI p, nI nv, st, c, d, f, m, sd, sf) → post r (sn, nI p, nI nv, st, c, d, f, m, sd, sf)) : wpX_addTerm post u (nI t) v2 v3 := by
  have hJ0 := hJ
  obtain ⟨σ, C0, Q0, R0, K0, sn, st, c, d, f, m, sd, sf, rfl, hin, hC0, hQ0, cR0, hR0, hK0, hs0, hr0⟩ := hJ
  unfold wpX_addTerm
  try dsimp only
  refine br_f (nI_pos (by omega)) (br_f (nI_nlt (b := t) (a := 8) ht (by decide)) (br_f (by decide) ?_))
  by_cases h3 : v3 < 0
  · exact br_t h3 (br_t rfl (H _ _ _ _ _ _ _ _ _ hJ0))
  · by_cases h4 : ((1 : Int32) <<< ((4 * nI nv) &&& 31)) ≤ v3
    · exact br_f h3 (br_t h4 (br_t rfl (H _ _ _ _ _ _ _ _ _ hJ0)))
    · obtain ⟨cc, hcc, rfl⟩ := nI_of h3
      refine br_f h3 (br_f h4 (br_f (by decide) ?_))
      have hg := hin t (by omega)
      have pn : ¬ nI p = 0 := nI_ne0 (by omega) (by omega)
      obtain ⟨r, hr, hres⟩ := wu_res hp v2
      have hA : wu_Ad p (σ t ++ [(wu_hc cc 6, r)]) := wu_Ad_app (wu_Ok_Ad hg.1.2) (fun x hx => by rw [List.mem_singleton] at hx; subst hx; exact ⟨hr, by have := (wu_hc_Sm cc).1; dsimp only; omega⟩)
      have key : wX_addTerm_45 post (nI t) (nI (wu_hc cc 6)) (nI r) sn (nI p) (nI nv) st c d f m sd sf := by
        refine wu_X_at45 hp ht hg.2 hg.1 (wu_hc_Sm cc) hr (fun e0 sn2 sd2 sf2 => ?_) (fun L e1 sn2 c2 d2 f2 m2 sd2 sf2 F HL z hm => ?_)
        · exact H _ _ _ _ _ _ _ _ _ ⟨σ, C0, Q0, R0, K0, sn2, st, c, d, f, m, sd2, sf2, rfl, hin, hC0, hQ0, cR0, hR0, hK0, hs0, hr0⟩
        · refine H _ _ _ _ _ _ _ _ _ (wu_J_z (σ := fun s => if s = t then L else σ s) (fun s hs => ?_) z hm (by decide : (0 : Int32) ≠ 1) (by decide : (0 : Int32) ≠ 2))
          try dsimp only
          by_cases q : s = t
          · subst q
            rw [if_pos rfl]
            exact ⟨(wu_st_sp hA e1).1, HL⟩
          · rw [if_neg q]
            exact ⟨(hin s hs).1, wu_Ho_fr F (by omega) (hin s hs).1.2.1 (hin s hs).2⟩
      refine ⟨7, wu_X_held_4 hcc ?_ 6 0 7 rfl (by omega)⟩
      refine ⟨pn, fun x5 e5 => ?_⟩
      subst e5
      rcases hres with ⟨g1, g2⟩ | ⟨g1, g2⟩
      · exact br_t g1 (by rw [g2]; exact key)
      · refine br_f g1 (fun x6 e6 => ?_)
        rw [e6, g2]; exact key
theorem wu_J_ok {post : Int32 → St2 → Prop} {p nv : Nat} {u : St2} (hp : 2 ≤ p ∧ p ≤ 32749) (hnv : nv ≤ 6) (hJ : wu_J p nv u) (H : ∀ sn st c d f m sd sf, wu_J p nv (sn, nI p, nI nv, st, c, d, f, m, sd, sf) → post 1 (sn, nI p, nI nv, st, c, d, f, m, sd, sf)) : wpL_ok post u := by
  have hJ0 := hJ
  obtain ⟨σ, C, Q, R, K, sn, st, c, d, f, m, sd, sf, rfl, hin, hC, hQ, cR, hR, hK, hs, hr⟩ := hJ
  have xx : (st = 1 ∨ st = 2) → ∀ post' : Int32 → St2 → Prop, (∀ (r : Int32) sn2 c2 d2 f2 sd2 sf2, (r = 1 ∨ r = 3) → wu_Fr (fun s => 22 ≤ s) c d f c2 d2 f2 → post' r (sn2, nI p, nI nv, st, c2, d2, f2, m, sd2, sf2)) → wX_check_18 post' sn (nI p) (nI nv) st c d f m sd sf := by
    intro hst post' H'
    refine wu_X_check_18 (C := C) (Q := Q) (K := K) (G := σ 8) (R := R) hp hnv (fun u hu => (hC u hu).1) (fun u hu => (hQ u hu).1) (hin 8 (by omega)).1 cR hK (fun u hu => (hC u hu).2) (fun u hu => (hQ u hu).2) (hin 8 (by omega)).2 hR (fun sn2 c2 d2 f2 sd2 sf2 F => H' _ _ _ _ _ _ _ ?_ F)
    rcases hs hst with e | e
    · rw [e]; exact Or.inl (by decide)
    · rw [e]; exact Or.inr (by decide)
  have j2 : ∀ sn2 c2 d2 f2 sd2 sf2, wu_Fr (fun s => 22 ≤ s) c d f c2 d2 f2 → wu_J p nv (sn2, nI p, nI nv, st, c2, d2, f2, m, sd2, sf2) := by
    intro sn2 c2 d2 f2 sd2 sf2 F
    exact ⟨σ, C, Q, R, K, sn2, st, c2, d2, f2, m, sd2, sf2, rfl, fun s hs => ⟨(hin s hs).1, wu_Ho_fr F (by omega) (hin s hs).1.2.1 (hin s hs).2⟩, fun u hu => ⟨(hC u hu).1, wu_Ho_fr F (by omega) (hC u hu).1.2.1 (hC u hu).2⟩, fun u hu => ⟨(hQ u hu).1, wu_Ho_fr F (by omega) (hQ u hu).1.2.1 (hQ u hu).2⟩, cR, wu_Ho_fr F (by omega) cR.2.1 hR, hK, hs, hr⟩
  have o32 : (st = 1 ∨ st = 2) → ∀ sn2 c2 d2 f2 sd2 sf2, wu_Fr (fun s => 22 ≤ s) c d f c2 d2 f2 → wL_ok_32 post st sn2 (nI p) (nI nv) st c2 d2 f2 m sd2 sf2 := by
    intro hst sn2 c2 d2 f2 sd2 sf2 F
    have hj := j2 sn2 c2 d2 f2 sd2 sf2 F
    unfold wL_ok_32
    refine br_c (fun h1 => ?_) (fun _ => H _ _ _ _ _ _ _ _ hj)
    unfold wpX_termCount
    try dsimp only
    refine br_f (by decide) (br_f (by decide) (br_f (by decide) (br_f (by decide) (br_f (by decide) (br_f (by decide) (br_t rfl ?_))))))
    refine br_f (by decide) (br_t (by decide) ?_)
    refine br_f (by decide) ⟨vp_in_iff.mpr (by decide), ?_⟩
    have e21 : ((21 : Int32) + 0).toNatClampNeg = 21 := by decide
    have hR2 := wu_Ho_fr F (show ¬ 22 ≤ 21 by omega) cR.2.1 hR
    refine br_t ?_ (H _ _ _ _ _ _ _ _ hj)
    rw [e21, hR2.1, hr h1]
    rfl
  unfold wpL_ok
  try dsimp only
  by_cases h1 : st = 1
  · refine br_t h1 ?_
    unfold wL_ok_15
    try dsimp only
    refine br_t h1 (xx (Or.inl h1) _ (fun r sn2 c2 d2 f2 sd2 sf2 er F => ?_))
    rcases er with rfl | rfl
    · exact br_t rfl (o32 (Or.inl h1) _ _ _ _ _ _ F)
    · exact br_f (by decide) (br_t rfl (o32 (Or.inl h1) _ _ _ _ _ _ F))
  · by_cases h2 : st = 2
    · refine br_f h1 (br_t h2 ?_)
      unfold wL_ok_15
      try dsimp only
      refine br_f h1 (br_t h2 (xx (Or.inr h2) _ (fun r sn2 c2 d2 f2 sd2 sf2 er F => ?_)))
      rcases er with rfl | rfl
      · exact br_t rfl (o32 (Or.inr h2) _ _ _ _ _ _ F)
      · exact br_f (by decide) (br_t rfl (o32 (Or.inr h2) _ _ _ _ _ _ F))
    · exact br_f h1 (br_f h2 (H _ _ _ _ _ _ _ _ hJ0))
/-! cells, remainders -/
theorem wu_cell {L : Nat} (hL : L ≤ 260) (xs : Nat → Int32) (j : Nat) (hj : j < 2147483648) : ∃ r : Int32, ∀ post : Int32 → Prop, post r → wpL_cell post L xs () (nI j) := by
  by_cases h : L ≤ j
  · exact ⟨0, fun post hp => br_t (nI_le h (by omega)) hp⟩
  · exact ⟨xs j, fun post hp => br_f (nI_ge (by omega) (by omega)) ⟨vp_in_nI (by omega) (by omega), by rw [nI_clamp (by omega)]; exact hp⟩⟩
theorem wu_low (x : Int32) {q : Nat} (hq : 2 ≤ q ∧ q ≤ 32749) : ∃ r : Nat, r < q ∧ ∀ post : Int32 → Prop, post (nI r) → wpL_low post () x (nI q) := by
  obtain ⟨r, hr, h⟩ := wu_res hq x
  refine ⟨r, hr, fun post hp => ⟨nI_ne0 (by omega) (by omega), fun x2 e2 => ?_⟩⟩
  subst e2
  rcases h with ⟨g1, g2⟩ | ⟨g1, g2⟩
  · exact br_t g1 (by rw [g2]; exact hp)
  · exact br_f g1 (by rw [g2]; exact hp)
theorem wu_primeX {j : Nat} (hj : j ≤ 7) : ∃ p : Nat, 2 ≤ p ∧ p ≤ 32749 ∧ ∀ post : Int32 → Prop, post (nI p) → wpX_primeAt post () (nI j) := by
  have : j = 0 ∨ j = 1 ∨ j = 2 ∨ j = 3 ∨ j = 4 ∨ j = 5 ∨ j = 6 ∨ j = 7 := by omega
  rcases this with rfl | rfl | rfl | rfl | rfl | rfl | rfl | rfl
  · exact ⟨2, by decide, by decide, fun post h => br_f (by decide) (br_f (by decide) (br_t (by decide) h))⟩
  · exact ⟨3, by decide, by decide, fun post h => br_f (by decide) (br_f (by decide) (br_f (by decide) (br_t (by decide) h)))⟩
  · exact ⟨5, by decide, by decide, fun post h => br_f (by decide) (br_f (by decide) (br_f (by decide) (br_f (by decide) (br_t (by decide) h))))⟩
  · exact ⟨7, by decide, by decide, fun post h => br_f (by decide) (br_f (by decide) (br_f (by decide) (br_f (by decide) (br_f (by decide) (br_t (by decide) h)))))⟩
  · exact ⟨101, by decide, by decide, fun post h => br_f (by decide) (br_f (by decide) (br_f (by decide) (br_f (by decide) (br_f (by decide) (br_f (by decide) (br_t (by decide) h))))))⟩
  · exact ⟨1009, by decide, by decide, fun post h => br_f (by decide) (br_f (by decide) (br_f (by decide) (br_f (by decide) (br_f (by decide) (br_f (by decide) (br_f (by decide) (br_t (by decide) h)))))))⟩
  · exact ⟨10007, by decide, by decide, fun post h => br_f (by decide) (br_f (by decide) (br_f (by decide) (br_f (by decide) (br_f (by decide) (br_f (by decide) (br_f (by decide) (br_f (by decide) (br_t (by decide) h))))))))⟩
  · exact ⟨32749, by decide, by decide, fun post h => br_f (by decide) (br_t (by decide) h)⟩
/-! the law's walks -/
theorem wu_law230 {post : Int32 → Prop} {L kc ks p nv : Nat} {xs : Nat → Int32} {sn st : Int32} {c d f m sd sf : Nat → Int32} (hp : 2 ≤ p ∧ p ≤ 32749) (hnv : nv ≤ 6) (H : post 1) (hJ : wu_J p nv (sn, nI p, nI nv, st, c, d, f, m, sd, sf)) : wL_law_230 post L xs kc ks sn (nI p) (nI nv) st c d f m sd sf := by
  unfold wL_law_230
  refine wu_J_prove hp hnv hJ (fun r sn2 st2 c2 d2 f2 m2 sd2 sf2 hJ2 => ?_)
  refine wu_J_ok hp hnv hJ2 (fun sn3 st3 c3 d3 f3 m3 sd3 sf3 hJ3 => ?_)
  exact H
theorem wu_law215 {post : Int32 → Prop} {L kc ks p nv : Nat} {xs : Nat → Int32} {J39 : Int32 → Int32 → Int32 → Int32 → Int32 → Int32 → (Nat → Int32) → (Nat → Int32) → (Nat → Int32) → (Nat → Int32) → (Nat → Int32) → (Nat → Int32) → Prop} {x2 x4 x5 sn st : Int32} {c d f m sd sf : Nat → Int32} (hp : 2 ≤ p ∧ p ≤ 32749) (hnv : nv ≤ 6) (hJ : wu_J p nv (sn, nI p, nI nv, st, c, d, f, m, sd, sf))
    (H : ∀ sn st c d f m sd sf, wu_J p nv (sn, nI p, nI nv, st, c, d, f, m, sd, sf) → ∀ y, y = x5 + 4 → J39 x4 y sn (nI p) (nI nv) st c d f m sd sf) : wL_law_215 post L xs J39 x2 x4 x5 kc ks sn (nI p) (nI nv) st c d f m sd sf := by
  unfold wL_law_215
  refine wu_J_ok hp hnv hJ (fun sn3 st3 c3 d3 f3 m3 sd3 sf3 hJ3 => ?_)
  exact br_f (by decide) (H _ _ _ _ _ _ _ _ hJ3)
theorem wu_law123 {post : Int32 → Prop} {L kc ks p nv t : Nat} {xs : Nat → Int32} {J39 : Int32 → Int32 → Int32 → Int32 → Int32 → Int32 → (Nat → Int32) → (Nat → Int32) → (Nat → Int32) → (Nat → Int32) → (Nat → Int32) → (Nat → Int32) → Prop} {x4 x5 x8 x9 sn st : Int32} {c d f m sd sf : Nat → Int32} (hp : 2 ≤ p ∧ p ≤ 32749) (hnv : nv ≤ 6) (ht : t ≤ 8) (hJ : wu_J p nv (sn, nI p, nI nv, st, c, d, f, m, sd, sf))
    (H : ∀ sn st c d f m sd sf, wu_J p nv (sn, nI p, nI nv, st, c, d, f, m, sd, sf) → ∀ y, y = x5 + 4 → J39 x4 y sn (nI p) (nI nv) st c d f m sd sf) :
    ∀ (l j n : Nat) (x11 x12 : Int32), j + l = nv → l < n → wL_law_123 post L xs J39 (nI nv) x4 x5 x8 x9 (nI t) kc ks sn (nI p) (nI nv) st c d f m sd sf n x11 x12 (nI j) := by
  intro l
  induction l with
  | zero =>
    intro j n x11 x12 hj hn
    obtain ⟨n, rfl⟩ : ∃ k, n = k + 1 := ⟨n - 1, by omega⟩
    refine pk_le nv j (fun _ => ⟨by decide, fun x13 e13 => ?_⟩) (fun h => absurd h (by omega)) rfl rfl (by omega) (by omega)
    refine wu_J_add hp ht hJ x13 x11 (fun r sn2 st2 c2 d2 f2 m2 sd2 sf2 hJ2 => ?_)
    exact wu_law215 hp hnv hJ2 H
  | succ l ih =>
    intro j n x11 x12 hj hn
    obtain ⟨n, rfl⟩ : ∃ k, n = k + 1 := ⟨n - 1, by omega⟩
    refine pk_le nv j (fun h => absurd h (by omega)) (fun _ => ?_) rfl rfl (by omega) (by omega)
    obtain ⟨r, hr, hlow⟩ := wu_low (((x8.toUInt32 >>> ((2 * nI j).toUInt32 &&& Int32.toUInt32 31)).toInt32) &&& 3) (q := 3) (by omega)
    refine hlow _ (fun y1 e1 y2 e2 y3 e3 => ?_)
    subst e3
    rw [nI_1]
    exact ih (j + 1) n y1 y2 (by omega) (by omega)
theorem wu_law39 {post : Int32 → Prop} {L kc ks p nv : Nat} {xs : Nat → Int32} (hp : 2 ≤ p ∧ p ≤ 32749) (hnv : nv ≤ 6) (hL : L ≤ 260) (H : post 1) :
    ∀ (l k n : Nat) (sn st : Int32) (c d f m sd sf : Nat → Int32), k + l = 66 → l < n → wu_J p nv (sn, nI p, nI nv, st, c, d, f, m, sd, sf) → wL_law_39 post L xs (nI nv) kc ks n (nI k) (nI (2 + 4 * k)) sn (nI p) (nI nv) st c d f m sd sf := by
  intro l
  induction l with
  | zero =>
    intro k n sn st c d f m sd sf hk hn hJ
    obtain ⟨n, rfl⟩ : ∃ k, n = k + 1 := ⟨n - 1, by omega⟩
    exact pk_le L (2 + 4 * k) (fun _ => wu_law230 hp hnv H hJ) (fun h => absurd h (by omega)) rfl rfl (by omega) (by omega)
  | succ l ih =>
    intro k n sn st c d f m sd sf hk hn hJ
    obtain ⟨n, rfl⟩ : ∃ k, n = k + 1 := ⟨n - 1, by omega⟩
    refine pk_le L (2 + 4 * k) (fun _ => wu_law230 hp hnv H hJ) (fun h => pk_le 80 k (fun h => absurd h (by omega)) (fun _ x4 e4 => ?_) rfl rfl (by omega) (by omega)) rfl rfl (by omega) (by omega)
    rw [nI_1] at e4
    subst e4
    have nxt : ∀ sn st c d f m sd sf, wu_J p nv (sn, nI p, nI nv, st, c, d, f, m, sd, sf) → ∀ y, y = nI (2 + 4 * k) + 4 → wL_law_39 post L xs (nI nv) kc ks n (nI (k + 1)) y sn (nI p) (nI nv) st c d f m sd sf := by
      intro sn st c d f m sd sf hJ y ey
      rw [show nI (2 + 4 * k) + 4 = nI (2 + 4 * (k + 1)) from (nI_add (2 + 4 * k) 4).trans (congrArg nI (by omega))] at ey
      subst ey
      exact ih (k + 1) n sn st c d f m sd sf (by omega) (by omega) hJ
    obtain ⟨r0, c0⟩ := wu_cell hL xs (2 + 4 * k) (by omega)
    obtain ⟨o, ho, l0⟩ := wu_low r0 (q := 8) (by omega)
    obtain ⟨r1, c1⟩ := wu_cell hL xs (2 + 4 * k + 1) (by omega)
    obtain ⟨r2, c2⟩ := wu_cell hL xs (2 + 4 * k + 2) (by omega)
    obtain ⟨r3, c3⟩ := wu_cell hL xs (2 + 4 * k + 3) (by omega)
    obtain ⟨t, ht, l9⟩ := wu_low r1 (q := 9) (by omega)
    rw [show nI (2 + 4 * k) + 1 = nI (2 + 4 * k + 1) from nI_add (2 + 4 * k) 1, show nI (2 + 4 * k) + 2 = nI (2 + 4 * k + 2) from nI_add (2 + 4 * k) 2, show nI (2 + 4 * k) + 3 = nI (2 + 4 * k + 3) from nI_add (2 + 4 * k) 3]
    refine c0 _ (l0 _ (c1 _ (c2 _ (c3 _ ?_))))
    refine pk_le 5 o (fun _ => pk_eq o 5 (fun _ => ?_) (fun _ => ?_) rfl rfl (by omega) (by omega)) (fun _ => ?_) rfl rfl (by omega) (by omega)
    · refine l9 _ (wu_J_clear (by omega) hJ (fun r sn2 st2 c2 d2 f2 m2 sd2 sf2 hJ2 => ?_))
      exact wu_law215 hp hnv hJ2 nxt
    · refine wu_J_prove hp hnv hJ (fun r sn2 st2 c2 d2 f2 m2 sd2 sf2 hJ2 => ?_)
      exact wu_law215 hp hnv hJ2 nxt
    · exact l9 _ ⟨nv + 1, wu_law123 hp hnv (by omega) hJ nxt nv 0 (nv + 1) 0 1 (by omega) (by omega)⟩
theorem wu_X_new {i w : Nat} (hi : i ≤ 7) (hw : 1 ≤ w ∧ w ≤ 6) : ∃ p : Nat, 2 ≤ p ∧ p ≤ 32749 ∧ ∀ post : St2 → Prop, (∀ c m, wu_Cz (fun _ => 0) c → wu_Mz m → post (0, nI p, nI w, 0, c, (fun _ => 0), (fun _ => 0), m, (fun _ => 0), (fun _ => 0))) → wpX_init post 6 2152 (0, 0, 0, 0) (nI i) (nI w) := by
  obtain ⟨p, hp1, hp2, hpr⟩ := wu_primeX hi
  refine ⟨p, hp1, hp2, fun post H => ?_⟩
  unfold wpX_init
  try dsimp only
  have g0 : (0 : Int32) ≤ nI i := nI_pos' (by omega)
  have g1 : nI i ≤ (7 : Int32) := nI_le (b := 7) hi (by decide)
  have g2 : (1 : Int32) ≤ nI w := nI_le (a := 1) hw.1 (by omega)
  have g3 : nI w ≤ (6 : Int32) := nI_le (b := 6) hw.2 (by decide)
  refine ⟨by omega, by omega, by omega, by omega, by omega, by omega, by omega, by omega, by omega, by omega, by omega, by omega, ?_⟩
  refine br_t g0 (br_t g1 (hpr _ ?_))
  refine br_t g2 (br_t g3 ?_)
  exact wu_X_clear (fun c m hc hm => H c m hc hm)
theorem i_vc (xs : Nat → Int32) (L : Nat) (hL : L ≤ 260) : wpL_law (fun r => r = 1) L xs := by
  obtain ⟨r1, h1⟩ := wu_cell hL xs 0 (by omega)
  obtain ⟨i, hi, h2⟩ := wu_low r1 (q := 8) (by omega)
  obtain ⟨r3, h3⟩ := wu_cell hL xs 1 (by omega)
  obtain ⟨w, hw, h4⟩ := wu_low r3 (q := 3) (by omega)
  obtain ⟨p, hp1, hp2, hnew⟩ := wu_X_new (show i ≤ 7 by omega) (show 1 ≤ 1 + w ∧ 1 + w ≤ 6 by omega)
  have key : ∀ c m, wu_Cz (fun _ => 0) c → wu_Mz m → wL_law_39 (fun r => r = 1) L xs (nI (1 + w)) (1 + 6) (10 + 2152) 67 0 2 0 (nI p) (nI (1 + w)) 0 c (fun _ => 0) (fun _ => 0) m (fun _ => 0) (fun _ => 0) := by
    intro c m hc hm
    have hJ : wu_J p (1 + w) (0, nI p, nI (1 + w), 0, c, (fun _ => 0), (fun _ => 0), m, (fun _ => 0), (fun _ => 0)) := wu_J_z (σ := fun _ => []) (fun s hs => ⟨wu_Cp_nil, wu_Ho_z (hc.2 s (by omega))⟩) hc.1 hm (by decide : (0 : Int32) ≠ 1) (by decide : (0 : Int32) ≠ 2)
    have h39 := wu_law39 (post := fun r => r = 1) (L := L) (kc := 1 + 6) (ks := 10 + 2152) (xs := xs) ⟨hp1, hp2⟩ (show 1 + w ≤ 6 by omega) hL rfl 66 0 67 0 0 c (fun _ => 0) (fun _ => 0) m (fun _ => 0) (fun _ => 0) (by omega) (by omega) hJ
    rw [show nI (2 + 4 * 0) = (2 : Int32) from rfl, nI_0] at h39
    exact h39
  unfold wpL_law
  refine h1 _ (h2 _ (h3 _ (h4 _ (fun x2 e2 => ?_))))
  rw [show (1 : Int32) + nI w = nI (1 + w) from nI_add 1 w] at e2
  subst e2
  exact ⟨6, 2152, by omega, by omega, hnew _ (fun c m hc hm => ⟨67, key c m hc hm⟩)⟩
end
