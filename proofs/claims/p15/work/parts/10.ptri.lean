/-! triangulation on lists -/
def wu_up (W : Nat → wu_P) (i : Nat) (L : wu_P) : Nat → wu_P := fun j => if j = i then L else W j
theorem wu_up_s {W : Nat → wu_P} {i : Nat} {L : wu_P} : wu_up W i L i = L := if_pos rfl
theorem wu_up_n {W : Nat → wu_P} {i j : Nat} {L : wu_P} (h : j ≠ i) : wu_up W i L j = W j := if_neg h
def wu_ct (nv : Nat) (w : Int) (W : Nat → wu_P) : Nat → Nat → Nat
  | 0, _ => 0
  | n + 1, i => if wu_cl nv (W i) = w then wu_ct nv w W n (i + 1) + 1 else wu_ct nv w W n (i + 1)
def wu_ls (nv v : Nat) (W : Nat → wu_P) : Nat → Nat → Int → Int → Int
  | 0, _, b, _ => b
  | n + 1, i, b, bd => if wu_cl nv (W i) = (v : Int) ∧ wu_dg v (W i) < bd then wu_ls nv v W n (i + 1) (i : Int) (wu_dg v (W i)) else wu_ls nv v W n (i + 1) b bd
noncomputable def wu_do (p nv v b : Nat) : Nat → Nat → (Nat → wu_P) → Int × (Nat → wu_P)
  | 0, _, W => (0, W)
  | n + 1, i, W => if i = b ∨ wu_cl nv (W i) ≠ (v : Int) then wu_do p nv v b n (i + 1) W else
      match wu_dv p v (W b) false (W i) [] with
      | none => (4, W)
      | some r => if wu_cl nv r.1 = -1 then (3, wu_up W i r.1) else wu_do p nv v b n (i + 1) (wu_up W i r.1)
theorem wu_do_sk {p nv v b n i : Nat} {W : Nat → wu_P} (h : i = b ∨ wu_cl nv (W i) ≠ (v : Int)) : wu_do p nv v b (n + 1) i W = wu_do p nv v b n (i + 1) W := by
  rw [wu_do, if_pos h]
theorem wu_do_4 {p nv v b n i : Nat} {W : Nat → wu_P} (h : ¬ (i = b ∨ wu_cl nv (W i) ≠ (v : Int))) (e : wu_dv p v (W b) false (W i) [] = none) : wu_do p nv v b (n + 1) i W = (4, W) := by
  rw [wu_do, if_neg h, e]
theorem wu_do_3 {p nv v b n i : Nat} {W : Nat → wu_P} {A Q : wu_P} (h : ¬ (i = b ∨ wu_cl nv (W i) ≠ (v : Int))) (e : wu_dv p v (W b) false (W i) [] = some (A, Q)) (g : wu_cl nv A = -1) : wu_do p nv v b (n + 1) i W = (3, wu_up W i A) := by
  rw [wu_do, if_neg h, e]
  exact if_pos g
theorem wu_do_go {p nv v b n i : Nat} {W : Nat → wu_P} {A Q : wu_P} (h : ¬ (i = b ∨ wu_cl nv (W i) ≠ (v : Int))) (e : wu_dv p v (W b) false (W i) [] = some (A, Q)) (g : ¬ wu_cl nv A = -1) : wu_do p nv v b (n + 1) i W = wu_do p nv v b n (i + 1) (wu_up W i A) := by
  rw [wu_do, if_neg h, e]
  exact if_neg g
noncomputable def wu_tr (p nv v : Nat) : Nat → (Nat → wu_P) → Int × (Nat → wu_P) × wu_P
  | 0, W => (0, W, [])
  | n + 1, W =>
    if wu_ct nv v W 8 0 = 0 then (0, W, [])
    else if wu_ct nv v W 8 0 = 1 then (0, wu_up W (wu_ls nv v W 8 0 (-1) 16).toNat [], W (wu_ls nv v W 8 0 (-1) 16).toNat)
    else if (wu_do p nv v (wu_ls nv v W 8 0 (-1) 16).toNat 8 0 W).1 = 0 then wu_tr p nv v n (wu_do p nv v (wu_ls nv v W 8 0 (-1) 16).toNat 8 0 W).2
    else ((wu_do p nv v (wu_ls nv v W 8 0 (-1) 16).toNat 8 0 W).1, (wu_do p nv v (wu_ls nv v W 8 0 (-1) 16).toNat 8 0 W).2, [])
def wu_CW (p : Nat) (W : Nat → wu_P) : Prop := ∀ i, i < 8 → wu_Cp p (W i)
theorem wu_cl_ne {nv v : Nat} {L : wu_P} (h : wu_cl nv L = (v : Int)) : L ≠ [] := by
  intro e
  rw [e] at h
  have : wu_cl nv [] = -2 := rfl
  omega
theorem wu_cv_pos {L : wu_P} : ∀ (n v : Nat), wu_cv L n = (v : Int) → 1 ≤ wu_dg v L := by
  intro n
  induction n with
  | zero => intro v h; have : wu_cv L 0 = -1 := rfl; omega
  | succ n ih =>
    intro v h
    rw [wu_cv] at h
    by_cases g : 1 ≤ wu_dg n L
    · rw [if_pos g] at h
      have : n = v := by omega
      rw [← this]; exact g
    · rw [if_neg g] at h; exact ih v h
theorem wu_cl_pos {nv v : Nat} {L : wu_P} (h : wu_cl nv L = (v : Int)) : 1 ≤ wu_dg v L := by
  unfold wu_cl at h
  by_cases g : L.length = 0
  · rw [if_pos g] at h; omega
  · rw [if_neg g] at h; exact wu_cv_pos nv v h
theorem wu_cl_lt {nv v : Nat} {L : wu_P} (h : wu_cl nv L = (v : Int)) : v < nv := by
  have := wu_cl_b nv L; omega
theorem wu_dg_15 {p v : Nat} {L : wu_P} (hv : v < 6) (h : wu_Ok p L) : wu_dg v L ≤ 15 :=
  wu_dg_ge (by omega) (fun t ht => by have := (h.2.2 t ht).2.2.2 v hv; omega)
theorem wu_up_CW {p i : Nat} {W : Nat → wu_P} {L : wu_P} (h : wu_CW p W) (hL : wu_Cp p L) : wu_CW p (wu_up W i L) := by
  intro j hj
  by_cases e : j = i
  · rw [e, wu_up_s]; exact hL
  · rw [wu_up_n e]; exact h j hj
theorem wu_ls_sp {nv v : Nat} {W : Nat → wu_P} : ∀ (n i : Nat) (b bd : Int), (wu_ls nv v W n i b bd = b ∧ ∀ j, i ≤ j → j < i + n → wu_cl nv (W j) = (v : Int) → bd ≤ wu_dg v (W j)) ∨
    (∃ j : Nat, i ≤ j ∧ j < i + n ∧ wu_ls nv v W n i b bd = (j : Int) ∧ wu_cl nv (W j) = (v : Int) ∧ wu_dg v (W j) < bd ∧ ∀ k, i ≤ k → k < i + n → wu_cl nv (W k) = (v : Int) → wu_dg v (W j) ≤ wu_dg v (W k)) := by
  intro n
  induction n with
  | zero => intro i b bd; exact Or.inl ⟨rfl, fun j h1 h2 => absurd h2 (by omega)⟩
  | succ n ih =>
    intro i b bd
    rw [wu_ls]
    by_cases h : wu_cl nv (W i) = (v : Int) ∧ wu_dg v (W i) < bd
    · rw [if_pos h]
      rcases ih (i + 1) (i : Int) (wu_dg v (W i)) with ⟨e, g⟩ | ⟨j, h1, h2, e, hc, hd, g⟩
      · refine Or.inr ⟨i, Nat.le_refl i, by omega, e, h.1, h.2, fun k h1 h2 hk => ?_⟩
        by_cases q : k = i
        · rw [q]; exact Int.le_refl _
        · exact g k (by omega) (by omega) hk
      · refine Or.inr ⟨j, by omega, by omega, e, hc, by omega, fun k h3 h4 hk => ?_⟩
        by_cases q : k = i
        · rw [q]; omega
        · exact g k (by omega) (by omega) hk
    · rw [if_neg h]
      rcases ih (i + 1) b bd with ⟨e, g⟩ | ⟨j, h1, h2, e, hc, hd, g⟩
      · refine Or.inl ⟨e, fun k h1 h2 hk => ?_⟩
        by_cases q : k = i
        · rw [q] at hk ⊢
          by_cases z : wu_dg v (W i) < bd
          · exact absurd ⟨hk, z⟩ h
          · omega
        · exact g k (by omega) (by omega) hk
      · refine Or.inr ⟨j, by omega, by omega, e, hc, hd, fun k h3 h4 hk => ?_⟩
        by_cases q : k = i
        · rw [q] at hk ⊢
          by_cases z : wu_dg v (W i) < bd
          · exact absurd ⟨hk, z⟩ h
          · omega
        · exact g k (by omega) (by omega) hk
theorem wu_ct_0 {nv : Nat} {w : Int} {W : Nat → wu_P} : ∀ (n i : Nat), wu_ct nv w W n i = 0 → ∀ j, i ≤ j → j < i + n → wu_cl nv (W j) ≠ w := by
  intro n
  induction n with
  | zero => intro i _ j h1 h2; exact absurd h2 (by omega)
  | succ n ih =>
    intro i h j h1 h2
    rw [wu_ct] at h
    by_cases g : wu_cl nv (W i) = w
    · rw [if_pos g] at h; omega
    · rw [if_neg g] at h
      by_cases q : j = i
      · rw [q]; exact g
      · exact ih (i + 1) h j (by omega) (by omega)
theorem wu_ct_pos {nv : Nat} {w : Int} {W : Nat → wu_P} : ∀ (n i : Nat), wu_ct nv w W n i ≠ 0 → ∃ j, i ≤ j ∧ j < i + n ∧ wu_cl nv (W j) = w := by
  intro n
  induction n with
  | zero => intro i h; exact absurd rfl h
  | succ n ih =>
    intro i h
    rw [wu_ct] at h
    by_cases g : wu_cl nv (W i) = w
    · exact ⟨i, Nat.le_refl i, by omega, g⟩
    · rw [if_neg g] at h
      obtain ⟨j, h1, h2, h3⟩ := ih (i + 1) h
      exact ⟨j, by omega, by omega, h3⟩
/-- two of the class, one of them not b -/
theorem wu_ct_2 {nv : Nat} {w : Int} {W : Nat → wu_P} (b : Nat) : ∀ (n i : Nat), 2 ≤ wu_ct nv w W n i → ∃ j, i ≤ j ∧ j < i + n ∧ j ≠ b ∧ wu_cl nv (W j) = w := by
  intro n
  induction n with
  | zero => intro i h; have : wu_ct nv w W 0 i = 0 := rfl; omega
  | succ n ih =>
    intro i h
    rw [wu_ct] at h
    by_cases g : wu_cl nv (W i) = w
    · rw [if_pos g] at h
      by_cases q : i = b
      · obtain ⟨j, h1, h2, h3⟩ := wu_ct_pos (nv := nv) (w := w) (W := W) n (i + 1) (by omega)
        exact ⟨j, by omega, by omega, by omega, h3⟩
      · exact ⟨i, Nat.le_refl i, by omega, q, g⟩
    · rw [if_neg g] at h
      obtain ⟨j, h1, h2, h3, h4⟩ := ih (i + 1) h
      exact ⟨j, by omega, by omega, h3, h4⟩
/-- one of the class: no other -/
theorem wu_ct_1 {nv : Nat} {w : Int} {W : Nat → wu_P} (b : Nat) : ∀ (n i : Nat), wu_ct nv w W n i ≤ 1 → i ≤ b → b < i + n → wu_cl nv (W b) = w → ∀ j, i ≤ j → j < i + n → j ≠ b → wu_cl nv (W j) ≠ w := by
  intro n
  induction n with
  | zero => intro i _ h1 h2; exact absurd h2 (by omega)
  | succ n ih =>
    intro i h h1 h2 hb j h3 h4 hj
    rw [wu_ct] at h
    by_cases g : wu_cl nv (W i) = w
    · rw [if_pos g] at h
      by_cases q : i = b
      · exact wu_ct_0 n (i + 1) (by omega) j (by omega) (by omega)
      · exact absurd hb (wu_ct_0 n (i + 1) (by omega) b (by omega) (by omega))
    · rw [if_neg g] at h
      by_cases q : j = i
      · rw [q]; exact g
      · have : i ≠ b := fun z => g (by rw [z]; exact hb)
        exact ih (i + 1) h (by omega) (by omega) hb j (by omega) (by omega) hj
theorem wu_do_sp {p nv v b : Nat} (hp : 2 ≤ p) (hnv : nv ≤ 6) (hb : b < 8) : ∀ (n i : Nat) (W W' : Nat → wu_P), i + n ≤ 8 → wu_CW p W → wu_cl nv (W b) = (v : Int) → wu_do p nv v b n i W = (0, W') →
    wu_CW p W' ∧ W' b = W b ∧ (∀ j, j < i → W' j = W j) ∧ (∀ j, i ≤ j → j < i + n → j ≠ b → wu_cl nv (W' j) = (v : Int) → wu_dg v (W' j) < wu_dg v (W b)) := by
  intro n
  induction n with
  | zero =>
    intro i W W' hi hW hcb h
    have := (Prod.mk.inj h).2
    rw [← this]
    exact ⟨hW, rfl, fun _ _ => rfl, fun j h1 h2 => absurd h2 (by omega)⟩
  | succ n ih =>
    intro i W W' hi hW hcb h
    by_cases hs : i = b ∨ wu_cl nv (W i) ≠ (v : Int)
    · rw [wu_do_sk hs] at h
      obtain ⟨c, eb, el, hd⟩ := ih (i + 1) W W' (by omega) hW hcb h
      refine ⟨c, eb, fun j hj => el j (by omega), fun j h1 h2 hj hc => ?_⟩
      by_cases q : j = i
      · subst q
        have := el j (by omega)
        rw [this] at hc
        rcases hs with z | z
        · exact absurd z hj
        · exact absurd hc z
      · exact hd j (by omega) (by omega) hj hc
    · have hc : wu_cl nv (W i) = (v : Int) := Classical.byContradiction fun z => hs (Or.inr z)
      have hib : i ≠ b := fun z => hs (Or.inl z)
      have hv : v < 6 := by have := wu_cl_lt hc; omega
      cases e : wu_dv p v (W b) false (W i) [] with
      | none =>
        rw [wu_do_4 hs e] at h
        have := (Prod.mk.inj h).1
        omega
      | some r =>
        obtain ⟨A, Q⟩ := r
        by_cases g : wu_cl nv A = -1
        · rw [wu_do_3 hs e g] at h
          have := (Prod.mk.inj h).1
          omega
        · rw [wu_do_go hs e g] at h
          have cA := (wu_dv_Cp hp hv (hW b hb) (hW i (by omega)) wu_Cp_nil e).1
          have dA := (wu_dv_dg hp hv (hW b hb) (wu_cl_ne hcb) (hW i (by omega)) wu_Cp_nil e).1
          have eb' : wu_up W i A b = W b := wu_up_n (fun z => hib z.symm)
          obtain ⟨c, eb, el, hd⟩ := ih (i + 1) (wu_up W i A) W' (by omega) (wu_up_CW hW cA) (by rw [eb']; exact hcb) h
          rw [eb'] at eb hd
          refine ⟨c, eb, fun j hj => by rw [el j (by omega)]; exact wu_up_n (by omega), fun j h1 h2 hj hcj => ?_⟩
          by_cases q : j = i
          · subst q
            have := el j (by omega)
            rw [wu_up_s] at this
            rw [this]; exact dA
          · exact hd j (by omega) (by omega) hj hcj
/-- the measure of a pass: at most one of the class, or the least degree is below g -/
def wu_Me (nv v : Nat) (W : Nat → wu_P) (g : Nat) : Prop := 1 ≤ g ∧ (wu_ct nv v W 8 0 ≤ 1 ∨ ∃ j, j < 8 ∧ wu_cl nv (W j) = (v : Int) ∧ wu_dg v (W j) < g)
theorem wu_ls_at {p nv v : Nat} {W : Nat → wu_P} (hv : v < 6) (hW : wu_CW p W) (h : wu_ct nv v W 8 0 ≠ 0) : ∃ b : Nat, b < 8 ∧ wu_ls nv v W 8 0 (-1) 16 = (b : Int) ∧ wu_cl nv (W b) = (v : Int) ∧ ∀ k, k < 8 → wu_cl nv (W k) = (v : Int) → wu_dg v (W b) ≤ wu_dg v (W k) := by
  obtain ⟨j, _, hj, hc⟩ := wu_ct_pos 8 0 h
  rcases wu_ls_sp (nv := nv) (v := v) (W := W) 8 0 (-1) 16 with ⟨_, g⟩ | ⟨b, _, hb, e, hcb, _, g⟩
  · have := g j (by omega) hj hc
    have := wu_dg_15 hv (hW j (by omega)).2
    omega
  · exact ⟨b, by omega, e, hcb, fun k hk => g k (by omega) (by omega)⟩
theorem wu_Me_next {p nv v g b : Nat} {W W' : Nat → wu_P} (hp : 2 ≤ p) (hnv : nv ≤ 6) (hv : v < 6) (hW : wu_CW p W) (hM : wu_Me nv v W (g + 1)) (h2 : 2 ≤ wu_ct nv v W 8 0) (hb : b < 8) (hcb : wu_cl nv (W b) = (v : Int)) (hmin : ∀ k, k < 8 → wu_cl nv (W k) = (v : Int) → wu_dg v (W b) ≤ wu_dg v (W k)) (h : wu_do p nv v b 8 0 W = (0, W')) : wu_CW p W' ∧ wu_Me nv v W' g := by
  obtain ⟨c, eb, _, hd⟩ := wu_do_sp hp hnv hb 8 0 W W' (by omega) hW hcb h
  rcases hM.2 with z | ⟨j, hj, hcj, hdj⟩
  · omega
  · have h1 := wu_cl_pos hcb
    have h3 := hmin j hj hcj
    refine ⟨c, by omega, ?_⟩
    by_cases q : wu_ct nv v W' 8 0 ≤ 1
    · exact Or.inl q
    · obtain ⟨k, _, hk, hkb, hck⟩ := wu_ct_2 (nv := nv) (w := (v : Int)) (W := W') b 8 0 (by omega)
      have := hd k (by omega) hk hkb hck
      exact Or.inr ⟨k, by omega, hck, by omega⟩
theorem wu_Me_16 {p nv v : Nat} {W : Nat → wu_P} (hv : v < 6) (hW : wu_CW p W) : wu_Me nv v W 16 := by
  refine ⟨by omega, ?_⟩
  by_cases q : wu_ct nv v W 8 0 ≤ 1
  · exact Or.inl q
  · obtain ⟨k, _, hk, hck⟩ := wu_ct_pos (nv := nv) (w := (v : Int)) (W := W) 8 0 (by omega)
    have := wu_dg_15 hv (hW k (by omega)).2
    exact Or.inr ⟨k, by omega, hck, by omega⟩
/-! the steps of wu_tr -/
theorem wu_tr_0 {p nv v g : Nat} {W : Nat → wu_P} (h : wu_ct nv v W 8 0 = 0) : wu_tr p nv v (g + 1) W = (0, W, []) := by
  rw [wu_tr, if_pos h]
theorem wu_tr_1 {p nv v g b : Nat} {W : Nat → wu_P} (h : wu_ct nv v W 8 0 = 1) (hb : wu_ls nv v W 8 0 (-1) 16 = (b : Int)) : wu_tr p nv v (g + 1) W = (0, wu_up W b [], W b) := by
  rw [wu_tr, if_neg (by omega), if_pos h, hb]; rfl
theorem wu_tr_2 {p nv v g b : Nat} {W W' : Nat → wu_P} (h : 2 ≤ wu_ct nv v W 8 0) (hb : wu_ls nv v W 8 0 (-1) 16 = (b : Int)) (hd : wu_do p nv v b 8 0 W = (0, W')) : wu_tr p nv v (g + 1) W = wu_tr p nv v g W' := by
  rw [wu_tr, if_neg (by omega), if_neg (by omega), hb, Int.toNat_natCast, hd]
  exact if_pos rfl
theorem wu_tr_3 {p nv v g b : Nat} {W W' : Nat → wu_P} {e : Int} (h : 2 ≤ wu_ct nv v W 8 0) (hb : wu_ls nv v W 8 0 (-1) 16 = (b : Int)) (hd : wu_do p nv v b 8 0 W = (e, W')) (he : e ≠ 0) : wu_tr p nv v (g + 1) W = (e, W', []) := by
  rw [wu_tr, if_neg (by omega), if_neg (by omega), hb, Int.toNat_natCast, hd]
  exact if_neg he
noncomputable def wu_ta (p nv : Nat) : Nat → (Nat → wu_P) → (Nat → wu_P) → Int × (Nat → wu_P)
  | 0, _, C => (0, C)
  | v + 1, W, C => if (wu_tr p nv v 16 W).1 = 0 then wu_ta p nv v (wu_tr p nv v 16 W).2.1 (wu_up C v (wu_tr p nv v 16 W).2.2) else ((wu_tr p nv v 16 W).1, C)
theorem wu_ta_s {p nv v : Nat} {W W' C : Nat → wu_P} {ch : wu_P} (h : wu_tr p nv v 16 W = (0, W', ch)) : wu_ta p nv (v + 1) W C = wu_ta p nv v W' (wu_up C v ch) := by
  rw [wu_ta, h]; exact if_pos rfl
theorem wu_ta_e {p nv v : Nat} {W W' C : Nat → wu_P} {ch : wu_P} {e : Int} (h : wu_tr p nv v 16 W = (e, W', ch)) (he : e ≠ 0) : wu_ta p nv (v + 1) W C = (e, C) := by
  rw [wu_ta, h]; exact if_neg he
/-- the whole of triangulation: its status and the chain -/
noncomputable def wu_tt (p nv : Nat) (W : Nat → wu_P) : Int × (Nat → wu_P) := if wu_ct nv (-1) W 8 0 = 0 then wu_ta p nv nv W (fun _ => []) else (3, fun _ => [])
theorem wu_do_b {p nv v b : Nat} : ∀ (n i : Nat) (W : Nat → wu_P), (wu_do p nv v b n i W).1 = 0 ∨ (wu_do p nv v b n i W).1 = 3 ∨ (wu_do p nv v b n i W).1 = 4 := by
  intro n
  induction n with
  | zero => intro i W; exact Or.inl rfl
  | succ n ih =>
    intro i W
    by_cases hs : i = b ∨ wu_cl nv (W i) ≠ (v : Int)
    · rw [wu_do_sk hs]; exact ih _ _
    · cases e : wu_dv p v (W b) false (W i) [] with
      | none => rw [wu_do_4 hs e]; exact Or.inr (Or.inr rfl)
      | some r =>
        obtain ⟨A, Q⟩ := r
        by_cases g : wu_cl nv A = -1
        · rw [wu_do_3 hs e g]; exact Or.inr (Or.inl rfl)
        · rw [wu_do_go hs e g]; exact ih _ _
theorem wu_tr_b {p nv v : Nat} : ∀ (n : Nat) (W : Nat → wu_P), (wu_tr p nv v n W).1 = 0 ∨ (wu_tr p nv v n W).1 = 3 ∨ (wu_tr p nv v n W).1 = 4 := by
  intro n
  induction n with
  | zero => intro W; exact Or.inl rfl
  | succ n ih =>
    intro W
    rw [wu_tr]
    by_cases h0 : wu_ct nv v W 8 0 = 0
    · rw [if_pos h0]; exact Or.inl rfl
    · rw [if_neg h0]
      by_cases h1 : wu_ct nv v W 8 0 = 1
      · rw [if_pos h1]; exact Or.inl rfl
      · rw [if_neg h1]
        by_cases h2 : (wu_do p nv v (wu_ls nv v W 8 0 (-1) 16).toNat 8 0 W).1 = 0
        · rw [if_pos h2]; exact ih _
        · rw [if_neg h2]; exact wu_do_b 8 0 W
theorem wu_ta_b {p nv : Nat} : ∀ (v : Nat) (W C : Nat → wu_P), (wu_ta p nv v W C).1 = 0 ∨ (wu_ta p nv v W C).1 = 3 ∨ (wu_ta p nv v W C).1 = 4 := by
  intro v
  induction v with
  | zero => intro W C; exact Or.inl rfl
  | succ v ih =>
    intro W C
    rw [wu_ta]
    by_cases h : (wu_tr p nv v 16 W).1 = 0
    · rw [if_pos h]; exact ih _ _
    · rw [if_neg h]; exact wu_tr_b 16 W
theorem wu_tt_b {p nv : Nat} {W : Nat → wu_P} : (wu_tt p nv W).1 = 0 ∨ (wu_tt p nv W).1 = 3 ∨ (wu_tt p nv W).1 = 4 := by
  unfold wu_tt
  by_cases h : wu_ct nv (-1) W 8 0 = 0
  · rw [if_pos h]; exact wu_ta_b _ _ _
  · rw [if_neg h]; exact Or.inr (Or.inl rfl)
