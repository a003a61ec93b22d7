/-! the law -/
def wu_J (p nv : Nat) (u : St2) : Prop := ∃ (σ C Q : Nat → wu_P) (R : wu_P) (K : Nat → Int) (sn st : Int32) (c d f m sd sf : Nat → Int32), u = (sn, nI p, nI nv, st, c, d, f, m, sd, sf) ∧ (∀ s, s < 9 → wu_Cp p (σ s) ∧ wu_Ho c d f s (σ s)) ∧ (∀ u, u < 6 → wu_Cp p (C u) ∧ wu_Ho c d f (9 + u) (C u)) ∧ (∀ u, u < 6 → wu_Cp p (Q u) ∧ wu_Ho c d f (15 + u) (Q u)) ∧ wu_Cp p R ∧ wu_Ho c d f 21 R ∧ wu_KO m K ∧ ((st = 1 ∨ st = 2) → wu_ch p nv C Q K (σ 8) R = 1 ∨ wu_ch p nv C Q K (σ 8) R = 3) ∧ (st = 1 → R = [])
theorem wu_J_z {p nv : Nat} {σ : Nat → wu_P} {sn st : Int32} {c d f m sd sf : Nat → Int32} (hin : ∀ s, s < 9 → wu_Cp p (σ s) ∧ wu_Ho c d f s (σ s)) (z : ∀ s, 9 ≤ s → s ≤ 21 → c s = 0) (hm : wu_Mz m) (h1 : st ≠ 1) (h2 : st ≠ 2) : wu_J p nv (sn, nI p, nI nv, st, c, d, f, m, sd, sf) :=
  ⟨σ, fun _ => [], fun _ => [], [], fun _ => -1, sn, st, c, d, f, m, sd, sf, rfl, hin, fun u hu => ⟨wu_Cp_nil, wu_Ho_z (z _ (by omega) (by omega))⟩, fun u hu => ⟨wu_Cp_nil, wu_Ho_z (z _ (by omega) (by omega))⟩, wu_Cp_nil, wu_Ho_z (z _ (by omega) (by omega)), wu_Mz_KO hm, fun h => h.elim (fun e => absurd e h1) (fun e => absurd e h2), fun e => absurd e h1⟩
theorem wu_pe_b {p nv : Nat} {σ : Nat → wu_P} : wu_pe p nv σ = 0 ∨ wu_pe p nv σ = 3 ∨ wu_pe p nv σ = 4 := by
  unfold wu_pe
  have b := wu_tt_b (p := p) (nv := nv) (W := σ)
  by_cases h : (wu_tt p nv σ).1 = 0
  · rw [if_pos h]
    by_cases h2 : wu_re p nv (wu_tt p nv σ).2 nv (σ 8) (fun _ => []) (fun _ => -1) = none
    · rw [if_pos h2]; exact Or.inr (Or.inr rfl)
    · rw [if_neg h2]; exact Or.inl rfl
  · rw [if_neg h]; exact b
theorem wu_J_prove {post : Int32 → St2 → Prop} {p nv : Nat} {u : St2} (hp : 2 ≤ p ∧ p ≤ 32749) (hnv : nv ≤ 6) (hJ : wu_J p nv u) (H : ∀ r sn st c d f m sd sf, wu_J p nv (sn, nI p, nI nv, st, c, d, f, m, sd, sf) → post r (sn, nI p, nI nv, st, c, d, f, m, sd, sf)) : wpX_prove post u := by
  obtain ⟨σ, C0, Q0, R0, K0, sn, st, c, d, f, m, sd, sf, rfl, hin, _⟩ := hJ
  refine wu_X_prove hp hnv (fun j hj => (hin j hj).1) (fun s hs => (hin s hs).2) (fun C R Q K et er sn2 c2 d2 f2 m2 sd2 sf2 hC hR cR hQ hK hin2 => ?_) (fun hpe sn2 c2 d2 f2 m2 sd2 sf2 hin2 hz hm => ?_)
  · refine H _ _ _ _ _ _ _ _ _ ⟨σ, C, Q, R, K, sn2, _, c2, d2, f2, m2, sd2, sf2, rfl, fun s hs => ⟨(hin s hs).1, hin2 s hs⟩, fun u hu => ⟨(hC u hu).2, (hC u hu).1⟩, fun u hu => ⟨(hQ u hu).2, (hQ u hu).1⟩, cR, hR, hK, fun _ => wu_good hp.1 hnv (fun u hu => (hC u hu).2) (fun u hu => (hQ u hu).2) (hin 8 (by omega)).1 cR er, fun e => ?_⟩
    by_cases z : R.length = 0
    · exact List.length_eq_zero_iff.mp z
    · rw [if_neg z] at e
      exact absurd e (by decide)
  · refine H _ _ _ _ _ _ _ _ _ (wu_J_z (fun s hs => ⟨(hin s hs).1, hin2 s hs⟩) hz hm ?_ ?_)
    · rcases wu_pe_b (p := p) (nv := nv) (σ := σ) with e | e | e
      · exact absurd e hpe
      · rw [e]; decide
      · rw [e]; decide
    · rcases wu_pe_b (p := p) (nv := nv) (σ := σ) with e | e | e
      · exact absurd e hpe
      · rw [e]; decide
      · rw [e]; decide
theorem wu_J_clear {post : Int32 → St2 → Prop} {p nv t : Nat} {u : St2} (ht : t ≤ 8) (hJ : wu_J p nv u) (H : ∀ r sn st c d f m sd sf, wu_J p nv (sn, nI p, nI nv, st, c, d, f, m, sd, sf) → post r (sn, nI p, nI nv, st, c, d, f, m, sd, sf)) : wpX_clearPoly post u (nI t) := by
  obtain ⟨σ, C0, Q0, R0, K0, sn, st, c, d, f, m, sd, sf, rfl, hin, _⟩ := hJ
  unfold wpX_clearPoly
  try dsimp only
  refine br_f (nI_pos (by omega)) (br_f (nI_nlt (b := t) (a := 8) ht (by decide)) (br_f (by decide) ⟨vp_in_nI (by omega) (by decide), fun c1 e1 => ?_⟩))
  rw [nI_clamp (by omega)] at e1
  subst e1
  refine wu_X_clear (fun c2 m2 hc hm => ?_)
  refine H _ _ _ _ _ _ _ _ _ (wu_J_z (σ := fun s => if s = t then [] else σ s) (fun s hs => ?_) hc.1 hm (by decide : (0 : Int32) ≠ 1) (by decide : (0 : Int32) ≠ 2))
  have F : wu_Fr (fun s => s = t ∨ (9 ≤ s ∧ s ≤ 21)) c d f c2 d f := wu_Fr_trans (wu_Fr_mono wu_Fr_cnt (fun s z => Or.inl z)) (wu_Fr_mono (wu_Cz_fr hc) (fun s z => Or.inr z))
  try dsimp only
  by_cases q : s = t
  · subst q
    rw [if_pos rfl]
    exact ⟨wu_Cp_nil, wu_Ho_fr (wu_Cz_fr hc) (by omega) (by simp) wu_Ho_0⟩
  · rw [if_neg q]
    exact ⟨(hin s hs).1, wu_Ho_fr F (by omega) (hin s hs).1.2.1 (hin s hs).2⟩
theorem wu_J_add {post : Int32 → St2 → Prop} {p nv t : Nat} {u : St2} (hp : 2 ≤ p ∧ p ≤ 32749) (ht : t ≤ 8) (hJ : wu_J p nv u) (v2 v3 : Int32) (H : ∀ r sn st c d f m sd sf, wu_J p nv (sn, nI p, nI nv, st, c, d, f, m, sd, sf) → post r (sn, nI p, nI nv, st, c, d, f, m, sd, sf)) : wpX_addTerm post u (nI t) v2 v3 := by
  have hJ0 := hJ
  obtain ⟨σ, C0, Q0, R0, K0, sn, st, c, d, f, m, sd, sf, rfl, hin, hC0, hQ0, cR0, hR0, hK0, hs0, hr0⟩ := hJ
  unfold wpX_addTerm
  try dsimp only
  refine br_f (nI_pos (by omega)) (br_f (nI_nlt (b := t) (a := 8) ht (by decide)) (br_f (by decide) ?_))
  by_cases h3 : v3 < 0
  · exact br_t h3 (br_t rfl (H _ _ _ _ _ _ _ _ _ hJ0))
  · by_cases h4 : ((1 : Int32) <<< ((4 * nI nv) &&& 31)) ≤ v3
    · exact br_f h3 (br_t h4 (br_t rfl (H _ _ _ _ _ _ _ _ _ hJ0)))
    · obtain ⟨cc, hcc, rfl⟩ := nI_of h3
      refine br_f h3 (br_f h4 (br_f (by decide) ?_))
      have hg := hin t (by omega)
      have pn : ¬ nI p = 0 := nI_ne0 (by omega) (by omega)
      obtain ⟨r, hr, hres⟩ := wu_res hp v2
      have hA : wu_Ad p (σ t ++ [(wu_hc cc 6, r)]) := wu_Ad_app (wu_Ok_Ad hg.1.2) (fun x hx => by rw [List.mem_singleton] at hx; subst hx; exact ⟨hr, by have := (wu_hc_Sm cc).1; dsimp only; omega⟩)
      have key : wX_addTerm_45 post (nI t) (nI (wu_hc cc 6)) (nI r) sn (nI p) (nI nv) st c d f m sd sf := by
        refine wu_X_at45 hp ht hg.2 hg.1 (wu_hc_Sm cc) hr (fun e0 sn2 sd2 sf2 => ?_) (fun L e1 sn2 c2 d2 f2 m2 sd2 sf2 F HL z hm => ?_)
        · exact H _ _ _ _ _ _ _ _ _ ⟨σ, C0, Q0, R0, K0, sn2, st, c, d, f, m, sd2, sf2, rfl, hin, hC0, hQ0, cR0, hR0, hK0, hs0, hr0⟩
        · refine H _ _ _ _ _ _ _ _ _ (wu_J_z (σ := fun s => if s = t then L else σ s) (fun s hs => ?_) z hm (by decide : (0 : Int32) ≠ 1) (by decide : (0 : Int32) ≠ 2))
          try dsimp only
          by_cases q : s = t
          · subst q
            rw [if_pos rfl]
            exact ⟨(wu_st_sp hA e1).1, HL⟩
          · rw [if_neg q]
            exact ⟨(hin s hs).1, wu_Ho_fr F (by omega) (hin s hs).1.2.1 (hin s hs).2⟩
      refine ⟨7, wu_X_held_4 hcc ?_ 6 0 7 rfl (by omega)⟩
      refine ⟨pn, fun x5 e5 => ?_⟩
      subst e5
      rcases hres with ⟨g1, g2⟩ | ⟨g1, g2⟩
      · exact br_t g1 (by rw [g2]; exact key)
      · refine br_f g1 (fun x6 e6 => ?_)
        rw [e6, g2]; exact key
theorem wu_J_ok {post : Int32 → St2 → Prop} {p nv : Nat} {u : St2} (hp : 2 ≤ p ∧ p ≤ 32749) (hnv : nv ≤ 6) (hJ : wu_J p nv u) (H : ∀ sn st c d f m sd sf, wu_J p nv (sn, nI p, nI nv, st, c, d, f, m, sd, sf) → post 1 (sn, nI p, nI nv, st, c, d, f, m, sd, sf)) : wpL_ok post u := by
  have hJ0 := hJ
  obtain ⟨σ, C, Q, R, K, sn, st, c, d, f, m, sd, sf, rfl, hin, hC, hQ, cR, hR, hK, hs, hr⟩ := hJ
  have xx : (st = 1 ∨ st = 2) → ∀ post' : Int32 → St2 → Prop, (∀ (r : Int32) sn2 c2 d2 f2 sd2 sf2, (r = 1 ∨ r = 3) → wu_Fr (fun s => 22 ≤ s) c d f c2 d2 f2 → post' r (sn2, nI p, nI nv, st, c2, d2, f2, m, sd2, sf2)) → wX_check_18 post' sn (nI p) (nI nv) st c d f m sd sf := by
    intro hst post' H'
    refine wu_X_check_18 (C := C) (Q := Q) (K := K) (G := σ 8) (R := R) hp hnv (fun u hu => (hC u hu).1) (fun u hu => (hQ u hu).1) (hin 8 (by omega)).1 cR hK (fun u hu => (hC u hu).2) (fun u hu => (hQ u hu).2) (hin 8 (by omega)).2 hR (fun sn2 c2 d2 f2 sd2 sf2 F => H' _ _ _ _ _ _ _ ?_ F)
    rcases hs hst with e | e
    · rw [e]; exact Or.inl (by decide)
    · rw [e]; exact Or.inr (by decide)
  have j2 : ∀ sn2 c2 d2 f2 sd2 sf2, wu_Fr (fun s => 22 ≤ s) c d f c2 d2 f2 → wu_J p nv (sn2, nI p, nI nv, st, c2, d2, f2, m, sd2, sf2) := by
    intro sn2 c2 d2 f2 sd2 sf2 F
    exact ⟨σ, C, Q, R, K, sn2, st, c2, d2, f2, m, sd2, sf2, rfl, fun s hs => ⟨(hin s hs).1, wu_Ho_fr F (by omega) (hin s hs).1.2.1 (hin s hs).2⟩, fun u hu => ⟨(hC u hu).1, wu_Ho_fr F (by omega) (hC u hu).1.2.1 (hC u hu).2⟩, fun u hu => ⟨(hQ u hu).1, wu_Ho_fr F (by omega) (hQ u hu).1.2.1 (hQ u hu).2⟩, cR, wu_Ho_fr F (by omega) cR.2.1 hR, hK, hs, hr⟩
  have o32 : (st = 1 ∨ st = 2) → ∀ sn2 c2 d2 f2 sd2 sf2, wu_Fr (fun s => 22 ≤ s) c d f c2 d2 f2 → wL_ok_32 post st sn2 (nI p) (nI nv) st c2 d2 f2 m sd2 sf2 := by
    intro hst sn2 c2 d2 f2 sd2 sf2 F
    have hj := j2 sn2 c2 d2 f2 sd2 sf2 F
    unfold wL_ok_32
    refine br_c (fun h1 => ?_) (fun _ => H _ _ _ _ _ _ _ _ hj)
    unfold wpX_termCount
    try dsimp only
    refine br_f (by decide) (br_f (by decide) (br_f (by decide) (br_f (by decide) (br_f (by decide) (br_f (by decide) (br_t rfl ?_))))))
    refine br_f (by decide) (br_t (by decide) ?_)
    refine br_f (by decide) ⟨vp_in_iff.mpr (by decide), ?_⟩
    have e21 : ((21 : Int32) + 0).toNatClampNeg = 21 := by decide
    have hR2 := wu_Ho_fr F (show ¬ 22 ≤ 21 by omega) cR.2.1 hR
    refine br_t ?_ (H _ _ _ _ _ _ _ _ hj)
    rw [e21, hR2.1, hr h1]
    rfl
  unfold wpL_ok
  try dsimp only
  by_cases h1 : st = 1
  · refine br_t h1 ?_
    unfold wL_ok_15
    try dsimp only
    refine br_t h1 (xx (Or.inl h1) _ (fun r sn2 c2 d2 f2 sd2 sf2 er F => ?_))
    rcases er with rfl | rfl
    · exact br_t rfl (o32 (Or.inl h1) _ _ _ _ _ _ F)
    · exact br_f (by decide) (br_t rfl (o32 (Or.inl h1) _ _ _ _ _ _ F))
  · by_cases h2 : st = 2
    · refine br_f h1 (br_t h2 ?_)
      unfold wL_ok_15
      try dsimp only
      refine br_f h1 (br_t h2 (xx (Or.inr h2) _ (fun r sn2 c2 d2 f2 sd2 sf2 er F => ?_)))
      rcases er with rfl | rfl
      · exact br_t rfl (o32 (Or.inr h2) _ _ _ _ _ _ F)
      · exact br_f (by decide) (br_t rfl (o32 (Or.inr h2) _ _ _ _ _ _ F))
    · exact br_f h1 (br_f h2 (H _ _ _ _ _ _ _ _ hJ0))
/-! cells, remainders -/
theorem wu_cell {L : Nat} (hL : L ≤ 260) (xs : Nat → Int32) (j : Nat) (hj : j < 2147483648) : ∃ r : Int32, ∀ post : Int32 → Prop, post r → wpL_cell post L xs () (nI j) := by
  by_cases h : L ≤ j
  · exact ⟨0, fun post hp => br_t (nI_le h (by omega)) hp⟩
  · exact ⟨xs j, fun post hp => br_f (nI_ge (by omega) (by omega)) ⟨vp_in_nI (by omega) (by omega), by rw [nI_clamp (by omega)]; exact hp⟩⟩
theorem wu_low (x : Int32) {q : Nat} (hq : 2 ≤ q ∧ q ≤ 32749) : ∃ r : Nat, r < q ∧ ∀ post : Int32 → Prop, post (nI r) → wpL_low post () x (nI q) := by
  obtain ⟨r, hr, h⟩ := wu_res hq x
  refine ⟨r, hr, fun post hp => ⟨nI_ne0 (by omega) (by omega), fun x2 e2 => ?_⟩⟩
  subst e2
  rcases h with ⟨g1, g2⟩ | ⟨g1, g2⟩
  · exact br_t g1 (by rw [g2]; exact hp)
  · exact br_f g1 (by rw [g2]; exact hp)
theorem wu_primeX {j : Nat} (hj : j ≤ 7) : ∃ p : Nat, 2 ≤ p ∧ p ≤ 32749 ∧ ∀ post : Int32 → Prop, post (nI p) → wpX_primeAt post () (nI j) := by
  have : j = 0 ∨ j = 1 ∨ j = 2 ∨ j = 3 ∨ j = 4 ∨ j = 5 ∨ j = 6 ∨ j = 7 := by omega
  rcases this with rfl | rfl | rfl | rfl | rfl | rfl | rfl | rfl
  · exact ⟨2, by decide, by decide, fun post h => br_f (by decide) (br_f (by decide) (br_t (by decide) h))⟩
  · exact ⟨3, by decide, by decide, fun post h => br_f (by decide) (br_f (by decide) (br_f (by decide) (br_t (by decide) h)))⟩
  · exact ⟨5, by decide, by decide, fun post h => br_f (by decide) (br_f (by decide) (br_f (by decide) (br_f (by decide) (br_t (by decide) h))))⟩
  · exact ⟨7, by decide, by decide, fun post h => br_f (by decide) (br_f (by decide) (br_f (by decide) (br_f (by decide) (br_f (by decide) (br_t (by decide) h)))))⟩
  · exact ⟨101, by decide, by decide, fun post h => br_f (by decide) (br_f (by decide) (br_f (by decide) (br_f (by decide) (br_f (by decide) (br_f (by decide) (br_t (by decide) h))))))⟩
  · exact ⟨1009, by decide, by decide, fun post h => br_f (by decide) (br_f (by decide) (br_f (by decide) (br_f (by decide) (br_f (by decide) (br_f (by decide) (br_f (by decide) (br_t (by decide) h)))))))⟩
  · exact ⟨10007, by decide, by decide, fun post h => br_f (by decide) (br_f (by decide) (br_f (by decide) (br_f (by decide) (br_f (by decide) (br_f (by decide) (br_f (by decide) (br_f (by decide) (br_t (by decide) h))))))))⟩
  · exact ⟨32749, by decide, by decide, fun post h => br_f (by decide) (br_t (by decide) h)⟩
/-! the law's walks -/
theorem wu_law230 {post : Int32 → Prop} {L kc ks p nv : Nat} {xs : Nat → Int32} {sn st : Int32} {c d f m sd sf : Nat → Int32} (hp : 2 ≤ p ∧ p ≤ 32749) (hnv : nv ≤ 6) (H : post 1) (hJ : wu_J p nv (sn, nI p, nI nv, st, c, d, f, m, sd, sf)) : wL_law_230 post L xs kc ks sn (nI p) (nI nv) st c d f m sd sf := by
  unfold wL_law_230
  refine wu_J_prove hp hnv hJ (fun r sn2 st2 c2 d2 f2 m2 sd2 sf2 hJ2 => ?_)
  refine wu_J_ok hp hnv hJ2 (fun sn3 st3 c3 d3 f3 m3 sd3 sf3 hJ3 => ?_)
  exact H
theorem wu_law215 {post : Int32 → Prop} {L kc ks p nv : Nat} {xs : Nat → Int32} {J39 : Int32 → Int32 → Int32 → Int32 → Int32 → Int32 → (Nat → Int32) → (Nat → Int32) → (Nat → Int32) → (Nat → Int32) → (Nat → Int32) → (Nat → Int32) → Prop} {x2 x4 x5 sn st : Int32} {c d f m sd sf : Nat → Int32} (hp : 2 ≤ p ∧ p ≤ 32749) (hnv : nv ≤ 6) (hJ : wu_J p nv (sn, nI p, nI nv, st, c, d, f, m, sd, sf))
    (H : ∀ sn st c d f m sd sf, wu_J p nv (sn, nI p, nI nv, st, c, d, f, m, sd, sf) → ∀ y, y = x5 + 4 → J39 x4 y sn (nI p) (nI nv) st c d f m sd sf) : wL_law_215 post L xs J39 x2 x4 x5 kc ks sn (nI p) (nI nv) st c d f m sd sf := by
  unfold wL_law_215
  refine wu_J_ok hp hnv hJ (fun sn3 st3 c3 d3 f3 m3 sd3 sf3 hJ3 => ?_)
  exact br_f (by decide) (H _ _ _ _ _ _ _ _ hJ3)
theorem wu_law123 {post : Int32 → Prop} {L kc ks p nv t : Nat} {xs : Nat → Int32} {J39 : Int32 → Int32 → Int32 → Int32 → Int32 → Int32 → (Nat → Int32) → (Nat → Int32) → (Nat → Int32) → (Nat → Int32) → (Nat → Int32) → (Nat → Int32) → Prop} {x4 x5 x8 x9 sn st : Int32} {c d f m sd sf : Nat → Int32} (hp : 2 ≤ p ∧ p ≤ 32749) (hnv : nv ≤ 6) (ht : t ≤ 8) (hJ : wu_J p nv (sn, nI p, nI nv, st, c, d, f, m, sd, sf))
    (H : ∀ sn st c d f m sd sf, wu_J p nv (sn, nI p, nI nv, st, c, d, f, m, sd, sf) → ∀ y, y = x5 + 4 → J39 x4 y sn (nI p) (nI nv) st c d f m sd sf) :
    ∀ (l j n : Nat) (x11 x12 : Int32), j + l = nv → l < n → wL_law_123 post L xs J39 (nI nv) x4 x5 x8 x9 (nI t) kc ks sn (nI p) (nI nv) st c d f m sd sf n x11 x12 (nI j) := by
  intro l
  induction l with
  | zero =>
    intro j n x11 x12 hj hn
    obtain ⟨n, rfl⟩ : ∃ k, n = k + 1 := ⟨n - 1, by omega⟩
    refine pk_le nv j (fun _ => ⟨by decide, fun x13 e13 => ?_⟩) (fun h => absurd h (by omega)) rfl rfl (by omega) (by omega)
    refine wu_J_add hp ht hJ x13 x11 (fun r sn2 st2 c2 d2 f2 m2 sd2 sf2 hJ2 => ?_)
    exact wu_law215 hp hnv hJ2 H
  | succ l ih =>
    intro j n x11 x12 hj hn
    obtain ⟨n, rfl⟩ : ∃ k, n = k + 1 := ⟨n - 1, by omega⟩
    refine pk_le nv j (fun h => absurd h (by omega)) (fun _ => ?_) rfl rfl (by omega) (by omega)
    obtain ⟨r, hr, hlow⟩ := wu_low (((x8.toUInt32 >>> ((2 * nI j).toUInt32 &&& Int32.toUInt32 31)).toInt32) &&& 3) (q := 3) (by omega)
    refine hlow _ (fun y1 e1 y2 e2 y3 e3 => ?_)
    subst e3
    rw [nI_1]
    exact ih (j + 1) n y1 y2 (by omega) (by omega)
theorem wu_law39 {post : Int32 → Prop} {L kc ks p nv : Nat} {xs : Nat → Int32} (hp : 2 ≤ p ∧ p ≤ 32749) (hnv : nv ≤ 6) (hL : L ≤ 260) (H : post 1) :
    ∀ (l k n : Nat) (sn st : Int32) (c d f m sd sf : Nat → Int32), k + l = 66 → l < n → wu_J p nv (sn, nI p, nI nv, st, c, d, f, m, sd, sf) → wL_law_39 post L xs (nI nv) kc ks n (nI k) (nI (2 + 4 * k)) sn (nI p) (nI nv) st c d f m sd sf := by
  intro l
  induction l with
  | zero =>
    intro k n sn st c d f m sd sf hk hn hJ
    obtain ⟨n, rfl⟩ : ∃ k, n = k + 1 := ⟨n - 1, by omega⟩
    exact pk_le L (2 + 4 * k) (fun _ => wu_law230 hp hnv H hJ) (fun h => absurd h (by omega)) rfl rfl (by omega) (by omega)
  | succ l ih =>
    intro k n sn st c d f m sd sf hk hn hJ
    obtain ⟨n, rfl⟩ : ∃ k, n = k + 1 := ⟨n - 1, by omega⟩
    refine pk_le L (2 + 4 * k) (fun _ => wu_law230 hp hnv H hJ) (fun h => pk_le 80 k (fun h => absurd h (by omega)) (fun _ x4 e4 => ?_) rfl rfl (by omega) (by omega)) rfl rfl (by omega) (by omega)
    rw [nI_1] at e4
    subst e4
    have nxt : ∀ sn st c d f m sd sf, wu_J p nv (sn, nI p, nI nv, st, c, d, f, m, sd, sf) → ∀ y, y = nI (2 + 4 * k) + 4 → wL_law_39 post L xs (nI nv) kc ks n (nI (k + 1)) y sn (nI p) (nI nv) st c d f m sd sf := by
      intro sn st c d f m sd sf hJ y ey
      rw [show nI (2 + 4 * k) + 4 = nI (2 + 4 * (k + 1)) from (nI_add (2 + 4 * k) 4).trans (congrArg nI (by omega))] at ey
      subst ey
      exact ih (k + 1) n sn st c d f m sd sf (by omega) (by omega) hJ
    obtain ⟨r0, c0⟩ := wu_cell hL xs (2 + 4 * k) (by omega)
    obtain ⟨o, ho, l0⟩ := wu_low r0 (q := 8) (by omega)
    obtain ⟨r1, c1⟩ := wu_cell hL xs (2 + 4 * k + 1) (by omega)
    obtain ⟨r2, c2⟩ := wu_cell hL xs (2 + 4 * k + 2) (by omega)
    obtain ⟨r3, c3⟩ := wu_cell hL xs (2 + 4 * k + 3) (by omega)
    obtain ⟨t, ht, l9⟩ := wu_low r1 (q := 9) (by omega)
    rw [show nI (2 + 4 * k) + 1 = nI (2 + 4 * k + 1) from nI_add (2 + 4 * k) 1, show nI (2 + 4 * k) + 2 = nI (2 + 4 * k + 2) from nI_add (2 + 4 * k) 2, show nI (2 + 4 * k) + 3 = nI (2 + 4 * k + 3) from nI_add (2 + 4 * k) 3]
    refine c0 _ (l0 _ (c1 _ (c2 _ (c3 _ ?_))))
    refine pk_le 5 o (fun _ => pk_eq o 5 (fun _ => ?_) (fun _ => ?_) rfl rfl (by omega) (by omega)) (fun _ => ?_) rfl rfl (by omega) (by omega)
    · refine l9 _ (wu_J_clear (by omega) hJ (fun r sn2 st2 c2 d2 f2 m2 sd2 sf2 hJ2 => ?_))
      exact wu_law215 hp hnv hJ2 nxt
    · refine wu_J_prove hp hnv hJ (fun r sn2 st2 c2 d2 f2 m2 sd2 sf2 hJ2 => ?_)
      exact wu_law215 hp hnv hJ2 nxt
    · exact l9 _ ⟨nv + 1, wu_law123 hp hnv (by omega) hJ nxt nv 0 (nv + 1) 0 1 (by omega) (by omega)⟩
theorem wu_X_new {i w : Nat} (hi : i ≤ 7) (hw : 1 ≤ w ∧ w ≤ 6) : ∃ p : Nat, 2 ≤ p ∧ p ≤ 32749 ∧ ∀ post : St2 → Prop, (∀ c m, wu_Cz (fun _ => 0) c → wu_Mz m → post (0, nI p, nI w, 0, c, (fun _ => 0), (fun _ => 0), m, (fun _ => 0), (fun _ => 0))) → wpX_init post 6 2152 (0, 0, 0, 0) (nI i) (nI w) := by
  obtain ⟨p, hp1, hp2, hpr⟩ := wu_primeX hi
  refine ⟨p, hp1, hp2, fun post H => ?_⟩
  unfold wpX_init
  try dsimp only
  have g0 : (0 : Int32) ≤ nI i := nI_pos' (by omega)
  have g1 : nI i ≤ (7 : Int32) := nI_le (b := 7) hi (by decide)
  have g2 : (1 : Int32) ≤ nI w := nI_le (a := 1) hw.1 (by omega)
  have g3 : nI w ≤ (6 : Int32) := nI_le (b := 6) hw.2 (by decide)
  refine ⟨by omega, by omega, by omega, by omega, by omega, by omega, by omega, by omega, by omega, by omega, by omega, by omega, ?_⟩
  refine br_t g0 (br_t g1 (hpr _ ?_))
  refine br_t g2 (br_t g3 ?_)
  exact wu_X_clear (fun c m hc hm => H c m hc hm)
theorem i_vc (xs : Nat → Int32) (L : Nat) (hL : L ≤ 260) : wpL_law (fun r => r = 1) L xs := by
  obtain ⟨r1, h1⟩ := wu_cell hL xs 0 (by omega)
  obtain ⟨i, hi, h2⟩ := wu_low r1 (q := 8) (by omega)
  obtain ⟨r3, h3⟩ := wu_cell hL xs 1 (by omega)
  obtain ⟨w, hw, h4⟩ := wu_low r3 (q := 3) (by omega)
  obtain ⟨p, hp1, hp2, hnew⟩ := wu_X_new (show i ≤ 7 by omega) (show 1 ≤ 1 + w ∧ 1 + w ≤ 6 by omega)
  have key : ∀ c m, wu_Cz (fun _ => 0) c → wu_Mz m → wL_law_39 (fun r => r = 1) L xs (nI (1 + w)) (1 + 6) (10 + 2152) 67 0 2 0 (nI p) (nI (1 + w)) 0 c (fun _ => 0) (fun _ => 0) m (fun _ => 0) (fun _ => 0) := by
    intro c m hc hm
    have hJ : wu_J p (1 + w) (0, nI p, nI (1 + w), 0, c, (fun _ => 0), (fun _ => 0), m, (fun _ => 0), (fun _ => 0)) := wu_J_z (σ := fun _ => []) (fun s hs => ⟨wu_Cp_nil, wu_Ho_z (hc.2 s (by omega))⟩) hc.1 hm (by decide : (0 : Int32) ≠ 1) (by decide : (0 : Int32) ≠ 2)
    have h39 := wu_law39 (post := fun r => r = 1) (L := L) (kc := 1 + 6) (ks := 10 + 2152) (xs := xs) ⟨hp1, hp2⟩ (show 1 + w ≤ 6 by omega) hL rfl 66 0 67 0 0 c (fun _ => 0) (fun _ => 0) m (fun _ => 0) (fun _ => 0) (by omega) (by omega) hJ
    rw [show nI (2 + 4 * 0) = (2 : Int32) from rfl, nI_0] at h39
    exact h39
  unfold wpL_law
  refine h1 _ (h2 _ (h3 _ (h4 _ (fun x2 e2 => ?_))))
  rw [show (1 : Int32) + nI w = nI (1 + w) from nI_add 1 w] at e2
  subst e2
  exact ⟨6, 2152, by omega, by omega, hnew _ (fun c m hc hm => ⟨67, key c m hc hm⟩)⟩
