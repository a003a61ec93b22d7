/-! what is owed -/
def wu_I (p nv : Nat) (σ : Nat → wu_P) (K : Nat → Int) (c d f m c' d' f' m' : Nat → Int32) : Prop := (2 ≤ p ∧ p ≤ 32749) ∧ (1 ≤ nv ∧ nv ≤ 6) ∧ (∀ s, s ≤ 21 → wu_Cp p (σ s) ∧ wu_Ho c d f s (σ s) ∧ wu_Hp c' d' f' s (σ s)) ∧ wu_KO m K ∧ wu_KO m' K
/-- the slots 0 to 21 hold the same polynomials, the component's in order; p, the number of variables, the status and the multipliers are the same -/
def i_Rel (k : Nat) (u : SX) (v : SY) : Prop := ∃ (p nv : Nat) (σ : Nat → wu_P) (K : Nat → Int) (sn st : Int32) (c d f m sd sf : Nat → Int32) (bn : Int32) (c' d' f' m' bc bf : Nat → Int32), u = (sn, nI p, nI nv, st, c, d, f, m, sd, sf) ∧ v = (nI p, nI nv, st, bn, c', d', f', m', bc, bf) ∧ wu_I p nv σ K c d f m c' d' f' m'
theorem i_up {k : Nat} {u : SX} {v : SY} (h : i_Rel k u v) : i_Rel (k + 4) u v := h
theorem wu_mk {k : Nat} {p nv : Nat} {σ : Nat → wu_P} {K : Nat → Int} {sn st : Int32} {c d f m sd sf : Nat → Int32} {bn : Int32} {c' d' f' m' bc bf : Nat → Int32} (h : wu_I p nv σ K c d f m c' d' f' m') : i_Rel k (sn, nI p, nI nv, st, c, d, f, m, sd, sf) (nI p, nI nv, st, bn, c', d', f', m', bc, bf) :=
  ⟨p, nv, σ, K, sn, st, c, d, f, m, sd, sf, bn, c', d', f', m', bc, bf, rfl, rfl, h⟩
theorem i_vc0 (k0 : Int32) (k1 : Int32) : wpX_init (fun u => wpY_init (fun v => i_Rel 2 u v) k0 k1) k0 k1 := by
  obtain ⟨j, _, hj, hX0, hY0⟩ := wu_clamp k0 (lo := 0) (hi := 7) (by omega) (by omega)
  obtain ⟨p, hp1, hp2, hXp, hYp⟩ := wu_prime hj
  obtain ⟨nv, hn1, hn2, hX1, hY1⟩ := wu_clamp k1 (lo := 1) (hi := 6) (by omega) (by omega)
  unfold wpX_init
  refine hX0 _ (hXp _ (hX1 _ ?_))
  refine wu_X_clear (fun c m hc hm => ?_)
  have hz : ∀ s, c s = 0 := by
    intro s
    by_cases h : 9 ≤ s ∧ s ≤ 21
    · exact hc.1 s h.1 h.2
    · exact hc.2 s (by omega)
  have fin : ∃ n181, wY_init_181 (fun v => i_Rel 2 (0, nI p, nI nv, 0, c, (fun _ => 0), (fun _ => 0), m, (fun _ => 0), (fun _ => 0)) v) (nI p) (nI nv) 0 0 n181 0 (fun _ => 0) (fun _ => 0) (fun _ => 0) (fun _ => 0) (fun _ => 0) (fun _ => 0) :=
    ⟨7, wu_Y_i181 (fun m' hm' => wu_mk (σ := fun _ => []) (K := fun _ => -1) ⟨⟨hp1, hp2⟩, ⟨hn1, hn2⟩, fun s _ => ⟨wu_Cp_nil, wu_Ho_z (hz s), wu_Hp_of (wu_Ho_z rfl)⟩, wu_Mz_KO hm, wu_Mz_KO hm'⟩) 6 0 7 (fun _ => 0) rfl (by omega) (fun u hu => absurd hu (by omega))⟩
  have f150 : wY_init_150 (fun v => i_Rel 2 (0, nI p, nI nv, 0, c, (fun _ => 0), (fun _ => 0), m, (fun _ => 0), (fun _ => 0)) v) k1 (nI p) 0 0 0 0 (fun _ => 0) (fun _ => 0) (fun _ => 0) (fun _ => 0) (fun _ => 0) (fun _ => 0) := by
    rcases hY1 with ⟨h1, e⟩ | ⟨h1, h2, e⟩ | ⟨h1, h2, e⟩
    · subst e; exact br_f h1 fin
    · subst e; exact br_t h1 (br_t h2 fin)
    · subst e; exact br_t h1 (br_f h2 fin)
  have f76 := hYp _ _ _ _ _ _ _ _ _ _ _ _ f150
  rcases hY0 with ⟨h1, e⟩ | ⟨h1, h2, e⟩ | ⟨h1, h2, e⟩
  · subst e; exact br_f h1 f76
  · subst e; exact br_t h1 (br_t h2 f76)
  · subst e; exact br_t h1 (br_f h2 f76)
theorem i_vc_prime {k : Nat} {u : SX} {v : SY} (I : i_Rel k u v) (hk : k + 4 ≤ 2050) : wpX_prime (fun r => wpY_prime (fun r' => r' = r ∧ i_Rel (k + 4) u v) v) u := by
  obtain ⟨p, nv, σ, K, sn, st, c, d, f, m, sd, sf, bn, c', d', f', m', bc, bf, rfl, rfl, h⟩ := I
  exact ⟨rfl, wu_mk h⟩
theorem i_vc_varCount {k : Nat} {u : SX} {v : SY} (I : i_Rel k u v) (hk : k + 4 ≤ 2050) : wpX_varCount (fun r => wpY_varCount (fun r' => r' = r ∧ i_Rel (k + 4) u v) v) u := by
  obtain ⟨p, nv, σ, K, sn, st, c, d, f, m, sd, sf, bn, c', d', f', m', bc, bf, rfl, rfl, h⟩ := I
  exact ⟨rfl, wu_mk h⟩
theorem i_vc_status {k : Nat} {u : SX} {v : SY} (I : i_Rel k u v) (hk : k + 4 ≤ 2050) : wpX_status (fun r => wpY_status (fun r' => r' = r ∧ i_Rel (k + 4) u v) v) u := by
  obtain ⟨p, nv, σ, K, sn, st, c, d, f, m, sd, sf, bn, c', d', f', m', bc, bf, rfl, rfl, h⟩ := I
  exact ⟨rfl, wu_mk h⟩
/-- the state after a change of slot t: the results are gone -/
theorem wu_I_new {p nv t : Nat} {σ : Nat → wu_P} {K : Nat → Int} {c d f m c' d' f' m' c2 d2 f2 m2 c3 d3 f3 m3 : Nat → Int32} {L : wu_P} (h : wu_I p nv σ K c d f m c' d' f' m') (ht : t ≤ 8) (cL : wu_Cp p L) (F : wu_Fr (fun s => s = t ∨ (9 ≤ s ∧ s ≤ 21)) c d f c2 d2 f2) (HL : wu_Ho c2 d2 f2 t L) (z : ∀ s, 9 ≤ s → s ≤ 21 → c2 s = 0) (hm : wu_Mz m2) (F' : wu_Fr (fun s => s = t ∨ (9 ≤ s ∧ s ≤ 21)) c' d' f' c3 d3 f3) (HL' : wu_Hp c3 d3 f3 t L) (z' : ∀ s, 9 ≤ s → s ≤ 21 → c3 s = 0) (hm' : wu_Mz m3) :
    wu_I p nv (fun s => if s = t then L else if 9 ≤ s then [] else σ s) (fun _ => -1) c2 d2 f2 m2 c3 d3 f3 m3 := by
  refine ⟨h.1, h.2.1, fun s hs => ?_, wu_Mz_KO hm, wu_Mz_KO hm'⟩
  by_cases q : s = t
  · subst q
    dsimp only
    rw [if_pos rfl]
    exact ⟨cL, HL, HL'⟩
  · dsimp only
    rw [if_neg q]
    by_cases q9 : 9 ≤ s
    · rw [if_pos q9]
      exact ⟨wu_Cp_nil, wu_Ho_z (z s q9 hs), wu_Hp_of (wu_Ho_z (z' s q9 hs))⟩
    · rw [if_neg q9]
      have g := h.2.2.1 s hs
      exact ⟨g.1, wu_Ho_fr F (by omega) g.1.2.1 g.2.1, wu_Hp_fr F' (by omega) g.1 g.2.2⟩
theorem i_vc_addTerm {k : Nat} {u : SX} {v : SY} (I : i_Rel k u v) (hk : k + 4 ≤ 2050) (v1 : Int32) (v2 : Int32) (v3 : Int32) : wpX_addTerm (fun r u' => wpY_addTerm (fun r' v' => r' = r ∧ i_Rel (k + 4) u' v') v v1 v2 v3) u v1 v2 v3 := by
  obtain ⟨p, nv, σ, K, sn, st, c, d, f, m, sd, sf, bn, c', d', f', m', bc, bf, rfl, rfl, h⟩ := I
  have hp := h.1
  unfold wpX_addTerm
  try dsimp only
  by_cases h1 : v1 < 0
  · refine br_t h1 (br_t rfl ?_)
    exact br_t h1 ⟨rfl, wu_mk h⟩
  · obtain ⟨t, ht, rfl⟩ := nI_of h1
    by_cases h2 : (8 : Int32) < nI t
    · have h2' : ¬ nI t ≤ 8 := Int32.not_le.mpr h2
      refine br_f h1 (br_t h2 (br_t rfl ?_))
      exact br_f h1 (br_f h2' ⟨rfl, wu_mk h⟩)
    · have h2' : nI t ≤ 8 := Int32.not_lt.mp h2
      have t8 : t ≤ 8 := (nI_leI (b := 8) ht (by decide)).mp h2'
      refine br_f h1 (br_f h2 (br_f (by decide) ?_))
      by_cases h3 : v3 < 0
      · refine br_t h3 (br_t rfl ?_)
        exact br_f h1 (br_t h2' (br_t h3 ⟨rfl, wu_mk h⟩))
      · by_cases h4 : ((1 : Int32) <<< ((4 * nI nv) &&& 31)) ≤ v3
        · refine br_f h3 (br_t h4 (br_t rfl ?_))
          exact br_f h1 (br_t h2' (br_f h3 (br_f (Int32.not_lt.mpr h4) ⟨rfl, wu_mk h⟩)))
        · have h4' : v3 < ((1 : Int32) <<< ((4 * nI nv) &&& 31)) := Int32.not_le.mp h4
          obtain ⟨cc, hcc, rfl⟩ := nI_of h3
          refine br_f h3 (br_f h4 (br_f (by decide) ?_))
          have hg := h.2.2.1 t (by omega)
          have pn : ¬ nI p = 0 := nI_ne0 (by omega) (by omega)
          obtain ⟨r, hr, hres⟩ := wu_res hp v2
          have hA : wu_Ad p (σ t ++ [(wu_hc cc 6, r)]) := wu_Ad_app (wu_Ok_Ad hg.1.2) (fun x hx => by rw [List.mem_singleton] at hx; subst hx; exact ⟨hr, by have := (wu_hc_Sm cc).1; dsimp only; omega⟩)
          have key : wX_addTerm_45 (fun r u' => wpY_addTerm (fun r' v' => r' = r ∧ i_Rel (k + 4) u' v') (nI p, nI nv, st, bn, c', d', f', m', bc, bf) (nI t) v2 (nI cc)) (nI t) (nI (wu_hc cc 6)) (nI r) sn (nI p) (nI nv) st c d f m sd sf := by
            have yy : ∀ post : Int32 → SY → Prop, wY_addTerm_52 post (nI t) (nI cc) (nI r) (nI p) (nI nv) st bn c' d' f' m' bc bf → wpY_addTerm post (nI p, nI nv, st, bn, c', d', f', m', bc, bf) (nI t) v2 (nI cc) := by
              intro post hy
              refine br_f h1 (br_t h2' (br_f h3 (br_t h4' ⟨pn, fun x4 e4 => ?_⟩)))
              subst e4
              rcases hres with ⟨g1, g2⟩ | ⟨g1, g2⟩
              · exact br_t g1 (by rw [g2]; exact hy)
              · refine br_f g1 (fun x5 e5 => ?_)
                rw [e5, g2]; exact hy
            refine wu_X_at45 hp t8 hg.2.1 hg.1 (wu_hc_Sm cc) hr (fun e0 sn2 sd2 sf2 => ?_) (fun L e1 sn2 c2 d2 f2 m2 sd2 sf2 F HL z hm => ?_)
            · refine yy _ (wu_Y_at52 hp t8 hg.2.2 hg.1 hcc hr (fun _ => ⟨rfl, wu_mk h⟩) (fun L' e1 => ?_))
              rw [e0] at e1
              exact absurd e1 (by simp)
            · refine yy _ (wu_Y_at52 hp t8 hg.2.2 hg.1 hcc hr (fun e0 => ?_) (fun L' e2 c3 d3 f3 m3 F' HL' z' hm' => ?_))
              · rw [e1] at e0
                exact absurd e0 (by simp)
              · rw [e1] at e2
                obtain rfl := Option.some.inj e2
                exact ⟨rfl, wu_mk (wu_I_new h t8 (wu_st_sp hA e1).1 F HL z hm F' HL' z' hm')⟩
          refine wu_X_held hcc ⟨pn, fun x5 e5 => ?_⟩
          subst e5
          rcases hres with ⟨g1, g2⟩ | ⟨g1, g2⟩
          · exact br_t g1 (by rw [g2]; exact key)
          · refine br_f g1 (fun x6 e6 => ?_)
            rw [e6, g2]; exact key
theorem i_vc_clearPoly {k : Nat} {u : SX} {v : SY} (I : i_Rel k u v) (hk : k + 4 ≤ 2050) (v1 : Int32) : wpX_clearPoly (fun r u' => wpY_clearPoly (fun r' v' => r' = r ∧ i_Rel (k + 4) u' v') v v1) u v1 := by
  obtain ⟨p, nv, σ, K, sn, st, c, d, f, m, sd, sf, bn, c', d', f', m', bc, bf, rfl, rfl, h⟩ := I
  unfold wpX_clearPoly
  try dsimp only
  by_cases h1 : v1 < 0
  · refine br_t h1 (br_t rfl ?_)
    exact br_t h1 ⟨rfl, wu_mk h⟩
  · obtain ⟨t, ht, rfl⟩ := nI_of h1
    by_cases h2 : (8 : Int32) < nI t
    · have h2' : ¬ nI t ≤ 8 := Int32.not_le.mpr h2
      refine br_f h1 (br_t h2 (br_t rfl ?_))
      exact br_f h1 (br_f h2' ⟨rfl, wu_mk h⟩)
    · have h2' : nI t ≤ 8 := Int32.not_lt.mp h2
      have t8 : t ≤ 8 := (nI_leI (b := 8) ht (by decide)).mp h2'
      refine br_f h1 (br_f h2 (br_f (by decide) ⟨vp_in_nI (by omega) (by decide), fun c1 e1 => ?_⟩))
      rw [nI_clamp ht] at e1
      subst e1
      refine wu_X_clear (fun c2 m2 hc hm => ?_)
      refine br_f h1 (br_t h2' ⟨vp_in_nI (by omega) (by decide), fun c3 e3 => ?_⟩)
      rw [nI_clamp ht] at e3
      subst e3
      refine wu_Y_clear (fun c4 m4 hc' hm' => ⟨rfl, wu_mk (wu_I_new h t8 (L := []) wu_Cp_nil ?_ ?_ hc.1 hm ?_ ?_ hc'.1 hm')⟩)
      · exact wu_Fr_trans (wu_Fr_mono wu_Fr_cnt (fun s z => Or.inl z)) (wu_Fr_mono (wu_Cz_fr hc) (fun s z => Or.inr z))
      · exact wu_Ho_fr (wu_Cz_fr hc) (by omega) (by simp) wu_Ho_0
      · exact wu_Fr_trans (wu_Fr_mono wu_Fr_cnt (fun s z => Or.inl z)) (wu_Fr_mono (wu_Cz_fr hc') (fun s z => Or.inr z))
      · exact wu_Hp_of (wu_Ho_fr (wu_Cz_fr hc') (by omega) (by simp) wu_Ho_0)
