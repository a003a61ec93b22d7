theorem i_vc_prove {k : Nat} {u : SX} {v : SY} (I : i_Rel k u v) (hk : k + 4 ≤ 2050) : wpX_prove (fun r u' => wpY_prove (fun r' v' => r' = r ∧ i_Rel (k + 4) u' v') v) u := by
  obtain ⟨p, nv, σ, K, sn, st, c, d, f, m, sd, sf, bn, c', d', f', m', bc, bf, rfl, rfl, h⟩ := I
  have hp := h.1
  have hnv := h.2.1.2
  have g := h.2.2.1
  refine wu_X_prove hp hnv (fun j hj => (g j (by omega)).1) (fun s hs => (g s (by omega)).2.1) (fun C R Q K2 et er sn2 c2 d2 f2 m2 sd2 sf2 hC hR cR hQ hK hin => ?_) (fun hpe sn2 c2 d2 f2 m2 sd2 sf2 hin hz hm => ?_)
  · refine wu_Y_prove hp hnv (fun j hj => (g j (by omega)).1) (fun s hs => (g s (by omega)).2.2) (fun C' R' Q' K' et' er' bn3 c3 d3 f3 m3 bc3 bf3 hC' hR' cR' hQ' hK' hin' => ?_) (fun hpe => absurd (wu_pe_0 et er) hpe)
    rw [et] at et'
    obtain rfl := (Prod.mk.inj et').2
    rw [er] at er'
    obtain ⟨rfl, e2⟩ := Prod.mk.inj (Option.some.inj er')
    obtain ⟨rfl, rfl⟩ := Prod.mk.inj e2
    refine ⟨rfl, wu_mk (σ := fun s => if s < 9 then σ s else if s < 15 then C (s - 9) else if s < 21 then Q (s - 15) else R) ⟨hp, h.2.1, fun s hs => ?_, hK, hK'⟩⟩
    dsimp only
    by_cases q9 : s < 9
    · rw [if_pos q9]
      exact ⟨(g s hs).1, hin s q9, hin' s q9 (g s hs).1⟩
    · rw [if_neg q9]
      by_cases q15 : s < 15
      · rw [if_pos q15]
        obtain ⟨w, rfl⟩ : ∃ w, s = 9 + w := ⟨s - 9, by omega⟩
        rw [show 9 + w - 9 = w by omega]
        exact ⟨(hC w (by omega)).2, (hC w (by omega)).1, (hC' w (by omega)).1⟩
      · rw [if_neg q15]
        by_cases q21 : s < 21
        · rw [if_pos q21]
          obtain ⟨w, rfl⟩ : ∃ w, s = 15 + w := ⟨s - 15, by omega⟩
          rw [show 15 + w - 15 = w by omega]
          exact ⟨(hQ w (by omega)).2, (hQ w (by omega)).1, (hQ' w (by omega)).1⟩
        · rw [if_neg q21]
          have : s = 21 := by omega
          subst this
          exact ⟨cR, hR, hR'⟩
  · refine wu_Y_prove hp hnv (fun j hj => (g j (by omega)).1) (fun s hs => (g s (by omega)).2.2) (fun C' R' Q' K' et' er' => absurd (wu_pe_0 et' er') hpe) (fun _ bn3 c3 d3 f3 m3 bc3 bf3 hin' hz' hm' => ?_)
    refine ⟨rfl, wu_mk (σ := fun s => if s < 9 then σ s else []) (K := fun _ => -1) ⟨hp, h.2.1, fun s hs => ?_, wu_Mz_KO hm, wu_Mz_KO hm'⟩⟩
    dsimp only
    by_cases q9 : s < 9
    · rw [if_pos q9]
      exact ⟨(g s hs).1, hin s q9, hin' s q9 (g s hs).1⟩
    · rw [if_neg q9]
      exact ⟨wu_Cp_nil, wu_Ho_z (hz s (by omega) hs), wu_Hp_of (wu_Ho_z (hz' s (by omega) hs))⟩
theorem i_vc_termCount {k : Nat} {u : SX} {v : SY} (I : i_Rel k u v) (hk : k + 4 ≤ 2050) (v1 : Int32) (v2 : Int32) : wpX_termCount (fun r => wpY_termCount (fun r' => r' = r ∧ i_Rel (k + 4) u v) v v1 v2) u v1 v2 := by
  obtain ⟨p, nv, σ, K, sn, st, c, d, f, m, sd, sf, bn, c', d', f', m', bc, bf, rfl, rfl, h⟩ := I
  obtain ⟨r, hr, hX, hY⟩ := wu_sel (nv := nv) (sn := sn) (P := nI p) (st := st) (P' := nI p) (st' := st) (bn := bn) (c := c) (d := d) (f := f) (m := m) (sd := sd) (sf := sf) (c' := c') (d' := d') (f' := f') (m' := m') (bc := bc) (bf := bf) h.2.1 v1 v2
  unfold wpX_termCount
  try dsimp only
  refine hX _ ?_
  rcases hr with rfl | ⟨s, hs, rfl⟩
  · refine br_t rfl ?_
    unfold wpY_termCount
    try dsimp only
    exact hY _ (br_f (by decide) ⟨rfl, wu_mk h⟩)
  · refine br_f (wu_nm1 (by omega)) ⟨vp_in_nI (by omega) (by decide), ?_⟩
    unfold wpY_termCount
    try dsimp only
    refine hY _ (br_t (nI_pos' (by omega)) ⟨vp_in_nI (by omega) (by decide), ?_, wu_mk h⟩)
    have g := h.2.2.1 s hs
    rw [nI_clamp (by omega), g.2.1.1]
    exact wu_Hp_cnt g.2.2
theorem i_vc_termCode {k : Nat} {u : SX} {v : SY} (I : i_Rel k u v) (hk : k + 4 ≤ 2050) (v1 : Int32) (v2 : Int32) (v3 : Int32) : wpX_termCode (fun r => wpY_termCode (fun r' => r' = r ∧ i_Rel (k + 4) u v) v v1 v2 v3) u v1 v2 v3 := by
  obtain ⟨p, nv, σ, K, sn, st, c, d, f, m, sd, sf, bn, c', d', f', m', bc, bf, rfl, rfl, h⟩ := I
  obtain ⟨r, hr, hX, hY⟩ := wu_sel (nv := nv) (sn := sn) (P := nI p) (st := st) (P' := nI p) (st' := st) (bn := bn) (c := c) (d := d) (f := f) (m := m) (sd := sd) (sf := sf) (c' := c') (d' := d') (f' := f') (m' := m') (bc := bc) (bf := bf) h.2.1 v1 v2
  unfold wpX_termCode
  try dsimp only
  refine hX _ ?_
  rcases hr with rfl | ⟨s, hs, rfl⟩
  · refine br_t rfl ?_
    unfold wpY_termCode
    try dsimp only
    exact hY _ (br_t (by decide) ⟨rfl, wu_mk h⟩)
  · have g := h.2.2.1 s hs
    have s0 : ¬ nI s < 0 := nI_pos (by omega)
    have sx : vp_in (nI s) 34 := vp_in_nI (by omega) (by decide)
    have sy : vp_in (nI s) 35 := vp_in_nI (by omega) (by decide)
    have scl : (nI s).toNatClampNeg = s := nI_clamp (by omega)
    have ex : c (nI s).toNatClampNeg = nI (σ s).length := by rw [scl]; exact g.2.1.1
    have ey : c' (nI s).toNatClampNeg = nI (σ s).length := by rw [scl]; exact wu_Hp_cnt g.2.2
    refine br_f (wu_nm1 (by omega)) ?_
    by_cases h3 : v3 < 0
    · refine br_t h3 ?_
      unfold wpY_termCode
      try dsimp only
      exact hY _ (br_f s0 (br_t h3 ⟨rfl, wu_mk h⟩))
    · obtain ⟨j, hj, rfl⟩ := nI_of h3
      have l16 := g.1.2.1
      by_cases h4 : j < (σ s).length
      · have lx : nI j < c (nI s).toNatClampNeg := by rw [ex]; exact nI_lt h4 (by omega)
        have ly : nI j < c' (nI s).toNatClampNeg := by rw [ey]; exact nI_lt h4 (by omega)
        have hA := wu_At_get (σ s) (s * 16) j h4 g.2.1.2
        have hSm := (g.1.2.2.2 _ (List.getElem_mem h4)).2.2
        refine br_f h3 ⟨sx, br_t lx ⟨pk_in (s * 16 + j) 544 (by omega) (wu_ix s j), ?_⟩⟩
        rw [wu_ixc s j (by omega), hA.1]
        refine wu_X_call hSm ?_
        unfold wpY_termCode
        try dsimp only
        refine hY _ (br_f s0 (br_f h3 ⟨sy, br_t ly ?_⟩))
        refine wu_Y_nth (p := p) (by omega) g.2.2 g.1 h4 (fun q hq e1 e2 => ⟨pk_in (s * 16 + q) 560 (by omega) (wu_ix s q), ?_⟩)
        rw [wu_ixc s q (by omega), e1]
        exact wu_Y_outer (by have := hSm.1; omega) ⟨rfl, wu_mk h⟩
      · have lx : ¬ nI j < c (nI s).toNatClampNeg := by rw [ex]; exact nI_nlt (by omega) hj
        have ly : ¬ nI j < c' (nI s).toNatClampNeg := by rw [ey]; exact nI_nlt (by omega) hj
        refine br_f h3 ⟨sx, br_f lx ?_⟩
        unfold wpY_termCode
        try dsimp only
        exact hY _ (br_f s0 (br_f h3 ⟨sy, br_f ly ⟨rfl, wu_mk h⟩⟩))
theorem i_vc_termCoef {k : Nat} {u : SX} {v : SY} (I : i_Rel k u v) (hk : k + 4 ≤ 2050) (v1 : Int32) (v2 : Int32) (v3 : Int32) : wpX_termCoef (fun r => wpY_termCoef (fun r' => r' = r ∧ i_Rel (k + 4) u v) v v1 v2 v3) u v1 v2 v3 := by
  obtain ⟨p, nv, σ, K, sn, st, c, d, f, m, sd, sf, bn, c', d', f', m', bc, bf, rfl, rfl, h⟩ := I
  obtain ⟨r, hr, hX, hY⟩ := wu_sel (nv := nv) (sn := sn) (P := nI p) (st := st) (P' := nI p) (st' := st) (bn := bn) (c := c) (d := d) (f := f) (m := m) (sd := sd) (sf := sf) (c' := c') (d' := d') (f' := f') (m' := m') (bc := bc) (bf := bf) h.2.1 v1 v2
  unfold wpX_termCoef
  try dsimp only
  refine hX _ ?_
  rcases hr with rfl | ⟨s, hs, rfl⟩
  · refine br_t rfl ?_
    unfold wpY_termCoef
    try dsimp only
    exact hY _ (br_t (by decide) ⟨rfl, wu_mk h⟩)
  · have g := h.2.2.1 s hs
    have s0 : ¬ nI s < 0 := nI_pos (by omega)
    have sx : vp_in (nI s) 34 := vp_in_nI (by omega) (by decide)
    have sy : vp_in (nI s) 35 := vp_in_nI (by omega) (by decide)
    have scl : (nI s).toNatClampNeg = s := nI_clamp (by omega)
    have ex : c (nI s).toNatClampNeg = nI (σ s).length := by rw [scl]; exact g.2.1.1
    have ey : c' (nI s).toNatClampNeg = nI (σ s).length := by rw [scl]; exact wu_Hp_cnt g.2.2
    refine br_f (wu_nm1 (by omega)) ?_
    by_cases h3 : v3 < 0
    · refine br_t h3 ?_
      unfold wpY_termCoef
      try dsimp only
      exact hY _ (br_f s0 (br_t h3 ⟨rfl, wu_mk h⟩))
    · obtain ⟨j, hj, rfl⟩ := nI_of h3
      have l16 := g.1.2.1
      by_cases h4 : j < (σ s).length
      · have lx : nI j < c (nI s).toNatClampNeg := by rw [ex]; exact nI_lt h4 (by omega)
        have ly : nI j < c' (nI s).toNatClampNeg := by rw [ey]; exact nI_lt h4 (by omega)
        have hA := wu_At_get (σ s) (s * 16) j h4 g.2.1.2
        refine br_f h3 ⟨sx, br_t lx ⟨pk_in (s * 16 + j) 544 (by omega) (wu_ix s j), ?_⟩⟩
        rw [wu_ixc s j (by omega), hA.2]
        unfold wpY_termCoef
        try dsimp only
        refine hY _ (br_f s0 (br_f h3 ⟨sy, br_t ly ?_⟩))
        refine wu_Y_nth (p := p) (by omega) g.2.2 g.1 h4 (fun q hq e1 e2 => ⟨pk_in (s * 16 + q) 560 (by omega) (wu_ix s q), ?_, wu_mk h⟩)
        rw [wu_ixc s q (by omega)]
        exact e2
      · have lx : ¬ nI j < c (nI s).toNatClampNeg := by rw [ex]; exact nI_nlt (by omega) hj
        have ly : ¬ nI j < c' (nI s).toNatClampNeg := by rw [ey]; exact nI_nlt (by omega) hj
        refine br_f h3 ⟨sx, br_f lx ?_⟩
        unfold wpY_termCoef
        try dsimp only
        exact hY _ (br_f s0 (br_f h3 ⟨sy, br_f ly ⟨rfl, wu_mk h⟩⟩))
theorem i_vc_classOf {k : Nat} {u : SX} {v : SY} (I : i_Rel k u v) (hk : k + 4 ≤ 2050) (v1 : Int32) (v2 : Int32) : wpX_classOf (fun r => wpY_classOf (fun r' => r' = r ∧ i_Rel (k + 4) u v) v v1 v2) u v1 v2 := by
  obtain ⟨p, nv, σ, K, sn, st, c, d, f, m, sd, sf, bn, c', d', f', m', bc, bf, rfl, rfl, h⟩ := I
  obtain ⟨r, hr, hX, hY⟩ := wu_sel (nv := nv) (sn := sn) (P := nI p) (st := st) (P' := nI p) (st' := st) (bn := bn) (c := c) (d := d) (f := f) (m := m) (sd := sd) (sf := sf) (c' := c') (d' := d') (f' := f') (m' := m') (bc := bc) (bf := bf) h.2.1 v1 v2
  unfold wpX_classOf
  try dsimp only
  refine hX _ ?_
  rcases hr with rfl | ⟨s, hs, rfl⟩
  · refine br_t rfl ?_
    unfold wpY_classOf
    try dsimp only
    exact hY _ (br_f (by decide) ⟨rfl, wu_mk h⟩)
  · have g := h.2.2.1 s hs
    refine br_f (wu_nm1 (by omega)) ?_
    refine wu_X_cls h.2.1.2 (by omega) g.2.1 g.1.2 ?_
    unfold wpY_classOf
    try dsimp only
    refine hY _ (br_t (nI_pos' (by omega)) ?_)
    exact wu_YP_cls h.2.1.2 (by omega) g.2.2 g.1 ⟨rfl, wu_mk h⟩
theorem i_vc_multiplier {k : Nat} {u : SX} {v : SY} (I : i_Rel k u v) (hk : k + 4 ≤ 2050) (v1 : Int32) : wpX_multiplier (fun r => wpY_multiplier (fun r' => r' = r ∧ i_Rel (k + 4) u v) v v1) u v1 := by
  obtain ⟨p, nv, σ, K, sn, st, c, d, f, m, sd, sf, bn, c', d', f', m', bc, bf, rfl, rfl, h⟩ := I
  by_cases h1 : v1 < 0
  · exact br_t h1 (br_t h1 ⟨rfl, wu_mk h⟩)
  · obtain ⟨t, ht, rfl⟩ := nI_of h1
    have hnv := h.2.1
    by_cases h2 : t < nv
    · have h2' : nI t < nI nv := nI_lt h2 (by omega)
      have hin : vp_in (nI t) 6 := vp_in_nI (by omega) (by decide)
      refine br_f h1 (br_t h2' ⟨hin, br_f h1 (br_t h2' ⟨hin, ?_, wu_mk h⟩)⟩)
      rw [nI_clamp ht, (h.2.2.2.1 t (by omega)).1, (h.2.2.2.2 t (by omega)).1]
    · have h2' : ¬ nI t < nI nv := nI_nlt (by omega) ht
      exact br_f h1 (br_f h2' (br_f h1 (br_f h2' ⟨rfl, wu_mk h⟩)))
theorem i_vc_check {k : Nat} {u : SX} {v : SY} (I : i_Rel k u v) (hk : k + 4 ≤ 2050) : wpX_check (fun r u' => wpY_check (fun r' v' => r' = r ∧ i_Rel (k + 4) u' v') v) u := by
  obtain ⟨p, nv, σ, K, sn, st, c, d, f, m, sd, sf, bn, c', d', f', m', bc, bf, rfl, rfl, h⟩ := I
  have hp := h.1
  have hnv := h.2.1.2
  have g := h.2.2.1
  have key : ∀ post : Int32 → SY → Prop, True := fun _ => trivial
  have yy : (∀ (r : Int32) (sn2 : Int32) (c2 d2 f2 sd2 sf2 : Nat → Int32), r = wu_z (wu_ch p nv (fun u => σ (9 + u)) (fun u => σ (15 + u)) K (σ 8) (σ 21)) → wu_Fr (fun s => 22 ≤ s) c d f c2 d2 f2 → wY_check_18 (fun r' v' => r' = r ∧ i_Rel (k + 4) (sn2, nI p, nI nv, st, c2, d2, f2, m, sd2, sf2) v') (nI p) (nI nv) st bn c' d' f' m' bc bf) := by
    intro r sn2 c2 d2 f2 sd2 sf2 er F
    refine wu_Y_check_18 (C := fun u => σ (9 + u)) (Q := fun u => σ (15 + u)) (K := K) (G := σ 8) (R := σ 21) hp hnv (fun u hu => (g (9 + u) (by omega)).1) (fun u hu => (g (15 + u) (by omega)).1) (g 8 (by omega)).1 (g 21 (by omega)).1 h.2.2.2.2 (fun u hu => (g (9 + u) (by omega)).2.2) (fun u hu => (g (15 + u) (by omega)).2.2) (g 8 (by omega)).2.2 (g 21 (by omega)).2.2 (fun bn3 c3 d3 f3 bc3 bf3 F' => ⟨er.symm, wu_mk (σ := σ) (K := K) ⟨hp, h.2.1, fun s hs => ?_, h.2.2.2.1, h.2.2.2.2⟩⟩)
    have gs := g s hs
    exact ⟨gs.1, wu_Ho_fr F (by omega) gs.1.2.1 gs.2.1, wu_Hp_fr F' (by omega) gs.1 gs.2.2⟩
  have xx : ∀ post : Int32 → SX → Prop, (∀ sn2 c2 d2 f2 sd2 sf2, wu_Fr (fun s => 22 ≤ s) c d f c2 d2 f2 → post (wu_z (wu_ch p nv (fun u => σ (9 + u)) (fun u => σ (15 + u)) K (σ 8) (σ 21))) (sn2, nI p, nI nv, st, c2, d2, f2, m, sd2, sf2)) → wX_check_18 post sn (nI p) (nI nv) st c d f m sd sf := by
    intro post H
    exact wu_X_check_18 (C := fun u => σ (9 + u)) (Q := fun u => σ (15 + u)) (K := K) (G := σ 8) (R := σ 21) hp hnv (fun u hu => (g (9 + u) (by omega)).1) (fun u hu => (g (15 + u) (by omega)).1) (g 8 (by omega)).1 (g 21 (by omega)).1 h.2.2.2.1 (fun u hu => (g (9 + u) (by omega)).2.1) (fun u hu => (g (15 + u) (by omega)).2.1) (g 8 (by omega)).2.1 (g 21 (by omega)).2.1 H
  by_cases h1 : st = 1
  · refine br_t h1 (xx _ (fun sn2 c2 d2 f2 sd2 sf2 F => ?_))
    exact br_t h1 (yy _ sn2 c2 d2 f2 sd2 sf2 rfl F)
  · by_cases h2 : st = 2
    · refine br_f h1 (br_t h2 (xx _ (fun sn2 c2 d2 f2 sd2 sf2 F => ?_)))
      exact br_f h1 (br_t h2 (yy _ sn2 c2 d2 f2 sd2 sf2 rfl F))
    · exact br_f h1 (br_f h2 (br_f h1 (br_f h2 ⟨rfl, wu_mk h⟩)))
theorem i_vc_chainSize {k : Nat} {u : SX} {v : SY} (I : i_Rel k u v) (hk : k + 4 ≤ 2050) : wpX_chainSize (fun r => wpY_chainSize (fun r' => r' = r ∧ i_Rel (k + 4) u v) v) u := by
  obtain ⟨p, nv, σ, K, sn, st, c, d, f, m, sd, sf, bn, c', d', f', m', bc, bf, rfl, rfl, h⟩ := I
  have g := h.2.2.1
  refine ⟨nv + 1, wu_X_cs (C := fun u => σ (9 + u)) h.2.1.2 (fun u hu => ⟨(g (9 + u) (by omega)).2.1.1, (g (9 + u) (by omega)).1.2.1⟩) nv 0 0 (nv + 1) (by omega) (by omega) (Nat.le_refl _) ?_⟩
  exact ⟨nv + 1, wu_Y_cs (C := fun u => σ (9 + u)) h.2.1.2 (fun u hu => ⟨wu_Hp_cnt (g (9 + u) (by omega)).2.2, (g (9 + u) (by omega)).1.2.1⟩) nv 0 0 (nv + 1) (by omega) (by omega) (Nat.le_refl _) ⟨rfl, wu_mk h⟩⟩
