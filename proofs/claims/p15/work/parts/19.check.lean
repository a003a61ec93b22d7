/-! check(): pure -/
noncomputable def wu_le (p : Nat) (C : Nat → wu_P) (K : Nat → Int) : Nat → wu_P → Option wu_P
  | 0, L => some L
  | v + 1, L => if (C v).length = 0 then wu_le p C K v L else (wu_mi p (wu_in v (C v)) (K v).toNat L).bind fun L' => wu_le p C K v L'
noncomputable def wu_ri (p : Nat) (C Q : Nat → wu_P) : Nat → wu_P → Option wu_P
  | 0, R => some R
  | v + 1, R => (wu_st p (R ++ wu_mul p 1 (Q v) (C v))).bind fun R' => wu_ri p C Q v R'
theorem wu_le_z {p v : Nat} {C : Nat → wu_P} {K : Nat → Int} {L : wu_P} (h : (C v).length = 0) : wu_le p C K (v + 1) L = wu_le p C K v L := by rw [wu_le, if_pos h]
theorem wu_le_n {p v : Nat} {C : Nat → wu_P} {K : Nat → Int} {L : wu_P} (h : (C v).length ≠ 0) (e : wu_mi p (wu_in v (C v)) (K v).toNat L = none) : wu_le p C K (v + 1) L = none := by rw [wu_le, if_neg h, e]; rfl
theorem wu_le_s {p v : Nat} {C : Nat → wu_P} {K : Nat → Int} {L L' : wu_P} (h : (C v).length ≠ 0) (e : wu_mi p (wu_in v (C v)) (K v).toNat L = some L') : wu_le p C K (v + 1) L = wu_le p C K v L' := by rw [wu_le, if_neg h, e]; rfl
theorem wu_ri_n {p v : Nat} {C Q : Nat → wu_P} {R : wu_P} (e : wu_st p (R ++ wu_mul p 1 (Q v) (C v)) = none) : wu_ri p C Q (v + 1) R = none := by rw [wu_ri, e]; rfl
theorem wu_ri_s {p v : Nat} {C Q : Nat → wu_P} {R R' : wu_P} (e : wu_st p (R ++ wu_mul p 1 (Q v) (C v)) = some R') : wu_ri p C Q (v + 1) R = wu_ri p C Q v R' := by rw [wu_ri, e]; rfl
theorem wu_ri_z {p v : Nat} {C Q : Nat → wu_P} {R : wu_P} (h : C v = []) (cR : wu_Cp p R) : wu_ri p C Q (v + 1) R = wu_ri p C Q v R :=
  wu_ri_s (by rw [h, wu_mul_nil, List.append_nil]; exact wu_st_id cR)
/-! the component -/
theorem wu_X_left_15 {post : Int32 → St2 → Prop} {p nv : Nat} {st : Int32} {mm : Nat → Int32} {C : Nat → wu_P} {K : Nat → Int} (hp : 2 ≤ p ∧ p ≤ 32749) (hnv : nv ≤ 6) (cC : ∀ u, u < 6 → wu_Cp p (C u)) (hK : wu_KO mm K) :
    ∀ (v n : Nat) (L : wu_P) (sn : Int32) (c d f sd sf : Nat → Int32), v ≤ nv → v < n → (∀ u, u < 6 → wu_Ho c d f (9 + u) (C u)) → wu_Ho c d f 32 L → wu_Cp p L →
    (wu_le p C K v L = none → ∀ sn' c' d' f' sd' sf', wu_Fr (fun s => s = 30 ∨ s = 32) c d f c' d' f' → post 0 (sn', nI p, nI nv, st, c', d', f', mm, sd', sf')) →
    (∀ L', wu_le p C K v L = some L' → ∀ sn' c' d' f' sd' sf', wu_Fr (fun s => s = 30 ∨ s = 32) c d f c' d' f' → wu_Ho c' d' f' 32 L' → wu_Cp p L' → post 1 (sn', nI p, nI nv, st, c', d', f', mm, sd', sf')) →
    wX_expandLeft_15 post n (wu_z ((v : Int) - 1)) sn (nI p) (nI nv) st c d f mm sd sf := by
  intro v
  induction v with
  | zero =>
    intro n L sn c d f sd sf h1 h2 hC hL cL H1 H0
    obtain ⟨n, rfl⟩ : ∃ k, n = k + 1 := ⟨n - 1, by omega⟩
    exact wu_blt (-1) 0 (fun _ => H0 L rfl _ _ _ _ _ _ wu_Fr_refl hL cL) (fun h => absurd h (by decide)) rfl wu_z0 (by omega) (by omega)
  | succ v ih =>
    intro n L sn c d f sd sf h1 h2 hC hL cL H1 H0
    obtain ⟨n, rfl⟩ : ∃ k, n = k + 1 := ⟨n - 1, by omega⟩
    have hv : v < 6 := by omega
    have e : ((v + 1 : Nat) : Int) - 1 = (v : Int) := by omega
    rw [e]
    have c16 := (cC v hv).2.1
    refine wu_blt (v : Int) 0 (fun h => absurd h (by omega)) (fun _ => ?_) rfl wu_z0 (by omega) (by omega)
    rw [wu_zn, show (9 : Int32) + nI v = nI (9 + v) from nI_add 9 v]
    refine ⟨vp_in_nI (by omega) (by decide), ?_⟩
    refine pk_eq (C v).length 0 (fun h => ?_) (fun h => ?_) (by rw [nI_clamp (by omega)]; exact (hC v hv).1) rfl (by omega) (by omega)
    · intro y ey
      subst ey
      rw [wu_zn1]
      rw [wu_le_z h] at H0 H1
      exact ih n L sn c d f sd sf (by omega) (by omega) hC hL cL H1 H0
    · have hne : C v ≠ [] := fun z => h (by rw [z]; rfl)
      obtain ⟨m, hm, hm15⟩ := wu_dg_nat hv (cC v hv).2 hne
      have ein : wu_in v (C v) = wu_pt v m (m * 32 ^ v) (C v) := by unfold wu_in; rw [hm]; rfl
      have cI := wu_in_Cp hv (cC v hv)
      refine wu_X_init (a := 9 + v) (by omega) hv (hC v hv) (cC v hv).2 hm (fun c2 d2 f2 F2 HI => ?_)
      rw [← ein] at HI
      refine ⟨vp_in_nI hv (by decide), ?_⟩
      have F2' : wu_Fr (fun s => s = 30 ∨ s = 32) c d f c2 d2 f2 := wu_Fr_mono F2 (fun s z => Or.inl z)
      refine wu_X_mi (s := 32) (κ := K v) hp (by omega) (by omega) cI (hK v hv).2 (by rw [nI_clamp (by omega)]; exact (hK v hv).1) HI (wu_Ho_fr F2 (by omega) cL.2.1 hL) cL (fun e sn' c' d' f' sd' sf' F => ?_) (fun L' e sn' c' d' f' sd' sf' F HL => ?_)
      · exact br_t rfl (H1 (wu_le_n h e) _ _ _ _ _ _ (wu_Fr_trans F2' (wu_Fr_mono F (fun s z => Or.inr z))))
      · refine br_f (by decide) (fun y ey => ?_)
        subst ey
        rw [wu_zn1]
        have FF : wu_Fr (fun s => s = 30 ∨ s = 32) c d f c' d' f' := wu_Fr_trans F2' (wu_Fr_mono F (fun s z => Or.inr z))
        have cL' := wu_mi_Cp hp.1 cI _ _ _ cL e
        rw [wu_le_s h e] at H0 H1
        exact ih n L' sn' c' d' f' sd' sf' (by omega) (by omega) (fun u hu => wu_Ho_fr FF (by omega) (cC u hu).2.1 (hC u hu)) HL cL' (fun e2 sn2 c3 d3 f3 sd2 sf2 F3 => H1 e2 _ _ _ _ _ _ (wu_Fr_trans FF F3)) (fun L2 e2 sn2 c3 d3 f3 sd2 sf2 F3 => H0 L2 e2 _ _ _ _ _ _ (wu_Fr_trans FF F3))
theorem wu_X_right_15 {post : Int32 → St2 → Prop} {p nv : Nat} {st : Int32} {mm : Nat → Int32} {C Q : Nat → wu_P} (hp : 2 ≤ p ∧ p ≤ 32749) (hnv : nv ≤ 6) (cC : ∀ u, u < 6 → wu_Cp p (C u)) (cQ : ∀ u, u < 6 → wu_Cp p (Q u)) :
    ∀ (v n : Nat) (R : wu_P) (sn : Int32) (c d f sd sf : Nat → Int32), v ≤ nv → v < n → (∀ u, u < 6 → wu_Ho c d f (9 + u) (C u)) → (∀ u, u < 6 → wu_Ho c d f (15 + u) (Q u)) → wu_Ho c d f 33 R → wu_Cp p R →
    (wu_ri p C Q v R = none → ∀ sn' c' d' f' sd' sf', wu_Fr (fun s => s = 33) c d f c' d' f' → post 0 (sn', nI p, nI nv, st, c', d', f', mm, sd', sf')) →
    (∀ R', wu_ri p C Q v R = some R' → ∀ sn' c' d' f' sd' sf', wu_Fr (fun s => s = 33) c d f c' d' f' → wu_Ho c' d' f' 33 R' → wu_Cp p R' → post 1 (sn', nI p, nI nv, st, c', d', f', mm, sd', sf')) →
    wX_expandRight_15 post n (wu_z ((v : Int) - 1)) sn (nI p) (nI nv) st c d f mm sd sf := by
  intro v
  induction v with
  | zero =>
    intro n R sn c d f sd sf h1 h2 hC hQ hR cR H1 H0
    obtain ⟨n, rfl⟩ : ∃ k, n = k + 1 := ⟨n - 1, by omega⟩
    exact wu_blt (-1) 0 (fun _ => H0 R rfl _ _ _ _ _ _ wu_Fr_refl hR cR) (fun h => absurd h (by decide)) rfl wu_z0 (by omega) (by omega)
  | succ v ih =>
    intro n R sn c d f sd sf h1 h2 hC hQ hR cR H1 H0
    obtain ⟨n, rfl⟩ : ∃ k, n = k + 1 := ⟨n - 1, by omega⟩
    have hv : v < 6 := by omega
    have e : ((v + 1 : Nat) : Int) - 1 = (v : Int) := by omega
    rw [e]
    refine wu_blt (v : Int) 0 (fun h => absurd h (by omega)) (fun _ => ?_) rfl wu_z0 (by omega) (by omega)
    rw [wu_zn, show (9 : Int32) + nI v = nI (9 + v) from nI_add 9 v, show (15 : Int32) + nI v = nI (15 + v) from nI_add 15 v]
    have r16 := cR.2.1
    refine wu_X_addPoly (s := 33) (A := []) hp (by omega) hR cR.2 (by rw [List.length_nil]; omega) wu_XB_nil (fun sn1 sd1 sf1 X1 => ?_)
    rw [List.nil_append] at X1
    refine wu_X_prod (a := 15 + v) (b := 9 + v) (sc := 1) hp (by omega) (by omega) (by omega) (hQ v hv) (cQ v hv).2 (hC v hv) (cC v hv).2 (by omega) X1 (fun sn2 sd2 sf2 X2 => ?_)
    have l2 := wu_mul_256 (sc := 1) (cQ v hv).2 (cC v hv).2
    refine wu_X_store hp (s := 33) (by omega) X2 (by rw [List.length_append]; omega) (fun e0 => ?_) (fun R' e1 c' d' f' F HR => ?_)
    · exact br_t rfl (H1 (wu_ri_n e0) _ _ _ _ _ _ wu_Fr_refl)
    · refine br_f (by decide) (fun y ey => ?_)
      subst ey
      rw [wu_zn1]
      have cR' := (wu_st_sp (wu_Ad_app (wu_Ok_Ad cR.2) (wu_mul_Ad (by omega) (cQ v hv).2 (cC v hv).2)) e1).1
      rw [wu_ri_s e1] at H0 H1
      exact ih n R' sn2 c' d' f' sd2 sf2 (by omega) (by omega) (fun u hu => wu_Ho_fr F (by omega) (cC u hu).2.1 (hC u hu)) (fun u hu => wu_Ho_fr F (by omega) (cQ u hu).2.1 (hQ u hu)) HR cR' (fun e2 sn3 c3 d3 f3 sd3 sf3 F3 => H1 e2 _ _ _ _ _ _ (wu_Fr_trans F F3)) (fun R2 e2 sn3 c3 d3 f3 sd3 sf3 F3 => H0 R2 e2 _ _ _ _ _ _ (wu_Fr_trans F F3))
/-- what check answers where there are results -/
noncomputable def wu_ch (p nv : Nat) (C Q : Nat → wu_P) (K : Nat → Int) (G R : wu_P) : Int :=
  match wu_le p C K nv G, wu_ri p C Q nv R with
  | some L, some S => @ite _ (L = S) (Classical.propDecidable _) 1 2
  | _, _ => 3
theorem wu_ch_n1 {p nv : Nat} {C Q : Nat → wu_P} {K : Nat → Int} {G R : wu_P} (h : wu_le p C K nv G = none) : wu_ch p nv C Q K G R = 3 := by unfold wu_ch; rw [h]
theorem wu_ch_n2 {p nv : Nat} {C Q : Nat → wu_P} {K : Nat → Int} {G R L : wu_P} (h : wu_le p C K nv G = some L) (h2 : wu_ri p C Q nv R = none) : wu_ch p nv C Q K G R = 3 := by unfold wu_ch; rw [h, h2]
theorem wu_ch_1 {p nv : Nat} {C Q : Nat → wu_P} {K : Nat → Int} {G R L S : wu_P} (h : wu_le p C K nv G = some L) (h2 : wu_ri p C Q nv R = some S) (e : L = S) : wu_ch p nv C Q K G R = 1 := by unfold wu_ch; rw [h, h2]; exact if_pos e
theorem wu_ch_2 {p nv : Nat} {C Q : Nat → wu_P} {K : Nat → Int} {G R L S : wu_P} (h : wu_le p C K nv G = some L) (h2 : wu_ri p C Q nv R = some S) (e : L ≠ S) : wu_ch p nv C Q K G R = 2 := by unfold wu_ch; rw [h, h2]; exact if_neg e
theorem wu_X_check_18 {post : Int32 → St2 → Prop} {p nv : Nat} {sn st : Int32} {c d f mm sd sf : Nat → Int32} {C Q : Nat → wu_P} {K : Nat → Int} {G R : wu_P} (hp : 2 ≤ p ∧ p ≤ 32749) (hnv : nv ≤ 6) (cC : ∀ u, u < 6 → wu_Cp p (C u)) (cQ : ∀ u, u < 6 → wu_Cp p (Q u)) (cG : wu_Cp p G) (cR : wu_Cp p R) (hK : wu_KO mm K) (hC : ∀ u, u < 6 → wu_Ho c d f (9 + u) (C u)) (hQ : ∀ u, u < 6 → wu_Ho c d f (15 + u) (Q u)) (hG : wu_Ho c d f 8 G) (hR : wu_Ho c d f 21 R)
    (H : ∀ sn' c' d' f' sd' sf', wu_Fr (fun s => 22 ≤ s) c d f c' d' f' → post (wu_z (wu_ch p nv C Q K G R)) (sn', nI p, nI nv, st, c', d', f', mm, sd', sf')) :
    wX_check_18 post sn (nI p) (nI nv) st c d f mm sd sf := by
  unfold wX_check_18
  try dsimp only
  unfold wpX_expandLeft
  try dsimp only
  refine wu_X_copy (a := 8) (b := 32) (by omega) (by omega) (by omega) hG cG.2.1 (fun c1 d1 f1 F1 HL => ?_)
  intro x1 e1
  rw [wu_zs1] at e1
  subst e1
  have F1' : wu_Fr (fun s => 22 ≤ s) c d f c1 d1 f1 := wu_Fr_mono F1 (fun s z => by omega)
  refine ⟨nv + 1, wu_X_left_15 hp hnv cC hK nv (nv + 1) G sn c1 d1 f1 sd sf (by omega) (by omega) (fun u hu => wu_Ho_fr F1 (by omega) (cC u hu).2.1 (hC u hu)) HL cG (fun e sn2 c2 d2 f2 sd2 sf2 F2 => ?_) (fun L e sn2 c2 d2 f2 sd2 sf2 F2 HL2 cL => ?_)⟩
  · refine br_t rfl ?_
    have := H sn2 c2 d2 f2 sd2 sf2 (wu_Fr_trans F1' (wu_Fr_mono F2 (fun s z => by omega)))
    rw [wu_ch_n1 e] at this
    exact this
  · refine br_f (by decide) ?_
    unfold wpX_expandRight
    try dsimp only
    have F2' : wu_Fr (fun s => 22 ≤ s) c d f c2 d2 f2 := wu_Fr_trans F1' (wu_Fr_mono F2 (fun s z => by omega))
    refine wu_X_copy (a := 21) (b := 33) (by omega) (by omega) (by omega) (wu_Ho_fr F2' (by omega) cR.2.1 hR) cR.2.1 (fun c3 d3 f3 F3 HR => ?_)
    intro x1 e1
    rw [wu_zs1] at e1
    subst e1
    have F3' : wu_Fr (fun s => 22 ≤ s) c d f c3 d3 f3 := wu_Fr_trans F2' (wu_Fr_mono F3 (fun s z => by omega))
    refine ⟨nv + 1, wu_X_right_15 hp hnv cC cQ nv (nv + 1) R sn2 c3 d3 f3 sd2 sf2 (by omega) (by omega) (fun u hu => wu_Ho_fr F3' (by omega) (cC u hu).2.1 (hC u hu)) (fun u hu => wu_Ho_fr F3' (by omega) (cQ u hu).2.1 (hQ u hu)) HR cR (fun e2 sn4 c4 d4 f4 sd4 sf4 F4 => ?_) (fun S e2 sn4 c4 d4 f4 sd4 sf4 F4 HS cS => ?_)⟩
    · refine br_t rfl ?_
      have := H sn4 c4 d4 f4 sd4 sf4 (wu_Fr_trans F3' (wu_Fr_mono F4 (fun s z => by omega)))
      rw [wu_ch_n2 e e2] at this
      exact this
    · refine br_f (by decide) ?_
      have fin := H sn4 c4 d4 f4 sd4 sf4 (wu_Fr_trans F3' (wu_Fr_mono F4 (fun s z => by omega)))
      refine wu_X_same (a := 32) (b := 33) hp.2 (by omega) (by omega) (wu_Ho_fr F4 (by omega) cL.2.1 (wu_Ho_fr F3 (by omega) cL.2.1 HL2)) cL.2 HS cS.2 (fun q => br_f (by decide) ?_) (fun q => br_t rfl ?_)
      · rw [wu_ch_1 e e2 q] at fin
        exact fin
      · rw [wu_ch_2 e e2 q] at fin
        exact fin
/-! the reference -/
