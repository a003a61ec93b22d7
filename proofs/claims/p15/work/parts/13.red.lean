/-! reduction: pure -/
noncomputable def wu_mi (p : Nat) (I : wu_P) : Nat → wu_P → Option wu_P
  | 0, L => some L
  | n + 1, L => (wu_st p (wu_mul p 1 I L)).bind fun L' => wu_mi p I n L'
theorem wu_mi_n {p n : Nat} {I L : wu_P} (h : wu_st p (wu_mul p 1 I L) = none) : wu_mi p I (n + 1) L = none := by rw [wu_mi, h]; rfl
theorem wu_mi_s {p n : Nat} {I L L' : wu_P} (h : wu_st p (wu_mul p 1 I L) = some L') : wu_mi p I (n + 1) L = wu_mi p I n L' := by rw [wu_mi, h]; rfl
theorem wu_mul_nil (p sc : Nat) (I : wu_P) : wu_mul p sc I [] = [] := List.length_eq_zero_iff.mp (by rw [wu_mul_len]; rfl)
theorem wu_mi_nil {p : Nat} {I : wu_P} : ∀ n, wu_mi p I n [] = some [] := by
  intro n
  induction n with
  | zero => rfl
  | succ n ih => rw [wu_mi_s (L' := []) (by rw [wu_mul_nil]; exact wu_st_id wu_Cp_nil)]; exact ih
theorem wu_mi_Cp {p : Nat} {I : wu_P} (hp : 2 ≤ p) (cI : wu_Cp p I) : ∀ n L L', wu_Cp p L → wu_mi p I n L = some L' → wu_Cp p L' := by
  intro n
  induction n with
  | zero => intro L L' hL h; rw [← Option.some.inj h]; exact hL
  | succ n ih =>
    intro L L' hL h
    cases e : wu_st p (wu_mul p 1 I L) with
    | none => rw [wu_mi_n e] at h; exact absurd h (by simp)
    | some L1 => rw [wu_mi_s e] at h; exact ih L1 L' (wu_st_sp (wu_mul_Ad (by omega) cI.2 hL.2) e).1 h
noncomputable def wu_ra (p : Nat) (I : wu_P) (k v : Nat) : Nat → (Nat → wu_P) → Option (Nat → wu_P)
  | 0, Q => some Q
  | d + 1, Q => (wu_mi p I k (Q (v + (d + 1)))).bind fun L => wu_ra p I k v d (wu_up Q (v + (d + 1)) L)
theorem wu_ra_n {p k v d : Nat} {I : wu_P} {Q : Nat → wu_P} (h : wu_mi p I k (Q (v + (d + 1))) = none) : wu_ra p I k v (d + 1) Q = none := by rw [wu_ra, h]; rfl
theorem wu_ra_s {p k v d : Nat} {I L : wu_P} {Q : Nat → wu_P} (h : wu_mi p I k (Q (v + (d + 1))) = some L) : wu_ra p I k v (d + 1) Q = wu_ra p I k v d (wu_up Q (v + (d + 1)) L) := by rw [wu_ra, h]; rfl
theorem wu_up_id {Q : Nat → wu_P} {u : Nat} : wu_up Q u (Q u) = Q := by
  funext j
  by_cases h : j = u
  · rw [h, wu_up_s]
  · exact wu_up_n h
theorem wu_ra_z {p k v d : Nat} {I : wu_P} {Q : Nat → wu_P} (h : Q (v + (d + 1)) = []) : wu_ra p I k v (d + 1) Q = wu_ra p I k v d Q := by
  have e : wu_mi p I k (Q (v + (d + 1))) = some (Q (v + (d + 1))) := by rw [h]; exact wu_mi_nil k
  rw [wu_ra_s e, wu_up_id]
theorem wu_ra_lo {p k v : Nat} {I : wu_P} : ∀ (d : Nat) (Q Q' : Nat → wu_P), wu_ra p I k v d Q = some Q' → ∀ u, u ≤ v → Q' u = Q u := by
  intro d
  induction d with
  | zero => intro Q Q' h u _; rw [← Option.some.inj h]
  | succ d ih =>
    intro Q Q' h u hu
    cases e : wu_mi p I k (Q (v + (d + 1))) with
    | none => rw [wu_ra_n e] at h; exact absurd h (by simp)
    | some L =>
      rw [wu_ra_s e] at h
      rw [ih _ _ h u hu, wu_up_n (by omega)]
noncomputable def wu_re (p nv : Nat) (C : Nat → wu_P) : Nat → wu_P → (Nat → wu_P) → (Nat → Int) → Option (wu_P × (Nat → wu_P) × (Nat → Int))
  | 0, R, Q, K => some (R, Q, K)
  | v + 1, R, Q, K => if (C v).length = 0 then wu_re p nv C v R Q K else
      (wu_dv p v (C v) true R []).bind fun r => (wu_ra p (wu_in v (C v)) (wu_kk v R (C v)) v (nv - 1 - v) (wu_up Q v r.2)).bind fun Q' => wu_re p nv C v r.1 Q' (fun j => if j = v then (wu_kk v R (C v) : Int) else K j)
theorem wu_re_z {p nv v : Nat} {C Q : Nat → wu_P} {R : wu_P} {K : Nat → Int} (h : (C v).length = 0) : wu_re p nv C (v + 1) R Q K = wu_re p nv C v R Q K := by rw [wu_re, if_pos h]
theorem wu_re_n1 {p nv v : Nat} {C Q : Nat → wu_P} {R : wu_P} {K : Nat → Int} (h : (C v).length ≠ 0) (e : wu_dv p v (C v) true R [] = none) : wu_re p nv C (v + 1) R Q K = none := by rw [wu_re, if_neg h, e]; rfl
theorem wu_re_n2 {p nv v : Nat} {C Q : Nat → wu_P} {R R' q : wu_P} {K : Nat → Int} (h : (C v).length ≠ 0) (e : wu_dv p v (C v) true R [] = some (R', q)) (e2 : wu_ra p (wu_in v (C v)) (wu_kk v R (C v)) v (nv - 1 - v) (wu_up Q v q) = none) : wu_re p nv C (v + 1) R Q K = none := by
  rw [wu_re, if_neg h, e]
  show (wu_ra p (wu_in v (C v)) (wu_kk v R (C v)) v (nv - 1 - v) (wu_up Q v q)).bind _ = none
  rw [e2]; rfl
theorem wu_re_s {p nv v : Nat} {C Q Q' : Nat → wu_P} {R R' q : wu_P} {K : Nat → Int} (h : (C v).length ≠ 0) (e : wu_dv p v (C v) true R [] = some (R', q)) (e2 : wu_ra p (wu_in v (C v)) (wu_kk v R (C v)) v (nv - 1 - v) (wu_up Q v q) = some Q') : wu_re p nv C (v + 1) R Q K = wu_re p nv C v R' Q' (fun j => if j = v then (wu_kk v R (C v) : Int) else K j) := by
  rw [wu_re, if_neg h, e]
  show (wu_ra p (wu_in v (C v)) (wu_kk v R (C v)) v (nv - 1 - v) (wu_up Q v q)).bind _ = _
  rw [e2]; rfl
/-! the component: times the initial -/
theorem wu_X_mi_2 {post : Int32 → St2 → Prop} {p s : Nat} {V st x2 : Int32} {mm : Nat → Int32} {I : wu_P} {κ : Int} {k : Nat} (hp : 2 ≤ p ∧ p ≤ 32749) (hs : s < 34) (hs30 : s ≠ 30) (cI : wu_Cp p I) (hκ : -1 ≤ κ ∧ κ ≤ 16) (hx2 : x2 = wu_z κ) (hk : k = κ.toNat) :
    ∀ (l r n : Nat) (L : wu_P) (sn : Int32) (c d f sd sf : Nat → Int32), r + l = k → l < n → wu_Ho c d f 30 I → wu_Ho c d f s L → wu_Cp p L →
    (wu_mi p I l L = none → ∀ sn' c' d' f' sd' sf', wu_Fr (fun q => q = s) c d f c' d' f' → post 0 (sn', nI p, V, st, c', d', f', mm, sd', sf')) →
    (∀ L', wu_mi p I l L = some L' → ∀ sn' c' d' f' sd' sf', wu_Fr (fun q => q = s) c d f c' d' f' → wu_Ho c' d' f' s L' → post 1 (sn', nI p, V, st, c', d', f', mm, sd', sf')) →
    wX_multiplyByInitial_2 post (nI s) x2 n (nI r) sn (nI p) V st c d f mm sd sf := by
  intro l
  induction l with
  | zero =>
    intro r n L sn c d f sd sf hr hn hI hL cL H1 H0
    obtain ⟨n, rfl⟩ : ∃ k, n = k + 1 := ⟨n - 1, by omega⟩
    exact wu_ble κ (r : Int) (fun _ => H0 L rfl _ _ _ _ _ _ wu_Fr_refl hL) (fun h => absurd h (by omega)) hx2 (wu_zn r).symm (by omega) (by omega)
  | succ l ih =>
    intro r n L sn c d f sd sf hr hn hI hL cL H1 H0
    obtain ⟨n, rfl⟩ : ∃ k, n = k + 1 := ⟨n - 1, by omega⟩
    refine wu_ble κ (r : Int) (fun h => absurd h (by omega)) (fun _ => ?_) hx2 (wu_zn r).symm (by omega) (by omega)
    refine wu_X_prod (a := 30) (b := s) (sc := 1) (A := []) hp (by omega) hs (by omega) hI cI.2 hL cL.2 (Nat.zero_le _) wu_XB_nil (fun sn1 sd1 sf1 X1 => ?_)
    rw [List.nil_append] at X1
    have l1 := wu_mul_256 (sc := 1) cI.2 cL.2
    refine wu_X_store hp (s := s) hs X1 (by omega) (fun e0 => ?_) (fun L' e1 c' d' f' F HL => ?_)
    · exact br_t rfl (H1 (wu_mi_n e0) _ _ _ _ _ _ wu_Fr_refl)
    · refine br_f (by decide) (fun y ey => ?_)
      subst ey
      rw [nI_1]
      have cL' := (wu_st_sp (wu_mul_Ad (by omega) cI.2 cL.2) e1).1
      refine ih (r + 1) n L' sn1 c' d' f' sd1 sf1 (by omega) (by omega) (wu_Ho_fr F (fun z => hs30 z.symm) cI.2.1 hI) HL cL' (fun e sn2 c2 d2 f2 sd2 sf2 F2 => ?_) (fun L2 e sn2 c2 d2 f2 sd2 sf2 F2 HL2 => ?_)
      · exact H1 (by rw [wu_mi_s e1]; exact e) _ _ _ _ _ _ (wu_Fr_trans F F2)
      · exact H0 L2 (by rw [wu_mi_s e1]; exact e) _ _ _ _ _ _ (wu_Fr_trans F F2) HL2
theorem wu_X_mi {post : Int32 → St2 → Prop} {p s : Nat} {sn V st x2 : Int32} {c d f mm sd sf : Nat → Int32} {I L : wu_P} {κ : Int} (hp : 2 ≤ p ∧ p ≤ 32749) (hs : s < 34) (hs30 : s ≠ 30) (cI : wu_Cp p I) (hκ : -1 ≤ κ ∧ κ ≤ 16) (hx2 : x2 = wu_z κ) (hI : wu_Ho c d f 30 I) (hL : wu_Ho c d f s L) (cL : wu_Cp p L)
    (H1 : wu_mi p I κ.toNat L = none → ∀ sn' c' d' f' sd' sf', wu_Fr (fun q => q = s) c d f c' d' f' → post 0 (sn', nI p, V, st, c', d', f', mm, sd', sf'))
    (H0 : ∀ L', wu_mi p I κ.toNat L = some L' → ∀ sn' c' d' f' sd' sf', wu_Fr (fun q => q = s) c d f c' d' f' → wu_Ho c' d' f' s L' → post 1 (sn', nI p, V, st, c', d', f', mm, sd', sf')) :
    wpX_multiplyByInitial post (sn, nI p, V, st, c, d, f, mm, sd, sf) (nI s) x2 :=
  ⟨κ.toNat + 1, wu_X_mi_2 hp hs hs30 cI hκ hx2 rfl κ.toNat 0 _ L sn c d f sd sf (by omega) (by omega) hI hL cL H1 H0⟩
theorem wu_X_ra_16 {post : Int32 → St2 → Prop} {p nv v k : Nat} {V st : Int32} {mm : Nat → Int32} {I : wu_P} (hp : 2 ≤ p ∧ p ≤ 32749) (hnv : nv ≤ 6) (cI : wu_Cp p I) (hk : k ≤ 16) :
    ∀ (l n : Nat) (Q : Nat → wu_P) (sn : Int32) (c d f sd sf : Nat → Int32), v + l < nv → l < n → wu_Ho c d f 30 I → (∀ u, u < 6 → wu_Ho c d f (15 + u) (Q u) ∧ wu_Cp p (Q u)) →
    (wu_ra p I k v l Q = none → ∀ sn' c' d' f' sd' sf', wu_Fr (fun s => 15 ≤ s ∧ s < 21) c d f c' d' f' → post 0 (sn', nI p, V, st, c', d', f', mm, sd', sf')) →
    (∀ Q', wu_ra p I k v l Q = some Q' → ∀ sn' c' d' f' sd' sf', wu_Fr (fun s => 15 ≤ s ∧ s < 21) c d f c' d' f' → (∀ u, u < 6 → wu_Ho c' d' f' (15 + u) (Q' u) ∧ wu_Cp p (Q' u)) → post 1 (sn', nI p, V, st, c', d', f', mm, sd', sf')) →
    wX_raiseQuotientsAbove_16 post (nI v) (nI k) n (nI (v + l)) sn (nI p) V st c d f mm sd sf := by
  intro l
  induction l with
  | zero =>
    intro n Q sn c d f sd sf hl hn hI hQ H1 H0
    obtain ⟨n, rfl⟩ : ∃ k, n = k + 1 := ⟨n - 1, by omega⟩
    exact pk_le (v + 0) v (fun _ => H0 Q rfl _ _ _ _ _ _ wu_Fr_refl hQ) (fun h => absurd h (by omega)) rfl rfl (by omega) (by omega)
  | succ l ih =>
    intro n Q sn c d f sd sf hl hn hI hQ H1 H0
    obtain ⟨n, rfl⟩ : ∃ k, n = k + 1 := ⟨n - 1, by omega⟩
    have hu := hQ (v + (l + 1)) (by omega)
    refine pk_le (v + (l + 1)) v (fun h => absurd h (by omega)) (fun _ => ?_) rfl rfl (by omega) (by omega)
    rw [show (15 : Int32) + nI (v + (l + 1)) = nI (15 + (v + (l + 1))) from nI_add 15 _]
    refine wu_X_mi (s := 15 + (v + (l + 1))) (κ := (k : Int)) hp (by omega) (by omega) cI (by omega) (wu_zn k).symm hI hu.1 hu.2 (fun e sn' c' d' f' sd' sf' F => ?_) (fun L' e sn' c' d' f' sd' sf' F HL => ?_)
    · exact br_t rfl (H1 (wu_ra_n e) _ _ _ _ _ _ (wu_Fr_mono F (fun s z => ⟨by omega, by omega⟩)))
    · refine br_f (by decide) (fun y ey => ?_)
      subst ey
      rw [show nI (v + (l + 1)) + (-1) = nI (v + l) from pk_m1 _]
      rw [Int.toNat_natCast] at e
      have F' : wu_Fr (fun s => 15 ≤ s ∧ s < 21) c d f c' d' f' := wu_Fr_mono F (fun s z => ⟨by omega, by omega⟩)
      have cL' := wu_mi_Cp hp.1 cI _ _ _ hu.2 e
      refine ih n (wu_up Q (v + (l + 1)) L') sn' c' d' f' sd' sf' (by omega) (by omega) (wu_Ho_fr F (by omega) cI.2.1 hI) (fun u hu6 => ?_) (fun e2 sn2 c2 d2 f2 sd2 sf2 F2 => ?_) (fun Q' e2 sn2 c2 d2 f2 sd2 sf2 F2 HQ => ?_)
      · by_cases q : u = v + (l + 1)
        · rw [q, wu_up_s]; exact ⟨HL, cL'⟩
        · rw [wu_up_n q]; exact ⟨wu_Ho_fr F (by omega) (hQ u hu6).2.2.1 (hQ u hu6).1, (hQ u hu6).2⟩
      · exact H1 (by rw [wu_ra_s e]; exact e2) _ _ _ _ _ _ (wu_Fr_trans F' F2)
      · exact H0 Q' (by rw [wu_ra_s e]; exact e2) _ _ _ _ _ _ (wu_Fr_trans F' F2) HQ
theorem wu_X_ra {post : Int32 → St2 → Prop} {p nv v k : Nat} {sn st : Int32} {c d f mm sd sf : Nat → Int32} {B : wu_P} {Q : Nat → wu_P} (hp : 2 ≤ p ∧ p ≤ 32749) (hnv : nv ≤ 6) (hv : v < nv) (hk : k ≤ 16) (hB : wu_Ho c d f (9 + v) B) (cB : wu_Cp p B) (hne : B ≠ []) (hQ : ∀ u, u < 6 → wu_Ho c d f (15 + u) (Q u) ∧ wu_Cp p (Q u))
    (H1 : wu_ra p (wu_in v B) k v (nv - 1 - v) Q = none → ∀ sn' c' d' f' sd' sf', wu_Fr (fun s => (15 ≤ s ∧ s < 21) ∨ s = 30) c d f c' d' f' → post 0 (sn', nI p, nI nv, st, c', d', f', mm, sd', sf'))
    (H0 : ∀ Q', wu_ra p (wu_in v B) k v (nv - 1 - v) Q = some Q' → ∀ sn' c' d' f' sd' sf', wu_Fr (fun s => (15 ≤ s ∧ s < 21) ∨ s = 30) c d f c' d' f' → (∀ u, u < 6 → wu_Ho c' d' f' (15 + u) (Q' u) ∧ wu_Cp p (Q' u)) → post 1 (sn', nI p, nI nv, st, c', d', f', mm, sd', sf')) :
    wpX_raiseQuotientsAbove post (sn, nI p, nI nv, st, c, d, f, mm, sd, sf) (nI v) (nI k) := by
  have hv6 : v < 6 := by omega
  obtain ⟨m, hm, hm15⟩ := wu_dg_nat hv6 cB.2 hne
  have ein : wu_in v B = wu_pt v m (m * 32 ^ v) B := by unfold wu_in; rw [hm]; rfl
  have cI := wu_in_Cp hv6 cB
  unfold wpX_raiseQuotientsAbove
  try dsimp only
  rw [show (9 : Int32) + nI v = nI (9 + v) from nI_add 9 v]
  refine wu_X_init (a := 9 + v) (by omega) hv6 hB cB.2 hm (fun c2 d2 f2 F2 HI => ?_)
  rw [← ein] at HI
  intro x3 e3
  rw [show nI nv - 1 = nI (v + (nv - 1 - v)) from (pk_sub (a := nv) (b := 1) (by omega)).trans (congrArg nI (by omega))] at e3
  subst e3
  have F2' : wu_Fr (fun s => (15 ≤ s ∧ s < 21) ∨ s = 30) c d f c2 d2 f2 := wu_Fr_mono F2 (fun s z => Or.inr z)
  refine ⟨nv - 1 - v + 1, wu_X_ra_16 hp hnv cI hk (nv - 1 - v) _ Q sn c2 d2 f2 sd sf (by omega) (by omega) HI (fun u hu => ⟨wu_Ho_fr F2 (by omega) (hQ u hu).2.2.1 (hQ u hu).1, (hQ u hu).2⟩) (fun er sn3 c3 d3 f3 sd3 sf3 F3 => ?_) (fun Q3 er sn3 c3 d3 f3 sd3 sf3 F3 HQ3 => ?_)⟩
  · exact H1 er _ _ _ _ _ _ (wu_Fr_trans F2' (wu_Fr_mono F3 (fun s z => Or.inl z)))
  · exact H0 Q3 er _ _ _ _ _ _ (wu_Fr_trans F2' (wu_Fr_mono F3 (fun s z => Or.inl z))) HQ3
def wu_Qr (s : Nat) : Prop := (15 ≤ s ∧ s ≤ 21) ∨ (30 ≤ s ∧ s ≤ 32)
def wu_KO (m : Nat → Int32) (K : Nat → Int) : Prop := ∀ u, u < 6 → m u = wu_z (K u) ∧ -1 ≤ K u ∧ K u ≤ 16
theorem wu_KO_up {m : Nat → Int32} {K : Nat → Int} {v k : Nat} (h : wu_KO m K) (hk : k ≤ 16) : wu_KO (upd m v (nI k)) (fun j => if j = v then (k : Int) else K j) := by
  intro u hu
  by_cases q : u = v
  · subst q
    rw [pk_us]
    dsimp only
    rw [if_pos rfl, wu_zn]
    exact ⟨rfl, by omega, by omega⟩
  · rw [pk_un q]
    dsimp only
    rw [if_neg q]
    exact h u hu
theorem wu_X_re_15 {post : Int32 → St2 → Prop} {p nv : Nat} {st : Int32} {C : Nat → wu_P} (hp : 2 ≤ p ∧ p ≤ 32749) (hnv : nv ≤ 6) (cC : ∀ u, u < 6 → wu_Cp p (C u)) :
    ∀ (v n : Nat) (R : wu_P) (Q : Nat → wu_P) (K : Nat → Int) (sn : Int32) (c d f mm sd sf : Nat → Int32), v ≤ nv → v < n → wu_Ho c d f 21 R → wu_Cp p R → (∀ u, u < 6 → wu_Ho c d f (9 + u) (C u)) → (∀ u, u < 6 → wu_Ho c d f (15 + u) (Q u) ∧ wu_Cp p (Q u)) → (∀ u, u < v → Q u = []) → wu_KO mm K →
    (∀ R' Q' K', wu_re p nv C v R Q K = some (R', Q', K') → ∀ sn' c' d' f' m' sd' sf', wu_Fr wu_Qr c d f c' d' f' → wu_Ho c' d' f' 21 R' → wu_Cp p R' → (∀ u, u < 6 → wu_Ho c' d' f' (15 + u) (Q' u) ∧ wu_Cp p (Q' u)) → wu_KO m' K' → post (if R'.length = 0 then 1 else 2) (sn', nI p, nI nv, st, c', d', f', m', sd', sf')) →
    (wu_re p nv C v R Q K = none → ∀ sn' c' d' f' m' sd' sf', wu_Fr wu_Qr c d f c' d' f' → post 4 (sn', nI p, nI nv, st, c', d', f', m', sd', sf')) →
    wX_reduce_15 post n (wu_z ((v : Int) - 1)) sn (nI p) (nI nv) st c d f mm sd sf := by
  intro v
  induction v with
  | zero =>
    intro n R Q K sn c d f mm sd sf h1 h2 hR cR hC hQ hz hK H0 H1
    obtain ⟨n, rfl⟩ : ∃ k, n = k + 1 := ⟨n - 1, by omega⟩
    have fin := H0 R Q K rfl sn c d f mm sd sf wu_Fr_refl hR cR hQ hK
    have hR16 := cR.2.1
    refine wu_blt (-1) 0 (fun _ => ?_) (fun h => absurd h (by decide)) rfl wu_z0 (by omega) (by omega)
    refine pk_eq R.length 0 (fun h => ?_) (fun h => ?_) hR.1 rfl (by omega) (by omega)
    · rw [if_pos h] at fin; exact fin
    · rw [if_neg h] at fin; exact fin
  | succ v ih =>
    intro n R Q K sn c d f mm sd sf h1 h2 hR cR hC hQ hz hK H0 H1
    obtain ⟨n, rfl⟩ : ∃ k, n = k + 1 := ⟨n - 1, by omega⟩
    have hv : v < 6 := by omega
    have e : ((v + 1 : Nat) : Int) - 1 = (v : Int) := by omega
    rw [e]
    have c16 := (cC v hv).2.1
    refine wu_blt (v : Int) 0 (fun h => absurd h (by omega)) (fun _ => ?_) rfl wu_z0 (by omega) (by omega)
    rw [wu_zn, show (9 : Int32) + nI v = nI (9 + v) from nI_add 9 v, show (15 : Int32) + nI v = nI (15 + v) from nI_add 15 v]
    refine ⟨vp_in_nI (by omega) (by decide), ?_⟩
    refine pk_eq (C v).length 0 (fun h => ?_) (fun h => ?_) (by rw [nI_clamp (by omega)]; exact (hC v hv).1) rfl (by omega) (by omega)
    · intro y ey
      subst ey
      rw [wu_zn1]
      rw [wu_re_z h] at H0 H1
      exact ih n R Q K sn c d f mm sd sf (by omega) (by omega) hR cR hC hQ (fun u hu => hz u (by omega)) hK H0 H1
    · have hne : C v ≠ [] := fun z => h (by rw [z]; rfl)
      have hQv := (hQ v hv).1
      rw [hz v (by omega)] at hQv
      have hk := wu_kk_le hv cR.2 hne
      have q1 : ∀ s, wu_Qd 21 (15 + v) true s → wu_Qr s := by
        intro s z
        rcases z with z | z | z | ⟨_, z⟩
        · exact Or.inl ⟨by omega, by omega⟩
        · exact Or.inr ⟨by omega, by omega⟩
        · exact Or.inr ⟨by omega, by omega⟩
        · exact Or.inl ⟨by omega, by omega⟩
      have q2 : ∀ s, ((15 ≤ s ∧ s < 21) ∨ s = 30) → wu_Qr s := by
        intro s z
        rcases z with z | z
        · exact Or.inl ⟨by omega, by omega⟩
        · exact Or.inr ⟨by omega, by omega⟩
      refine wu_X_div (a := 21) (b := 9 + v) (q := 15 + v) (w := true) (Q := []) hp (by omega) (by omega) (by omega) hv hR cR (hC v hv) (cC v hv) hne (fun _ => ⟨by omega, by omega, by omega⟩) (fun _ => hQv) wu_Cp_nil (Or.inr ⟨rfl, rfl⟩) (fun ed sn' c' d' f' sd' sf' F => ?_) (fun R' q ed sn' c' d' f' sd' sf' F HR Hq => ?_)
      · exact br_t (by decide) (H1 (wu_re_n1 h ed) _ _ _ _ _ _ _ (wu_Fr_mono F q1))
      · have cc := wu_dv_Cp hp.1 hv (cC v hv) cR wu_Cp_nil ed
        have F' : wu_Fr wu_Qr c d f c' d' f' := wu_Fr_mono F q1
        have hC' : ∀ u, u < 6 → wu_Ho c' d' f' (9 + u) (C u) := fun u hu => wu_Ho_fr F' (by rintro (z | z) <;> omega) (cC u hu).2.1 (hC u hu)
        have hQ' : ∀ u, u < 6 → wu_Ho c' d' f' (15 + u) (wu_up Q v q u) ∧ wu_Cp p (wu_up Q v q u) := by
          intro u hu
          by_cases z : u = v
          · rw [z, wu_up_s]; exact ⟨Hq rfl, cc.2⟩
          · rw [wu_up_n z]
            refine ⟨wu_Ho_fr F ?_ (hQ u hu).2.2.1 (hQ u hu).1, (hQ u hu).2⟩
            rintro (z | z | z | ⟨_, z⟩) <;> omega
        refine br_f (nI_pos (by omega)) ?_
        refine wu_X_ra hp hnv (by omega) hk (hC' v hv) (cC v hv) hne hQ' (fun er sn3 c3 d3 f3 sd3 sf3 F3 => ?_) (fun Q3 er sn3 c3 d3 f3 sd3 sf3 F3 HQ3 => ?_)
        · exact br_t rfl (H1 (wu_re_n2 h ed er) _ _ _ _ _ _ _ (wu_Fr_trans F' (wu_Fr_mono F3 q2)))
        · refine br_f (by decide) ⟨vp_in_nI hv (by decide), fun m' em y ey => ?_⟩
          subst ey
          rw [nI_clamp (by omega)] at em
          subst em
          rw [wu_zn1]
          have FF : wu_Fr wu_Qr c d f c3 d3 f3 := wu_Fr_trans F' (wu_Fr_mono F3 q2)
          have hQz : ∀ u, u < v → Q3 u = [] := by
            intro u hu
            have := wu_ra_lo (nv - 1 - v) (wu_up Q v q) Q3 er u (by omega)
            rw [this, wu_up_n (by omega)]; exact hz u (by omega)
          rw [wu_re_s h ed er] at H0 H1
          exact ih n R' Q3 _ sn3 c3 d3 f3 _ sd3 sf3 (by omega) (by omega) (wu_Ho_fr F3 (by rintro (z | z) <;> omega) cc.1.2.1 HR) cc.1 (fun u hu => wu_Ho_fr F3 (by rintro (z | z) <;> omega) (cC u hu).2.1 (hC' u hu)) HQ3 hQz (wu_KO_up hK hk) (fun R4 Q4 K4 e4 sn4 c4 d4 f4 m4 sd4 sf4 F4 => H0 R4 Q4 K4 e4 _ _ _ _ _ _ _ (wu_Fr_trans FF F4)) (fun e4 sn4 c4 d4 f4 m4 sd4 sf4 F4 => H1 e4 _ _ _ _ _ _ _ (wu_Fr_trans FF F4))
