/-! prove() on both sides -/
def wu_Z (r : Nat) : Int32 := if r = 0 then 1 else 2
/-- what prove ends with, if not with results: its status; else 0 -/
noncomputable def wu_pe (p nv : Nat) (σ : Nat → wu_P) : Int := if (wu_tt p nv σ).1 = 0 then (if wu_re p nv (wu_tt p nv σ).2 nv (σ 8) (fun _ => []) (fun _ => -1) = none then 4 else 0) else (wu_tt p nv σ).1
theorem wu_pe_t {p nv : Nat} {σ C : Nat → wu_P} {e : Int} (h : wu_tt p nv σ = (e, C)) (he : e ≠ 0) : wu_pe p nv σ = e := by
  unfold wu_pe; rw [h]; exact if_neg he
theorem wu_pe_r {p nv : Nat} {σ C : Nat → wu_P} (h : wu_tt p nv σ = (0, C)) (h2 : wu_re p nv C nv (σ 8) (fun _ => []) (fun _ => -1) = none) : wu_pe p nv σ = 4 := by
  unfold wu_pe; rw [h]; rw [if_pos rfl]; exact if_pos h2
theorem wu_pe_0 {p nv : Nat} {σ C : Nat → wu_P} {r : wu_P × (Nat → wu_P) × (Nat → Int)} (h : wu_tt p nv σ = (0, C)) (h2 : wu_re p nv C nv (σ 8) (fun _ => []) (fun _ => -1) = some r) : wu_pe p nv σ = 0 := by
  unfold wu_pe; rw [h]; rw [if_pos rfl]; refine if_neg ?_
  show ¬ wu_re p nv C nv (σ 8) (fun _ => []) (fun _ => -1) = none
  rw [h2]; simp
/-! the component -/
theorem wu_X_18 {post : Int32 → St2 → Prop} {sn P V st : Int32} {c d f mm sd sf : Nat → Int32} {e : Int} (he : e = 3 ∨ e = 4) (H : ∀ c' m', wu_Cz c c' → wu_Mz m' → post (wu_z e) (sn, P, V, wu_z e, c', d, f, m', sd, sf)) : wX_prove_18 post (wu_z e) sn P V st c d f mm sd sf := by
  unfold wX_prove_18
  rcases he with rfl | rfl
  · refine br_t (by decide) ?_
    unfold wX_prove_28
    exact wu_X_clear (fun c' m' h1 h2 => H c' m' h1 h2)
  · refine br_f (by decide) (br_t (by decide) ?_)
    unfold wX_prove_28
    exact wu_X_clear (fun c' m' h1 h2 => H c' m' h1 h2)
theorem wu_X_prove {post : Int32 → St2 → Prop} {p nv : Nat} {sn st : Int32} {c d f mm sd sf : Nat → Int32} {σ : Nat → wu_P} (hp : 2 ≤ p ∧ p ≤ 32749) (hnv : nv ≤ 6) (cW : ∀ j, j < 9 → wu_Cp p (σ j)) (hin : ∀ s, s < 9 → wu_Ho c d f s (σ s))
    (H0 : ∀ C R Q K, wu_tt p nv σ = (0, C) → wu_re p nv C nv (σ 8) (fun _ => []) (fun _ => -1) = some (R, Q, K) → ∀ sn' c' d' f' m' sd' sf', (∀ u, u < 6 → wu_Ho c' d' f' (9 + u) (C u) ∧ wu_Cp p (C u)) → wu_Ho c' d' f' 21 R → wu_Cp p R → (∀ u, u < 6 → wu_Ho c' d' f' (15 + u) (Q u) ∧ wu_Cp p (Q u)) → wu_KO m' K → (∀ s, s < 9 → wu_Ho c' d' f' s (σ s)) → post (if R.length = 0 then 1 else 2) (sn', nI p, nI nv, (if R.length = 0 then 1 else 2), c', d', f', m', sd', sf'))
    (H1 : wu_pe p nv σ ≠ 0 → ∀ sn' c' d' f' m' sd' sf', (∀ s, s < 9 → wu_Ho c' d' f' s (σ s)) → (∀ s, 9 ≤ s → s ≤ 21 → c' s = 0) → wu_Mz m' → post (wu_z (wu_pe p nv σ)) (sn', nI p, nI nv, wu_z (wu_pe p nv σ), c', d', f', m', sd', sf')) :
    wpX_prove post (sn, nI p, nI nv, st, c, d, f, mm, sd, sf) := by
  unfold wpX_prove
  try dsimp only
  refine wu_X_clear (fun c1 m1 hc hm => ?_)
  have F1 : wu_Fr (fun s => 9 ≤ s ∧ s ≤ 21) c d f c1 d f := wu_Cz_fr hc
  have hin1 : ∀ s, s < 9 → wu_Ho c1 d f s (σ s) := fun s hs => wu_Ho_fr F1 (by omega) (cW s hs).2.1 (hin s hs)
  refine ⟨9, wu_X_t2 (W := σ) hp hnv (fun i hi => cW i (by omega)) 8 0 9 sn c1 d f sd sf rfl (by omega) (fun j hj => hin1 j (by omega)) (fun j hj => absurd hj (by omega)) (fun u hu => wu_Cz_ho hc (by omega) (by omega)) (fun C et sn2 c2 d2 f2 sd2 sf2 F2 hC => ?_) (fun e C et he sn2 c2 d2 f2 sd2 sf2 F2 => ?_)⟩
  · refine br_t rfl ?_
    unfold wpX_reduce
    try dsimp only
    have q9 : ∀ s, s < 9 → ¬ wu_Qt s := by
      intro s hs z
      rcases z with z | z
      · omega
      · have := z.1; omega
    have q15 : ∀ s, 15 ≤ s → s ≤ 21 → ¬ wu_Qt s := by
      intro s hs hs' z
      rcases z with z | z
      · omega
      · have := z.1; omega
    refine wu_X_copy (a := 8) (b := 21) (by omega) (by omega) (by omega) (wu_Ho_fr F2 (q9 8 (by omega)) (cW 8 (by omega)).2.1 (hin1 8 (by omega))) (cW 8 (by omega)).2.1 (fun c3 d3 f3 F3 HR => ?_)
    intro x1 e1
    rw [wu_zs1] at e1
    subst e1
    refine ⟨nv + 1, wu_X_re_15 hp hnv (fun u hu => (hC u hu).2) nv (nv + 1) (σ 8) (fun _ => []) (fun _ => -1) sn2 c3 d3 f3 m1 sd2 sf2 (by omega) (by omega) HR (cW 8 (by omega)) (fun u hu => wu_Ho_fr F3 (by omega) (hC u hu).2.2.1 (hC u hu).1) (fun u hu => ⟨wu_Ho_fr F3 (by omega) (by simp) (wu_Ho_fr F2 (q15 _ (by omega) (by omega)) (by simp) (wu_Cz_ho hc (by omega) (by omega))), wu_Cp_nil⟩) (fun _ _ => rfl) (wu_Mz_KO hm) (fun R Q K er sn4 c4 d4 f4 m4 sd4 sf4 F4 hR cR hQ hK => ?_) (fun er sn4 c4 d4 f4 m4 sd4 sf4 F4 => ?_)⟩
    · have fin := H0 C R Q K et er sn4 c4 d4 f4 m4 sd4 sf4 (fun u hu => ⟨wu_Ho_fr F4 (by rintro (z | z) <;> omega) (hC u hu).2.2.1 (wu_Ho_fr F3 (by omega) (hC u hu).2.2.1 (hC u hu).1), (hC u hu).2⟩) hR cR hQ hK (fun s hs => wu_Ho_fr F4 (by rintro (z | z) <;> omega) (cW s hs).2.1 (wu_Ho_fr F3 (by omega) (cW s hs).2.1 (wu_Ho_fr F2 (q9 s hs) (cW s hs).2.1 (hin1 s hs))))
      by_cases hl : R.length = 0
      · rw [if_pos hl] at fin ⊢
        exact br_f (by decide) (br_f (by decide) fin)
      · rw [if_neg hl] at fin ⊢
        exact br_f (by decide) (br_f (by decide) fin)
    · have ep := wu_pe_r et er
      rw [show (4 : Int32) = wu_z 4 from by decide]
      refine wu_X_18 (Or.inr rfl) (fun c5 m5 hc5 hm5 => ?_)
      have := H1 (by rw [ep]; decide) sn4 c5 d4 f4 m5 sd4 sf4 (fun s hs => wu_Ho_fr (wu_Cz_fr hc5) (by omega) (cW s hs).2.1 (wu_Ho_fr F4 (by rintro (z | z) <;> omega) (cW s hs).2.1 (wu_Ho_fr F3 (by omega) (cW s hs).2.1 (wu_Ho_fr F2 (q9 s hs) (cW s hs).2.1 (hin1 s hs))))) hc5.1 hm5
      rw [ep] at this
      exact this
  · have be : e = 0 ∨ e = 3 ∨ e = 4 := by have := wu_tt_b (p := p) (nv := nv) (W := σ); rw [et] at this; exact this
    have ep := wu_pe_t et he
    refine br_f (fun z => he ?_) ?_
    · rw [wu_z0, wu_zeq (by omega) (by omega)] at z
      exact z
    refine wu_X_18 (by omega) (fun c5 m5 hc5 hm5 => ?_)
    have := H1 (by rw [ep]; exact he) sn2 c5 d2 f2 m5 sd2 sf2 (fun s hs => ?_) hc5.1 hm5
    · rw [ep] at this
      exact this
    · refine wu_Ho_fr (wu_Cz_fr hc5) (by omega) (cW s hs).2.1 (wu_Ho_fr F2 ?_ (cW s hs).2.1 (hin1 s hs))
      rintro (z | z)
      · omega
      · have := z.1; omega
