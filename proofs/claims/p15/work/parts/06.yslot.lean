/-! the reference's slots -/
theorem wu_At_mv {d f d' f' : Nat → Int32} {x y : Nat} {L : wu_P} (h : wu_At d f x L) (g : ∀ j, j < L.length → d' (y + j) = d (x + j) ∧ f' (y + j) = f (x + j)) : wu_At d' f' y L :=
  wu_At_of L y (fun j hj => ⟨(g j hj).1.trans (wu_At_get L x j hj h).1, (g j hj).2.trans (wu_At_get L x j hj h).2⟩)
theorem wu_dg_nat {p v : Nat} {L : wu_P} (hv : v < 6) (hO : wu_Ok p L) (hne : L ≠ []) : ∃ e : Nat, wu_dg v L = (e : Int) ∧ e ≤ 15 := by
  have h0 := wu_dg_ne (v := v) hne
  have h1 : wu_dg v L ≤ 15 := wu_dg_ge (by omega) (fun t ht => by have := (hO.2.2 t ht).2.2.2 v hv; omega)
  exact ⟨(wu_dg v L).toNat, by omega, by omega⟩
theorem wu_X_init {post : St2 → Prop} {p : Nat} {sn P V st : Int32} {c d f m sd sf : Nat → Int32} {a v e : Nat} {L : wu_P} (ha : a < 30) (hv : v < 6) (hL : wu_Ho c d f a L) (hO : wu_Ok p L) (hd : wu_dg v L = (e : Int))
    (H : ∀ c' d' f', wu_Fr (fun q => q = 30) c d f c' d' f' → wu_Ho c' d' f' 30 (wu_pt v e (e * 32 ^ v) L) → post (sn, P, V, st, c', d', f', m, sd, sf)) :
    wpX_copyInitial post (sn, P, V, st, c, d, f, m, sd, sf) (nI a) (nI v) := by
  have hb := wu_dg_b v L
  unfold wpX_copyInitial
  try dsimp only
  refine wu_X_deg (by omega) hv hL hO ?_
  rw [hd, wu_zn]
  exact wu_X_coef (b := 30) (e' := 0) (by omega) (by omega) (by omega) hv (by omega) (by omega) hL hO (fun c' d' f' hF hH => H c' d' f' hF hH)
