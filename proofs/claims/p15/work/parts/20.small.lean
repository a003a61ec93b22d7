/-! residues, addTerm on both sides -/
theorem wu_res {p : Nat} (hp : 2 ≤ p ∧ p ≤ 32749) (x : Int32) : ∃ r : Nat, r < p ∧ ((0 ≤ x - x / nI p * nI p ∧ x - x / nI p * nI p = nI r) ∨ (¬ 0 ≤ x - x / nI p * nI p ∧ x - x / nI p * nI p + nI p = nI r)) := by
  have e0 : x = wu_z x.toInt := (Int32.ofInt_toInt x).symm
  have hn : nI p ≠ -1 := wu_nm1 (by omega)
  have e1 : x / nI p = wu_z (x.toInt.tdiv (p : Int)) := by
    have h := Int32.toInt_div_of_ne_right x (nI p) hn
    rw [nI_toInt (by omega)] at h
    rw [← h]
    exact (Int32.ofInt_toInt _).symm
  have e2 : x - x / nI p * nI p = wu_z (x.toInt.tmod (p : Int)) := by
    rw [e1, ← wu_zn p, wu_zmul]
    have : x - wu_z (x.toInt.tdiv (p : Int) * (p : Int)) = wu_z x.toInt - wu_z (x.toInt.tdiv (p : Int) * (p : Int)) := by rw [← e0]
    rw [this, wu_zsub, Int.tmod_def, Int.mul_comm]
  have b1 := Int.lt_tmod_of_pos x.toInt (show (0 : Int) < (p : Int) by omega)
  have b2 := Int.tmod_lt_of_pos x.toInt (show (0 : Int) < (p : Int) by omega)
  rw [e2]
  generalize x.toInt.tmod (p : Int) = z at b1 b2
  by_cases h : 0 ≤ z
  · refine ⟨z.toNat, by omega, Or.inl ⟨?_, ?_⟩⟩
    · rw [wu_z0, wu_zle (by omega) (by omega)]; exact h
    · rw [← wu_zn]; exact congrArg wu_z (by omega)
  · refine ⟨(z + p).toNat, by omega, Or.inr ⟨?_, ?_⟩⟩
    · rw [wu_z0, wu_zle (by omega) (by omega)]; omega
    · rw [← wu_zn, ← wu_zn, wu_zadd]; exact congrArg wu_z (by omega)
theorem wu_X_at45 {post : Int32 → St2 → Prop} {p t h r : Nat} {sn V st : Int32} {c d f m sd sf : Nat → Int32} {L : wu_P} (hp : 2 ≤ p ∧ p ≤ 32749) (ht : t ≤ 8) (hL : wu_Ho c d f t L) (cL : wu_Cp p L) (hh : wu_Sm h) (hr : r < p)
    (h0 : wu_st p (L ++ [(h, r)]) = none → ∀ sn' sd' sf', post (-1) (sn', nI p, V, st, c, d, f, m, sd', sf'))
    (h1 : ∀ L', wu_st p (L ++ [(h, r)]) = some L' → ∀ sn' c' d' f' m' sd' sf', wu_Fr (fun s => s = t ∨ (9 ≤ s ∧ s ≤ 21)) c d f c' d' f' → wu_Ho c' d' f' t L' → (∀ s, 9 ≤ s → s ≤ 21 → c' s = 0) → wu_Mz m' → post (nI L'.length) (sn', nI p, V, 0, c', d', f', m', sd', sf')) :
    wX_addTerm_45 post (nI t) (nI h) (nI r) sn (nI p) V st c d f m sd sf := by
  unfold wX_addTerm_45
  try dsimp only
  have l16 := cL.2.1
  refine wu_X_addPoly (s := t) (A := []) hp (by omega) hL cL.2 (by rw [List.length_nil]; omega) wu_XB_nil (fun sn1 sd1 sf1 X1 => ?_)
  rw [List.nil_append] at X1
  refine wu_X_add hp X1 (by omega) hr (by have := hh.1; omega) (fun sn2 sd2 sf2 X2 => ?_)
  refine wu_X_store hp (s := t) (by omega) X2 (by rw [wu_len1]; omega) (fun e0 => ?_) (fun L' e1 c' d' f' F HL => ?_)
  · exact br_t rfl (h0 e0 _ _ _)
  · refine br_f (by decide) ?_
    refine wu_X_clear (fun c2 m2 hc hm => ?_)
    refine ⟨vp_in_nI (by omega) (by decide), ?_⟩
    have hA : wu_Ad p (L ++ [(h, r)]) := wu_Ad_app (wu_Ok_Ad cL.2) (fun x hx => by rw [List.mem_singleton] at hx; subst hx; exact ⟨hr, by have := hh.1; dsimp only; omega⟩)
    have cL' := (wu_st_sp hA e1).1
    have HL2 : wu_Ho c2 d' f' t L' := wu_Ho_fr (wu_Cz_fr hc) (by omega) cL'.2.1 HL
    dsimp only
    rw [nI_clamp (by omega), HL2.1]
    exact h1 L' e1 _ _ _ _ _ _ _ (wu_Fr_trans (wu_Fr_mono F (fun s z => Or.inl z)) (wu_Fr_mono (wu_Cz_fr hc) (fun s z => Or.inr z))) HL2 hc.1 hm
/-- a list of Y's that is a buffer for A, of what a slot may hold -/
theorem wu_BY_st {p : Nat} {A B : wu_P} (h : wu_BY p A B) (hl : B.length ≤ 16) (hs : ∀ t, t ∈ B → wu_Sm t.1) : ∃ L, wu_st p A = some L ∧ List.Perm B L := by
  have hq := wu_nf_Y (wu_NF_BY h)
  have nb : ¬ wu_big (wu_nf p A) := by
    rw [← wu_big_perm hq]
    rintro (z | ⟨t, ht, v, hv, z⟩)
    · omega
    · have := (hs t ht).2 v hv; omega
  exact ⟨_, wu_st_s nb, hq⟩
theorem wu_Fr_wr2 {c d f : Nat → Int32} {s i : Nat} {y : Int32} (h : s * 16 ≤ i) (h' : i < s * 16 + 16) : wu_Fr (fun q => q = s) c d f c d (upd f i y) := by
  intro q hq
  refine ⟨rfl, fun j hj => ⟨rfl, pk_un ?_⟩⟩
  intro e
  exact hq (by omega)
/-! the chain's size -/
/-! the constructors -/
