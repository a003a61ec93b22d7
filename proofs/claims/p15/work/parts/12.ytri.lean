/-! the reference triangulates; its slots hold the lists up to order -/
def wu_Hp (c d f : Nat → Int32) (s : Nat) (L : wu_P) : Prop := ∃ L', List.Perm L' L ∧ wu_Ho c d f s L'
theorem wu_Hp_fr {Q : Nat → Prop} {p s : Nat} {c d f c' d' f' : Nat → Int32} {L : wu_P} (F : wu_Fr Q c d f c' d' f') (hs : ¬ Q s) (hL : wu_Cp p L) (h : wu_Hp c d f s L) : wu_Hp c' d' f' s L := by
  obtain ⟨L', hp, hL'⟩ := h
  exact ⟨L', hp, wu_Ho_fr F hs (hp.length_eq ▸ hL.2.1) hL'⟩
theorem wu_Hp_of {c d f : Nat → Int32} {s : Nat} {L : wu_P} (h : wu_Ho c d f s L) : wu_Hp c d f s L := ⟨L, List.Perm.refl _, h⟩
theorem wu_Hp_cnt {c d f : Nat → Int32} {s : Nat} {L : wu_P} (h : wu_Hp c d f s L) : c s = nI L.length := by
  obtain ⟨L', hp, hL'⟩ := h
  rw [hL'.1, hp.length_eq]
def wu_HY (c d f : Nat → Int32) (W : Nat → wu_P) : Prop := ∀ i, i < 8 → wu_Hp c d f (22 + i) (W i)
theorem wu_HY_fr {Q : Nat → Prop} {p : Nat} {c d f c' d' f' : Nat → Int32} {W : Nat → wu_P} (F : wu_Fr Q c d f c' d' f') (hQ : ∀ i, i < 8 → ¬ Q (22 + i)) (cW : wu_CW p W) (h : wu_HY c d f W) : wu_HY c' d' f' W :=
  fun i hi => wu_Hp_fr F (hQ i hi) (cW i hi) (h i hi)
theorem wu_HY_up {Q : Nat → Prop} {p : Nat} {c d f c' d' f' : Nat → Int32} {W : Nat → wu_P} {i : Nat} {L : wu_P} (F : wu_Fr Q c d f c' d' f') (hQ : ∀ j, j < 8 → j ≠ i → ¬ Q (22 + j)) (cW : wu_CW p W) (h : wu_HY c d f W) (hL : wu_Hp c' d' f' (22 + i) L) : wu_HY c' d' f' (wu_up W i L) := by
  intro j hj
  by_cases e : j = i
  · rw [e, wu_up_s]; exact hL
  · rw [wu_up_n e]; exact wu_Hp_fr F (hQ j hj e) (cW j hj) (h j hj)
def wu_Qx (s : Nat) : Prop := (22 ≤ s ∧ s < 32)
theorem wu_ct_le {nv : Nat} {w : Int} {W : Nat → wu_P} : ∀ n i, wu_ct nv w W n i ≤ n := by
  intro n
  induction n with
  | zero => intro i; exact Nat.le_refl _
  | succ n ih =>
    intro i
    rw [wu_ct]
    have := ih (i + 1)
    by_cases h : wu_cl nv (W i) = w
    · rw [if_pos h]; omega
    · rw [if_neg h]; omega
