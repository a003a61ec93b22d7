/-! the reference divides -/
theorem wu_Ok_0 {p : Nat} {I : wu_P} (h : wu_Ok p I) : ∀ t, t ∈ I → t.2 < p ∧ wu_Sm (t.1 + 0) := fun t ht => ⟨(h.2.2 t ht).2.1, (h.2.2 t ht).2.2⟩
