/-! the reference's buffer -/
/-! its products -/
theorem wu_neg {p x y : Nat} (hp : 0 < p) : (p - x * y % p) % p = x * (p - 1) % p * y % p := by
  rw [Nat.mod_mul_mod]
  have e1 : x * (p - 1) * y + x * y = x * y * p := by
    obtain ⟨q, rfl⟩ : ∃ q, p = q + 1 := ⟨p - 1, by omega⟩
    rw [Nat.add_sub_cancel, Nat.mul_add, Nat.mul_one, Nat.mul_right_comm x q y]
  generalize x * (p - 1) * y = u at e1 ⊢
  generalize x * y = q at e1 ⊢
  have h1 : (u % p + q % p) % p = 0 := by rw [← Nat.add_mod, e1]; exact Nat.mul_mod_left _ _
  have hu := Nat.mod_lt u hp
  have hq := Nat.mod_lt q hp
  by_cases hlt : u % p + q % p < p
  · rw [Nat.mod_eq_of_lt hlt] at h1
    rw [show p - q % p = p by omega, Nat.mod_self]; omega
  · rw [Nat.mod_eq_sub_mod (by omega), Nat.mod_eq_of_lt (by omega)] at h1
    rw [Nat.mod_eq_of_lt (by omega)]; omega
theorem wu_mul1 {p x y : Nat} : x * 1 % p * y % p = x * y % p := by rw [Nat.mul_one, Nat.mod_mul_mod]
def wu_sh (sh : Nat) (I : wu_P) : wu_P := I.map (fun i => (i.1 + sh, i.2))
theorem wu_sh_cons (sh : Nat) (t : Nat × Nat) (R : wu_P) : wu_sh sh (t :: R) = (t.1 + sh, t.2) :: wu_sh sh R := rfl
/-! storing -/
