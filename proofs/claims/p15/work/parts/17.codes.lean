/-! codes of callers and held codes -/
theorem wu_or (a b : Nat) : nI a ||| nI b = nI (a ||| b) := by
  apply Int32.toBitVec_inj.1
  show BitVec.ofNat 32 a ||| BitVec.ofNat 32 b = BitVec.ofNat 32 (a ||| b)
  exact BitVec.ofNat_or.symm
theorem wu_orp {a e k : Nat} (h : a < 2 ^ k) : a ||| e * 2 ^ k = a + e * 2 ^ k := by
  rw [Nat.or_comm, Nat.mul_comm, ← Nat.two_pow_add_eq_or_of_lt h e, Nat.add_comm]
def wu_hc (c : Nat) : Nat → Nat
  | 0 => 0
  | n + 1 => wu_hc c n + c / 16 ^ n % 16 * 32 ^ n
theorem wu_hc_lt (c n : Nat) : wu_hc c n < 32 ^ n := by
  induction n with
  | zero => exact Nat.zero_lt_one
  | succ n ih =>
    rw [wu_hc, Nat.pow_succ]
    have h1 : c / 16 ^ n % 16 * 32 ^ n ≤ 15 * 32 ^ n := Nat.mul_le_mul_right _ (by have := Nat.mod_lt (c / 16 ^ n) (show 0 < 16 by decide); omega)
    generalize 32 ^ n = y at ih h1 ⊢
    omega
theorem wu_hc_ex (c : Nat) : ∀ n w, wu_ex w (wu_hc c n) = if w < n then c / 16 ^ w % 16 else 0 := by
  intro n
  induction n with
  | zero => intro w; rw [if_neg (by omega)]; exact wu_exz w
  | succ n ih =>
    intro w
    have d15 : ∀ w, c / 16 ^ w % 16 ≤ 15 := fun w => by have := Nat.mod_lt (c / 16 ^ w) (show 0 < 16 by decide); omega
    rw [wu_hc, wu_exadd w, ih w, wu_exmono n w _ (by have := d15 n; omega)]
    · by_cases h1 : w < n
      · rw [if_pos h1, if_neg (by omega), if_pos (by omega)]; rfl
      · by_cases h2 : w = n
        · subst h2; rw [if_neg h1, if_pos rfl, if_pos (by omega), Nat.zero_add]
        · rw [if_neg h1, if_neg h2, if_neg (by omega)]
    · intro x _
      rw [ih x]
      by_cases h : x < n
      · rw [if_pos h]; exact d15 x
      · rw [if_neg h]; exact Nat.zero_le _
    · intro x _
      rw [wu_exmono n x _ (by have := d15 n; omega)]
      by_cases h : x = n
      · rw [if_pos h]; exact d15 n
      · rw [if_neg h]; exact Nat.zero_le _
theorem wu_hc_Sm (c : Nat) : wu_Sm (wu_hc c 6) := by
  refine wu_Sm_of ?_ (fun v hv => ?_)
  · have := wu_hc_lt c 6
    exact Nat.lt_of_lt_of_le this (by decide)
  · rw [wu_hc_ex, if_pos hv]
    have := Nat.mod_lt (c / 16 ^ v) (show 0 < 16 by decide)
    omega
theorem wu_X_held_4 {post : Int32 → Prop} {c : Nat} (hc : c < 2147483648) (H : post (nI (wu_hc c 6))) : ∀ (l v n : Nat), v + l = 6 → l < n → wX_heldCode_4 post (nI c) n (nI (wu_hc c v)) (nI v) := by
  intro l
  induction l with
  | zero =>
    intro v n e hn
    obtain ⟨n, rfl⟩ : ∃ k, n = k + 1 := ⟨n - 1, by omega⟩
    have : v = 6 := by omega
    subst this
    exact pk_le 6 6 (fun _ => H) (fun h => absurd h (by omega)) rfl rfl (by omega) (by omega)
  | succ l ih =>
    intro v n e hn
    obtain ⟨n, rfl⟩ : ∃ k, n = k + 1 := ⟨n - 1, by omega⟩
    refine pk_le 6 v (fun h => absurd h (by omega)) (fun _ x3 e3 x1 e1 x2 e2 => ?_) rfl rfl (by omega) (by omega)
    rw [wu_shr4 hc (by omega)] at e3
    subst e3
    have hlt := wu_hc_lt c v
    rw [wu_shl5 _ (by omega), pk_mul, wu_or, ← wu_p5, wu_orp (by rw [wu_p5]; exact hlt), wu_p5] at e1
    subst e1 e2
    rw [nI_1]
    exact ih (v + 1) n (by omega) (by omega)
/-! the selected slot -/
/-! the j-th term -/
def wu_rk (L : wu_P) (x : Nat) : Nat := (L.filter (fun t => decide (t.1 < x))).length
theorem wu_rk_perm {L L' : wu_P} (h : List.Perm L L') (x : Nat) : wu_rk L x = wu_rk L' x := (h.filter _).length_eq
theorem wu_rk_at : ∀ (L : wu_P), wu_Srt L → ∀ (j : Nat) (hj : j < L.length), wu_rk L (L[j]'hj).1 = j := by
  intro L
  induction L with
  | nil => intro _ j hj; exact absurd hj (Nat.not_lt_zero j)
  | cons a L ih =>
    intro hs j hj
    unfold wu_Srt at hs
    rw [List.pairwise_cons] at hs
    cases j with
    | zero =>
      show ((a :: L).filter (fun t => decide (t.1 < a.1))).length = 0
      rw [List.filter_cons_of_neg (by simp)]
      rw [List.length_eq_zero_iff, List.filter_eq_nil_iff]
      intro t ht
      have := hs.1 t ht
      simp only [decide_eq_true_eq]
      omega
    | succ j =>
      have hj' : j < L.length := by simp only [List.length_cons] at hj; omega
      have h1 := ih hs.2 j hj'
      have h2 := hs.1 (L[j]'hj') (List.getElem_mem hj')
      show ((a :: L).filter (fun t => decide (t.1 < (L[j]'hj').1))).length = j + 1
      rw [List.filter_cons_of_pos (by simpa using h2), List.length_cons]
      exact congrArg (· + 1) h1
