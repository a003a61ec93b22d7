/-! codes of callers and held codes -/
theorem wu_or (a b : Nat) : nI a ||| nI b = nI (a ||| b) := by
  apply Int32.toBitVec_inj.1
  show BitVec.ofNat 32 a ||| BitVec.ofNat 32 b = BitVec.ofNat 32 (a ||| b)
  exact BitVec.ofNat_or.symm
theorem wu_orp {a e k : Nat} (h : a < 2 ^ k) : a ||| e * 2 ^ k = a + e * 2 ^ k := by
  rw [Nat.or_comm, Nat.mul_comm, ← Nat.two_pow_add_eq_or_of_lt h e, Nat.add_comm]
def wu_hc (c : Nat) : Nat → Nat
  | 0 => 0
  | n + 1 => wu_hc c n + c / 16 ^ n % 16 * 32 ^ n
def wu_oc (c : Nat) : Nat → Nat
  | 0 => 0
  | n + 1 => wu_oc c n + wu_ex n c * 16 ^ n
theorem wu_hc_lt (c n : Nat) : wu_hc c n < 32 ^ n := by
  induction n with
  | zero => exact Nat.zero_lt_one
  | succ n ih =>
    rw [wu_hc, Nat.pow_succ]
    have h1 : c / 16 ^ n % 16 * 32 ^ n ≤ 15 * 32 ^ n := Nat.mul_le_mul_right _ (by have := Nat.mod_lt (c / 16 ^ n) (show 0 < 16 by decide); omega)
    generalize 32 ^ n = y at ih h1 ⊢
    omega
theorem wu_oc_lt {c : Nat} (hc : wu_Sm c) : ∀ n, n ≤ 6 → wu_oc c n < 16 ^ n := by
  intro n
  induction n with
  | zero => intro _; exact Nat.zero_lt_one
  | succ n ih =>
    intro hn
    have ih := ih (by omega)
    rw [wu_oc, Nat.pow_succ]
    have h1 : wu_ex n c * 16 ^ n ≤ 15 * 16 ^ n := Nat.mul_le_mul_right _ (hc.2 n (by omega))
    generalize 16 ^ n = y at ih h1 ⊢
    omega
theorem wu_hc_ex (c : Nat) : ∀ n w, wu_ex w (wu_hc c n) = if w < n then c / 16 ^ w % 16 else 0 := by
  intro n
  induction n with
  | zero => intro w; rw [if_neg (by omega)]; exact wu_exz w
  | succ n ih =>
    intro w
    have d15 : ∀ w, c / 16 ^ w % 16 ≤ 15 := fun w => by have := Nat.mod_lt (c / 16 ^ w) (show 0 < 16 by decide); omega
    rw [wu_hc, wu_exadd w, ih w, wu_exmono n w _ (by have := d15 n; omega)]
    · by_cases h1 : w < n
      · rw [if_pos h1, if_neg (by omega), if_pos (by omega)]; rfl
      · by_cases h2 : w = n
        · subst h2; rw [if_neg h1, if_pos rfl, if_pos (by omega), Nat.zero_add]
        · rw [if_neg h1, if_neg h2, if_neg (by omega)]
    · intro x _
      rw [ih x]
      by_cases h : x < n
      · rw [if_pos h]; exact d15 x
      · rw [if_neg h]; exact Nat.zero_le _
    · intro x _
      rw [wu_exmono n x _ (by have := d15 n; omega)]
      by_cases h : x = n
      · rw [if_pos h]; exact d15 n
      · rw [if_neg h]; exact Nat.zero_le _
theorem wu_hc_Sm (c : Nat) : wu_Sm (wu_hc c 6) := by
  refine wu_Sm_of ?_ (fun v hv => ?_)
  · have := wu_hc_lt c 6
    exact Nat.lt_of_lt_of_le this (by decide)
  · rw [wu_hc_ex, if_pos hv]
    have := Nat.mod_lt (c / 16 ^ v) (show 0 < 16 by decide)
    omega
theorem wu_X_held_4 {post : Int32 → Prop} {c : Nat} (hc : c < 2147483648) (H : post (nI (wu_hc c 6))) : ∀ (l v n : Nat), v + l = 6 → l < n → wX_heldCode_4 post (nI c) n (nI (wu_hc c v)) (nI v) := by
  intro l
  induction l with
  | zero =>
    intro v n e hn
    obtain ⟨n, rfl⟩ : ∃ k, n = k + 1 := ⟨n - 1, by omega⟩
    have : v = 6 := by omega
    subst this
    exact pk_le 6 6 (fun _ => H) (fun h => absurd h (by omega)) rfl rfl (by omega) (by omega)
  | succ l ih =>
    intro v n e hn
    obtain ⟨n, rfl⟩ : ∃ k, n = k + 1 := ⟨n - 1, by omega⟩
    refine pk_le 6 v (fun h => absurd h (by omega)) (fun _ x3 e3 x1 e1 x2 e2 => ?_) rfl rfl (by omega) (by omega)
    rw [wu_shr4 hc (by omega)] at e3
    subst e3
    have hlt := wu_hc_lt c v
    rw [wu_shl5 _ (by omega), pk_mul, wu_or, ← wu_p5, wu_orp (by rw [wu_p5]; exact hlt), wu_p5] at e1
    subst e1 e2
    rw [nI_1]
    exact ih (v + 1) n (by omega) (by omega)
theorem wu_X_held {post : Int32 → Prop} {c : Nat} (hc : c < 2147483648) (H : post (nI (wu_hc c 6))) : wpX_heldCode post (nI c) := ⟨7, wu_X_held_4 hc H 6 0 7 rfl (by omega)⟩
theorem wu_Y_inner_4 {post : Int32 → Prop} {P V st bn : Int32} {a1 a2 a3 a4 a5 a6 : Nat → Int32} {c : Nat} (hc : c < 2147483648) (H : post (nI (wu_hc c 6))) : ∀ (l v n : Nat), v + l = 6 → l < n → wY_toInner_4 post (nI c) P V st bn a1 a2 a3 a4 a5 a6 n (nI (wu_hc c v)) (nI v) := by
  intro l
  induction l with
  | zero =>
    intro v n e hn
    obtain ⟨n, rfl⟩ : ∃ k, n = k + 1 := ⟨n - 1, by omega⟩
    have : v = 6 := by omega
    subst this
    exact pk_le 6 6 (fun _ => H) (fun h => absurd h (by omega)) rfl rfl (by omega) (by omega)
  | succ l ih =>
    intro v n e hn
    obtain ⟨n, rfl⟩ : ∃ k, n = k + 1 := ⟨n - 1, by omega⟩
    refine pk_le 6 v (fun h => absurd h (by omega)) (fun _ x1 e1 x2 e2 => ?_) rfl rfl (by omega) (by omega)
    rw [wu_shr4 hc (by omega), wu_shl5 _ (by omega), pk_mul, nI_add] at e1
    subst e1 e2
    rw [nI_1]
    exact ih (v + 1) n (by omega) (by omega)
theorem wu_Y_inner {post : Int32 → Prop} {P V st bn : Int32} {a1 a2 a3 a4 a5 a6 : Nat → Int32} {c : Nat} (hc : c < 2147483648) (H : post (nI (wu_hc c 6))) : wpY_toInner post (P, V, st, bn, a1, a2, a3, a4, a5, a6) (nI c) := ⟨7, wu_Y_inner_4 hc H 6 0 7 rfl (by omega)⟩
theorem wu_X_call_4 {post : Int32 → Prop} {c : Nat} (hc : wu_Sm c) (H : post (nI (wu_oc c 6))) : ∀ (l v n : Nat), v + l = 6 → l < n → wX_callersCode_4 post (nI c) n (nI (wu_oc c v)) (nI v) := by
  have hc31 : c < 2 ^ 31 := by have := hc.1; omega
  intro l
  induction l with
  | zero =>
    intro v n e hn
    obtain ⟨n, rfl⟩ : ∃ k, n = k + 1 := ⟨n - 1, by omega⟩
    have : v = 6 := by omega
    subst this
    exact pk_le 6 6 (fun _ => H) (fun h => absurd h (by omega)) rfl rfl (by omega) (by omega)
  | succ l ih =>
    intro v n e hn
    obtain ⟨n, rfl⟩ : ∃ k, n = k + 1 := ⟨n - 1, by omega⟩
    refine pk_le 6 v (fun h => absurd h (by omega)) (fun _ => ?_) rfl rfl (by omega) (by omega)
    intro x1 e1 x2 e2
    have hlt := wu_oc_lt hc v (by omega)
    rw [wu_shr hc31 (by omega), wu_shl4 _ (by omega), pk_mul, wu_or, ← wu_p4, wu_orp (by rw [wu_p4]; exact hlt), wu_p4] at e1
    subst e1 e2
    rw [nI_1]
    exact ih (v + 1) n (by omega) (by omega)
theorem wu_X_call {post : Int32 → Prop} {c : Nat} (hc : wu_Sm c) (H : post (nI (wu_oc c 6))) : wpX_callersCode post (nI c) := ⟨7, wu_X_call_4 hc H 6 0 7 rfl (by omega)⟩
theorem wu_Y_outer_4 {post : Int32 → Prop} {P V st bn : Int32} {a1 a2 a3 a4 a5 a6 : Nat → Int32} {c : Nat} (hc : c < 2147483648) (H : post (nI (wu_oc c 6))) : ∀ (l v n : Nat), v + l = 6 → l < n → wY_toOuter_4 post (nI c) P V st bn a1 a2 a3 a4 a5 a6 n (nI (wu_oc c v)) (nI v) := by
  intro l
  induction l with
  | zero =>
    intro v n e hn
    obtain ⟨n, rfl⟩ : ∃ k, n = k + 1 := ⟨n - 1, by omega⟩
    have : v = 6 := by omega
    subst this
    exact pk_le 6 6 (fun _ => H) (fun h => absurd h (by omega)) rfl rfl (by omega) (by omega)
  | succ l ih =>
    intro v n e hn
    obtain ⟨n, rfl⟩ : ∃ k, n = k + 1 := ⟨n - 1, by omega⟩
    refine pk_le 6 v (fun h => absurd h (by omega)) (fun _ x1 e1 x2 e2 => ?_) rfl rfl (by omega) (by omega)
    rw [wu_shr hc (by omega), wu_shl4 _ (by omega), pk_mul, nI_add] at e1
    subst e1 e2
    rw [nI_1]
    exact ih (v + 1) n (by omega) (by omega)
theorem wu_Y_outer {post : Int32 → Prop} {P V st bn : Int32} {a1 a2 a3 a4 a5 a6 : Nat → Int32} {c : Nat} (hc : c < 2147483648) (H : post (nI (wu_oc c 6))) : wpY_toOuter post (P, V, st, bn, a1, a2, a3, a4, a5, a6) (nI c) := ⟨7, wu_Y_outer_4 hc H 6 0 7 rfl (by omega)⟩
/-! the selected slot -/
theorem wu_slotAt {first len : Nat} {x2 : Int32} (hl : x2 = nI len) (hlen : len < 2147483648) (i : Int32) : ∃ r : Int32, (r = -1 ∧ ¬ (∃ j : Nat, j < len ∧ i = nI j) ∨ ∃ j : Nat, j < len ∧ i = nI j ∧ r = nI (first + j)) ∧ ∀ post : Int32 → Prop, post r → wpX_slotAt post (nI first) i x2 := by
  subst hl
  by_cases h : i < 0
  · refine ⟨-1, Or.inl ⟨rfl, ?_⟩, fun post hp => br_t h hp⟩
    rintro ⟨j, hj, rfl⟩
    exact nI_pos (by omega) h
  · obtain ⟨j, hj, rfl⟩ := nI_of h
    by_cases h2 : j < len
    · exact ⟨nI (first + j), Or.inr ⟨j, h2, rfl, rfl⟩, fun post hp => br_f h (br_t (nI_lt h2 (by omega)) (by rw [nI_add]; exact hp))⟩
    · refine ⟨-1, Or.inl ⟨rfl, ?_⟩, fun post hp => br_f h (br_f (nI_nlt (by omega) hj) hp)⟩
      rintro ⟨k, hk, e⟩
      rw [nI_eq hj (by omega)] at e
      omega
theorem wu_sel {nv : Nat} {sn P st P' st' bn : Int32} {c d f m sd sf c' d' f' m' bc bf : Nat → Int32} (hnv : 1 ≤ nv ∧ nv ≤ 6) (k i : Int32) : ∃ r : Int32, (r = -1 ∨ ∃ s : Nat, s ≤ 21 ∧ r = nI s) ∧ (∀ post : Int32 → Prop, post r → wpX_selectedSlot post (sn, P, nI nv, st, c, d, f, m, sd, sf) k i) ∧ (∀ post : Int32 → Prop, post r → wpY_sel post (P', nI nv, st', bn, c', d', f', m', bc, bf) k i) := by
  by_cases k0 : k = 0
  · subst k0
    obtain ⟨r, hr, hX⟩ := wu_slotAt (first := 0) (len := 8) (x2 := 8) rfl (by decide) i
    refine ⟨r, ?_, fun post hp => br_f (by decide) (br_f (by decide) (br_t rfl (hX _ hp))), fun post hp => br_t rfl ?_⟩
    · rcases hr with ⟨h, _⟩ | ⟨j, hj, _, h⟩
      · exact Or.inl h
      · exact Or.inr ⟨0 + j, by omega, h⟩
    · rcases hr with ⟨rfl, hn⟩ | ⟨j, hj, rfl, rfl⟩
      · have h16 : wY_sel_16 post 0 i P' (nI nv) st' bn c' d' f' m' bc bf := br_f (by decide) (br_f (by decide) (br_f (by decide) (br_f (by decide) hp)))
        refine br_c (fun _ => h16) (fun h => ?_)
        obtain ⟨j, hj, rfl⟩ := nI_of h
        exact pk_le 8 j (fun _ => h16) (fun z => absurd ⟨j, z, rfl⟩ hn) rfl rfl (by omega) (by omega)
      · rw [Nat.zero_add] at hp
        exact br_f (nI_pos (by omega)) (br_f (nI_ge hj (by decide)) hp)
  · by_cases k1 : k = 1
    · subst k1
      obtain ⟨r, hr, hX⟩ := wu_slotAt (first := 8) (len := 1) (x2 := 1) rfl (by decide) i
      refine ⟨r, ?_, fun post hp => br_f (by decide) (br_f (by decide) (br_f (by decide) (br_t rfl (hX _ hp)))), fun post hp => br_f (by decide) (br_t rfl ?_)⟩
      · rcases hr with ⟨h, _⟩ | ⟨j, hj, _, h⟩
        · exact Or.inl h
        · exact Or.inr ⟨8 + j, by omega, h⟩
      · rcases hr with ⟨rfl, hn⟩ | ⟨j, hj, rfl, rfl⟩
        · have h28 : wY_sel_28 post 1 i P' (nI nv) st' bn c' d' f' m' bc bf := br_f (by decide) (br_f (by decide) (br_f (by decide) hp))
          exact br_c (fun z => absurd ⟨0, by decide, z⟩ hn) (fun _ => h28)
        · have : j = 0 := by omega
          subst this
          exact br_t rfl hp
    · by_cases k2 : k = 2
      · subst k2
        obtain ⟨r, hr, hX⟩ := wu_slotAt (first := 9) (len := nv) (x2 := nI nv) rfl (by omega) i
        refine ⟨r, ?_, fun post hp => br_f (by decide) (br_f (by decide) (br_f (by decide) (br_f (by decide) (br_t rfl (hX _ hp))))), fun post hp => br_f (by decide) (br_f (by decide) (br_t rfl ?_))⟩
        · rcases hr with ⟨h, _⟩ | ⟨j, hj, _, h⟩
          · exact Or.inl h
          · exact Or.inr ⟨9 + j, by omega, h⟩
        · rcases hr with ⟨rfl, hn⟩ | ⟨j, hj, rfl, rfl⟩
          · have h50 : wY_sel_50 post 2 i P' (nI nv) st' bn c' d' f' m' bc bf := br_f (by decide) (br_f (by decide) hp)
            refine br_c (fun _ => h50) (fun h => ?_)
            obtain ⟨j, hj, rfl⟩ := nI_of h
            exact pk_le nv j (fun _ => h50) (fun z => absurd ⟨j, z, rfl⟩ hn) rfl rfl (by omega) (by omega)
          · exact br_f (nI_pos (by omega)) (br_f (nI_ge hj (by omega)) (by rw [show (9 : Int32) + nI j = nI (9 + j) from nI_add 9 j]; exact hp))
      · by_cases k3 : k = 3
        · subst k3
          obtain ⟨r, hr, hX⟩ := wu_slotAt (first := 15) (len := nv) (x2 := nI nv) rfl (by omega) i
          refine ⟨r, ?_, fun post hp => br_f (by decide) (br_f (by decide) (br_f (by decide) (br_f (by decide) (br_f (by decide) (br_t rfl (hX _ hp)))))), fun post hp => br_f (by decide) (br_f (by decide) (br_f (by decide) (br_t rfl ?_)))⟩
          · rcases hr with ⟨h, _⟩ | ⟨j, hj, _, h⟩
            · exact Or.inl h
            · exact Or.inr ⟨15 + j, by omega, h⟩
          · rcases hr with ⟨rfl, hn⟩ | ⟨j, hj, rfl, rfl⟩
            · have h72 : wY_sel_72 post 3 i P' (nI nv) st' bn c' d' f' m' bc bf := br_f (by decide) hp
              refine br_c (fun _ => h72) (fun h => ?_)
              obtain ⟨j, hj, rfl⟩ := nI_of h
              exact pk_le nv j (fun _ => h72) (fun z => absurd ⟨j, z, rfl⟩ hn) rfl rfl (by omega) (by omega)
            · exact br_f (nI_pos (by omega)) (br_f (nI_ge hj (by omega)) (by rw [show (15 : Int32) + nI j = nI (15 + j) from nI_add 15 j]; exact hp))
        · by_cases k4 : k = 4
          · subst k4
            obtain ⟨r, hr, hX⟩ := wu_slotAt (first := 21) (len := 1) (x2 := 1) rfl (by decide) i
            refine ⟨r, ?_, fun post hp => br_f (by decide) (br_f (by decide) (br_f (by decide) (br_f (by decide) (br_f (by decide) (br_f (by decide) (br_t rfl (hX _ hp))))))), fun post hp => br_f (by decide) (br_f (by decide) (br_f (by decide) (br_f (by decide) (br_t rfl ?_))))⟩
            · rcases hr with ⟨h, _⟩ | ⟨j, hj, _, h⟩
              · exact Or.inl h
              · exact Or.inr ⟨21 + j, by omega, h⟩
            · rcases hr with ⟨rfl, hn⟩ | ⟨j, hj, rfl, rfl⟩
              · exact br_f (fun z => hn ⟨0, by decide, z⟩) hp
              · have : j = 0 := by omega
                subst this
                exact br_t rfl hp
          · exact ⟨-1, Or.inl rfl, fun post hp => br_c (fun _ => hp) (fun _ => br_c (fun _ => hp) (fun _ => br_f k0 (br_f k1 (br_f k2 (br_f k3 (br_f k4 trivial)))))), fun post hp => br_f k0 (br_f k1 (br_f k2 (br_f k3 (br_f k4 hp))))⟩
/-! the j-th term -/
def wu_rk (L : wu_P) (x : Nat) : Nat := (L.filter (fun t => decide (t.1 < x))).length
theorem wu_rk_perm {L L' : wu_P} (h : List.Perm L L') (x : Nat) : wu_rk L x = wu_rk L' x := (h.filter _).length_eq
theorem wu_rk_at : ∀ (L : wu_P), wu_Srt L → ∀ (j : Nat) (hj : j < L.length), wu_rk L (L[j]'hj).1 = j := by
  intro L
  induction L with
  | nil => intro _ j hj; exact absurd hj (Nat.not_lt_zero j)
  | cons a L ih =>
    intro hs j hj
    unfold wu_Srt at hs
    rw [List.pairwise_cons] at hs
    cases j with
    | zero =>
      show ((a :: L).filter (fun t => decide (t.1 < a.1))).length = 0
      rw [List.filter_cons_of_neg (by simp)]
      rw [List.length_eq_zero_iff, List.filter_eq_nil_iff]
      intro t ht
      have := hs.1 t ht
      simp only [decide_eq_true_eq]
      omega
    | succ j =>
      have hj' : j < L.length := by simp only [List.length_cons] at hj; omega
      have h1 := ih hs.2 j hj'
      have h2 := hs.1 (L[j]'hj') (List.getElem_mem hj')
      show ((a :: L).filter (fun t => decide (t.1 < (L[j]'hj').1))).length = j + 1
      rw [List.filter_cons_of_pos (by simpa using h2), List.length_cons]
      exact congrArg (· + 1) h1
