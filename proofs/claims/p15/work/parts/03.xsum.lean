/-! the component's sum -/
theorem wu_z0 : (0 : Int32) = wu_z 0 := by decide
theorem wu_len1 (B : wu_P) (t : Nat × Nat) : (B ++ [t]).length = B.length + 1 := by simp
theorem wu_At_put {sd sf : Nat → Int32} {B1 D : wu_P} {cc k : Nat} (h1 : wu_At sd sf 0 B1) (h2 : wu_At sd sf (B1.length + 1) D) : wu_At (upd sd B1.length (nI cc)) (upd sf B1.length (nI k)) 0 (B1 ++ (cc, k) :: D) := by
  refine (wu_At_app B1 _ 0).mpr ⟨wu_At_congr B1 0 (fun i _ hi => ⟨pk_un (by omega), pk_un (by omega)⟩) h1, ?_⟩
  rw [Nat.zero_add]
  exact ⟨pk_us, pk_us, wu_At_congr D _ (fun i hi _ => ⟨pk_un (by omega), pk_un (by omega)⟩) h2⟩
theorem wu_X_76 {post : St2 → Prop} {cc k : Nat} {P V st : Int32} {c d f m : Nat → Int32} (B1 : wu_P) (N : Nat) (hN : N < 512) :
    ∀ (l : Nat) (C D : wu_P) (sd sf : Nat → Int32) (n : Nat), C.length = l → B1.length + C.length + D.length = N → wu_At sd sf 0 (B1 ++ C) → wu_At sd sf (B1.length + C.length + 1) D → l < n →
    (∀ sd' sf', wu_At sd' sf' 0 (B1 ++ (cc, k) :: (C ++ D)) → post (nI (N + 1), P, V, st, c, d, f, m, sd', sf')) →
    wX_addToSum_76 post (nI cc) (nI k) (nI B1.length) (nI N) P V st n (nI (B1.length + C.length)) c d f m sd sf := by
  intro l
  induction l with
  | zero =>
    intro C D sd sf n hC hL h1 h2 hn H
    obtain ⟨n, rfl⟩ : ∃ k, n = k + 1 := ⟨n - 1, by omega⟩
    obtain rfl := List.length_eq_zero_iff.mp hC
    rw [List.append_nil] at h1
    have hlt : B1.length < 512 := by omega
    have hin : vp_in (nI B1.length) 512 := vp_in_nI hlt (by decide)
    have hcl : (nI B1.length).toNatClampNeg = B1.length := nI_clamp (by omega)
    refine pk_le (B1.length + 0) B1.length (fun _ => ⟨hin, fun sd' e1 => ⟨hin, fun sf' e2 => fun sn' e3 => ?_⟩⟩) (fun h => absurd h (by omega)) rfl rfl (by omega) (by omega)
    subst e1 e2 e3
    rw [nI_1, hcl]
    exact H _ _ (wu_At_put h1 h2)
  | succ l ih =>
    intro C D sd sf n hC hL h1 h2 hn H
    obtain ⟨n, rfl⟩ : ∃ k, n = k + 1 := ⟨n - 1, by omega⟩
    rcases wu_snoc C with rfl | ⟨C', t, rfl⟩
    · exact absurd hC (by simp)
    rw [wu_len1] at hC hL h2 ⊢
    rw [← List.append_assoc] at h1
    have h1' := (wu_At_app (B1 ++ C') [t] 0).mp h1
    rw [Nat.zero_add, List.length_append] at h1'
    have g1 : sd (B1.length + C'.length) = nI t.1 := h1'.2.1
    have g2 : sf (B1.length + C'.length) = nI t.2 := h1'.2.2.1
    have hin : vp_in (nI (B1.length + (C'.length + 1)) - 1) 512 := pk_in (B1.length + C'.length) 512 (by omega) (nI_pred _)
    have hin2 : vp_in (nI (B1.length + (C'.length + 1))) 512 := vp_in_nI (by omega) (by decide)
    have hcl : (nI (B1.length + (C'.length + 1)) - 1).toNatClampNeg = B1.length + C'.length := pk_cl _ (nI_pred _) (by omega)
    have hcl2 : (nI (B1.length + (C'.length + 1))).toNatClampNeg = B1.length + (C'.length + 1) := nI_clamp (by omega)
    refine pk_le (B1.length + (C'.length + 1)) B1.length (fun h => absurd h (by omega)) (fun _ => ⟨hin, hin2, fun sd' e1 => ⟨hin, hin2, fun sf' e2 => fun x e3 => ?_⟩⟩) rfl rfl (by omega) (by omega)
    subst e1 e2 e3
    rw [hcl, hcl2, g1, g2, show nI (B1.length + (C'.length + 1)) + (-1) = nI (B1.length + C'.length) from pk_m1 _]
    refine ih C' (t :: D) _ _ n (by omega) (by simp only [List.length_cons]; omega) ?_ ?_ (by omega) ?_
    · exact wu_At_congr _ _ (fun i _ hi => by rw [List.length_append] at hi; exact ⟨pk_un (by omega), pk_un (by omega)⟩) h1'.1
    · refine ⟨?_, ?_, ?_⟩
      · rw [show B1.length + C'.length + 1 = B1.length + (C'.length + 1) by omega]; exact pk_us
      · rw [show B1.length + C'.length + 1 = B1.length + (C'.length + 1) by omega]; exact pk_us
      · rw [show B1.length + C'.length + 1 + 1 = B1.length + (C'.length + 1) + 1 by omega]
        exact wu_At_congr _ _ (fun i hi _ => ⟨pk_un (by omega), pk_un (by omega)⟩) h2
    · intro sd' sf' hh
      refine H sd' sf' ?_
      rw [List.append_assoc]
      exact hh
theorem wu_X_5 {post : St2 → Prop} {cc k : Nat} {P V st : Int32} {c d f m sd sf : Nat → Int32} (B : wu_P) (hB : ∀ t, t ∈ B → t.1 < 1073741824) (hc : cc < 1073741824) (hl : B.length ≤ 512) (hAt : wu_At sd sf 0 B)
    (H : ∀ B1 B2, B = B1 ++ B2 → (∀ t, t ∈ B2 → cc < t.1) → (B1 = [] ∨ ∃ B0 t, B1 = B0 ++ [t] ∧ t.1 ≤ cc) → wX_addToSum_30 post (nI cc) (nI k) (nI B1.length) (nI B.length) P V st c d f m sd sf) :
    ∀ (l : Nat) (B1 B2 : wu_P) (n : Nat), B1.length = l → B = B1 ++ B2 → (∀ t, t ∈ B2 → cc < t.1) → l < n → wX_addToSum_5 post (nI cc) (nI k) (nI B.length) P V st c d f m sd sf n (nI B1.length) := by
  intro l
  induction l with
  | zero =>
    intro B1 B2 n h1 e h2 hn
    obtain ⟨n, rfl⟩ : ∃ k, n = k + 1 := ⟨n - 1, by omega⟩
    obtain rfl := List.length_eq_zero_iff.mp h1
    exact pk_le 0 0 (fun _ => H [] B2 e h2 (Or.inl rfl)) (fun h => absurd h (by omega)) rfl rfl
  | succ l ih =>
    intro B1 B2 n h1 e h2 hn
    obtain ⟨n, rfl⟩ : ∃ k, n = k + 1 := ⟨n - 1, by omega⟩
    rcases wu_snoc B1 with rfl | ⟨B0, t, rfl⟩
    · exact absurd h1 (by simp)
    have hle : B0.length + 1 ≤ B.length := by rw [e, List.length_append, wu_len1]; omega
    have ht : t ∈ B := by rw [e]; simp
    have g : sd B0.length = nI t.1 := by
      have h := hAt
      rw [e, List.append_assoc] at h
      have h := ((wu_At_app B0 ([t] ++ B2) 0).mp h).2
      rw [Nat.zero_add] at h
      exact h.1
    have h30 := H (B0 ++ [t]) B2 e h2
    rw [wu_len1] at h1 h30 ⊢
    have hin : vp_in (nI (B0.length + 1) - 1) 512 := pk_in B0.length 512 (by omega) (nI_pred _)
    have hcl : (nI (B0.length + 1) - 1).toNatClampNeg = B0.length := pk_cl _ (nI_pred _) (by omega)
    refine pk_le (B0.length + 1) 0 (fun h => absurd h (by omega)) (fun _ => ⟨hin, pk_lt cc t.1 (fun h => ?_) (fun h => ?_) rfl (by rw [hcl]; exact g) (by omega) (by have := hB t ht; omega)⟩) rfl rfl (by omega) (by omega)
    · intro x ex
      subst ex
      rw [pk_m1]
      refine ih B0 (t :: B2) n (by omega) (by rw [e, List.append_assoc]; rfl) (fun s hs => ?_) (by omega)
      rcases List.mem_cons.mp hs with rfl | hs
      · exact h
      · exact h2 s hs
    · exact h30 (Or.inr ⟨B0, t, rfl, h⟩)
theorem wu_X_add {post : St2 → Prop} {p cc k : Nat} {sn V st : Int32} {c d f m sd sf : Nat → Int32} {A : wu_P} (hp : 2 ≤ p ∧ p ≤ 32749) (hX : wu_XB p A sn sd sf) (hA : A.length < 512) (hk : k < p) (hc : cc < 1073741824)
    (H : ∀ sn' sd' sf', wu_XB p (A ++ [(cc, k)]) sn' sd' sf' → post (sn', nI p, V, st, c, d, f, m, sd', sf')) : wpX_addToSum post (sn, nI p, V, st, c, d, f, m, sd, sf) (nI cc) (nI k) := by
  obtain ⟨B, hB, rfl, hAt⟩ := hX
  have hl : B.length ≤ A.length := hB.2.2.1
  refine ⟨B.length + 1, wu_X_5 B (fun t ht => (hB.2.1 t ht).2) hc (by omega) hAt ?_ B.length B [] (B.length + 1) rfl (by simp) (by simp) (by omega)⟩
  intro B1 B2 e h2 h1
  subst e
  rw [List.length_append] at hl ⊢
  have ins : (∀ t, t ∈ B1 → t.1 < cc) → ∃ n76, wX_addToSum_76 post (nI cc) (nI k) (nI B1.length) (nI (B1.length + B2.length)) (nI p) V st n76 (nI (B1.length + B2.length)) c d f m sd sf := by
    intro hlt
    refine ⟨B2.length + 1, wu_X_76 B1 (B1.length + B2.length) (by omega) B2.length B2 [] sd sf (B2.length + 1) rfl (by simp) hAt trivial (by omega) ?_⟩
    intro sd' sf' hh
    rw [List.append_nil] at hh
    refine H _ _ _ ⟨B1 ++ (cc, k) :: B2, wu_BX_ins hB hk hc hlt h2, ?_, hh⟩
    rw [List.length_append, List.length_cons]; rfl
  rcases h1 with rfl | ⟨B0, t, rfl, ht⟩
  · exact pk_le 0 0 (fun _ => ins (fun _ h => absurd h List.not_mem_nil)) (fun h => absurd h (by omega)) rfl rfl
  · obtain ⟨tc, tl⟩ := t
    rw [wu_len1] at hl
    have hAt' := hAt
    rw [List.append_assoc] at hAt'
    have hAt' := (wu_At_app B0 ([(tc, tl)] ++ B2) 0).mp hAt'
    rw [Nat.zero_add] at hAt'
    have g1 : sd B0.length = nI tc := hAt'.2.1
    have g2 : sf B0.length = nI tl := hAt'.2.2.1
    have hb := hB.2.1 (tc, tl) (by simp)
    have hin : vp_in (nI ((B0 ++ [(tc, tl)]).length) - 1) 512 := by rw [wu_len1]; exact pk_in B0.length 512 (by omega) (nI_pred _)
    have hcl : (nI ((B0 ++ [(tc, tl)]).length) - 1).toNatClampNeg = B0.length := by rw [wu_len1]; exact pk_cl _ (nI_pred _) (by omega)
    refine pk_le (B0.length + 1) 0 (fun h => absurd h (by omega)) (fun _ => ⟨hin, pk_eq tc cc (fun h => ?_) (fun h => ?_) (by rw [hcl]; exact g1) rfl (by have := hb.2; dsimp only at this; omega) (by omega)⟩) (by rw [wu_len1]) rfl (by omega) (by omega)
    · subst h
      refine ⟨hin, nI_ne0 (by omega) (by omega), hin, fun sf' e => ?_⟩
      subst e
      rw [hcl, g2, nI_add, pk_rem (by have := hb.1; dsimp only at this; omega) (by omega) (by omega)]
      have hB' : wu_BX p A (B0 ++ (tc, tl) :: B2) := by rw [List.append_assoc] at hB; exact hB
      refine H _ _ _ ⟨B0 ++ (tc, (tl + k) % p) :: B2, wu_BX_upd hB' (by omega), ?_, ?_⟩
      · simp only [List.length_append, List.length_cons, List.length_nil]; exact congrArg nI (by omega)
      · refine (wu_At_app B0 _ 0).mpr ⟨wu_At_congr B0 0 (fun i _ hi => ⟨rfl, pk_un (by omega)⟩) hAt'.1, ?_⟩
        rw [Nat.zero_add]
        exact ⟨g1, pk_us, wu_At_congr B2 _ (fun i hi _ => ⟨rfl, pk_un (by omega)⟩) hAt'.2.2.2⟩
    · refine ins (fun s hs => ?_)
      have hs' := hB.1
      unfold wu_Srt at hs'
      rw [List.pairwise_append, List.pairwise_append] at hs'
      rcases List.mem_append.mp hs with hs | hs
      · have := hs'.1.2.2 s hs (tc, tl) (by simp)
        dsimp only at this ht; omega
      · rw [List.mem_singleton] at hs; subst hs; dsimp only at ht ⊢; omega
/-- slots that a walk reads: the list and its bounds -/
theorem wu_X_addPoly_2 {post : St2 → Prop} {p s : Nat} {V st : Int32} {c d f m : Nat → Int32} (hp : 2 ≤ p ∧ p ≤ 32749) (hs : s < 34) :
    ∀ (R : wu_P) (j n : Nat) (A : wu_P) (sn : Int32) (sd sf : Nat → Int32), c s = nI (j + R.length) → j + R.length ≤ 16 → wu_At d f (s * 16 + j) R → wu_Ad p R → A.length + R.length ≤ 512 → wu_XB p A sn sd sf → R.length < n →
    (∀ sn' sd' sf', wu_XB p (A ++ R) sn' sd' sf' → post (sn', nI p, V, st, c, d, f, m, sd', sf')) →
    wX_addPoly_2 post (nI s) n (nI j) sn (nI p) V st c d f m sd sf := by
  intro R
  induction R with
  | nil =>
    intro j n A sn sd sf hc h16 hAt hb hA hX hn H
    obtain ⟨n, rfl⟩ : ∃ k, n = k + 1 := ⟨n - 1, by omega⟩
    refine ⟨vp_in_nI hs (by decide), pk_le (j + 0) j (fun _ => H _ _ _ (by rw [List.append_nil]; exact hX)) (fun h => absurd h (by omega)) (by rw [nI_clamp (by omega)]; exact hc) rfl (by omega) (by omega)⟩
  | cons t R ih =>
    intro j n A sn sd sf hc h16 hAt hb hA hX hn H
    obtain ⟨n, rfl⟩ : ∃ k, n = k + 1 := ⟨n - 1, by omega⟩
    rw [List.length_cons] at hc h16 hA hn
    have hin : vp_in (nI s * 16 + nI j) 544 := pk_in (s * 16 + j) 544 (by omega) (wu_ix s j)
    refine ⟨vp_in_nI hs (by decide), pk_le (j + (R.length + 1)) j (fun h => absurd h (by omega)) (fun _ => ⟨hin, hin, ?_⟩) (by rw [nI_clamp (by omega)]; exact hc) rfl (by omega) (by omega)⟩
    rw [wu_ixc s j (by omega), hAt.1, hAt.2.1]
    have ht := hb t List.mem_cons_self
    refine wu_X_add hp hX (by omega) ht.1 ht.2 (fun sn' sd' sf' hX' => ?_)
    intro x ex
    subst ex
    rw [nI_1]
    refine ih (j + 1) n (A ++ [t]) sn' sd' sf' (by rw [hc]; exact congrArg nI (by omega)) (by omega) hAt.2.2 (fun s hs => hb s (List.mem_cons_of_mem _ hs)) (by rw [wu_len1]; omega) hX' (by omega) ?_
    intro sn'' sd'' sf'' hh
    rw [List.append_assoc] at hh
    exact H _ _ _ hh
theorem wu_X_addPoly {post : St2 → Prop} {p s : Nat} {sn V st : Int32} {c d f m sd sf : Nat → Int32} {A L : wu_P} (hp : 2 ≤ p ∧ p ≤ 32749) (hs : s < 34) (hL : wu_Ho c d f s L) (hO : wu_Ok p L) (hA : A.length + L.length ≤ 512) (hX : wu_XB p A sn sd sf)
    (H : ∀ sn' sd' sf', wu_XB p (A ++ L) sn' sd' sf' → post (sn', nI p, V, st, c, d, f, m, sd', sf')) : wpX_addPoly post (sn, nI p, V, st, c, d, f, m, sd, sf) (nI s) :=
  ⟨L.length + 1, wu_X_addPoly_2 hp hs L 0 (L.length + 1) A sn sd sf (by rw [Nat.zero_add]; exact hL.1) (by have := hO.1; omega) hL.2 (wu_Ok_Ad hO) hA hX (by omega) H⟩
/-! products -/
def wu_mul (p sc : Nat) (I L : wu_P) : wu_P := I.flatMap (fun i => L.map (fun t => (i.1 + t.1, i.2 * sc % p * t.2 % p)))
theorem wu_mul_cons (p sc : Nat) (i : Nat × Nat) (I L : wu_P) : wu_mul p sc (i :: I) L = L.map (fun t => (i.1 + t.1, i.2 * sc % p * t.2 % p)) ++ wu_mul p sc I L := List.flatMap_cons
theorem wu_mul_len (p sc : Nat) (I L : wu_P) : (wu_mul p sc I L).length = I.length * L.length := by
  induction I with
  | nil => simp [wu_mul]
  | cons i I ih => rw [wu_mul_cons, List.length_append, List.length_map, ih, List.length_cons, Nat.add_mul]; omega
theorem wu_mul_mem {p sc : Nat} {I L : wu_P} {x : Nat × Nat} (h : x ∈ wu_mul p sc I L) : ∃ i, i ∈ I ∧ ∃ t, t ∈ L ∧ x = (i.1 + t.1, i.2 * sc % p * t.2 % p) := by
  unfold wu_mul at h
  obtain ⟨i, hi, h⟩ := List.mem_flatMap.mp h
  obtain ⟨t, ht, e⟩ := List.mem_map.mp h
  exact ⟨i, hi, t, ht, e.symm⟩
theorem wu_mul_Ad {p sc : Nat} {I L : wu_P} (hp : 0 < p) (hI : wu_Ok p I) (hL : wu_Ok p L) : wu_Ad p (wu_mul p sc I L) := by
  intro x hx
  obtain ⟨i, hi, t, ht, rfl⟩ := wu_mul_mem hx
  exact ⟨Nat.mod_lt _ hp, (wu_Sm_add (hI.2.2 i hi).2.2 (hL.2.2 t ht).2.2).1⟩
theorem wu_sq {a b p : Nat} (hp : p ≤ 32749) (ha : a < p) (hb : b < p) : a * b < 2147483648 := by
  have h1 : a * b ≤ 32748 * 32748 := Nat.mul_le_mul (by omega) (by omega)
  omega
theorem wu_X_52 {post : St2 → Prop} {J3 : Int32 → Int32 → Int32 → Int32 → Int32 → (Nat → Int32) → (Nat → Int32) → (Nat → Int32) → (Nat → Int32) → (Nat → Int32) → (Nat → Int32) → Prop} {p b ic ik : Nat} {x1 x3 x4 V st : Int32} {c d f m : Nat → Int32} (hp : 2 ≤ p ∧ p ≤ 32749) (hb : b < 34) (hik : ik < p) :
    ∀ (R : wu_P) (j n : Nat) (A : wu_P) (sn : Int32) (sd sf : Nat → Int32), c b = nI (j + R.length) → j + R.length ≤ 16 → wu_At d f (b * 16 + j) R → (∀ t, t ∈ R → t.2 < p ∧ ic + t.1 < 1073741824) → A.length + R.length ≤ 512 → wu_XB p A sn sd sf → R.length < n →
    (∀ sn' sd' sf', wu_XB p (A ++ R.map (fun t => (ic + t.1, ik * t.2 % p))) sn' sd' sf' → ∀ y, y = x4 + 1 → J3 y sn' (nI p) V st c d f m sd' sf') →
    wX_addProduct_52 post J3 x1 (nI b) x3 x4 (nI ic) (nI ik) n (nI j) sn (nI p) V st c d f m sd sf := by
  intro R
  induction R with
  | nil =>
    intro j n A sn sd sf hc h16 hAt hR hA hX hn H
    obtain ⟨n, rfl⟩ : ∃ k, n = k + 1 := ⟨n - 1, by omega⟩
    exact ⟨vp_in_nI hb (by decide), pk_le (j + 0) j (fun _ => H _ _ _ (by rw [List.map_nil, List.append_nil]; exact hX)) (fun h => absurd h (by omega)) (by rw [nI_clamp (by omega)]; exact hc) rfl (by omega) (by omega)⟩
  | cons t R ih =>
    intro j n A sn sd sf hc h16 hAt hR hA hX hn H
    obtain ⟨n, rfl⟩ : ∃ k, n = k + 1 := ⟨n - 1, by omega⟩
    rw [List.length_cons] at hc h16 hA hn
    have hin : vp_in (nI b * 16 + nI j) 544 := pk_in (b * 16 + j) 544 (by omega) (wu_ix b j)
    have ht := hR t List.mem_cons_self
    have hsq := wu_sq hp.2 hik ht.1
    refine ⟨vp_in_nI hb (by decide), pk_le (j + (R.length + 1)) j (fun h => absurd h (by omega)) (fun _ => ⟨hin, nI_ne0 (by omega) (by omega), fun x8 e8 => ⟨hin, ?_⟩⟩) (by rw [nI_clamp (by omega)]; exact hc) rfl (by omega) (by omega)⟩
    subst e8
    rw [wu_ixc b j (by omega), hAt.1, hAt.2.1, nI_add, pk_mul, pk_rem (by omega) (by omega) (by omega)]
    refine wu_X_add hp hX (by omega) (Nat.mod_lt _ (by omega)) ht.2 (fun sn' sd' sf' hX' => ?_)
    intro x ex
    subst ex
    rw [nI_1]
    refine ih (j + 1) n (A ++ [(ic + t.1, ik * t.2 % p)]) sn' sd' sf' (by rw [hc]; exact congrArg nI (by omega)) (by omega) hAt.2.2 (fun s hs => hR s (List.mem_cons_of_mem _ hs)) (by rw [wu_len1]; omega) hX' (by omega) ?_
    intro sn'' sd'' sf'' hh
    rw [List.append_assoc] at hh
    exact H _ _ _ hh
theorem wu_X_prod_3 {post : St2 → Prop} {p a b sc : Nat} {V st : Int32} {c d f m : Nat → Int32} {L : wu_P} (hp : 2 ≤ p ∧ p ≤ 32749) (ha : a < 34) (hb : b < 34) (hsc : sc < p) (hL : wu_Ho c d f b L) (hLO : wu_Ok p L) :
    ∀ (R : wu_P) (j n : Nat) (A : wu_P) (sn : Int32) (sd sf : Nat → Int32), c a = nI (j + R.length) → j + R.length ≤ 16 → wu_At d f (a * 16 + j) R → (∀ t, t ∈ R → t.2 < p ∧ wu_Sm t.1) → A.length + R.length * L.length ≤ 512 → wu_XB p A sn sd sf → R.length < n →
    (∀ sn' sd' sf', wu_XB p (A ++ wu_mul p sc R L) sn' sd' sf' → post (sn', nI p, V, st, c, d, f, m, sd', sf')) →
    wX_addProduct_3 post (nI a) (nI b) (nI sc) n (nI j) sn (nI p) V st c d f m sd sf := by
  intro R
  induction R with
  | nil =>
    intro j n A sn sd sf hc h16 hAt hR hA hX hn H
    obtain ⟨n, rfl⟩ : ∃ k, n = k + 1 := ⟨n - 1, by omega⟩
    exact ⟨vp_in_nI ha (by decide), pk_le (j + 0) j (fun _ => H _ _ _ (by rw [show wu_mul p sc [] L = [] from rfl, List.append_nil]; exact hX)) (fun h => absurd h (by omega)) (by rw [nI_clamp (by omega)]; exact hc) rfl (by omega) (by omega)⟩
  | cons t R ih =>
    intro j n A sn sd sf hc h16 hAt hR hA hX hn H
    obtain ⟨n, rfl⟩ : ∃ k, n = k + 1 := ⟨n - 1, by omega⟩
    rw [List.length_cons] at hc h16 hA hn
    rw [Nat.add_mul, Nat.one_mul] at hA
    have hin : vp_in (nI a * 16 + nI j) 544 := pk_in (a * 16 + j) 544 (by omega) (wu_ix a j)
    have ht := hR t List.mem_cons_self
    have hsq := wu_sq hp.2 ht.1 hsc
    refine ⟨vp_in_nI ha (by decide), pk_le (j + (R.length + 1)) j (fun h => absurd h (by omega)) (fun _ => ⟨hin, fun x5 e5 => ⟨hin, nI_ne0 (by omega) (by omega), fun x6 e6 => ?_⟩⟩) (by rw [nI_clamp (by omega)]; exact hc) rfl (by omega) (by omega)⟩
    subst e5 e6
    rw [wu_ixc a j (by omega), hAt.1, hAt.2.1, pk_mul, pk_rem (by omega) (by omega) (by omega)]
    refine ⟨L.length + 1, wu_X_52 hp hb (Nat.mod_lt _ (by omega)) L 0 (L.length + 1) A sn sd sf (by rw [Nat.zero_add]; exact hL.1) (by have := hLO.1; omega) hL.2 (fun s hs => ⟨(hLO.2.2 s hs).2.1, (wu_Sm_add ht.2 (hLO.2.2 s hs).2.2).1⟩) (by omega) hX (by omega) ?_⟩
    intro sn' sd' sf' hX' y ey
    subst ey
    rw [nI_1]
    refine ih (j + 1) n _ sn' sd' sf' (by rw [hc]; exact congrArg nI (by omega)) (by omega) hAt.2.2 (fun s hs => hR s (List.mem_cons_of_mem _ hs)) (by rw [List.length_append, List.length_map]; omega) hX' (by omega) ?_
    intro sn'' sd'' sf'' hh
    rw [List.append_assoc, ← wu_mul_cons] at hh
    exact H _ _ _ hh
theorem wu_X_prod {post : St2 → Prop} {p a b sc : Nat} {sn V st : Int32} {c d f m sd sf : Nat → Int32} {A I L : wu_P} (hp : 2 ≤ p ∧ p ≤ 32749) (ha : a < 34) (hb : b < 34) (hsc : sc < p) (hI : wu_Ho c d f a I) (hIO : wu_Ok p I) (hL : wu_Ho c d f b L) (hLO : wu_Ok p L) (hA : A.length ≤ 256) (hX : wu_XB p A sn sd sf)
    (H : ∀ sn' sd' sf', wu_XB p (A ++ wu_mul p sc I L) sn' sd' sf' → post (sn', nI p, V, st, c, d, f, m, sd', sf')) : wpX_addProduct post (sn, nI p, V, st, c, d, f, m, sd, sf) (nI a) (nI b) (nI sc) :=
  ⟨I.length + 1, wu_X_prod_3 hp ha hb hsc hL hLO I 0 (I.length + 1) A sn sd sf (by rw [Nat.zero_add]; exact hI.1) (by have := hIO.1; omega) hI.2 (fun t ht => ⟨(hIO.2.2 t ht).2.1, (hIO.2.2 t ht).2.2⟩) (by have h1 := hIO.1; have h2 := hLO.1; have := Nat.mul_le_mul h1 h2; omega) hX (by omega) H⟩
