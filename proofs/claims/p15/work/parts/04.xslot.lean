/-! the component's slots: store, copy, degree, class, coefficient -/
def wu_nz (t : Nat × Nat) : Bool := decide (t.2 ≠ 0)
theorem wu_mask {c : Nat} : c &&& 554189328 = 0 ↔ ∀ v, v < 6 → wu_ex v c ≤ 15 := by
  constructor
  · intro h v hv
    have h1 : (c &&& 554189328).testBit (5 * v + 4) = false := by rw [h]; exact Nat.zero_testBit _
    rw [Nat.testBit_and] at h1
    have h2 : ∀ w, w < 6 → (554189328 : Nat).testBit (5 * w + 4) = true := by decide
    rw [h2 v hv, Bool.and_true, Nat.testBit_eq_decide_div_mod_eq, Nat.pow_add, wu_p5, ← Nat.div_div_eq_div_mul, decide_eq_false_iff_not] at h1
    unfold wu_ex
    generalize c / 32 ^ v = y at h1 ⊢
    omega
  · intro h
    apply Nat.eq_of_testBit_eq
    intro i
    rw [Nat.testBit_and, Nat.zero_testBit]
    by_cases hi : i < 30
    · by_cases h4 : i % 5 = 4
      · have hv : i / 5 < 6 := by omega
        have e : i = 5 * (i / 5) + 4 := by omega
        have hx := h (i / 5) hv
        have : c.testBit i = false := by
          rw [e, Nat.testBit_eq_decide_div_mod_eq, Nat.pow_add, wu_p5, ← Nat.div_div_eq_div_mul, decide_eq_false_iff_not]
          unfold wu_ex at hx
          generalize c / 32 ^ (i / 5) = y at hx ⊢
          omega
        rw [this, Bool.false_and]
      · have h2 : ∀ j, j < 30 → j % 5 ≠ 4 → (554189328 : Nat).testBit j = false := by decide
        rw [h2 i hi h4, Bool.and_false]
    · have : (554189328 : Nat).testBit i = false := Nat.testBit_lt_two_pow (Nat.lt_of_lt_of_le (by decide : 554189328 < 2 ^ 30) (Nat.pow_le_pow_right (by decide) (by omega)))
      rw [this, Bool.and_false]
theorem wu_maskI {c : Nat} : nI c &&& 554189328 = 0 ↔ ∀ v, v < 6 → wu_ex v c ≤ 15 := by
  have hb : c &&& 554189328 ≤ 554189328 := Nat.and_le_right
  have e : nI c &&& 554189328 = nI (c &&& 554189328) := nx_and c 554189328
  rw [e, show (0 : Int32) = nI 0 from rfl, nI_eq (by omega) (by omega), wu_mask]
def wu_over (t : Nat × Nat) : Prop := t.2 ≠ 0 ∧ ∃ v, v < 6 ∧ 15 < wu_ex v t.1
theorem wu_X_over_4 {post : Int32 → Prop} {P V st : Int32} {c d f m sd sf : Nat → Int32} {B : wu_P} (hl : B.length ≤ 512) (hb : ∀ t, t ∈ B → t.2 < 2147483648) :
    ∀ (R M : wu_P) (k n : Nat), B = M ++ R → wu_At sd sf M.length R → k ≤ M.length → R.length < n →
    ((∀ t, t ∈ R → ¬ wu_over t) → k + (R.filter wu_nz).length ≤ 16 → post 0) → (((∃ t, t ∈ R ∧ wu_over t) ∨ 16 < k + (R.filter wu_nz).length) → post 1) →
    wX_isSumOversized_4 post (nI B.length) P V st c d f m sd sf n (nI k) (nI M.length) := by
  intro R
  induction R with
  | nil =>
    intro M k n e hAt hk hn h0 h1
    obtain ⟨n, rfl⟩ : ∃ k, n = k + 1 := ⟨n - 1, by omega⟩
    rw [List.append_nil] at e
    refine pk_le B.length M.length (fun _ => pk_le k 16 (fun h => h0 (fun _ h => absurd h List.not_mem_nil) h) (fun h => h1 (Or.inr h)) rfl rfl (by rw [← e] at hk; omega) (by omega)) (fun h => absurd h (by rw [e]; omega)) rfl rfl (by omega) (by rw [← e]; omega)
  | cons t R ih =>
    intro M k n e hAt hk hn h0 h1
    obtain ⟨n, rfl⟩ : ∃ k, n = k + 1 := ⟨n - 1, by omega⟩
    have hBl : B.length = M.length + (R.length + 1) := by rw [e, List.length_append, List.length_cons]
    rw [List.length_cons] at hn
    have hin : vp_in (nI M.length) 512 := vp_in_nI (by omega) (by decide)
    have hcl : (nI M.length).toNatClampNeg = M.length := nI_clamp (by omega)
    have ht := hb t (by rw [e]; simp)
    have e2 : B = (M ++ [t]) ++ R := by rw [List.append_assoc]; exact e
    have hAt2 : wu_At sd sf (M ++ [t]).length R := by rw [wu_len1]; exact hAt.2.2
    refine pk_le B.length M.length (fun h => absurd h (by omega)) (fun _ => ⟨hin, pk_eq t.2 0 (fun hz => ?_) (fun hz => ⟨hin, ?_⟩) (by rw [hcl]; exact hAt.2.1) rfl (by omega) (by omega)⟩) rfl rfl (by omega) (by omega)
    · intro x ex
      subst ex
      have := ih (M ++ [t]) k n e2 hAt2 (by rw [wu_len1]; omega) (by omega) ?_ ?_
      · rw [wu_len1] at this; rw [nI_1]; exact this
      · intro g1 g2
        refine h0 (fun s hs => ?_) ?_
        · rcases List.mem_cons.mp hs with rfl | hs
          · exact fun z => z.1 hz
          · exact g1 s hs
        · rw [List.filter_cons_of_neg (by simp [wu_nz, hz])]; exact g2
      · intro g
        refine h1 ?_
        rw [List.filter_cons_of_neg (by simp [wu_nz, hz])]
        rcases g with ⟨s, hs, g⟩ | g
        · exact Or.inl ⟨s, List.mem_cons_of_mem _ hs, g⟩
        · exact Or.inr g
    · rw [hcl, hAt.1]
      by_cases ho : ∀ v, v < 6 → wu_ex v t.1 ≤ 15
      · refine br_t (wu_maskI.mpr ho) (fun x ex y ey => ?_)
        subst ex ey
        have := ih (M ++ [t]) (k + 1) n e2 hAt2 (by rw [wu_len1]; omega) (by omega) ?_ ?_
        · rw [wu_len1] at this; rw [nI_1, nI_1]; exact this
        · intro g1 g2
          refine h0 (fun s hs => ?_) ?_
          · rcases List.mem_cons.mp hs with rfl | hs
            · rintro ⟨_, v, hv, z⟩; have := ho v hv; omega
            · exact g1 s hs
          · rw [List.filter_cons_of_pos (by simp [wu_nz, hz]), List.length_cons]; omega
        · intro g
          refine h1 ?_
          rw [List.filter_cons_of_pos (by simp [wu_nz, hz]), List.length_cons]
          rcases g with ⟨s, hs, g⟩ | g
          · exact Or.inl ⟨s, List.mem_cons_of_mem _ hs, g⟩
          · exact Or.inr (by omega)
      · refine br_f (fun z => ho (wu_maskI.mp z)) (h1 (Or.inl ⟨t, List.mem_cons_self, hz, ?_⟩))
        refine Classical.byContradiction fun z => ho (fun v hv => Nat.le_of_not_lt fun g => z ⟨v, hv, g⟩)
theorem wu_Fr_wr {c d f : Nat → Int32} {s i : Nat} {x y : Int32} (h : s * 16 ≤ i) (h' : i < s * 16 + 16) : wu_Fr (fun q => q = s) c d f c (upd d i x) (upd f i y) := by
  intro q hq
  refine ⟨rfl, fun j hj => ?_⟩
  have : q * 16 + j ≠ i := by
    intro e
    exact hq (by omega)
  exact ⟨pk_un this, pk_un this⟩
theorem wu_X_store_13 {post : Int32 → St2 → Prop} {P V st : Int32} {m sd sf : Nat → Int32} {B : wu_P} {s : Nat} (hs : s < 34) (hl : B.length ≤ 512) (hb : ∀ t, t ∈ B → t.2 < 2147483648) :
    ∀ (R M N : wu_P) (c d f : Nat → Int32) (n : Nat), B = M ++ R → wu_At sd sf M.length R → wu_At d f (s * 16) N → N.length + (R.filter wu_nz).length ≤ 16 → R.length < n →
    (∀ c' d' f', wu_Fr (fun q => q = s) c d f c' d' f' → wu_Ho c' d' f' s (N ++ R.filter wu_nz) → post 1 (nI B.length, P, V, st, c', d', f', m, sd, sf)) →
    wX_storeSum_13 post (nI s) (nI B.length) P V st n (nI N.length) (nI M.length) c d f m sd sf := by
  intro R
  induction R with
  | nil =>
    intro M N c d f n e hAt hN h16 hn H
    obtain ⟨n, rfl⟩ : ∃ k, n = k + 1 := ⟨n - 1, by omega⟩
    rw [List.append_nil] at e
    refine pk_le B.length M.length (fun _ => ⟨vp_in_nI hs (by decide), fun c' ec => ?_⟩) (fun h => absurd h (by rw [e]; omega)) rfl rfl (by omega) (by rw [← e]; omega)
    subst ec
    rw [nI_clamp (by omega)]
    refine H _ _ _ wu_Fr_cnt ?_
    rw [List.filter_nil, List.append_nil]
    exact ⟨pk_us, hN⟩
  | cons t R ih =>
    intro M N c d f n e hAt hN h16 hn H
    obtain ⟨n, rfl⟩ : ∃ k, n = k + 1 := ⟨n - 1, by omega⟩
    have hBl : B.length = M.length + (R.length + 1) := by rw [e, List.length_append, List.length_cons]
    rw [List.length_cons] at hn
    have hin : vp_in (nI M.length) 512 := vp_in_nI (by omega) (by decide)
    have hcl : (nI M.length).toNatClampNeg = M.length := nI_clamp (by omega)
    have ht := hb t (by rw [e]; simp)
    have e2 : B = (M ++ [t]) ++ R := by rw [List.append_assoc]; exact e
    have hAt2 : wu_At sd sf (M ++ [t]).length R := by rw [wu_len1]; exact hAt.2.2
    refine pk_le B.length M.length (fun h => absurd h (by omega)) (fun _ => ⟨hin, pk_eq t.2 0 (fun hz => ?_) (fun hz => ?_) (by rw [hcl]; exact hAt.2.1) rfl (by omega) (by omega)⟩) rfl rfl (by omega) (by omega)
    · intro x ex
      subst ex
      rw [List.filter_cons_of_neg (by simp [wu_nz, hz])] at h16 H
      have := ih (M ++ [t]) N c d f n e2 hAt2 hN h16 (by omega) H
      rw [wu_len1] at this; rw [nI_1]; exact this
    · rw [List.filter_cons_of_pos (by simp [wu_nz, hz])] at h16 H
      rw [List.length_cons] at h16
      have hix : vp_in (nI s * 16 + nI N.length) 544 := pk_in (s * 16 + N.length) 544 (by omega) (wu_ix s _)
      refine ⟨hin, hix, fun d' ed => ⟨hin, hix, fun f' ef => fun x ex y ey => ?_⟩⟩
      subst ed ef ex ey
      rw [wu_ixc s N.length (by omega), hcl, hAt.1, hAt.2.1, nI_1, nI_1]
      have := ih (M ++ [t]) (N ++ [t]) c (upd d (s * 16 + N.length) (nI t.1)) (upd f (s * 16 + N.length) (nI t.2)) n e2 hAt2 (wu_At_snoc hN) (by rw [wu_len1]; omega) (by omega) ?_
      · rw [wu_len1, wu_len1] at this; exact this
      · intro c' d' f' hF hH
        refine H _ _ _ (wu_Fr_trans (wu_Fr_wr (by omega) (by omega)) hF) ?_
        rw [List.append_assoc] at hH
        exact hH
theorem wu_X_store {post : Int32 → St2 → Prop} {p s : Nat} {sn P V st : Int32} {c d f m sd sf : Nat → Int32} {A : wu_P} (hp : 2 ≤ p ∧ p ≤ 32749) (hs : s < 34) (hX : wu_XB p A sn sd sf) (hA : A.length ≤ 512)
    (h0 : wu_st p A = none → post 0 (sn, P, V, st, c, d, f, m, sd, sf)) (h1 : ∀ L, wu_st p A = some L → ∀ c' d' f', wu_Fr (fun q => q = s) c d f c' d' f' → wu_Ho c' d' f' s L → post 1 (sn, P, V, st, c', d', f', m, sd, sf)) :
    wpX_storeSum post (sn, P, V, st, c, d, f, m, sd, sf) (nI s) := by
  obtain ⟨B, hB, rfl, hAt⟩ := hX
  have hl : B.length ≤ 512 := Nat.le_trans hB.2.2.1 hA
  have hb : ∀ t, t ∈ B → t.2 < 2147483648 := fun t ht => by have := (hB.2.1 t ht).1; omega
  obtain ⟨e, _, _⟩ := wu_nf_BX hB
  have e' : wu_nf p A = B.filter wu_nz := e
  unfold wpX_storeSum
  try dsimp only
  refine ⟨B.length + 1, wu_X_over_4 hl hb B [] 0 (B.length + 1) rfl hAt (by simp) (by omega) (fun g1 g2 => ?_) (fun g => ?_)⟩
  · have nb : ¬ wu_big (wu_nf p A) := by
      rw [e']
      rintro (z | ⟨t, ht, z⟩)
      · omega
      · rw [List.mem_filter] at ht
        exact g1 t ht.1 ⟨by simpa [wu_nz] using ht.2, z⟩
    have es := wu_st_s nb
    refine br_t rfl ⟨B.length + 1, wu_X_store_13 hs hl hb B [] [] c d f (B.length + 1) rfl hAt trivial (by simpa using g2) (by omega) (fun c' d' f' hF hH => h1 _ es c' d' f' hF ?_)⟩
    rw [e']
    exact hH
  · have nb : wu_big (wu_nf p A) := by
      rw [e']
      rcases g with ⟨t, ht, z, v, hv, w⟩ | g
      · exact Or.inr ⟨t, List.mem_filter.mpr ⟨ht, by simpa [wu_nz] using z⟩, v, hv, w⟩
      · exact Or.inl (by omega)
    exact br_f (by decide) (h0 (wu_st_n nb))
/-! copying -/
theorem wu_X_copy_14 {post : St2 → Prop} {sn P V st : Int32} {m sd sf : Nat → Int32} {a b : Nat} (ha : a < 34) (hb : b < 34) (hab : a ≠ b) :
    ∀ (R M : wu_P) (c d f : Nat → Int32) (n : Nat), c a = nI (M.length + R.length) → c b = nI (M.length + R.length) → M.length + R.length ≤ 16 → wu_At d f (a * 16 + M.length) R → wu_At d f (b * 16) M → R.length < n →
    (∀ c' d' f', wu_Fr (fun q => q = b) c d f c' d' f' → wu_Ho c' d' f' b (M ++ R) → post (sn, P, V, st, c', d', f', m, sd, sf)) →
    wX_copyPoly_14 post (nI a) (nI b) sn P V st n (nI M.length) c d f m sd sf := by
  intro R
  induction R with
  | nil =>
    intro M c d f n hc hcb h16 hA hM hn H
    obtain ⟨n, rfl⟩ : ∃ k, n = k + 1 := ⟨n - 1, by omega⟩
    refine ⟨vp_in_nI ha (by decide), pk_le (M.length + 0) M.length (fun _ => H _ _ _ wu_Fr_refl ?_) (fun h => absurd h (by omega)) (by rw [nI_clamp (by omega)]; exact hc) rfl (by omega) (by omega)⟩
    rw [List.append_nil]
    exact ⟨hcb, hM⟩
  | cons t R ih =>
    intro M c d f n hc hcb h16 hA hM hn H
    obtain ⟨n, rfl⟩ : ∃ k, n = k + 1 := ⟨n - 1, by omega⟩
    rw [List.length_cons] at hc hcb h16 hn
    have hia : vp_in (nI a * 16 + nI M.length) 544 := pk_in (a * 16 + M.length) 544 (by omega) (wu_ix a _)
    have hib : vp_in (nI b * 16 + nI M.length) 544 := pk_in (b * 16 + M.length) 544 (by omega) (wu_ix b _)
    refine ⟨vp_in_nI ha (by decide), pk_le (M.length + (R.length + 1)) M.length (fun h => absurd h (by omega)) (fun _ => ⟨hia, hib, fun d' ed => ⟨hia, hib, fun f' ef => fun x ex => ?_⟩⟩) (by rw [nI_clamp (by omega)]; exact hc) rfl (by omega) (by omega)⟩
    subst ed ef ex
    rw [wu_ixc a M.length (by omega), wu_ixc b M.length (by omega), hA.1, hA.2.1, nI_1]
    have := ih (M ++ [t]) c (upd d (b * 16 + M.length) (nI t.1)) (upd f (b * 16 + M.length) (nI t.2)) n (by rw [wu_len1, hc]; exact congrArg nI (by omega)) (by rw [wu_len1, hcb]; exact congrArg nI (by omega)) (by rw [wu_len1]; omega) ?_ (wu_At_snoc hM) (by omega) ?_
    · rw [wu_len1] at this; exact this
    · rw [wu_len1]
      refine wu_At_congr R _ (fun i hi hi' => ?_) hA.2.2
      have : i ≠ b * 16 + M.length := by
        intro e
        exact hab (by omega)
      exact ⟨pk_un this, pk_un this⟩
    · intro c' d' f' hF hH
      refine H _ _ _ (wu_Fr_trans (wu_Fr_wr (by omega) (by omega)) hF) ?_
      rw [List.append_assoc] at hH
      exact hH
theorem wu_X_copy {post : St2 → Prop} {sn P V st : Int32} {c d f m sd sf : Nat → Int32} {a b : Nat} {L : wu_P} (ha : a < 34) (hb : b < 34) (hab : a ≠ b) (hL : wu_Ho c d f a L) (h16 : L.length ≤ 16)
    (H : ∀ c' d' f', wu_Fr (fun q => q = b) c d f c' d' f' → wu_Ho c' d' f' b L → post (sn, P, V, st, c', d', f', m, sd, sf)) : wpX_copyPoly post (sn, P, V, st, c, d, f, m, sd, sf) (nI a) (nI b) := by
  refine ⟨vp_in_nI ha (by decide), vp_in_nI hb (by decide), fun c' ec => ?_⟩
  subst ec
  rw [nI_clamp (by omega), nI_clamp (by omega), hL.1]
  refine ⟨L.length + 1, wu_X_copy_14 ha hb hab L [] (upd c b (nI L.length)) d f (L.length + 1) ?_ ?_ (by simpa using h16) hL.2 trivial (by omega) (fun c' d' f' hF hH => ?_)⟩
  · rw [pk_un hab, hL.1]; simp
  · rw [pk_us]; simp
  · exact H _ _ _ (wu_Fr_trans wu_Fr_cnt hF) hH
/-! degrees and classes -/
def wu_dg (v : Nat) : wu_P → Int
  | [] => -1
  | t :: L => max (wu_ex v t.1 : Int) (wu_dg v L)
theorem wu_dg_b (v : Nat) (L : wu_P) : -1 ≤ wu_dg v L ∧ wu_dg v L < 32 := by
  induction L with
  | nil => exact ⟨Int.le_refl _, (by decide : (-1 : Int) < 32)⟩
  | cons t L ih =>
    have := wu_exlt v t.1
    show -1 ≤ max (wu_ex v t.1 : Int) (wu_dg v L) ∧ max (wu_ex v t.1 : Int) (wu_dg v L) < 32
    omega
theorem wu_dg_perm {v : Nat} {L L' : wu_P} (h : List.Perm L L') : wu_dg v L = wu_dg v L' := by
  induction h with
  | nil => rfl
  | cons t _ ih => show max _ _ = max _ _; rw [ih]
  | swap a b l => show max _ (max _ _) = max _ (max _ _); omega
  | trans _ _ h1 h2 => exact h1.trans h2
theorem wu_dg_le {v : Nat} {L : wu_P} {t : Nat × Nat} (h : t ∈ L) : (wu_ex v t.1 : Int) ≤ wu_dg v L := by
  induction L with
  | nil => exact absurd h List.not_mem_nil
  | cons a L ih =>
    show _ ≤ max (wu_ex v a.1 : Int) (wu_dg v L)
    rcases List.mem_cons.mp h with rfl | h
    · omega
    · have := ih h; omega
theorem wu_dg_ge {v : Nat} {L : wu_P} {k : Int} (h0 : -1 ≤ k) (h : ∀ t, t ∈ L → (wu_ex v t.1 : Int) ≤ k) : wu_dg v L ≤ k := by
  induction L with
  | nil => exact h0
  | cons a L ih =>
    show max (wu_ex v a.1 : Int) (wu_dg v L) ≤ k
    have h1 := h a List.mem_cons_self
    have h2 := ih (fun t ht => h t (List.mem_cons_of_mem _ ht))
    omega
theorem wu_dg_at {v : Nat} {L : wu_P} (h : 0 ≤ wu_dg v L) : ∃ t, t ∈ L ∧ (wu_ex v t.1 : Int) = wu_dg v L := by
  induction L with
  | nil => exact absurd h (by decide : ¬ (0 : Int) ≤ -1)
  | cons a L ih =>
    by_cases hc : wu_dg v L ≤ (wu_ex v a.1 : Int)
    · exact ⟨a, List.mem_cons_self, by show _ = max (wu_ex v a.1 : Int) (wu_dg v L); omega⟩
    · obtain ⟨t, ht, e⟩ := ih (by omega)
      exact ⟨t, List.mem_cons_of_mem _ ht, by show _ = max (wu_ex v a.1 : Int) (wu_dg v L); omega⟩
theorem wu_dg_ne {v : Nat} {L : wu_P} (h : L ≠ []) : 0 ≤ wu_dg v L := by
  cases L with
  | nil => exact absurd rfl h
  | cons a L => show 0 ≤ max (wu_ex v a.1 : Int) (wu_dg v L); omega
theorem wu_X_deg_5 {post : Int32 → Prop} {sn P V st : Int32} {c d f m sd sf : Nat → Int32} {s v : Nat} (hs : s < 34) (hv : v < 6) :
    ∀ (R : wu_P) (j n : Nat) (k : Int), c s = nI (j + R.length) → j + R.length ≤ 16 → wu_At d f (s * 16 + j) R → (∀ t, t ∈ R → t.1 < 2147483648) → R.length < n → -1 ≤ k → k < 32 →
    post (wu_z (max k (wu_dg v R))) → wX_degree_5 post (nI s) (nI v) sn P V st c d f m sd sf n (wu_z k) (nI j) := by
  intro R
  induction R with
  | nil =>
    intro j n k hc h16 hAt hb hn h1 h2 H
    obtain ⟨n, rfl⟩ : ∃ k, n = k + 1 := ⟨n - 1, by omega⟩
    refine ⟨vp_in_nI hs (by decide), pk_le (j + 0) j (fun _ => ?_) (fun h => absurd h (by omega)) (by rw [nI_clamp (by omega)]; exact hc) rfl (by omega) (by omega)⟩
    rw [show max k (wu_dg v []) = k by show max k (-1) = k; omega] at H
    exact H
  | cons t R ih =>
    intro j n k hc h16 hAt hb hn h1 h2 H
    obtain ⟨n, rfl⟩ : ∃ k, n = k + 1 := ⟨n - 1, by omega⟩
    rw [List.length_cons] at hc h16 hn
    have hin : vp_in (nI s * 16 + nI j) 544 := pk_in (s * 16 + j) 544 (by omega) (wu_ix s j)
    have ht := hb t List.mem_cons_self
    have hx := wu_exlt v t.1
    refine ⟨vp_in_nI hs (by decide), pk_le (j + (R.length + 1)) j (fun h => absurd h (by omega)) (fun _ => ⟨hin, ?_⟩) (by rw [nI_clamp (by omega)]; exact hc) rfl (by omega) (by omega)⟩
    have e : (d (nI s * 16 + nI j).toNatClampNeg >>> ((5 * nI v) &&& 31)) &&& 31 = wu_z (wu_ex v t.1 : Int) := by
      rw [wu_ixc s j (by omega), hAt.1, wu_shr ht hv, wu_zn]
    have em : max k (wu_dg v (t :: R)) = max (max k (wu_ex v t.1 : Int)) (wu_dg v R) := by
      show max k (max (wu_ex v t.1 : Int) (wu_dg v R)) = _; omega
    rw [em] at H
    refine wu_ble (wu_ex v t.1 : Int) k (fun hle => ?_) (fun hlt => ?_) e rfl (by omega) (by omega)
    · intro x ex
      subst ex
      rw [nI_1]
      exact ih (j + 1) n k (by rw [hc]; exact congrArg nI (by omega)) (by omega) hAt.2.2 (fun s hs => hb s (List.mem_cons_of_mem _ hs)) (by omega) h1 h2 (by rw [show max k (wu_ex v t.1 : Int) = k by omega] at H; exact H)
    · intro x ex
      subst ex
      rw [nI_1]
      show wX_degree_5 post (nI s) (nI v) sn P V st c d f m sd sf n ((d (nI s * 16 + nI j).toNatClampNeg >>> ((5 * nI v) &&& 31)) &&& 31) (nI (j + 1))
      rw [e]
      exact ih (j + 1) n _ (by rw [hc]; exact congrArg nI (by omega)) (by omega) hAt.2.2 (fun s hs => hb s (List.mem_cons_of_mem _ hs)) (by omega) (by omega) (by omega) (by rw [show max k (wu_ex v t.1 : Int) = (wu_ex v t.1 : Int) by omega] at H; exact H)
theorem wu_X_deg {post : Int32 → Prop} {p : Nat} {sn P V st : Int32} {c d f m sd sf : Nat → Int32} {s v : Nat} {L : wu_P} (hs : s < 34) (hv : v < 6) (hL : wu_Ho c d f s L) (hO : wu_Ok p L) (H : post (wu_z (wu_dg v L))) : wpX_degree post (sn, P, V, st, c, d, f, m, sd, sf) (nI s) (nI v) := by
  refine ⟨L.length + 1, ?_⟩
  rw [wu_m1]
  have hb := wu_dg_b v L
  refine wu_X_deg_5 hs hv L 0 (L.length + 1) (-1) (by rw [Nat.zero_add]; exact hL.1) (by have := hO.1; omega) hL.2 (fun t ht => by have := (hO.2.2 t ht).2.2.1; omega) (by omega) (by omega) (by omega) ?_
  rw [show max (-1) (wu_dg v L) = wu_dg v L by omega]
  exact H
def wu_cv (L : wu_P) : Nat → Int
  | 0 => -1
  | v + 1 => if 1 ≤ wu_dg v L then (v : Int) else wu_cv L v
def wu_cl (nv : Nat) (L : wu_P) : Int := if L.length = 0 then -2 else wu_cv L nv
theorem wu_cv_perm {L L' : wu_P} (h : List.Perm L L') (v : Nat) : wu_cv L v = wu_cv L' v := by
  induction v with
  | zero => rfl
  | succ v ih => unfold wu_cv; rw [wu_dg_perm h, ih]
theorem wu_cl_perm {nv : Nat} {L L' : wu_P} (h : List.Perm L L') : wu_cl nv L = wu_cl nv L' := by
  unfold wu_cl; rw [h.length_eq, wu_cv_perm h]
theorem wu_cv_b (L : wu_P) (v : Nat) : -1 ≤ wu_cv L v ∧ wu_cv L v < v := by
  induction v with
  | zero => exact ⟨Int.le_refl _, (by decide : (-1 : Int) < ((0 : Nat) : Int))⟩
  | succ v ih =>
    unfold wu_cv
    by_cases h : 1 ≤ wu_dg v L
    · rw [if_pos h]; omega
    · rw [if_neg h]; omega
theorem wu_cl_b (nv : Nat) (L : wu_P) : -2 ≤ wu_cl nv L ∧ wu_cl nv L < nv := by
  unfold wu_cl
  by_cases h : L.length = 0
  · rw [if_pos h]; omega
  · rw [if_neg h]; have := wu_cv_b L nv; omega
theorem wu_X_cls_19 {post : Int32 → Prop} {p : Nat} {sn P V st : Int32} {c d f m sd sf : Nat → Int32} {s : Nat} {L : wu_P} (hs : s < 34) (hL : wu_Ho c d f s L) (hO : wu_Ok p L) :
    ∀ (v n : Nat), v ≤ 6 → v < n → post (wu_z (wu_cv L v)) → wX_slotClass_19 post (nI s) sn P V st c d f m sd sf n (wu_z ((v : Int) - 1)) := by
  intro v
  induction v with
  | zero =>
    intro n _ hn H
    obtain ⟨n, rfl⟩ : ∃ k, n = k + 1 := ⟨n - 1, by omega⟩
    exact wu_blt (-1) 0 (fun _ => by rw [wu_m1]; exact H) (fun h => absurd h (by decide)) rfl wu_z0 (by omega) (by omega)
  | succ v ih =>
    intro n hv hn H
    obtain ⟨n, rfl⟩ : ∃ k, n = k + 1 := ⟨n - 1, by omega⟩
    have e : ((v + 1 : Nat) : Int) - 1 = (v : Int) := by omega
    rw [e]
    refine wu_blt (v : Int) 0 (fun h => absurd h (by omega)) (fun _ => ?_) rfl wu_z0 (by omega) (by omega)
    rw [wu_zn]
    have hb := wu_dg_b v L
    refine wu_X_deg hs (by omega) hL hO ?_
    unfold wu_cv at H
    refine wu_blt (wu_dg v L) 1 (fun hlt => ?_) (fun hle => ?_) rfl (by decide) (by omega) (by omega)
    · intro x ex
      subst ex
      rw [wu_zn1]
      rw [if_neg (by omega)] at H
      exact ih n (by omega) (by omega) H
    · rw [if_pos hle, wu_zn] at H
      exact H
theorem wu_X_cls {post : Int32 → Prop} {p nv : Nat} {sn P st : Int32} {c d f m sd sf : Nat → Int32} {s : Nat} {L : wu_P} (hnv : nv ≤ 6) (hs : s < 34) (hL : wu_Ho c d f s L) (hO : wu_Ok p L) (H : post (wu_z (wu_cl nv L))) : wpX_slotClass post (sn, P, nI nv, st, c, d, f, m, sd, sf) (nI s) := by
  have h16 := hO.1
  refine ⟨vp_in_nI hs (by decide), ?_⟩
  unfold wu_cl at H
  refine pk_eq L.length 0 (fun h => ?_) (fun h => ?_) (by rw [nI_clamp (by omega)]; exact hL.1) rfl (by omega) (by omega)
  · rw [if_pos h] at H
    rw [show (-2 : Int32) = wu_z (-2) from by decide]
    exact H
  · intro x ex
    subst ex
    rw [if_neg h] at H
    rw [wu_zs1]
    exact ⟨nv + 1, wu_X_cls_19 hs hL hO nv (nv + 1) hnv (by omega) H⟩
/-! a coefficient -/
def wu_pt (v e K : Nat) (L : wu_P) : wu_P := (L.filter (fun t => decide (wu_ex v t.1 = e))).map (fun t => (t.1 - K, t.2))
theorem wu_pt_pos {v e K : Nat} {t : Nat × Nat} {L : wu_P} (h : wu_ex v t.1 = e) : wu_pt v e K (t :: L) = (t.1 - K, t.2) :: wu_pt v e K L := by
  unfold wu_pt; rw [List.filter_cons_of_pos (by simp [h]), List.map_cons]
theorem wu_pt_neg {v e K : Nat} {t : Nat × Nat} {L : wu_P} (h : wu_ex v t.1 ≠ e) : wu_pt v e K (t :: L) = wu_pt v e K L := by
  unfold wu_pt; rw [List.filter_cons_of_neg (by simp [h])]
theorem wu_pt_len (v e K : Nat) (L : wu_P) : (wu_pt v e K L).length ≤ L.length := by
  unfold wu_pt; rw [List.length_map]; exact List.length_filter_le _ _
theorem wu_X_coef_16 {post : St2 → Prop} {sn P V st : Int32} {m sd sf : Nat → Int32} {a b v e K : Nat} {x6 : Int32} (ha : a < 34) (hb : b < 34) (hab : a ≠ b) (hv : v < 6) (he : e < 32) (hx6 : x6 = wu_z (-(K : Int))) :
    ∀ (R N : wu_P) (j : Nat) (c d f : Nat → Int32) (n : Nat), c a = nI (j + R.length) → j + R.length ≤ 16 → N.length ≤ j → wu_At d f (a * 16 + j) R → wu_At d f (b * 16) N → (∀ t, t ∈ R → t.1 < 2147483648 ∧ (wu_ex v t.1 = e → K ≤ t.1)) → R.length < n →
    (∀ c' d' f', wu_Fr (fun q => q = b) c d f c' d' f' → wu_Ho c' d' f' b (N ++ wu_pt v e K R) → post (sn, P, V, st, c', d', f', m, sd, sf)) →
    wX_copyCoefficient_16 post (nI a) (nI v) (nI e) (nI b) x6 sn P V st n (nI N.length) (nI j) c d f m sd sf := by
  intro R
  induction R with
  | nil =>
    intro N j c d f n hc h16 hNj hA hN hR hn H
    obtain ⟨n, rfl⟩ : ∃ k, n = k + 1 := ⟨n - 1, by omega⟩
    refine ⟨vp_in_nI ha (by decide), pk_le (j + 0) j (fun _ => ⟨vp_in_nI hb (by decide), fun c' ec => ?_⟩) (fun h => absurd h (by omega)) (by rw [nI_clamp (by omega)]; exact hc) rfl (by omega) (by omega)⟩
    subst ec
    rw [nI_clamp (by omega)]
    refine H _ _ _ wu_Fr_cnt ?_
    rw [show wu_pt v e K [] = [] from rfl, List.append_nil]
    exact ⟨pk_us, hN⟩
  | cons t R ih =>
    intro N j c d f n hc h16 hNj hA hN hR hn H
    obtain ⟨n, rfl⟩ : ∃ k, n = k + 1 := ⟨n - 1, by omega⟩
    rw [List.length_cons] at hc h16 hn
    have ht := hR t List.mem_cons_self
    have hia : vp_in (nI a * 16 + nI j) 544 := pk_in (a * 16 + j) 544 (by omega) (wu_ix a _)
    have hib : vp_in (nI b * 16 + nI N.length) 544 := pk_in (b * 16 + N.length) 544 (by omega) (wu_ix b _)
    refine ⟨vp_in_nI ha (by decide), pk_le (j + (R.length + 1)) j (fun h => absurd h (by omega)) (fun _ => ⟨hia, fun x9 e9 => ?_⟩) (by rw [nI_clamp (by omega)]; exact hc) rfl (by omega) (by omega)⟩
    rw [wu_ixc a j (by omega), hA.1] at e9
    subst e9
    have hx := wu_exlt v t.1
    refine pk_eq (wu_ex v t.1) e (fun heq => ?_) (fun hne => ?_) (wu_shr ht.1 hv) rfl (by omega) (by omega)
    · refine ⟨hib, fun d' ed => ⟨hia, hib, fun f' ef => fun x ex y ey => ?_⟩⟩
      subst ed ef ex ey
      rw [wu_ixc b N.length (by omega), wu_ixc a j (by omega), hA.2.1, nI_1, nI_1]
      have ec : nI t.1 + x6 = nI (t.1 - K) := by
        have := ht.2 heq
        rw [hx6, ← wu_zn, wu_zadd, ← wu_zn]; exact congrArg wu_z (by omega)
      rw [ec]
      have := ih (N ++ [(t.1 - K, t.2)]) (j + 1) c (upd d (b * 16 + N.length) (nI (t.1 - K))) (upd f (b * 16 + N.length) (nI t.2)) n (by rw [hc]; exact congrArg nI (by omega)) (by omega) (by rw [wu_len1]; omega) ?_ (wu_At_snoc (t := (t.1 - K, t.2)) hN) (fun s hs => hR s (List.mem_cons_of_mem _ hs)) (by omega) ?_
      · rw [wu_len1] at this; exact this
      · refine wu_At_congr R _ (fun i hi hi' => ?_) hA.2.2
        have : i ≠ b * 16 + N.length := by
          intro e
          exact hab (by omega)
        exact ⟨pk_un this, pk_un this⟩
      · intro c' d' f' hF hH
        refine H _ _ _ (wu_Fr_trans (wu_Fr_wr (by omega) (by omega)) hF) ?_
        rw [wu_pt_pos heq]
        rw [List.append_assoc] at hH
        exact hH
    · intro y ey
      subst ey
      rw [nI_1]
      refine ih N (j + 1) c d f n (by rw [hc]; exact congrArg nI (by omega)) (by omega) (by omega) hA.2.2 hN (fun s hs => hR s (List.mem_cons_of_mem _ hs)) (by omega) ?_
      intro c' d' f' hF hH
      refine H _ _ _ hF ?_
      rw [wu_pt_neg hne]
      exact hH
theorem wu_X_coef {post : St2 → Prop} {p : Nat} {sn P V st : Int32} {c d f m sd sf : Nat → Int32} {a b v e e' : Nat} {L : wu_P} (ha : a < 34) (hb : b < 34) (hab : a ≠ b) (hv : v < 6) (he : e < 32) (hle : e' ≤ e) (hL : wu_Ho c d f a L) (hO : wu_Ok p L)
    (H : ∀ c' d' f', wu_Fr (fun q => q = b) c d f c' d' f' → wu_Ho c' d' f' b (wu_pt v e ((e - e') * 32 ^ v) L) → post (sn, P, V, st, c', d', f', m, sd, sf)) :
    wpX_copyCoefficient post (sn, P, V, st, c, d, f, m, sd, sf) (nI a) (nI v) (nI e) (nI b) (nI e') := by
  intro x6 e6
  have hx6 : x6 = wu_z (-(((e - e') * 32 ^ v : Nat) : Int)) := by
    rw [e6, wu_shl5 _ hv, ← wu_zn, ← wu_zn, ← wu_zn, wu_zsub, wu_zmul]
    refine congrArg wu_z ?_
    rw [Int.natCast_mul, Int.natCast_sub hle, ← Int.neg_mul]
    congr 1
    omega
  refine ⟨L.length + 1, wu_X_coef_16 ha hb hab hv he hx6 L [] 0 c d f (L.length + 1) (by rw [Nat.zero_add]; exact hL.1) (by have := hO.1; omega) (Nat.le_refl _) hL.2 trivial (fun t ht => ⟨by have := (hO.2.2 t ht).2.2.1; omega, fun z => ?_⟩) (by omega) H⟩
  exact (wu_down hv z (by omega) (hO.2.2 t ht).2.2).1
