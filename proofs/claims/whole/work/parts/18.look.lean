/-! nth, same -/
theorem wu_Y_nth_24 {post : Int32 → Prop} {J : Int32 → Prop} {P V st bn : Int32} {c d f m bc bf : Nat → Int32} {s i j : Nat} {L : wu_P} {e : Nat × Nat} (hs : s < 35) (hi : i < 16) (h16 : L.length ≤ 16) (hL : wu_Ho c d f s L) (hb : ∀ t, t ∈ L → t.1 < 2147483648) (he : e.1 < 2147483648) (hd : d (s * 16 + i) = nI e.1) :
    ∀ (R M : wu_P) (k n : Nat), L = M ++ R → R.length < n → k ≤ M.length → wY_nth_77 post J (nI s) (nI j) (nI i) (nI (k + wu_rk R e.1)) P V st bn c d f m bc bf → wY_nth_24 post J (nI s) (nI j) (nI i) P V st bn c d f m bc bf n (nI k) (nI M.length) := by
  intro R
  induction R with
  | nil =>
    intro M k n eL hn hk H
    obtain ⟨n, rfl⟩ : ∃ k, n = k + 1 := ⟨n - 1, by omega⟩
    rw [List.append_nil] at eL
    subst eL
    exact ⟨vp_in_nI hs (by decide), pk_le L.length L.length (fun _ => H) (fun h => absurd h (by omega)) (by rw [nI_clamp (by omega)]; exact hL.1) rfl (by omega) (by omega)⟩
  | cons t R ih =>
    intro M k n eL hn hk H
    obtain ⟨n, rfl⟩ : ∃ k, n = k + 1 := ⟨n - 1, by omega⟩
    have hLl : L.length = M.length + (R.length + 1) := by rw [eL, List.length_append, List.length_cons]
    rw [List.length_cons] at hn
    have hin : vp_in (nI s * 16 + nI M.length) 560 := pk_in (s * 16 + M.length) 560 (by omega) (wu_ix s _)
    have hin2 : vp_in (nI s * 16 + nI i) 560 := pk_in (s * 16 + i) 560 (by omega) (wu_ix s _)
    have hA := hL.2
    rw [eL] at hA
    have hA := ((wu_At_app M (t :: R) _).mp hA).2
    have hbt := hb t (by rw [eL]; simp)
    have e2 : L = (M ++ [t]) ++ R := by rw [List.append_assoc]; exact eL
    refine ⟨vp_in_nI hs (by decide), pk_le L.length M.length (fun h => absurd h (by omega)) (fun _ => pk_le 16 M.length (fun h => absurd h (by omega)) (fun _ => ⟨hin, hin2, pk_le e.1 t.1 (fun hle => ?_) (fun hlt => ?_) (by rw [wu_ixc s i (by omega)]; exact hd) (by rw [wu_ixc s M.length (by omega)]; exact hA.1) (by omega) (by omega)⟩) rfl rfl (by omega) (by omega)) (by rw [nI_clamp (by omega)]; exact hL.1) rfl (by omega) (by omega)⟩
    · intro y ey
      subst ey
      have er : wu_rk (t :: R) e.1 = wu_rk R e.1 := by
        unfold wu_rk; rw [List.filter_cons_of_neg (by simp only [decide_eq_true_eq]; omega)]
      rw [er] at H
      have := ih (M ++ [t]) k n e2 (by omega) (by rw [wu_len1]; omega) H
      rw [wu_len1] at this; rw [nI_1]; exact this
    · intro x ex y ey
      subst ex ey
      have er : wu_rk (t :: R) e.1 = wu_rk R e.1 + 1 := by
        unfold wu_rk; rw [List.filter_cons_of_pos (by simp only [decide_eq_true_eq]; omega), List.length_cons]
      rw [er] at H
      have := ih (M ++ [t]) (k + 1) n e2 (by omega) (by rw [wu_len1]; omega) (by rw [show k + 1 + wu_rk R e.1 = k + (wu_rk R e.1 + 1) by omega]; exact H)
      rw [wu_len1] at this; rw [nI_1, nI_1]; exact this
theorem wu_rk_le (L : wu_P) (x : Nat) : wu_rk L x ≤ L.length := List.length_filter_le _ _
theorem wu_Y_nth_2 {post : Int32 → Prop} {P V st bn : Int32} {c d f m bc bf : Nat → Int32} {s j : Nat} {L : wu_P} (hs : s < 35) (hj : j < 16) (h16 : L.length ≤ 16) (hL : wu_Ho c d f s L) (hb : ∀ t, t ∈ L → t.1 < 2147483648)
    (H : ∀ M t R, L = M ++ t :: R → wu_rk L t.1 = j → post (nI M.length)) :
    ∀ (R M : wu_P) (n : Nat), L = M ++ R → R.length < n → (∃ t, t ∈ R ∧ wu_rk L t.1 = j) → wY_nth_2 post (nI s) (nI j) P V st bn c d f m bc bf n (nI M.length) := by
  intro R
  induction R with
  | nil =>
    intro M n eL hn hex
    obtain ⟨t, ht, _⟩ := hex
    exact absurd ht List.not_mem_nil
  | cons t R ih =>
    intro M n eL hn hex
    obtain ⟨n, rfl⟩ : ∃ k, n = k + 1 := ⟨n - 1, by omega⟩
    have hLl : L.length = M.length + (R.length + 1) := by rw [eL, List.length_append, List.length_cons]
    rw [List.length_cons] at hn
    have hA := hL.2
    rw [eL] at hA
    have hA := ((wu_At_app M (t :: R) _).mp hA).2
    have hbt := hb t (by rw [eL]; simp)
    have hr := wu_rk_le L t.1
    have e2 : L = (M ++ [t]) ++ R := by rw [List.append_assoc]; exact eL
    refine ⟨vp_in_nI hs (by decide), pk_le L.length M.length (fun h => absurd h (by omega)) (fun _ => pk_le 16 M.length (fun h => absurd h (by omega)) (fun _ => ⟨L.length + 1, ?_⟩) rfl rfl (by omega) (by omega)) (by rw [nI_clamp (by omega)]; exact hL.1) rfl (by omega) (by omega)⟩
    refine wu_Y_nth_24 (e := t) hs (by omega) h16 hL hb hbt hA.1 L [] 0 (L.length + 1) rfl (by omega) (Nat.le_refl _) ?_
    rw [Nat.zero_add]
    refine pk_eq (wu_rk L t.1) j (fun h => H M t R eL h) (fun h => ?_) rfl rfl (by omega) (by omega)
    intro y ey
    subst ey
    have := ih (M ++ [t]) n e2 (by omega) ?_
    · rw [wu_len1] at this; rw [nI_1]; exact this
    · obtain ⟨u, hu, eu⟩ := hex
      rcases List.mem_cons.mp hu with rfl | hu
      · exact absurd eu h
      · exact ⟨u, hu, eu⟩
theorem wu_Y_nth {post : Int32 → Prop} {p : Nat} {P V st bn : Int32} {c d f m bc bf : Nat → Int32} {s j : Nat} {L : wu_P} (hs : s < 35) (hL : wu_Hp c d f s L) (cL : wu_Cp p L) (hj : j < L.length)
    (H : ∀ q : Nat, q < 16 → d (s * 16 + q) = nI (L[j]'hj).1 → f (s * 16 + q) = nI (L[j]'hj).2 → post (nI q)) : wpY_nth post (P, V, st, bn, c, d, f, m, bc, bf) (nI s) (nI j) := by
  obtain ⟨L', hp, hL'⟩ := hL
  have oL := wu_Ok_perm cL.2 hp.symm
  have h16 := oL.1
  have hl := hp.length_eq
  refine ⟨L'.length + 1, wu_Y_nth_2 hs (by omega) h16 hL' (fun t ht => by have := (oL.2.2 t ht).2.2.1; omega) (fun M t R eL hr => ?_) L' [] (L'.length + 1) rfl (by omega) ?_⟩
  · have ht : t ∈ L := hp.mem_iff.mp (by rw [eL]; simp)
    obtain ⟨j', hj', e'⟩ := List.getElem_of_mem ht
    have h1 := wu_rk_at L cL.1 j' hj'
    rw [e', ← wu_rk_perm hp, hr] at h1
    subst h1
    have hA := hL'.2
    rw [eL] at hA
    have hA := ((wu_At_app M (t :: R) _).mp hA).2
    have hml : M.length < L'.length := by rw [eL, List.length_append, List.length_cons]; omega
    refine H M.length (by omega) ?_ ?_
    · rw [e']; exact hA.1
    · rw [e']; exact hA.2.1
  · exact ⟨L[j]'hj, hp.mem_iff.mpr (List.getElem_mem hj), by rw [wu_rk_perm hp]; exact wu_rk_at L cL.1 j hj⟩
/-! the two comparisons -/
theorem wu_X_same_19 {post : Int32 → Prop} {sn P V st : Int32} {c d f m sd sf : Nat → Int32} {a b : Nat} (ha : a < 34) (hb : b < 34) :
    ∀ (A B : wu_P) (j n : Nat), A.length = B.length → c a = nI (j + A.length) → j + A.length ≤ 16 → wu_At d f (a * 16 + j) A → wu_At d f (b * 16 + j) B → (∀ t, t ∈ A → t.1 < 2147483648 ∧ t.2 < 2147483648) → (∀ t, t ∈ B → t.1 < 2147483648 ∧ t.2 < 2147483648) → A.length < n → (A = B → post 1) → (A ≠ B → post 0) → wX_samePoly_19 post (nI a) (nI b) sn P V st c d f m sd sf n (nI j) := by
  intro A
  induction A with
  | nil =>
    intro B j n hl hc h16 hA hB bA bB hn h1 h0
    obtain ⟨n, rfl⟩ : ∃ k, n = k + 1 := ⟨n - 1, by omega⟩
    have : B = [] := List.length_eq_zero_iff.mp hl.symm
    exact ⟨vp_in_nI ha (by decide), pk_le (j + 0) j (fun _ => h1 this.symm) (fun h => absurd h (by omega)) (by rw [nI_clamp (by omega)]; exact hc) rfl (by omega) (by omega)⟩
  | cons t A ih =>
    intro B j n hl hc h16 hA hB bA bB hn h1 h0
    obtain ⟨n, rfl⟩ : ∃ k, n = k + 1 := ⟨n - 1, by omega⟩
    cases B with
    | nil => exact absurd hl (by simp)
    | cons u B =>
      rw [List.length_cons] at hc h16 hn
      have hl' : A.length = B.length := by simp only [List.length_cons] at hl; omega
      have hia : vp_in (nI a * 16 + nI j) 544 := pk_in (a * 16 + j) 544 (by omega) (wu_ix a _)
      have hib : vp_in (nI b * 16 + nI j) 544 := pk_in (b * 16 + j) 544 (by omega) (wu_ix b _)
      have bt := bA t List.mem_cons_self
      have bu := bB u List.mem_cons_self
      have hca := wu_ixc a j (by omega)
      have hcb := wu_ixc b j (by omega)
      refine ⟨vp_in_nI ha (by decide), pk_le (j + (A.length + 1)) j (fun h => absurd h (by omega)) (fun _ => ⟨hia, hib, pk_eq t.1 u.1 (fun e1 => ⟨hia, hib, pk_eq t.2 u.2 (fun e2 => ?_) (fun e2 => h0 ?_) (by rw [hca]; exact hA.2.1) (by rw [hcb]; exact hB.2.1) (by omega) (by omega)⟩) (fun e1 => h0 ?_) (by rw [hca]; exact hA.1) (by rw [hcb]; exact hB.1) (by omega) (by omega)⟩) (by rw [nI_clamp (by omega)]; exact hc) rfl (by omega) (by omega)⟩
      · intro y ey
        subst ey
        rw [nI_1]
        have etu : t = u := Prod.ext e1 e2
        refine ih B (j + 1) n hl' (by rw [hc]; exact congrArg nI (by omega)) (by omega) hA.2.2 hB.2.2 (fun s hs => bA s (List.mem_cons_of_mem _ hs)) (fun s hs => bB s (List.mem_cons_of_mem _ hs)) (by omega) (fun e => h1 (by rw [etu, e])) (fun e => h0 (fun z => e (List.cons.inj z).2))
      · intro z; exact e2 (congrArg Prod.snd (List.cons.inj z).1)
      · intro z; exact e1 (congrArg Prod.fst (List.cons.inj z).1)
theorem wu_X_same {post : Int32 → Prop} {p : Nat} {sn P V st : Int32} {c d f m sd sf : Nat → Int32} {a b : Nat} {A B : wu_P} (hp : p ≤ 32749) (ha : a < 34) (hb : b < 34) (hA : wu_Ho c d f a A) (oA : wu_Ok p A) (hB : wu_Ho c d f b B) (oB : wu_Ok p B) (h1 : A = B → post 1) (h0 : A ≠ B → post 0) : wpX_samePoly post (sn, P, V, st, c, d, f, m, sd, sf) (nI a) (nI b) := by
  have a16 := oA.1
  have b16 := oB.1
  have bd : ∀ L : wu_P, wu_Ok p L → ∀ t, t ∈ L → t.1 < 2147483648 ∧ t.2 < 2147483648 := fun L oL t ht => by
    have h := oL.2.2 t ht
    have := h.2.2.1
    exact ⟨by omega, by omega⟩
  refine ⟨vp_in_nI ha (by decide), vp_in_nI hb (by decide), pk_eq A.length B.length (fun hl => ?_) (fun hl => h0 (fun z => hl (by rw [z]))) (by rw [nI_clamp (by omega)]; exact hA.1) (by rw [nI_clamp (by omega)]; exact hB.1) (by omega) (by omega)⟩
  exact ⟨A.length + 1, wu_X_same_19 ha hb A B 0 (A.length + 1) hl (by rw [Nat.zero_add]; exact hA.1) (by omega) hA.2 hB.2 (bd A oA) (bd B oB) (by omega) h1 h0⟩
theorem wu_Y_same_19 {post : Int32 → Prop} {P V st bn : Int32} {c d f m bc bf : Nat → Int32} {a b : Nat} {A B : wu_P} (ha : a < 35) (hb : b < 35) (a16 : A.length ≤ 16) (b16 : B.length ≤ 16) (hA : wu_Ho c d f a A) (hB : wu_Ho c d f b B) (bA : ∀ t, t ∈ A → t.1 < 2147483648 ∧ t.2 < 2147483648) (bB : ∀ t, t ∈ B → t.1 < 2147483648 ∧ t.2 < 2147483648) (nB : (B.map (fun t => t.1)).Nodup)
    (h1 : (∀ t, t ∈ A → t ∈ B) → post 1) (h0 : (∃ t, t ∈ A ∧ ¬ t ∈ B) → post 0) :
    ∀ (R M : wu_P) (n : Nat), A = M ++ R → (∀ t, t ∈ M → t ∈ B) → R.length < n → wY_same_19 post (nI a) (nI b) P V st bn c d f m bc bf n (nI M.length) := by
  intro R
  induction R with
  | nil =>
    intro M n e hM hn
    obtain ⟨n, rfl⟩ : ∃ k, n = k + 1 := ⟨n - 1, by omega⟩
    rw [List.append_nil] at e
    subst e
    exact ⟨vp_in_nI ha (by decide), pk_le A.length A.length (fun _ => h1 hM) (fun h => absurd h (by omega)) (by rw [nI_clamp (by omega)]; exact hA.1) rfl (by omega) (by omega)⟩
  | cons t R ih =>
    intro M n e hM hn
    obtain ⟨n, rfl⟩ : ∃ k, n = k + 1 := ⟨n - 1, by omega⟩
    have hAl : A.length = M.length + (R.length + 1) := by rw [e, List.length_append, List.length_cons]
    rw [List.length_cons] at hn
    have hin : vp_in (nI a * 16 + nI M.length) 560 := pk_in (a * 16 + M.length) 560 (by omega) (wu_ix a _)
    have hA' := hA.2
    rw [e] at hA'
    have hA' := ((wu_At_app M (t :: R) _).mp hA').2
    have htA : t ∈ A := by rw [e]; simp
    have bt := bA t htA
    have hca := wu_ixc a M.length (by omega)
    refine ⟨vp_in_nI ha (by decide), pk_le A.length M.length (fun h => absurd h (by omega)) (fun _ => pk_le 16 M.length (fun h => absurd h (by omega)) (fun _ => ⟨hin, ?_⟩) rfl rfl (by omega) (by omega)) (by rw [nI_clamp (by omega)]; exact hA.1) rfl (by omega) (by omega)⟩
    rw [hca, hA'.1]
    refine wu_Y_find hb bt.1 b16 hB (fun t ht => (bB t ht).1) (fun hn' => ?_) (fun M2 u R2 eB eu => ?_)
    · exact br_t (by decide) (h0 ⟨t, htA, fun z => hn' t z rfl⟩)
    · have hBl : B.length = M2.length + (R2.length + 1) := by rw [eB, List.length_append, List.length_cons]
      have hB' := hB.2
      rw [eB] at hB'
      have hB' := ((wu_At_app M2 (u :: R2) _).mp hB').2
      have huB : u ∈ B := by rw [eB]; simp
      have bu := bB u huB
      refine br_f (nI_pos (by omega)) ⟨pk_in (b * 16 + M2.length) 560 (by omega) (wu_ix b _), hin, ?_⟩
      rw [wu_ixc b M2.length (by omega), hB'.2.1, hA'.2.1]
      refine pk_eq u.2 t.2 (fun e2 => ?_) (fun e2 => h0 ⟨t, htA, fun z => e2 ?_⟩) rfl rfl (by omega) (by omega)
      · intro y ey
        subst ey
        have etu : u = t := Prod.ext eu e2
        have := ih (M ++ [t]) n (by rw [List.append_assoc]; exact e) (fun s hs => ?_) (by omega)
        · rw [wu_len1] at this; rw [nI_1]; exact this
        · rcases List.mem_append.mp hs with hs | hs
          · exact hM s hs
          · rw [List.mem_singleton] at hs; subst hs; rw [← etu]; exact huB
      · have g1 := wu_cf_mem nB z
        have g2 := wu_cf_mem nB huB
        rw [eu] at g2
        exact g2.symm.trans g1
theorem wu_sub_perm {A B : wu_P} (hA : A.Nodup) (hB : B.Nodup) (hl : A.length = B.length) (h : ∀ t, t ∈ A → t ∈ B) : List.Perm A B := by
  refine (List.perm_ext_iff_of_nodup hA hB).mpr (fun t => ⟨h t, fun ht => Classical.byContradiction fun hn => ?_⟩)
  have : (t :: A).Nodup := List.nodup_cons.mpr ⟨hn, hA⟩
  have h2 := List.Nodup.length_le_of_subset this (l₂ := B) (fun x hx => by
    rcases List.mem_cons.mp hx with rfl | hx
    · exact ht
    · exact h x hx)
  rw [List.length_cons] at h2
  omega
theorem wu_Y_same {post : Int32 → Prop} {p : Nat} {P V st bn : Int32} {c d f m bc bf : Nat → Int32} {a b : Nat} {A B : wu_P} (hp : p ≤ 32749) (ha : a < 35) (hb : b < 35) (hA : wu_Hp c d f a A) (cA : wu_Cp p A) (hB : wu_Hp c d f b B) (cB : wu_Cp p B) (h1 : A = B → post 1) (h0 : A ≠ B → post 0) : wpY_same post (P, V, st, bn, c, d, f, m, bc, bf) (nI a) (nI b) := by
  obtain ⟨A', pA, hA'⟩ := hA
  obtain ⟨B', pB, hB'⟩ := hB
  have oA := wu_Ok_perm cA.2 pA.symm
  have oB := wu_Ok_perm cB.2 pB.symm
  have a16 := oA.1
  have b16 := oB.1
  have bd : ∀ L : wu_P, wu_Ok p L → ∀ t, t ∈ L → t.1 < 2147483648 ∧ t.2 < 2147483648 := fun L oL t ht => by
    have h := oL.2.2 t ht
    have := h.2.2.1
    exact ⟨by omega, by omega⟩
  refine ⟨vp_in_nI ha (by decide), vp_in_nI hb (by decide), pk_eq A'.length B'.length (fun hl => ?_) (fun hl => h0 (fun z => hl ?_)) (by rw [nI_clamp (by omega)]; exact hA'.1) (by rw [nI_clamp (by omega)]; exact hB'.1) (by omega) (by omega)⟩
  · refine ⟨A'.length + 1, wu_Y_same_19 ha hb a16 b16 hA' hB' (bd A' oA) (bd B' oB) oB.2.1 (fun g => h1 ?_) (fun ⟨t, ht, hn⟩ => h0 (fun z => hn ?_)) A' [] (A'.length + 1) rfl (fun _ h => absurd h List.not_mem_nil) (by omega)⟩
    · have q := wu_sub_perm (wu_nd_of oA.2.1) (wu_nd_of oB.2.1) hl g
      exact wu_Srt_eq cA.1 cB.1 (pA.symm.trans (q.trans pB))
    · exact pB.mem_iff.mpr (z ▸ pA.mem_iff.mp ht)
  · rw [pA.length_eq, pB.length_eq, z]
