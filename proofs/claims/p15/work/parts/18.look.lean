/-! nth, same -/
theorem wu_rk_le (L : wu_P) (x : Nat) : wu_rk L x ≤ L.length := List.length_filter_le _ _
/-! the two comparisons -/
theorem wu_X_same_19 {post : Int32 → Prop} {sn P V st : Int32} {c d f m sd sf : Nat → Int32} {a b : Nat} (ha : a < 34) (hb : b < 34) :
    ∀ (A B : wu_P) (j n : Nat), A.length = B.length → c a = nI (j + A.length) → j + A.length ≤ 16 → wu_At d f (a * 16 + j) A → wu_At d f (b * 16 + j) B → (∀ t, t ∈ A → t.1 < 2147483648 ∧ t.2 < 2147483648) → (∀ t, t ∈ B → t.1 < 2147483648 ∧ t.2 < 2147483648) → A.length < n → (A = B → post 1) → (A ≠ B → post 0) → wX_samePoly_19 post (nI a) (nI b) sn P V st c d f m sd sf n (nI j) := by
  intro A
  induction A with
  | nil =>
    intro B j n hl hc h16 hA hB bA bB hn h1 h0
    obtain ⟨n, rfl⟩ : ∃ k, n = k + 1 := ⟨n - 1, by omega⟩
    have : B = [] := List.length_eq_zero_iff.mp hl.symm
    exact ⟨vp_in_nI ha (by decide), pk_le (j + 0) j (fun _ => h1 this.symm) (fun h => absurd h (by omega)) (by rw [nI_clamp (by omega)]; exact hc) rfl (by omega) (by omega)⟩
  | cons t A ih =>
    intro B j n hl hc h16 hA hB bA bB hn h1 h0
    obtain ⟨n, rfl⟩ : ∃ k, n = k + 1 := ⟨n - 1, by omega⟩
    cases B with
    | nil => exact absurd hl (by simp)
    | cons u B =>
      rw [List.length_cons] at hc h16 hn
      have hl' : A.length = B.length := by simp only [List.length_cons] at hl; omega
      have hia : vp_in (nI a * 16 + nI j) 544 := pk_in (a * 16 + j) 544 (by omega) (wu_ix a _)
      have hib : vp_in (nI b * 16 + nI j) 544 := pk_in (b * 16 + j) 544 (by omega) (wu_ix b _)
      have bt := bA t List.mem_cons_self
      have bu := bB u List.mem_cons_self
      have hca := wu_ixc a j (by omega)
      have hcb := wu_ixc b j (by omega)
      refine ⟨vp_in_nI ha (by decide), pk_le (j + (A.length + 1)) j (fun h => absurd h (by omega)) (fun _ => ⟨hia, hib, pk_eq t.1 u.1 (fun e1 => ⟨hia, hib, pk_eq t.2 u.2 (fun e2 => ?_) (fun e2 => h0 ?_) (by rw [hca]; exact hA.2.1) (by rw [hcb]; exact hB.2.1) (by omega) (by omega)⟩) (fun e1 => h0 ?_) (by rw [hca]; exact hA.1) (by rw [hcb]; exact hB.1) (by omega) (by omega)⟩) (by rw [nI_clamp (by omega)]; exact hc) rfl (by omega) (by omega)⟩
      · intro y ey
        subst ey
        rw [nI_1]
        have etu : t = u := Prod.ext e1 e2
        refine ih B (j + 1) n hl' (by rw [hc]; exact congrArg nI (by omega)) (by omega) hA.2.2 hB.2.2 (fun s hs => bA s (List.mem_cons_of_mem _ hs)) (fun s hs => bB s (List.mem_cons_of_mem _ hs)) (by omega) (fun e => h1 (by rw [etu, e])) (fun e => h0 (fun z => e (List.cons.inj z).2))
      · intro z; exact e2 (congrArg Prod.snd (List.cons.inj z).1)
      · intro z; exact e1 (congrArg Prod.fst (List.cons.inj z).1)
theorem wu_X_same {post : Int32 → Prop} {p : Nat} {sn P V st : Int32} {c d f m sd sf : Nat → Int32} {a b : Nat} {A B : wu_P} (hp : p ≤ 32749) (ha : a < 34) (hb : b < 34) (hA : wu_Ho c d f a A) (oA : wu_Ok p A) (hB : wu_Ho c d f b B) (oB : wu_Ok p B) (h1 : A = B → post 1) (h0 : A ≠ B → post 0) : wpX_samePoly post (sn, P, V, st, c, d, f, m, sd, sf) (nI a) (nI b) := by
  have a16 := oA.1
  have b16 := oB.1
  have bd : ∀ L : wu_P, wu_Ok p L → ∀ t, t ∈ L → t.1 < 2147483648 ∧ t.2 < 2147483648 := fun L oL t ht => by
    have h := oL.2.2 t ht
    have := h.2.2.1
    exact ⟨by omega, by omega⟩
  refine ⟨vp_in_nI ha (by decide), vp_in_nI hb (by decide), pk_eq A.length B.length (fun hl => ?_) (fun hl => h0 (fun z => hl (by rw [z]))) (by rw [nI_clamp (by omega)]; exact hA.1) (by rw [nI_clamp (by omega)]; exact hB.1) (by omega) (by omega)⟩
  exact ⟨A.length + 1, wu_X_same_19 ha hb A B 0 (A.length + 1) hl (by rw [Nat.zero_add]; exact hA.1) (by omega) hA.2 hB.2 (bd A oA) (bd B oB) (by omega) h1 h0⟩
theorem wu_sub_perm {A B : wu_P} (hA : A.Nodup) (hB : B.Nodup) (hl : A.length = B.length) (h : ∀ t, t ∈ A → t ∈ B) : List.Perm A B := by
  refine (List.perm_ext_iff_of_nodup hA hB).mpr (fun t => ⟨h t, fun ht => Classical.byContradiction fun hn => ?_⟩)
  have : (t :: A).Nodup := List.nodup_cons.mpr ⟨hn, hA⟩
  have h2 := List.Nodup.length_le_of_subset this (l₂ := B) (fun x hx => by
    rcases List.mem_cons.mp hx with rfl | hx
    · exact ht
    · exact h x hx)
  rw [List.length_cons] at h2
  omega
