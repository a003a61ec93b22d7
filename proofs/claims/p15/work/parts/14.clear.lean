/-! clearing the results, on both sides -/
def wu_Cz (c c' : Nat → Int32) : Prop := (∀ s, 9 ≤ s → s ≤ 21 → c' s = 0) ∧ (∀ s, (s < 9 ∨ 21 < s) → c' s = c s)
def wu_Mz (m : Nat → Int32) : Prop := ∀ u, u < 6 → m u = -1
theorem wu_X_cl_24 {post : St2 → Prop} {sn P V st : Int32} {c d f sd sf : Nat → Int32} (H : ∀ m', wu_Mz m' → post (sn, P, V, 0, c, d, f, m', sd, sf)) :
    ∀ (l i n : Nat) (m : Nat → Int32), i + l = 6 → l < n → (∀ u, u < i → m u = -1) → wX_clearResults_24 post sn P V st n (nI i) c d f m sd sf := by
  intro l
  induction l with
  | zero =>
    intro i n m hi hn hm
    obtain ⟨n, rfl⟩ : ∃ k, n = k + 1 := ⟨n - 1, by omega⟩
    exact pk_le 6 i (fun _ => H m (fun u hu => hm u (by omega))) (fun h => absurd h (by omega)) rfl rfl (by omega) (by omega)
  | succ l ih =>
    intro i n m hi hn hm
    obtain ⟨n, rfl⟩ : ∃ k, n = k + 1 := ⟨n - 1, by omega⟩
    refine pk_le 6 i (fun h => absurd h (by omega)) (fun _ => ⟨vp_in_nI (by omega) (by decide), fun m' em y ey => ?_⟩) rfl rfl (by omega) (by omega)
    rw [nI_clamp (by omega)] at em
    subst em ey
    rw [nI_1]
    refine ih (i + 1) n _ (by omega) (by omega) (fun u hu => ?_)
    by_cases q : u = i
    · rw [q, pk_us]
    · rw [pk_un q]; exact hm u (by omega)
theorem wu_X_cl_3 {post : St2 → Prop} {sn P V st : Int32} {c0 d f m sd sf : Nat → Int32} (H : ∀ c' m', wu_Cz c0 c' → wu_Mz m' → post (sn, P, V, 0, c', d, f, m', sd, sf)) :
    ∀ (l i n : Nat) (c : Nat → Int32), i + l = 22 → 9 ≤ i → l < n → (∀ s, 9 ≤ s → s < i → c s = 0) → (∀ s, (s < 9 ∨ i ≤ s) → c s = c0 s) → wX_clearResults_3 post sn P V st n (nI i) c d f m sd sf := by
  intro l
  induction l with
  | zero =>
    intro i n c hi h9 hn h1 h2
    obtain ⟨n, rfl⟩ : ∃ k, n = k + 1 := ⟨n - 1, by omega⟩
    refine pk_lt 21 i (fun _ => ⟨7, wu_X_cl_24 (fun m' hm => H c m' ⟨fun s h h' => h1 s h (by omega), fun s h => h2 s (by omega)⟩ hm) 6 0 7 m rfl (by omega) (fun u hu => absurd hu (by omega))⟩) (fun h => absurd h (by omega)) rfl rfl (by omega) (by omega)
  | succ l ih =>
    intro i n c hi h9 hn h1 h2
    obtain ⟨n, rfl⟩ : ∃ k, n = k + 1 := ⟨n - 1, by omega⟩
    refine pk_lt 21 i (fun h => absurd h (by omega)) (fun _ => ⟨vp_in_nI (by omega) (by decide), fun c' ec y ey => ?_⟩) rfl rfl (by omega) (by omega)
    rw [nI_clamp (by omega)] at ec
    subst ec ey
    rw [nI_1]
    refine ih (i + 1) n _ (by omega) (by omega) (by omega) (fun s h h' => ?_) (fun s h => ?_)
    · by_cases q : s = i
      · rw [q, pk_us]
      · rw [pk_un q]; exact h1 s h (by omega)
    · rw [pk_un (by omega)]; exact h2 s (by omega)
theorem wu_X_clear {post : St2 → Prop} {sn P V st : Int32} {c d f m sd sf : Nat → Int32} (H : ∀ c' m', wu_Cz c c' → wu_Mz m' → post (sn, P, V, 0, c', d, f, m', sd, sf)) : wpX_clearResults post (sn, P, V, st, c, d, f, m, sd, sf) :=
  ⟨14, wu_X_cl_3 H 13 9 14 c rfl (by omega) (by omega) (fun s h h' => absurd h' (by omega)) (fun s _ => rfl)⟩
theorem wu_Cz_fr {c c' d f : Nat → Int32} (h : wu_Cz c c') : wu_Fr (fun s => 9 ≤ s ∧ s ≤ 21) c d f c' d f :=
  fun s hs => ⟨h.2 s (by omega), fun _ _ => ⟨rfl, rfl⟩⟩
theorem wu_Cz_ho {c c' d f : Nat → Int32} {s : Nat} (h : wu_Cz c c') (h1 : 9 ≤ s) (h2 : s ≤ 21) : wu_Ho c' d f s [] := wu_Ho_z (h.1 s h1 h2)
theorem wu_Mz_KO {m : Nat → Int32} (h : wu_Mz m) : wu_KO m (fun _ => -1) := fun u hu => ⟨by rw [h u hu]; exact wu_m1, by dsimp only; omega, by dsimp only; omega⟩
