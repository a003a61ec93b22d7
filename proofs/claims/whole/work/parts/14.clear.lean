/-! clearing the results, on both sides -/
def wu_Cz (c c' : Nat → Int32) : Prop := (∀ s, 9 ≤ s → s ≤ 21 → c' s = 0) ∧ (∀ s, (s < 9 ∨ 21 < s) → c' s = c s)
def wu_Mz (m : Nat → Int32) : Prop := ∀ u, u < 6 → m u = -1
theorem wu_X_cl_24 {post : SX → Prop} {sn P V st : Int32} {c d f sd sf : Nat → Int32} (H : ∀ m', wu_Mz m' → post (sn, P, V, 0, c, d, f, m', sd, sf)) :
    ∀ (l i n : Nat) (m : Nat → Int32), i + l = 6 → l < n → (∀ u, u < i → m u = -1) → wX_clearResults_24 post sn P V st n (nI i) c d f m sd sf := by
  intro l
  induction l with
  | zero =>
    intro i n m hi hn hm
    obtain ⟨n, rfl⟩ : ∃ k, n = k + 1 := ⟨n - 1, by omega⟩
    exact pk_le 6 i (fun _ => H m (fun u hu => hm u (by omega))) (fun h => absurd h (by omega)) rfl rfl (by omega) (by omega)
  | succ l ih =>
    intro i n m hi hn hm
    obtain ⟨n, rfl⟩ : ∃ k, n = k + 1 := ⟨n - 1, by omega⟩
    refine pk_le 6 i (fun h => absurd h (by omega)) (fun _ => ⟨vp_in_nI (by omega) (by decide), fun m' em y ey => ?_⟩) rfl rfl (by omega) (by omega)
    rw [nI_clamp (by omega)] at em
    subst em ey
    rw [nI_1]
    refine ih (i + 1) n _ (by omega) (by omega) (fun u hu => ?_)
    by_cases q : u = i
    · rw [q, pk_us]
    · rw [pk_un q]; exact hm u (by omega)
theorem wu_X_cl_3 {post : SX → Prop} {sn P V st : Int32} {c0 d f m sd sf : Nat → Int32} (H : ∀ c' m', wu_Cz c0 c' → wu_Mz m' → post (sn, P, V, 0, c', d, f, m', sd, sf)) :
    ∀ (l i n : Nat) (c : Nat → Int32), i + l = 22 → 9 ≤ i → l < n → (∀ s, 9 ≤ s → s < i → c s = 0) → (∀ s, (s < 9 ∨ i ≤ s) → c s = c0 s) → wX_clearResults_3 post sn P V st n (nI i) c d f m sd sf := by
  intro l
  induction l with
  | zero =>
    intro i n c hi h9 hn h1 h2
    obtain ⟨n, rfl⟩ : ∃ k, n = k + 1 := ⟨n - 1, by omega⟩
    refine pk_lt 21 i (fun _ => ⟨7, wu_X_cl_24 (fun m' hm => H c m' ⟨fun s h h' => h1 s h (by omega), fun s h => h2 s (by omega)⟩ hm) 6 0 7 m rfl (by omega) (fun u hu => absurd hu (by omega))⟩) (fun h => absurd h (by omega)) rfl rfl (by omega) (by omega)
  | succ l ih =>
    intro i n c hi h9 hn h1 h2
    obtain ⟨n, rfl⟩ : ∃ k, n = k + 1 := ⟨n - 1, by omega⟩
    refine pk_lt 21 i (fun h => absurd h (by omega)) (fun _ => ⟨vp_in_nI (by omega) (by decide), fun c' ec y ey => ?_⟩) rfl rfl (by omega) (by omega)
    rw [nI_clamp (by omega)] at ec
    subst ec ey
    rw [nI_1]
    refine ih (i + 1) n _ (by omega) (by omega) (by omega) (fun s h h' => ?_) (fun s h => ?_)
    · by_cases q : s = i
      · rw [q, pk_us]
      · rw [pk_un q]; exact h1 s h (by omega)
    · rw [pk_un (by omega)]; exact h2 s (by omega)
theorem wu_X_clear {post : SX → Prop} {sn P V st : Int32} {c d f m sd sf : Nat → Int32} (H : ∀ c' m', wu_Cz c c' → wu_Mz m' → post (sn, P, V, 0, c', d, f, m', sd, sf)) : wpX_clearResults post (sn, P, V, st, c, d, f, m, sd, sf) :=
  ⟨14, wu_X_cl_3 H 13 9 14 c rfl (by omega) (by omega) (fun s h h' => absurd h' (by omega)) (fun s _ => rfl)⟩
theorem wu_Y_cl_2 {post : SY → Prop} {P V st bn : Int32} {c0 d f bc bf : Nat → Int32} (H : ∀ c' m', wu_Cz c0 c' → wu_Mz m' → post (P, V, 0, bn, c', d, f, m', bc, bf)) :
    ∀ (l i n : Nat) (c m : Nat → Int32), i + l = 6 → l < n → (∀ s, (9 ≤ s ∧ s < 9 + i) ∨ (15 ≤ s ∧ s < 15 + i) → c s = 0) → (∀ s, (s < 9 ∨ 20 < s) → c s = c0 s) → (∀ u, u < i → m u = -1) → wY_clearResults_2 post P V st bn n (nI i) c d f m bc bf := by
  intro l
  induction l with
  | zero =>
    intro i n c m hi hn h1 h2 hm
    obtain ⟨n, rfl⟩ : ∃ k, n = k + 1 := ⟨n - 1, by omega⟩
    refine pk_le 6 i (fun _ c' ec => ?_) (fun h => absurd h (by omega)) rfl rfl (by omega) (by omega)
    subst ec
    refine H _ m ⟨fun s h h' => ?_, fun s h => ?_⟩ (fun u hu => hm u (by omega))
    · by_cases q : s = 21
      · rw [q, pk_us]
      · rw [pk_un q]; exact h1 s (by omega)
    · rw [pk_un (by omega)]; exact h2 s (by omega)
  | succ l ih =>
    intro i n c m hi hn h1 h2 hm
    obtain ⟨n, rfl⟩ : ∃ k, n = k + 1 := ⟨n - 1, by omega⟩
    refine pk_le 6 i (fun h => absurd h (by omega)) (fun _ => ?_) rfl rfl (by omega) (by omega)
    rw [show (9 : Int32) + nI i = nI (9 + i) from nI_add 9 i, show (15 : Int32) + nI i = nI (15 + i) from nI_add 15 i]
    refine ⟨vp_in_nI (by omega) (by decide), fun c1 e1 => ⟨vp_in_nI (by omega) (by decide), fun c2 e2 => ⟨vp_in_nI (by omega) (by decide), fun m' em y ey => ?_⟩⟩⟩
    rw [nI_clamp (by omega)] at e1 e2 em
    subst e1 e2 em ey
    rw [nI_1]
    refine ih (i + 1) n _ _ (by omega) (by omega) (fun s h => ?_) (fun s h => ?_) (fun u hu => ?_)
    · by_cases q : s = 15 + i
      · rw [q, pk_us]
      · rw [pk_un q]
        by_cases q2 : s = 9 + i
        · rw [q2, pk_us]
        · rw [pk_un q2]; exact h1 s (by omega)
    · rw [pk_un (by omega), pk_un (by omega)]; exact h2 s (by omega)
    · by_cases q : u = i
      · rw [q, pk_us]
      · rw [pk_un q]; exact hm u (by omega)
theorem wu_Y_clear {post : SY → Prop} {P V st bn : Int32} {c d f m bc bf : Nat → Int32} (H : ∀ c' m', wu_Cz c c' → wu_Mz m' → post (P, V, 0, bn, c', d, f, m', bc, bf)) : wpY_clearResults post (P, V, st, bn, c, d, f, m, bc, bf) :=
  ⟨7, wu_Y_cl_2 H 6 0 7 c m rfl (by omega) (fun s h => absurd h (by omega)) (fun s _ => rfl) (fun u hu => absurd hu (by omega))⟩
theorem wu_Y_fail {post : Int32 → SY → Prop} {P V st bn e : Int32} {c d f m bc bf : Nat → Int32} (H : ∀ c' m', wu_Cz c c' → wu_Mz m' → post e (P, V, e, bn, c', d, f, m', bc, bf)) : wpY_fail post (P, V, st, bn, c, d, f, m, bc, bf) e := by
  unfold wpY_fail
  try dsimp only
  exact wu_Y_clear (fun c' m' h1 h2 => H c' m' h1 h2)
theorem wu_Cz_fr {c c' d f : Nat → Int32} (h : wu_Cz c c') : wu_Fr (fun s => 9 ≤ s ∧ s ≤ 21) c d f c' d f :=
  fun s hs => ⟨h.2 s (by omega), fun _ _ => ⟨rfl, rfl⟩⟩
theorem wu_Cz_ho {c c' d f : Nat → Int32} {s : Nat} (h : wu_Cz c c') (h1 : 9 ≤ s) (h2 : s ≤ 21) : wu_Ho c' d f s [] := wu_Ho_z (h.1 s h1 h2)
theorem wu_Mz_KO {m : Nat → Int32} (h : wu_Mz m) : wu_KO m (fun _ => -1) := fun u hu => ⟨by rw [h u hu]; exact wu_m1, by dsimp only; omega, by dsimp only; omega⟩
