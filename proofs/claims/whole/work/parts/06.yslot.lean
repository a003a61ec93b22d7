/-! the reference's slots -/
theorem wu_At_mv {d f d' f' : Nat → Int32} {x y : Nat} {L : wu_P} (h : wu_At d f x L) (g : ∀ j, j < L.length → d' (y + j) = d (x + j) ∧ f' (y + j) = f (x + j)) : wu_At d' f' y L :=
  wu_At_of L y (fun j hj => ⟨(g j hj).1.trans (wu_At_get L x j hj h).1, (g j hj).2.trans (wu_At_get L x j hj h).2⟩)
theorem wu_Y_copy_2 {post : SY → Prop} {P V st bn : Int32} {m bc bf : Nat → Int32} {a b : Nat} {c d0 f0 : Nat → Int32} (ha : a < 35) (hb : b < 35) (hab : a ≠ b)
    (H : ∀ c' d' f', wu_Fr (fun q => q = b) c d0 f0 c' d' f' → c' b = c a → (∀ j, j < 16 → d' (b * 16 + j) = d0 (a * 16 + j) ∧ f' (b * 16 + j) = f0 (a * 16 + j)) → post (P, V, st, bn, c', d', f', m, bc, bf)) :
    ∀ (l k : Nat) (d f : Nat → Int32) (n : Nat), k + l = 16 → wu_Fr (fun q => q = b) c d0 f0 c d f → (∀ j, j < k → d (b * 16 + j) = d0 (a * 16 + j) ∧ f (b * 16 + j) = f0 (a * 16 + j)) → l < n →
    wY_copy_2 post (nI a) (nI b) P V st bn n (nI k) c d f m bc bf := by
  intro l
  induction l with
  | zero =>
    intro k d f n e hF hj hn
    obtain ⟨n, rfl⟩ : ∃ k, n = k + 1 := ⟨n - 1, by omega⟩
    refine pk_le 16 k (fun _ => ⟨vp_in_nI ha (by decide), vp_in_nI hb (by decide), fun c' ec => ?_⟩) (fun h => absurd h (by omega)) rfl rfl (by omega) (by omega)
    subst ec
    rw [nI_clamp (by omega), nI_clamp (by omega)]
    exact H _ _ _ (wu_Fr_trans hF wu_Fr_cnt) pk_us (fun j h => hj j (by omega))
  | succ l ih =>
    intro k d f n e hF hj hn
    obtain ⟨n, rfl⟩ : ∃ k, n = k + 1 := ⟨n - 1, by omega⟩
    have hia : vp_in (nI a * 16 + nI k) 560 := pk_in (a * 16 + k) 560 (by omega) (wu_ix a _)
    have hib : vp_in (nI b * 16 + nI k) 560 := pk_in (b * 16 + k) 560 (by omega) (wu_ix b _)
    refine pk_le 16 k (fun h => absurd h (by omega)) (fun _ => ⟨hia, hib, fun d' ed => ⟨hia, hib, fun f' ef => fun x ex => ?_⟩⟩) rfl rfl (by omega) (by omega)
    subst ed ef ex
    rw [wu_ixc a k (by omega), wu_ixc b k (by omega), nI_1]
    have g := (hF a hab).2 k (by omega)
    refine ih (k + 1) _ _ n (by omega) (wu_Fr_trans hF (wu_Fr_wr (by omega) (by omega))) (fun j h => ?_) (by omega)
    by_cases q : j = k
    · subst q
      exact ⟨pk_us.trans g.1, pk_us.trans g.2⟩
    · have := hj j (by omega)
      exact ⟨(pk_un (by omega)).trans this.1, (pk_un (by omega)).trans this.2⟩
theorem wu_Y_copy {post : SY → Prop} {P V st bn : Int32} {c d f m bc bf : Nat → Int32} {a b : Nat} {L : wu_P} (ha : a < 35) (hb : b < 35) (hab : a ≠ b) (hL : wu_Ho c d f a L) (h16 : L.length ≤ 16)
    (H : ∀ c' d' f', wu_Fr (fun q => q = b) c d f c' d' f' → wu_Ho c' d' f' b L → post (P, V, st, bn, c', d', f', m, bc, bf)) : wpY_copy post (P, V, st, bn, c, d, f, m, bc, bf) (nI a) (nI b) :=
  ⟨17, wu_Y_copy_2 ha hb hab (fun c' d' f' hF hc hj => H c' d' f' hF ⟨hc.trans hL.1, wu_At_mv hL.2 (fun j h => hj j (by omega))⟩) 16 0 d f 17 rfl wu_Fr_refl (fun j h => absurd h (by omega)) (by omega)⟩
theorem wu_Y_deg_5 {post : Int32 → Prop} {bn P V st : Int32} {c d f m sd sf : Nat → Int32} {s v : Nat} (hs : s < 35) (hv : v < 6) :
    ∀ (R : wu_P) (j n : Nat) (k : Int), c s = nI (j + R.length) → j + R.length ≤ 16 → wu_At d f (s * 16 + j) R → (∀ t, t ∈ R → t.1 < 2147483648) → R.length < n → -1 ≤ k → k < 32 →
    post (wu_z (max k (wu_dg v R))) → wY_deg_5 post (nI s) (nI v) P V st bn c d f m sd sf n (wu_z k) (nI j) := by
  intro R
  induction R with
  | nil =>
    intro j n k hc h16 hAt hb hn h1 h2 H
    obtain ⟨n, rfl⟩ : ∃ k, n = k + 1 := ⟨n - 1, by omega⟩
    refine ⟨vp_in_nI hs (by decide), pk_le (j + 0) j (fun _ => ?_) (fun h => absurd h (by omega)) (by rw [nI_clamp (by omega)]; exact hc) rfl (by omega) (by omega)⟩
    rw [show max k (wu_dg v []) = k by show max k (-1) = k; omega] at H
    exact H
  | cons t R ih =>
    intro j n k hc h16 hAt hb hn h1 h2 H
    obtain ⟨n, rfl⟩ : ∃ k, n = k + 1 := ⟨n - 1, by omega⟩
    rw [List.length_cons] at hc h16 hn
    have hin : vp_in (nI s * 16 + nI j) 560 := pk_in (s * 16 + j) 560 (by omega) (wu_ix s j)
    have ht := hb t List.mem_cons_self
    have hx := wu_exlt v t.1
    refine ⟨vp_in_nI hs (by decide), pk_le (j + (R.length + 1)) j (fun h => absurd h (by omega)) (fun _ => pk_le 16 j (fun h => absurd h (by omega)) (fun _ => ⟨hin, fun x5 e5 => ?_⟩) rfl rfl (by omega) (by omega)) (by rw [nI_clamp (by omega)]; exact hc) rfl (by omega) (by omega)⟩
    rw [wu_ixc s j (by omega), hAt.1, wu_shr ht hv, ← wu_zn] at e5
    subst e5
    have em : max k (wu_dg v (t :: R)) = max (max k (wu_ex v t.1 : Int)) (wu_dg v R) := by
      show max k (max (wu_ex v t.1 : Int) (wu_dg v R)) = _; omega
    rw [em] at H
    refine wu_ble (wu_ex v t.1 : Int) k (fun hle => ?_) (fun hlt => ?_) rfl rfl (by omega) (by omega)
    · intro x ex
      subst ex
      rw [nI_1]
      exact ih (j + 1) n k (by rw [hc]; exact congrArg nI (by omega)) (by omega) hAt.2.2 (fun s hs => hb s (List.mem_cons_of_mem _ hs)) (by omega) h1 h2 (by rw [show max k (wu_ex v t.1 : Int) = k by omega] at H; exact H)
    · intro x ex
      subst ex
      rw [nI_1]
      exact ih (j + 1) n _ (by rw [hc]; exact congrArg nI (by omega)) (by omega) hAt.2.2 (fun s hs => hb s (List.mem_cons_of_mem _ hs)) (by omega) (by omega) (by omega) (by rw [show max k (wu_ex v t.1 : Int) = (wu_ex v t.1 : Int) by omega] at H; exact H)
theorem wu_Y_deg {post : Int32 → Prop} {p : Nat} {bn P V st : Int32} {c d f m sd sf : Nat → Int32} {s v : Nat} {L : wu_P} (hs : s < 35) (hv : v < 6) (hL : wu_Ho c d f s L) (hO : wu_Ok p L) (H : post (wu_z (wu_dg v L))) : wpY_deg post (P, V, st, bn, c, d, f, m, sd, sf) (nI s) (nI v) := by
  refine ⟨L.length + 1, ?_⟩
  rw [wu_m1]
  have hb := wu_dg_b v L
  refine wu_Y_deg_5 hs hv L 0 (L.length + 1) (-1) (by rw [Nat.zero_add]; exact hL.1) (by have := hO.1; omega) hL.2 (fun t ht => by have := (hO.2.2 t ht).2.2.1; omega) (by omega) (by omega) (by omega) ?_
  rw [show max (-1) (wu_dg v L) = wu_dg v L by omega]
  exact H
theorem wu_Y_cls_19 {post : Int32 → Prop} {p : Nat} {bn P V st : Int32} {c d f m sd sf : Nat → Int32} {s : Nat} {L : wu_P} (hs : s < 35) (hL : wu_Ho c d f s L) (hO : wu_Ok p L) :
    ∀ (v n : Nat), v ≤ 6 → v < n → post (wu_z (wu_cv L v)) → wY_cls_19 post (nI s) P V st bn c d f m sd sf n (wu_z ((v : Int) - 1)) := by
  intro v
  induction v with
  | zero =>
    intro n _ hn H
    obtain ⟨n, rfl⟩ : ∃ k, n = k + 1 := ⟨n - 1, by omega⟩
    exact wu_blt (-1) 0 (fun _ => by rw [wu_m1]; exact H) (fun h => absurd h (by decide)) rfl wu_z0 (by omega) (by omega)
  | succ v ih =>
    intro n hv hn H
    obtain ⟨n, rfl⟩ : ∃ k, n = k + 1 := ⟨n - 1, by omega⟩
    have e : ((v + 1 : Nat) : Int) - 1 = (v : Int) := by omega
    rw [e]
    refine wu_blt (v : Int) 0 (fun h => absurd h (by omega)) (fun _ => ?_) rfl wu_z0 (by omega) (by omega)
    rw [wu_zn]
    have hb := wu_dg_b v L
    refine wu_Y_deg hs (by omega) hL hO ?_
    unfold wu_cv at H
    refine wu_blt (wu_dg v L) 1 (fun hlt => ?_) (fun hle => ?_) rfl (by decide) (by omega) (by omega)
    · intro x ex
      subst ex
      rw [wu_zn1]
      rw [if_neg (by omega)] at H
      exact ih n (by omega) (by omega) H
    · rw [if_pos hle, wu_zn] at H
      exact H
theorem wu_Y_cls {post : Int32 → Prop} {p nv : Nat} {bn P st : Int32} {c d f m sd sf : Nat → Int32} {s : Nat} {L : wu_P} (hnv : nv ≤ 6) (hs : s < 35) (hL : wu_Ho c d f s L) (hO : wu_Ok p L) (H : post (wu_z (wu_cl nv L))) : wpY_cls post (P, nI nv, st, bn, c, d, f, m, sd, sf) (nI s) := by
  have h16 := hO.1
  refine ⟨vp_in_nI hs (by decide), ?_⟩
  unfold wu_cl at H
  refine pk_eq L.length 0 (fun h => ?_) (fun h => ?_) (by rw [nI_clamp (by omega)]; exact hL.1) rfl (by omega) (by omega)
  · rw [if_pos h] at H
    rw [show (-2 : Int32) = wu_z (-2) from by decide]
    exact H
  · intro x ex
    subst ex
    rw [if_neg h] at H
    rw [wu_zs1]
    exact ⟨nv + 1, wu_Y_cls_19 hs hL hO nv (nv + 1) hnv (by omega) H⟩
theorem wu_Y_part_11 {post : SY → Prop} {bn P V st : Int32} {m sd sf : Nat → Int32} {a b v e K : Nat} (ha : a < 35) (hb : b < 35) (hab : a ≠ b) (hv : v < 6) (he : e < 32) (hK : K = e * 32 ^ v) :
    ∀ (R N : wu_P) (j : Nat) (c d f : Nat → Int32) (n : Nat), c a = nI (j + R.length) → c b = nI N.length → j + R.length ≤ 16 → N.length ≤ j → wu_At d f (a * 16 + j) R → wu_At d f (b * 16) N → (∀ t, t ∈ R → t.1 < 2147483648 ∧ (wu_ex v t.1 = e → K ≤ t.1)) → R.length < n →
    (∀ c' d' f', wu_Fr (fun q => q = b) c d f c' d' f' → wu_Ho c' d' f' b (N ++ wu_pt v e K R) → post (P, V, st, bn, c', d', f', m, sd, sf)) →
    wY_part_11 post (nI a) (nI v) (nI e) (nI b) P V st bn n (nI j) c d f m sd sf := by
  intro R
  induction R with
  | nil =>
    intro N j c d f n hc hcb h16 hNj hA hN hR hn H
    obtain ⟨n, rfl⟩ : ∃ k, n = k + 1 := ⟨n - 1, by omega⟩
    refine ⟨vp_in_nI ha (by decide), pk_le (j + 0) j (fun _ => H _ _ _ wu_Fr_refl ?_) (fun h => absurd h (by omega)) (by rw [nI_clamp (by omega)]; exact hc) rfl (by omega) (by omega)⟩
    rw [show wu_pt v e K [] = [] from rfl, List.append_nil]
    exact ⟨hcb, hN⟩
  | cons t R ih =>
    intro N j c d f n hc hcb h16 hNj hA hN hR hn H
    obtain ⟨n, rfl⟩ : ∃ k, n = k + 1 := ⟨n - 1, by omega⟩
    rw [List.length_cons] at hc h16 hn
    have ht := hR t List.mem_cons_self
    have hia : vp_in (nI a * 16 + nI j) 560 := pk_in (a * 16 + j) 560 (by omega) (wu_ix a _)
    have hib : vp_in (nI b * 16 + nI N.length) 560 := pk_in (b * 16 + N.length) 560 (by omega) (wu_ix b _)
    have hbb : vp_in (nI b) 35 := vp_in_nI hb (by decide)
    refine ⟨vp_in_nI ha (by decide), pk_le (j + (R.length + 1)) j (fun h => absurd h (by omega)) (fun _ => pk_le 16 j (fun h => absurd h (by omega)) (fun _ => ⟨hia, fun x6 e6 => ?_⟩) rfl rfl (by omega) (by omega)) (by rw [nI_clamp (by omega)]; exact hc) rfl (by omega) (by omega)⟩
    rw [wu_ixc a j (by omega), hA.1] at e6
    subst e6
    have hx := wu_exlt v t.1
    refine pk_eq (wu_ex v t.1) e (fun heq => ⟨hbb, fun x7 e7 => ?_⟩) (fun hne => ?_) (wu_shr ht.1 hv) rfl (by omega) (by omega)
    · rw [nI_clamp (by omega), hcb] at e7
      subst e7
      refine ⟨hib, fun d' ed => ⟨hia, hib, fun f' ef => ⟨hbb, fun c' ec => fun x ex => ?_⟩⟩⟩
      subst ed ef ec ex
      rw [wu_ixc b N.length (by omega), wu_ixc a j (by omega), hA.2.1, nI_1, nI_1, nI_clamp (by omega)]
      have ec : nI t.1 - (nI e <<< ((5 * nI v) &&& 31)) = nI (t.1 - K) := by
        rw [wu_shl5 _ hv, pk_mul, ← hK, pk_sub (ht.2 heq)]
      rw [ec]
      refine ih (N ++ [(t.1 - K, t.2)]) (j + 1) (upd c b (nI (N.length + 1))) (upd d (b * 16 + N.length) (nI (t.1 - K))) (upd f (b * 16 + N.length) (nI t.2)) n (by rw [pk_un hab, hc]; exact congrArg nI (by omega)) (by rw [pk_us, wu_len1]) (by omega) (by rw [wu_len1]; omega) ?_ (wu_At_snoc (t := (t.1 - K, t.2)) hN) (fun s hs => hR s (List.mem_cons_of_mem _ hs)) (by omega) ?_
      · refine wu_At_congr R _ (fun i hi hi' => ?_) hA.2.2
        have : i ≠ b * 16 + N.length := by
          intro e
          exact hab (by omega)
        exact ⟨pk_un this, pk_un this⟩
      · intro c' d' f' hF hH
        refine H _ _ _ (wu_Fr_trans (wu_Fr_wr (by omega) (by omega)) (wu_Fr_trans wu_Fr_cnt hF)) ?_
        rw [wu_pt_pos heq]
        rw [List.append_assoc] at hH
        exact hH
    · intro y ey
      subst ey
      rw [nI_1]
      refine ih N (j + 1) c d f n (by rw [hc]; exact congrArg nI (by omega)) hcb (by omega) (by omega) hA.2.2 hN (fun s hs => hR s (List.mem_cons_of_mem _ hs)) (by omega) ?_
      intro c' d' f' hF hH
      refine H _ _ _ hF ?_
      rw [wu_pt_neg hne]
      exact hH
theorem wu_Y_part {post : SY → Prop} {p : Nat} {bn P V st : Int32} {c d f m sd sf : Nat → Int32} {a b v e : Nat} {L : wu_P} (ha : a < 35) (hb : b < 35) (hab : a ≠ b) (hv : v < 6) (he : e < 32) (hL : wu_Ho c d f a L) (hO : wu_Ok p L)
    (H : ∀ c' d' f', wu_Fr (fun q => q = b) c d f c' d' f' → wu_Ho c' d' f' b (wu_pt v e (e * 32 ^ v) L) → post (P, V, st, bn, c', d', f', m, sd, sf)) :
    wpY_part post (P, V, st, bn, c, d, f, m, sd, sf) (nI a) (nI v) (nI e) (nI b) := by
  refine ⟨vp_in_nI hb (by decide), fun c' ec => ?_⟩
  rw [nI_clamp (by omega)] at ec
  subst ec
  refine ⟨L.length + 1, wu_Y_part_11 ha hb hab hv he rfl L [] 0 (upd c b 0) d f (L.length + 1) (by rw [pk_un hab, Nat.zero_add]; exact hL.1) pk_us (by have := hO.1; omega) (Nat.le_refl _) hL.2 trivial (fun t ht => ⟨by have := (hO.2.2 t ht).2.2.1; omega, fun z => ?_⟩) (by omega) (fun c' d' f' hF hH => H c' d' f' (wu_Fr_trans wu_Fr_cnt hF) hH)⟩
  exact (wu_down hv z (Nat.le_refl _) (hO.2.2 t ht).2.2).1
theorem wu_dg_nat {p v : Nat} {L : wu_P} (hv : v < 6) (hO : wu_Ok p L) (hne : L ≠ []) : ∃ e : Nat, wu_dg v L = (e : Int) ∧ e ≤ 15 := by
  have h0 := wu_dg_ne (v := v) hne
  have h1 : wu_dg v L ≤ 15 := wu_dg_ge (by omega) (fun t ht => by have := (hO.2.2 t ht).2.2.2 v hv; omega)
  exact ⟨(wu_dg v L).toNat, by omega, by omega⟩
theorem wu_Y_init {post : SY → Prop} {p : Nat} {bn P V st : Int32} {c d f m sd sf : Nat → Int32} {a v e : Nat} {L : wu_P} (ha : a < 30) (hv : v < 6) (hL : wu_Ho c d f a L) (hO : wu_Ok p L) (hd : wu_dg v L = (e : Int))
    (H : ∀ c' d' f', wu_Fr (fun q => q = 30) c d f c' d' f' → wu_Ho c' d' f' 30 (wu_pt v e (e * 32 ^ v) L) → post (P, V, st, bn, c', d', f', m, sd, sf)) :
    wpY_initialOf post (P, V, st, bn, c, d, f, m, sd, sf) (nI a) (nI v) := by
  have hb := wu_dg_b v L
  unfold wpY_initialOf
  try dsimp only
  refine wu_Y_deg (by omega) hv hL hO ?_
  rw [hd, wu_zn]
  exact wu_Y_part (b := 30) (by omega) (by omega) (by omega) hv (by omega) hL hO H
theorem wu_X_init {post : SX → Prop} {p : Nat} {sn P V st : Int32} {c d f m sd sf : Nat → Int32} {a v e : Nat} {L : wu_P} (ha : a < 30) (hv : v < 6) (hL : wu_Ho c d f a L) (hO : wu_Ok p L) (hd : wu_dg v L = (e : Int))
    (H : ∀ c' d' f', wu_Fr (fun q => q = 30) c d f c' d' f' → wu_Ho c' d' f' 30 (wu_pt v e (e * 32 ^ v) L) → post (sn, P, V, st, c', d', f', m, sd, sf)) :
    wpX_copyInitial post (sn, P, V, st, c, d, f, m, sd, sf) (nI a) (nI v) := by
  have hb := wu_dg_b v L
  unfold wpX_copyInitial
  try dsimp only
  refine wu_X_deg (by omega) hv hL hO ?_
  rw [hd, wu_zn]
  exact wu_X_coef (b := 30) (e' := 0) (by omega) (by omega) (by omega) hv (by omega) (by omega) hL hO (fun c' d' f' hF hH => H c' d' f' hF hH)
/-- find: the place of a code, or -1 -/
theorem wu_Y_find_2 {post : Int32 → Prop} {bn P V st : Int32} {c d f m sd sf : Nat → Int32} {s cc : Nat} {L : wu_P} (hs : s < 35) (hc : cc < 2147483648) (h16 : L.length ≤ 16) (hL : wu_Ho c d f s L) (hb : ∀ t, t ∈ L → t.1 < 2147483648)
    (h0 : (∀ t, t ∈ L → t.1 ≠ cc) → post (-1)) (h1 : ∀ M t R, L = M ++ t :: R → t.1 = cc → post (nI M.length)) :
    ∀ (R M : wu_P) (n : Nat), L = M ++ R → (∀ t, t ∈ M → t.1 ≠ cc) → R.length < n → wY_find_2 post (nI s) (nI cc) P V st bn c d f m sd sf n (nI M.length) := by
  intro R
  induction R with
  | nil =>
    intro M n e hM hn
    obtain ⟨n, rfl⟩ : ∃ k, n = k + 1 := ⟨n - 1, by omega⟩
    rw [List.append_nil] at e
    subst e
    exact ⟨vp_in_nI hs (by decide), pk_le L.length L.length (fun _ => h0 hM) (fun h => absurd h (by omega)) (by rw [nI_clamp (by omega)]; exact hL.1) rfl (by omega) (by omega)⟩
  | cons t R ih =>
    intro M n e hM hn
    obtain ⟨n, rfl⟩ : ∃ k, n = k + 1 := ⟨n - 1, by omega⟩
    have hLl : L.length = M.length + (R.length + 1) := by rw [e, List.length_append, List.length_cons]
    rw [List.length_cons] at hn
    have hin : vp_in (nI s * 16 + nI M.length) 560 := pk_in (s * 16 + M.length) 560 (by omega) (wu_ix s _)
    have hA := hL.2
    rw [e] at hA
    have hA := ((wu_At_app M (t :: R) _).mp hA).2
    have hbt := hb t (by rw [e]; simp)
    refine ⟨vp_in_nI hs (by decide), pk_le L.length M.length (fun h => absurd h (by omega)) (fun _ => pk_le 16 M.length (fun h => absurd h (by omega)) (fun _ => ⟨hin, pk_eq t.1 cc (fun heq => h1 M t R e heq) (fun hne => ?_) (by rw [wu_ixc s M.length (by omega)]; exact hA.1) rfl (by omega) (by omega)⟩) rfl rfl (by omega) (by omega)) (by rw [nI_clamp (by omega)]; exact hL.1) rfl (by omega) (by omega)⟩
    intro x ex
    subst ex
    have := ih (M ++ [t]) n (by rw [List.append_assoc]; exact e) (fun s hs => ?_) (by omega)
    · rw [wu_len1] at this; rw [nI_1]; exact this
    · rcases List.mem_append.mp hs with hs | hs
      · exact hM s hs
      · rw [List.mem_singleton] at hs; subst hs; exact hne
theorem wu_Y_find {post : Int32 → Prop} {bn P V st : Int32} {c d f m sd sf : Nat → Int32} {s cc : Nat} {L : wu_P} (hs : s < 35) (hc : cc < 2147483648) (h16 : L.length ≤ 16) (hL : wu_Ho c d f s L) (hb : ∀ t, t ∈ L → t.1 < 2147483648)
    (h0 : (∀ t, t ∈ L → t.1 ≠ cc) → post (-1)) (h1 : ∀ M t R, L = M ++ t :: R → t.1 = cc → post (nI M.length)) : wpY_find post (P, V, st, bn, c, d, f, m, sd, sf) (nI s) (nI cc) :=
  ⟨L.length + 1, wu_Y_find_2 hs hc h16 hL hb h0 h1 L [] (L.length + 1) rfl (fun _ h => absurd h List.not_mem_nil) (by omega)⟩
