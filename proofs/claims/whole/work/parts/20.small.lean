/-! residues, addTerm on both sides -/
theorem wu_res {p : Nat} (hp : 2 ≤ p ∧ p ≤ 32749) (x : Int32) : ∃ r : Nat, r < p ∧ ((0 ≤ x - x / nI p * nI p ∧ x - x / nI p * nI p = nI r) ∨ (¬ 0 ≤ x - x / nI p * nI p ∧ x - x / nI p * nI p + nI p = nI r)) := by
  have e0 : x = wu_z x.toInt := (Int32.ofInt_toInt x).symm
  have hn : nI p ≠ -1 := wu_nm1 (by omega)
  have e1 : x / nI p = wu_z (x.toInt.tdiv (p : Int)) := by
    have h := Int32.toInt_div_of_ne_right x (nI p) hn
    rw [nI_toInt (by omega)] at h
    rw [← h]
    exact (Int32.ofInt_toInt _).symm
  have e2 : x - x / nI p * nI p = wu_z (x.toInt.tmod (p : Int)) := by
    rw [e1, ← wu_zn p, wu_zmul]
    have : x - wu_z (x.toInt.tdiv (p : Int) * (p : Int)) = wu_z x.toInt - wu_z (x.toInt.tdiv (p : Int) * (p : Int)) := by rw [← e0]
    rw [this, wu_zsub, Int.tmod_def, Int.mul_comm]
  have b1 := Int.lt_tmod_of_pos x.toInt (show (0 : Int) < (p : Int) by omega)
  have b2 := Int.tmod_lt_of_pos x.toInt (show (0 : Int) < (p : Int) by omega)
  rw [e2]
  generalize x.toInt.tmod (p : Int) = z at b1 b2
  by_cases h : 0 ≤ z
  · refine ⟨z.toNat, by omega, Or.inl ⟨?_, ?_⟩⟩
    · rw [wu_z0, wu_zle (by omega) (by omega)]; exact h
    · rw [← wu_zn]; exact congrArg wu_z (by omega)
  · refine ⟨(z + p).toNat, by omega, Or.inr ⟨?_, ?_⟩⟩
    · rw [wu_z0, wu_zle (by omega) (by omega)]; omega
    · rw [← wu_zn, ← wu_zn, wu_zadd]; exact congrArg wu_z (by omega)
theorem wu_X_at45 {post : Int32 → SX → Prop} {p t h r : Nat} {sn V st : Int32} {c d f m sd sf : Nat → Int32} {L : wu_P} (hp : 2 ≤ p ∧ p ≤ 32749) (ht : t ≤ 8) (hL : wu_Ho c d f t L) (cL : wu_Cp p L) (hh : wu_Sm h) (hr : r < p)
    (h0 : wu_st p (L ++ [(h, r)]) = none → ∀ sn' sd' sf', post (-1) (sn', nI p, V, st, c, d, f, m, sd', sf'))
    (h1 : ∀ L', wu_st p (L ++ [(h, r)]) = some L' → ∀ sn' c' d' f' m' sd' sf', wu_Fr (fun s => s = t ∨ (9 ≤ s ∧ s ≤ 21)) c d f c' d' f' → wu_Ho c' d' f' t L' → (∀ s, 9 ≤ s → s ≤ 21 → c' s = 0) → wu_Mz m' → post (nI L'.length) (sn', nI p, V, 0, c', d', f', m', sd', sf')) :
    wX_addTerm_45 post (nI t) (nI h) (nI r) sn (nI p) V st c d f m sd sf := by
  unfold wX_addTerm_45
  try dsimp only
  have l16 := cL.2.1
  refine wu_X_addPoly (s := t) (A := []) hp (by omega) hL cL.2 (by rw [List.length_nil]; omega) wu_XB_nil (fun sn1 sd1 sf1 X1 => ?_)
  rw [List.nil_append] at X1
  refine wu_X_add hp X1 (by omega) hr (by have := hh.1; omega) (fun sn2 sd2 sf2 X2 => ?_)
  refine wu_X_store hp (s := t) (by omega) X2 (by rw [wu_len1]; omega) (fun e0 => ?_) (fun L' e1 c' d' f' F HL => ?_)
  · exact br_t rfl (h0 e0 _ _ _)
  · refine br_f (by decide) ?_
    refine wu_X_clear (fun c2 m2 hc hm => ?_)
    refine ⟨vp_in_nI (by omega) (by decide), ?_⟩
    have hA : wu_Ad p (L ++ [(h, r)]) := wu_Ad_app (wu_Ok_Ad cL.2) (fun x hx => by rw [List.mem_singleton] at hx; subst hx; exact ⟨hr, by have := hh.1; dsimp only; omega⟩)
    have cL' := (wu_st_sp hA e1).1
    have HL2 : wu_Ho c2 d' f' t L' := wu_Ho_fr (wu_Cz_fr hc) (by omega) cL'.2.1 HL
    dsimp only
    rw [nI_clamp (by omega), HL2.1]
    exact h1 L' e1 _ _ _ _ _ _ _ (wu_Fr_trans (wu_Fr_mono F (fun s z => Or.inl z)) (wu_Fr_mono (wu_Cz_fr hc) (fun s z => Or.inr z))) HL2 hc.1 hm
/-- a list of Y's that is a buffer for A, of what a slot may hold -/
theorem wu_BY_st {p : Nat} {A B : wu_P} (h : wu_BY p A B) (hl : B.length ≤ 16) (hs : ∀ t, t ∈ B → wu_Sm t.1) : ∃ L, wu_st p A = some L ∧ List.Perm B L := by
  have hq := wu_nf_Y (wu_NF_BY h)
  have nb : ¬ wu_big (wu_nf p A) := by
    rw [← wu_big_perm hq]
    rintro (z | ⟨t, ht, v, hv, z⟩)
    · omega
    · have := (hs t ht).2 v hv; omega
  exact ⟨_, wu_st_s nb, hq⟩
theorem wu_Y_254 {post : Int32 → SY → Prop} {t : Nat} {P V st bn : Int32} {c d f m bc bf : Nat → Int32} {B L : wu_P} (ht : t ≤ 8) (hB : wu_Ho c d f t B) (hl : B.length ≤ 16) (hq : List.Perm B L)
    (H : ∀ c' m', wu_Cz c c' → wu_Mz m' → wu_Hp c' d f t L → post (nI L.length) (P, V, 0, bn, c', d, f, m', bc, bf)) : wY_addTerm_254 post (nI t) P V st bn c d f m bc bf := by
  unfold wY_addTerm_254
  try dsimp only
  refine wu_Y_clear (fun c2 m2 hc hm => ⟨vp_in_nI (by omega) (by decide), ?_⟩)
  have HB : wu_Ho c2 d f t B := wu_Ho_fr (wu_Cz_fr hc) (by omega) hl hB
  dsimp only
  rw [nI_clamp (by omega), HB.1, hq.length_eq]
  exact H c2 m2 hc hm ⟨B, hq, HB⟩
theorem wu_Fr_wr2 {c d f : Nat → Int32} {s i : Nat} {y : Int32} (h : s * 16 ≤ i) (h' : i < s * 16 + 16) : wu_Fr (fun q => q = s) c d f c d (upd f i y) := by
  intro q hq
  refine ⟨rfl, fun j hj => ⟨rfl, pk_un ?_⟩⟩
  intro e
  exact hq (by omega)
theorem wu_Y_at52 {post : Int32 → SY → Prop} {p t cc r : Nat} {V st bn : Int32} {c d f m bc bf : Nat → Int32} {L : wu_P} (hp : 2 ≤ p ∧ p ≤ 32749) (ht : t ≤ 8) (hL : wu_Hp c d f t L) (cL : wu_Cp p L) (hcc : cc < 2147483648) (hr : r < p)
    (h0 : wu_st p (L ++ [(wu_hc cc 6, r)]) = none → post (-1) (nI p, V, st, bn, c, d, f, m, bc, bf))
    (h1 : ∀ L', wu_st p (L ++ [(wu_hc cc 6, r)]) = some L' → ∀ c' d' f' m', wu_Fr (fun s => s = t ∨ (9 ≤ s ∧ s ≤ 21)) c d f c' d' f' → wu_Hp c' d' f' t L' → (∀ s, 9 ≤ s → s ≤ 21 → c' s = 0) → wu_Mz m' → post (nI L'.length) (nI p, V, 0, bn, c', d', f', m', bc, bf)) :
    wY_addTerm_52 post (nI t) (nI cc) (nI r) (nI p) V st bn c d f m bc bf := by
  obtain ⟨B, pB, hB⟩ := hL
  have hS := wu_hc_Sm cc
  unfold wY_addTerm_52
  try dsimp only
  refine wu_Y_inner hcc ?_
  generalize wu_hc cc 6 = h at hS h0 h1 ⊢
  have oB := wu_Ok_perm cL.2 pB.symm
  have b16 := oB.1
  have h30 : h < 1073741824 := by have := hS.1; omega
  have bY : wu_BY p L B := ⟨oB.2.1, fun x hx => ⟨(oB.2.2 x hx).1, (oB.2.2 x hx).2.1, by have := (oB.2.2 x hx).2.2.1; omega⟩, by rw [pB.length_eq]; exact Nat.le_refl _, wu_Eq_symm (wu_Eq_perm pB)⟩
  have fin : ∀ (B' : wu_P) (c1 d1 f1 : Nat → Int32), wu_BY p (L ++ [(h, r)]) B' → B'.length ≤ 16 → (∀ x, x ∈ B' → wu_Sm x.1) → wu_Fr (fun s => s = t) c d f c1 d1 f1 → wu_Ho c1 d1 f1 t B' → wY_addTerm_254 post (nI t) (nI p) V st bn c1 d1 f1 m bc bf := by
    intro B' c1 d1 f1 hY hl hs F HB
    obtain ⟨L', e, q⟩ := wu_BY_st hY hl hs
    exact wu_Y_254 ht HB hl q (fun c' m' hc hm HL => h1 L' e c' d1 f1 m' (wu_Fr_trans (wu_Fr_mono F (fun s z => Or.inl z)) (wu_Fr_mono (wu_Cz_fr hc) (fun s z => Or.inr z))) HL hc.1 hm)
  have ht35 : vp_in (nI t) 35 := vp_in_nI (by omega) (by decide)
  have htc : (nI t).toNatClampNeg = t := nI_clamp (by omega)
  refine pk_eq r 0 (fun hz => ?_) (fun hz => ?_) rfl rfl (by omega) (by omega)
  · subst hz
    exact fin B c d f (wu_BY_zero bY) b16 (fun x hx => (oB.2.2 x hx).2.2) wu_Fr_refl hB
  · refine wu_Y_find (s := t) (by omega) (by omega) b16 hB (fun x hx => by have := (oB.2.2 x hx).2.2.1; omega) (fun hn => ?_) (fun M e R eB ee => ?_)
    · have bN := wu_BY_new bY hn (Nat.pos_of_ne_zero hz) hr h30
      refine br_t (by decide) ⟨ht35, ?_⟩
      refine pk_lt B.length 16 (fun hlt => ?_) (fun hge => ?_) (by rw [htc]; exact hB.1) rfl (by omega) (by omega)
      · rw [htc, hB.1]
        have hin : vp_in (nI t * 16 + nI B.length) 560 := pk_in (t * 16 + B.length) 560 (by omega) (wu_ix t _)
        refine ⟨ht35, hin, fun d' ed => ⟨ht35, hin, fun f' ef => ⟨ht35, ht35, fun c' ec => ?_⟩⟩⟩
        subst ed ef ec
        rw [wu_ixc t B.length (by omega), nI_1]
        refine fin (B ++ [(h, r)]) _ _ _ bN (by rw [wu_len1]; omega) (fun x hx => ?_) (wu_Fr_trans (wu_Fr_wr (by omega) (by omega)) wu_Fr_cnt) ⟨by rw [pk_us, wu_len1], wu_At_snoc (t := (h, r)) hB.2⟩
        rcases List.mem_append.mp hx with hx | hx
        · exact (oB.2.2 x hx).2.2
        · rw [List.mem_singleton] at hx; subst hx; exact hS
      · exact h0 (wu_st_n ((wu_big_perm (wu_nf_Y (wu_NF_BY bN))).mp (Or.inl (by rw [wu_len1]; omega))))
    · obtain ⟨ec, el⟩ := e
      dsimp only at ee
      subst ee
      subst eB
      rw [List.length_append, List.length_cons] at b16
      have hcnt : c t = nI (M.length + (R.length + 1)) := by rw [hB.1, List.length_append, List.length_cons]
      have hA := (wu_At_app M ((ec, el) :: R) _).mp hB.2
      have be := oB.2.2 (ec, el) (by simp)
      dsimp only at be
      have hin : vp_in (nI t * 16 + nI M.length) 560 := pk_in (t * 16 + M.length) 560 (by omega) (wu_ix t _)
      have hix := wu_ixc t M.length (by omega)
      refine br_f (nI_pos (by omega)) ⟨hin, nI_ne0 (by omega) (by omega), fun x7 e7 => ?_⟩
      rw [hix, hA.2.2.1, nI_add, pk_rem (by dsimp only; omega) (by omega) (by omega)] at e7
      subst e7
      dsimp only
      have hml : (el + r) % p < p := Nat.mod_lt _ (by omega)
      have smR : ∀ x, x ∈ M ++ R → wu_Sm x.1 := by
        intro x hx
        refine (oB.2.2 x ?_).2.2
        rcases List.mem_append.mp hx with hx | hx
        · exact List.mem_append.mpr (Or.inl hx)
        · exact List.mem_append.mpr (Or.inr (List.mem_cons_of_mem _ hx))
      refine pk_eq ((el + r) % p) 0 (fun hzz => ⟨ht35, fun x8 e8 => ?_⟩) (fun hzz => ⟨hin, fun f' ef => ?_⟩) rfl rfl (by omega) (by omega)
      · rw [htc, hcnt, show nI (M.length + (R.length + 1)) - 1 = nI (M.length + R.length) from nI_pred _] at e8
        subst e8
        have hin2 : vp_in (nI t * 16 + nI (M.length + R.length)) 560 := pk_in (t * 16 + (M.length + R.length)) 560 (by omega) (wu_ix t _)
        have hix2 := wu_ixc t (M.length + R.length) (by omega)
        refine ⟨hin2, hin, fun d' ed => ⟨hin2, hin, fun f' ef => ⟨ht35, fun c' ec' => ?_⟩⟩⟩
        subst ed ef ec'
        rw [hix, hix2, htc]
        unfold wY_addTerm_188
        have hd := wu_BY_del (k := r) bY hzz
        rcases wu_snoc R with rfl | ⟨R', z, rfl⟩
        · rw [List.append_nil] at hd smR
          refine fin M _ _ _ hd (by omega) smR (wu_Fr_trans (wu_Fr_wr (by omega) (by omega)) wu_Fr_cnt) ⟨by rw [pk_us]; rfl, ?_⟩
          exact wu_At_congr M _ (fun i _ hi => ⟨pk_un (by omega), pk_un (by omega)⟩) hA.1
        · have hpm : List.Perm (M ++ (R' ++ [z])) (M ++ z :: R') := List.Perm.append_left M (List.perm_append_singleton z R')
          rw [wu_len1] at b16
          have hAz := (wu_At_app R' [z] _).mp hA.2.2.2
          have g1 : d (t * 16 + (M.length + (R' ++ [z]).length)) = nI z.1 := by
            rw [wu_len1, show t * 16 + (M.length + (R'.length + 1)) = t * 16 + M.length + 1 + R'.length by omega]; exact hAz.2.1
          have g2 : f (t * 16 + (M.length + (R' ++ [z]).length)) = nI z.2 := by
            rw [wu_len1, show t * 16 + (M.length + (R'.length + 1)) = t * 16 + M.length + 1 + R'.length by omega]; exact hAz.2.2.1
          rw [g1, g2]
          refine fin (M ++ z :: R') _ _ _ (wu_BY_perm hd hpm) (by rw [List.length_append, List.length_cons]; omega) (fun x hx => smR x (hpm.mem_iff.mpr hx)) (wu_Fr_trans (wu_Fr_wr (by omega) (by omega)) wu_Fr_cnt) ⟨?_, ?_⟩
          · rw [pk_us, wu_len1, List.length_append, List.length_cons]
          · refine (wu_At_app M _ _).mpr ⟨wu_At_congr M _ (fun i _ hi => ⟨pk_un (by omega), pk_un (by omega)⟩) hA.1, pk_us, pk_us, ?_⟩
            exact wu_At_congr R' _ (fun i hi _ => ⟨pk_un (by omega), pk_un (by omega)⟩) hAz.1
      · subst ef
        rw [hix]
        unfold wY_addTerm_188
        refine fin (M ++ (ec, (el + r) % p) :: R) _ _ _ (wu_BY_upd bY (by omega) hzz) (by rw [List.length_append, List.length_cons]; omega) (fun x hx => ?_) (wu_Fr_wr2 (by omega) (by omega)) ⟨?_, ?_⟩
        · rcases List.mem_append.mp hx with hx | hx
          · exact smR x (List.mem_append.mpr (Or.inl hx))
          · rcases List.mem_cons.mp hx with rfl | hx
            · exact hS
            · exact smR x (List.mem_append.mpr (Or.inr hx))
        · rw [hcnt, List.length_append, List.length_cons]
        · refine (wu_At_app M _ _).mpr ⟨wu_At_congr M _ (fun i _ hi => ⟨rfl, pk_un (by omega)⟩) hA.1, hA.2.1, pk_us, ?_⟩
          exact wu_At_congr R _ (fun i hi _ => ⟨rfl, pk_un (by omega)⟩) hA.2.2.2
/-! the chain's size -/
def wu_cs (C : Nat → wu_P) : Nat → Nat → Nat
  | 0, _ => 0
  | n + 1, i => if (C i).length = 0 then wu_cs C n (i + 1) else wu_cs C n (i + 1) + 1
theorem wu_X_cs {post : Int32 → Prop} {nv : Nat} {sn P st : Int32} {c d f m sd sf : Nat → Int32} {C : Nat → wu_P} (hnv : nv ≤ 6) (hC : ∀ u, u < 6 → c (9 + u) = nI (C u).length ∧ (C u).length ≤ 16) :
    ∀ (l i k n : Nat), i + l = nv → l < n → k ≤ i → post (nI (k + wu_cs C l i)) → wX_chainSize_4 post sn P (nI nv) st c d f m sd sf n (nI k) (nI i) := by
  intro l
  induction l with
  | zero =>
    intro i k n hi hn hk H
    obtain ⟨n, rfl⟩ : ∃ k, n = k + 1 := ⟨n - 1, by omega⟩
    exact pk_le nv i (fun _ => H) (fun h => absurd h (by omega)) rfl rfl (by omega) (by omega)
  | succ l ih =>
    intro i k n hi hn hk H
    obtain ⟨n, rfl⟩ : ∃ k, n = k + 1 := ⟨n - 1, by omega⟩
    have hc := hC i (by omega)
    rw [wu_cs] at H
    refine pk_le nv i (fun h => absurd h (by omega)) (fun _ => ?_) rfl rfl (by omega) (by omega)
    rw [show (9 : Int32) + nI i = nI (9 + i) from nI_add 9 i]
    refine ⟨vp_in_nI (by omega) (by decide), pk_le (C i).length 0 (fun h => ?_) (fun h => ?_) (by rw [nI_clamp (by omega)]; exact hc.1) rfl (by omega) (by omega)⟩
    · intro y ey
      subst ey
      rw [nI_1]
      rw [if_pos (by omega)] at H
      exact ih (i + 1) k n (by omega) (by omega) (by omega) H
    · intro x ex y ey
      subst ex ey
      rw [nI_1, nI_1]
      rw [if_neg (by omega)] at H
      exact ih (i + 1) (k + 1) n (by omega) (by omega) (by omega) (by rw [show k + 1 + wu_cs C l (i + 1) = k + (wu_cs C l (i + 1) + 1) by omega]; exact H)
theorem wu_Y_cs {post : Int32 → Prop} {nv : Nat} {bn P st : Int32} {c d f m sd sf : Nat → Int32} {C : Nat → wu_P} (hnv : nv ≤ 6) (hC : ∀ u, u < 6 → c (9 + u) = nI (C u).length ∧ (C u).length ≤ 16) :
    ∀ (l i k n : Nat), i + l = nv → l < n → k ≤ i → post (nI (k + wu_cs C l i)) → wY_chainSize_4 post P (nI nv) st bn c d f m sd sf n (nI k) (nI i) := by
  intro l
  induction l with
  | zero =>
    intro i k n hi hn hk H
    obtain ⟨n, rfl⟩ : ∃ k, n = k + 1 := ⟨n - 1, by omega⟩
    exact pk_le nv i (fun _ => H) (fun h => absurd h (by omega)) rfl rfl (by omega) (by omega)
  | succ l ih =>
    intro i k n hi hn hk H
    obtain ⟨n, rfl⟩ : ∃ k, n = k + 1 := ⟨n - 1, by omega⟩
    have hc := hC i (by omega)
    rw [wu_cs] at H
    refine pk_le nv i (fun h => absurd h (by omega)) (fun _ => ?_) rfl rfl (by omega) (by omega)
    rw [show (9 : Int32) + nI i = nI (9 + i) from nI_add 9 i]
    refine ⟨vp_in_nI (by omega) (by decide), pk_le (C i).length 0 (fun h => ?_) (fun h => ?_) (by rw [nI_clamp (by omega)]; exact hc.1) rfl (by omega) (by omega)⟩
    · intro y ey
      subst ey
      rw [nI_1]
      rw [if_pos (by omega)] at H
      exact ih (i + 1) k n (by omega) (by omega) (by omega) H
    · intro x ex y ey
      subst ex ey
      rw [nI_1, nI_1]
      rw [if_neg (by omega)] at H
      exact ih (i + 1) (k + 1) n (by omega) (by omega) (by omega) (by rw [show k + 1 + wu_cs C l (i + 1) = k + (wu_cs C l (i + 1) + 1) by omega]; exact H)
/-! the constructors -/
theorem wu_clamp (x : Int32) {lo hi : Nat} (h : lo ≤ hi) (hh : hi < 2147483648) : ∃ j : Nat, lo ≤ j ∧ j ≤ hi ∧ (∀ post : Int32 → Prop, post (nI j) → wpX_clamp post x (nI lo) (nI hi)) ∧ ((¬ nI lo ≤ x ∧ j = lo) ∨ (nI lo ≤ x ∧ x ≤ nI hi ∧ x = nI j) ∨ (nI lo ≤ x ∧ ¬ x ≤ nI hi ∧ j = hi)) := by
  by_cases h1 : nI lo ≤ x
  · by_cases h2 : x ≤ nI hi
    · have h0 : ¬ x < 0 := by
        intro z
        have e1 := Int32.le_iff_toInt_le.mp h1
        have e2 := Int32.lt_iff_toInt_lt.mp z
        rw [nI_toInt (by omega)] at e1
        have : (0 : Int32).toInt = 0 := rfl
        omega
      obtain ⟨j, hj, rfl⟩ := nI_of h0
      have g1 := (nI_leI (by omega) hj).mp h1
      have g2 := (nI_leI hj (by omega)).mp h2
      exact ⟨j, g1, g2, fun post hp => br_t h1 (br_t h2 hp), Or.inr (Or.inl ⟨h1, h2, rfl⟩)⟩
    · exact ⟨hi, h, Nat.le_refl _, fun post hp => br_t h1 (br_f h2 hp), Or.inr (Or.inr ⟨h1, h2, rfl⟩)⟩
  · exact ⟨lo, Nat.le_refl _, h, fun post hp => br_f h1 hp, Or.inl ⟨h1, rfl⟩⟩
theorem wu_prime {j : Nat} (hj : j ≤ 7) : ∃ p : Nat, 2 ≤ p ∧ p ≤ 32749 ∧ (∀ post : Int32 → Prop, post (nI p) → wpX_primeAt post (nI j)) ∧ (∀ (post : SY → Prop) (x2 f_p f_nv f_status f_bn : Int32) (a1 a2 a3 a4 a5 a6 : Nat → Int32), wY_init_150 post x2 (nI p) f_p f_nv f_status f_bn a1 a2 a3 a4 a5 a6 → wY_init_76 post x2 (nI j) f_p f_nv f_status f_bn a1 a2 a3 a4 a5 a6) := by
  have : j = 0 ∨ j = 1 ∨ j = 2 ∨ j = 3 ∨ j = 4 ∨ j = 5 ∨ j = 6 ∨ j = 7 := by omega
  rcases this with rfl | rfl | rfl | rfl | rfl | rfl | rfl | rfl
  · exact ⟨2, by decide, by decide, fun post h => br_f (by decide) (br_f (by decide) (br_t (by decide) h)), fun post x2 _ _ _ _ _ _ _ _ _ _ h => br_t (by decide) h⟩
  · exact ⟨3, by decide, by decide, fun post h => br_f (by decide) (br_f (by decide) (br_f (by decide) (br_t (by decide) h))), fun post x2 _ _ _ _ _ _ _ _ _ _ h => br_f (by decide) (br_t (by decide) h)⟩
  · exact ⟨5, by decide, by decide, fun post h => br_f (by decide) (br_f (by decide) (br_f (by decide) (br_f (by decide) (br_t (by decide) h)))), fun post x2 _ _ _ _ _ _ _ _ _ _ h => br_f (by decide) (br_f (by decide) (br_t (by decide) h))⟩
  · exact ⟨7, by decide, by decide, fun post h => br_f (by decide) (br_f (by decide) (br_f (by decide) (br_f (by decide) (br_f (by decide) (br_t (by decide) h))))), fun post x2 _ _ _ _ _ _ _ _ _ _ h => br_f (by decide) (br_f (by decide) (br_f (by decide) (br_t (by decide) h)))⟩
  · exact ⟨101, by decide, by decide, fun post h => br_f (by decide) (br_f (by decide) (br_f (by decide) (br_f (by decide) (br_f (by decide) (br_f (by decide) (br_t (by decide) h)))))), fun post x2 _ _ _ _ _ _ _ _ _ _ h => br_f (by decide) (br_f (by decide) (br_f (by decide) (br_f (by decide) (br_t (by decide) h))))⟩
  · exact ⟨1009, by decide, by decide, fun post h => br_f (by decide) (br_f (by decide) (br_f (by decide) (br_f (by decide) (br_f (by decide) (br_f (by decide) (br_f (by decide) (br_t (by decide) h))))))), fun post x2 _ _ _ _ _ _ _ _ _ _ h => br_f (by decide) (br_f (by decide) (br_f (by decide) (br_f (by decide) (br_f (by decide) (br_t (by decide) h)))))⟩
  · exact ⟨10007, by decide, by decide, fun post h => br_f (by decide) (br_f (by decide) (br_f (by decide) (br_f (by decide) (br_f (by decide) (br_f (by decide) (br_f (by decide) (br_f (by decide) (br_t (by decide) h)))))))), fun post x2 _ _ _ _ _ _ _ _ _ _ h => br_f (by decide) (br_f (by decide) (br_f (by decide) (br_f (by decide) (br_f (by decide) (br_f (by decide) (br_t (by decide) h))))))⟩
  · exact ⟨32749, by decide, by decide, fun post h => br_f (by decide) (br_t (by decide) h), fun post x2 _ _ _ _ _ _ _ _ _ _ h => br_f (by decide) (br_f (by decide) (br_f (by decide) (br_f (by decide) (br_f (by decide) (br_f (by decide) (br_f (by decide) h))))))⟩
theorem wu_Y_i181 {post : SY → Prop} {P V st bn : Int32} {c d f bc bf : Nat → Int32} (H : ∀ m', wu_Mz m' → post (P, V, 0, bn, c, d, f, m', bc, bf)) :
    ∀ (l i n : Nat) (m : Nat → Int32), i + l = 6 → l < n → (∀ u, u < i → m u = -1) → wY_init_181 post P V st bn n (nI i) c d f m bc bf := by
  intro l
  induction l with
  | zero =>
    intro i n m hi hn hm
    obtain ⟨n, rfl⟩ : ∃ k, n = k + 1 := ⟨n - 1, by omega⟩
    exact pk_le 6 i (fun _ => H m (fun u hu => hm u (by omega))) (fun h => absurd h (by omega)) rfl rfl (by omega) (by omega)
  | succ l ih =>
    intro i n m hi hn hm
    obtain ⟨n, rfl⟩ : ∃ k, n = k + 1 := ⟨n - 1, by omega⟩
    refine pk_le 6 i (fun h => absurd h (by omega)) (fun _ => ⟨vp_in_nI (by omega) (by decide), fun m' em y ey => ?_⟩) rfl rfl (by omega) (by omega)
    rw [nI_clamp (by omega)] at em
    subst em ey
    rw [nI_1]
    refine ih (i + 1) n _ (by omega) (by omega) (fun u hu => ?_)
    by_cases q : u = i
    · rw [q, pk_us]
    · rw [pk_un q]; exact hm u (by omega)
