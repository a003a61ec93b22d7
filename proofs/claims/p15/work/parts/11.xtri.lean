/-! the component triangulates -/
def wu_HW (c d f : Nat → Int32) (W : Nat → wu_P) : Prop := ∀ i, i < 8 → wu_Ho c d f (22 + i) (W i)
theorem wu_HW_fr {Q : Nat → Prop} {p : Nat} {c d f c' d' f' : Nat → Int32} {W : Nat → wu_P} (F : wu_Fr Q c d f c' d' f') (hQ : ∀ i, i < 8 → ¬ Q (22 + i)) (cW : wu_CW p W) (h : wu_HW c d f W) : wu_HW c' d' f' W :=
  fun i hi => wu_Ho_fr F (hQ i hi) (cW i hi).2.1 (h i hi)
theorem wu_X_ct_5 {post : Int32 → Prop} {p nv : Nat} {w : Int} {sn P st : Int32} {c d f m sd sf : Nat → Int32} {W : Nat → wu_P} (hnv : nv ≤ 6) (hw : -100 ≤ w ∧ w ≤ 100) (hW : wu_HW c d f W) (cW : wu_CW p W) :
    ∀ (l i k n : Nat), i + l = 8 → l < n → post (nI (k + wu_ct nv w W l i)) → wX_countOfClass_5 post (wu_z w) sn P (nI nv) st c d f m sd sf n (nI k) (nI (22 + i)) := by
  intro l
  induction l with
  | zero =>
    intro i k n hi hn H
    obtain ⟨n, rfl⟩ : ∃ k, n = k + 1 := ⟨n - 1, by omega⟩
    exact pk_le 30 (22 + i) (fun _ => H) (fun h => absurd h (by omega)) rfl rfl (by omega) (by omega)
  | succ l ih =>
    intro i k n hi hn H
    obtain ⟨n, rfl⟩ : ∃ k, n = k + 1 := ⟨n - 1, by omega⟩
    have bc := wu_cl_b nv (W i)
    rw [wu_ct] at H
    refine pk_le 30 (22 + i) (fun h => absurd h (by omega)) (fun _ => ?_) rfl rfl (by omega) (by omega)
    refine wu_X_cls (s := 22 + i) hnv (by omega) (hW i (by omega)) (cW i (by omega)).2 ?_
    refine wu_beq (wu_cl nv (W i)) w (fun he => ?_) (fun he => ?_) rfl rfl (by omega) (by omega)
    · intro x ex y ey
      subst ex ey
      rw [nI_1, nI_1]
      rw [if_pos he] at H
      exact ih (i + 1) (k + 1) n (by omega) (by omega) (by rw [show k + 1 + wu_ct nv w W l (i + 1) = k + (wu_ct nv w W l (i + 1) + 1) by omega]; exact H)
    · intro y ey
      subst ey
      rw [nI_1]
      rw [if_neg he] at H
      exact ih (i + 1) k n (by omega) (by omega) H
theorem wu_X_ct {post : Int32 → Prop} {p nv : Nat} {w : Int} {sn P st : Int32} {c d f m sd sf : Nat → Int32} {W : Nat → wu_P} (hnv : nv ≤ 6) (hw : -100 ≤ w ∧ w ≤ 100) (hW : wu_HW c d f W) (cW : wu_CW p W) (H : post (nI (wu_ct nv w W 8 0))) : wpX_countOfClass post (sn, P, nI nv, st, c, d, f, m, sd, sf) (wu_z w) :=
  ⟨9, wu_X_ct_5 hnv hw hW cW 8 0 0 9 rfl (by omega) (by rw [Nat.zero_add]; exact H)⟩
theorem wu_X_ls_10 {post : Int32 → Prop} {p nv v : Nat} {sn P st : Int32} {c d f m sd sf : Nat → Int32} {W : Nat → wu_P} (hnv : nv ≤ 6) (hv : v < 6) (hW : wu_HW c d f W) (cW : wu_CW p W) :
    ∀ (l i n : Nat) (b bd : Int), i + l = 8 → l < n → -1 ≤ bd → bd ≤ 16 → post (nI (22 + (wu_ls nv v W l i b bd).toNat)) → wX_leastOfClass_10 post (nI v) sn P (nI nv) st c d f m sd sf n (nI (22 + b.toNat)) (wu_z bd) (nI (22 + i)) := by
  intro l
  induction l with
  | zero =>
    intro i n b bd hi hn h1 h2 H
    obtain ⟨n, rfl⟩ : ∃ k, n = k + 1 := ⟨n - 1, by omega⟩
    exact pk_le 30 (22 + i) (fun _ => H) (fun h => absurd h (by omega)) rfl rfl (by omega) (by omega)
  | succ l ih =>
    intro i n b bd hi hn h1 h2 H
    obtain ⟨n, rfl⟩ : ∃ k, n = k + 1 := ⟨n - 1, by omega⟩
    have bc := wu_cl_b nv (W i)
    have bdg := wu_dg_b v (W i)
    have b15 := wu_dg_15 hv (cW i (by omega)).2
    have hwi := hW i (by omega)
    have cwi := (cW i (by omega)).2
    rw [wu_ls] at H
    refine pk_le 30 (22 + i) (fun h => absurd h (by omega)) (fun _ => ?_) rfl rfl (by omega) (by omega)
    refine wu_X_cls (s := 22 + i) hnv (by omega) hwi cwi ?_
    refine wu_beq (wu_cl nv (W i)) (v : Int) (fun he => ?_) (fun he => ?_) rfl (wu_zn v).symm (by omega) (by omega)
    · refine wu_X_deg (s := 22 + i) (by omega) hv hwi cwi ?_
      refine wu_ble bd (wu_dg v (W i)) (fun hle => ?_) (fun hlt => ?_) rfl rfl (by omega) (by omega)
      · intro y ey
        subst ey
        rw [nI_1]
        rw [if_neg (by omega)] at H
        exact ih (i + 1) n b bd (by omega) (by omega) h1 h2 H
      · refine wu_X_deg (s := 22 + i) (by omega) hv hwi cwi ?_
        intro y ey
        subst ey
        rw [nI_1]
        rw [if_pos ⟨he, hlt⟩] at H
        exact ih (i + 1) n (i : Int) (wu_dg v (W i)) (by omega) (by omega) (by omega) (by omega) H
    · intro y ey
      subst ey
      rw [nI_1]
      rw [if_neg (fun z => he z.1)] at H
      exact ih (i + 1) n b bd (by omega) (by omega) h1 h2 H
theorem wu_X_ls {post : Int32 → Prop} {p nv v : Nat} {sn P st : Int32} {c d f m sd sf : Nat → Int32} {W : Nat → wu_P} (hnv : nv ≤ 6) (hv : v < 6) (hW : wu_HW c d f W) (cW : wu_CW p W) (H : post (nI (22 + (wu_ls nv v W 8 0 (-1) 16).toNat))) : wpX_leastOfClass post (sn, P, nI nv, st, c, d, f, m, sd, sf) (nI v) :=
  ⟨9, wu_X_ls_10 hnv hv hW cW 8 0 9 (-1) 16 rfl (by omega) (by omega) (by omega) H⟩
def wu_Qw (s : Nat) : Prop := 22 ≤ s ∧ s < 32
theorem wu_HW_up {Q : Nat → Prop} {p : Nat} {c d f c' d' f' : Nat → Int32} {W : Nat → wu_P} {i : Nat} {L : wu_P} (F : wu_Fr Q c d f c' d' f') (hQ : ∀ j, j < 8 → j ≠ i → ¬ Q (22 + j)) (cW : wu_CW p W) (h : wu_HW c d f W) (hL : wu_Ho c' d' f' (22 + i) L) : wu_HW c' d' f' (wu_up W i L) := by
  intro j hj
  by_cases e : j = i
  · rw [e, wu_up_s]; exact hL
  · rw [wu_up_n e]; exact wu_Ho_fr F (hQ j hj e) (cW j hj).2.1 (h j hj)
theorem wu_X_do_3 {post : Int32 → St2 → Prop} {p nv v b : Nat} {st : Int32} {mm : Nat → Int32} (hp : 2 ≤ p ∧ p ≤ 32749) (hnv : nv ≤ 6) (hv : v < 6) (hb : b < 8) :
    ∀ (l i n : Nat) (W : Nat → wu_P) (sn : Int32) (c d f sd sf : Nat → Int32), i + l = 8 → l < n → wu_HW c d f W → wu_CW p W → wu_cl nv (W b) = (v : Int) →
    (∀ e W', wu_do p nv v b l i W = (e, W') → ∀ sn' c' d' f' sd' sf', wu_Fr wu_Qw c d f c' d' f' → (e = 0 → wu_HW c' d' f' W') → post (wu_z e) (sn', nI p, nI nv, st, c', d', f', mm, sd', sf')) →
    wX_divideOthers_3 post (nI (22 + b)) (nI v) n (nI (22 + i)) sn (nI p) (nI nv) st c d f mm sd sf := by
  intro l
  induction l with
  | zero =>
    intro i n W sn c d f sd sf hi hn hW cW hcb H
    obtain ⟨n, rfl⟩ : ∃ k, n = k + 1 := ⟨n - 1, by omega⟩
    refine pk_le 30 (22 + i) (fun _ => ?_) (fun h => absurd h (by omega)) rfl rfl (by omega) (by omega)
    rw [wu_z0]
    exact H 0 W rfl _ _ _ _ _ _ wu_Fr_refl (fun _ => hW)
  | succ l ih =>
    intro i n W sn c d f sd sf hi hn hW cW hcb H
    obtain ⟨n, rfl⟩ : ∃ k, n = k + 1 := ⟨n - 1, by omega⟩
    have bc := wu_cl_b nv (W i)
    have hwi := hW i (by omega)
    have cwi := cW i (by omega)
    refine pk_le 30 (22 + i) (fun h => absurd h (by omega)) (fun _ => ?_) rfl rfl (by omega) (by omega)
    refine pk_eq (22 + i) (22 + b) (fun he => ?_) (fun he => ?_) rfl rfl (by omega) (by omega)
    · intro y ey
      subst ey
      rw [nI_1]
      have hs : i = b ∨ wu_cl nv (W i) ≠ (v : Int) := Or.inl (by omega)
      exact ih (i + 1) n W sn c d f sd sf (by omega) (by omega) hW cW hcb (fun e W' h => H e W' (by rw [wu_do_sk hs]; exact h))
    · refine wu_X_cls (s := 22 + i) hnv (by omega) hwi cwi.2 ?_
      refine wu_beq (wu_cl nv (W i)) (v : Int) (fun hc => ?_) (fun hc => ?_) rfl (wu_zn v).symm (by omega) (by omega)
      · have hs : ¬ (i = b ∨ wu_cl nv (W i) ≠ (v : Int)) := by
          rintro (z | z)
          · omega
          · exact z hc
        refine wu_X_div (a := 22 + i) (b := 22 + b) (q := 0) (w := false) (Q := []) hp (by omega) (by omega) (by omega) hv hwi cwi (hW b hb) (cW b hb) (wu_cl_ne hcb) (fun z => absurd z (by decide)) (fun z => absurd z (by decide)) wu_Cp_nil (Or.inl ⟨rfl, rfl⟩) (fun e sn' c' d' f' sd' sf' F => ?_) (fun A Q e sn' c' d' f' sd' sf' F HA _ => ?_)
        · refine br_f (by decide) ?_
          rw [show (4 : Int32) = wu_z 4 from by decide]
          refine H 4 W (wu_do_4 hs e) _ _ _ _ _ _ (wu_Fr_mono F (fun s z => ?_)) (fun z => absurd z (by decide))
          rcases z with z | z | z | ⟨z, _⟩
          · exact ⟨by omega, by omega⟩
          · exact ⟨by omega, by omega⟩
          · exact ⟨by omega, by omega⟩
          · exact absurd z (by decide)
        · have F' : wu_Fr wu_Qw c d f c' d' f' := by
            refine wu_Fr_mono F (fun s z => ?_)
            rcases z with z | z | z | ⟨z, _⟩
            · exact ⟨by omega, by omega⟩
            · exact ⟨by omega, by omega⟩
            · exact ⟨by omega, by omega⟩
            · exact absurd z (by decide)
          have cA := (wu_dv_Cp hp.1 hv (cW b hb) cwi wu_Cp_nil e).1
          have bA := wu_cl_b nv A
          have hk := wu_kk_le hv cwi.2 (wu_cl_ne hcb)
          refine br_t (nI_pos' (by omega)) ?_
          refine wu_X_cls (s := 22 + i) hnv (by omega) HA cA.2 ?_
          refine wu_beq (wu_cl nv A) (-1) (fun g => ?_) (fun g => ?_) rfl wu_m1 (by omega) (by omega)
          · rw [show (3 : Int32) = wu_z 3 from by decide]
            exact H 3 _ (wu_do_3 hs e g) _ _ _ _ _ _ F' (fun z => absurd z (by decide))
          · intro y ey
            subst ey
            rw [nI_1]
            have hW' : wu_HW c' d' f' (wu_up W i A) := by
              refine wu_HW_up F (fun j hj hji z => ?_) cW hW HA
              rcases z with z | z | z | ⟨z, _⟩
              · omega
              · omega
              · omega
              · exact absurd z (by decide)
            refine ih (i + 1) n (wu_up W i A) sn' c' d' f' sd' sf' (by omega) (by omega) hW' (wu_up_CW cW cA) (by rw [wu_up_n (by omega)]; exact hcb) (fun e' W' h sn2 c2 d2 f2 sd2 sf2 F2 h0 => ?_)
            exact H e' W' (by rw [wu_do_go hs e g]; exact h) _ _ _ _ _ _ (wu_Fr_trans F' F2) h0
      · intro y ey
        subst ey
        rw [nI_1]
        have hs : i = b ∨ wu_cl nv (W i) ≠ (v : Int) := Or.inr hc
        exact ih (i + 1) n W sn c d f sd sf (by omega) (by omega) hW cW hcb (fun e W' h => H e W' (by rw [wu_do_sk hs]; exact h))
theorem wu_X_do {post : Int32 → St2 → Prop} {p nv v b : Nat} {sn st : Int32} {c d f mm sd sf : Nat → Int32} {W : Nat → wu_P} (hp : 2 ≤ p ∧ p ≤ 32749) (hnv : nv ≤ 6) (hv : v < 6) (hb : b < 8) (hW : wu_HW c d f W) (cW : wu_CW p W) (hcb : wu_cl nv (W b) = (v : Int))
    (H : ∀ e W', wu_do p nv v b 8 0 W = (e, W') → ∀ sn' c' d' f' sd' sf', wu_Fr wu_Qw c d f c' d' f' → (e = 0 → wu_HW c' d' f' W') → post (wu_z e) (sn', nI p, nI nv, st, c', d', f', mm, sd', sf')) :
    wpX_divideOthers post (sn, nI p, nI nv, st, c, d, f, mm, sd, sf) (nI (22 + b)) (nI v) :=
  ⟨9, wu_X_do_3 hp hnv hv hb 8 0 9 W sn c d f sd sf rfl (by omega) hW cW hcb H⟩
/-! the chain's element -/
theorem wu_X_tk_n {post : St2 → Prop} {p nv v : Nat} {sn P st : Int32} {c d f mm sd sf : Nat → Int32} {W : Nat → wu_P} (hnv : nv ≤ 6) (hv : v < 6) (hW : wu_HW c d f W) (cW : wu_CW p W) (H : post (sn, P, nI nv, st, c, d, f, mm, sd, sf)) :
    ∀ (l i n : Nat), i + l = 8 → l < n → (∀ j, i ≤ j → j < 8 → wu_cl nv (W j) ≠ (v : Int)) → wX_takeChainElement_3 post (nI v) n (nI (22 + i)) sn P (nI nv) st c d f mm sd sf := by
  intro l
  induction l with
  | zero =>
    intro i n hi hn hc
    obtain ⟨n, rfl⟩ : ∃ k, n = k + 1 := ⟨n - 1, by omega⟩
    exact pk_le 30 (22 + i) (fun _ => H) (fun h => absurd h (by omega)) rfl rfl (by omega) (by omega)
  | succ l ih =>
    intro i n hi hn hc
    obtain ⟨n, rfl⟩ : ∃ k, n = k + 1 := ⟨n - 1, by omega⟩
    have bc := wu_cl_b nv (W i)
    refine pk_le 30 (22 + i) (fun h => absurd h (by omega)) (fun _ => ?_) rfl rfl (by omega) (by omega)
    refine wu_X_cls (s := 22 + i) hnv (by omega) (hW i (by omega)) (cW i (by omega)).2 ?_
    refine wu_beq (wu_cl nv (W i)) (v : Int) (fun h => absurd h (hc i (Nat.le_refl i) (by omega))) (fun _ => ?_) rfl (wu_zn v).symm (by omega) (by omega)
    intro y ey
    subst ey
    rw [nI_1]
    exact ih (i + 1) n (by omega) (by omega) (fun j h1 h2 => hc j (by omega) h2)
theorem wu_X_tk_1 {post : St2 → Prop} {p nv v b : Nat} {sn P st : Int32} {c d f mm sd sf : Nat → Int32} {W : Nat → wu_P} (hnv : nv ≤ 6) (hv : v < 6) (hb : b < 8) (hW : wu_HW c d f W) (cW : wu_CW p W) (hcb : wu_cl nv (W b) = (v : Int)) (hc : ∀ j, j < 8 → j ≠ b → wu_cl nv (W j) ≠ (v : Int))
    (H : ∀ c' d' f', wu_Fr (fun s => s = 9 + v ∨ wu_Qw s) c d f c' d' f' → wu_Ho c' d' f' (9 + v) (W b) → wu_HW c' d' f' (wu_up W b []) → post (sn, P, nI nv, st, c', d', f', mm, sd, sf)) :
    ∀ (l i n : Nat), i + l = 8 → l < n → i ≤ b → wX_takeChainElement_3 post (nI v) n (nI (22 + i)) sn P (nI nv) st c d f mm sd sf := by
  intro l
  induction l with
  | zero => intro i n hi hn hib; exact absurd hib (by omega)
  | succ l ih =>
    intro i n hi hn hib
    obtain ⟨n, rfl⟩ : ∃ k, n = k + 1 := ⟨n - 1, by omega⟩
    have bc := wu_cl_b nv (W i)
    have cwi := cW i (by omega)
    refine pk_le 30 (22 + i) (fun h => absurd h (by omega)) (fun _ => ?_) rfl rfl (by omega) (by omega)
    refine wu_X_cls (s := 22 + i) hnv (by omega) (hW i (by omega)) cwi.2 ?_
    refine wu_beq (wu_cl nv (W i)) (v : Int) (fun h => ?_) (fun h => ?_) rfl (wu_zn v).symm (by omega) (by omega)
    · have e : i = b := Classical.byContradiction fun z => hc i (by omega) z h
      subst e
      rw [show (9 : Int32) + nI v = nI (9 + v) from nI_add 9 v]
      refine wu_X_copy (a := 22 + i) (b := 9 + v) (by omega) (by omega) (by omega) (hW i (by omega)) cwi.2.1 (fun c' d' f' F HC => ?_)
      refine ⟨vp_in_nI (by omega) (by decide), fun c2 e2 y ey => ?_⟩
      rw [nI_clamp (by omega)] at e2
      subst e2 ey
      rw [nI_1]
      have F2 : wu_Fr (fun s => s = 22 + i) c' d' f' (upd c' (22 + i) 0) d' f' := wu_Fr_cnt
      have FF : wu_Fr (fun s => s = 9 + v ∨ wu_Qw s) c d f (upd c' (22 + i) 0) d' f' := wu_Fr_trans (wu_Fr_mono F (fun s z => Or.inl z)) (wu_Fr_mono F2 (fun s z => Or.inr ⟨by omega, by omega⟩))
      have hW1 : wu_HW c' d' f' W := wu_HW_fr F (fun j hj => by omega) cW hW
      have hW2 : wu_HW (upd c' (22 + i) 0) d' f' (wu_up W i []) := wu_HW_up F2 (fun j hj hji => by omega) cW hW1 wu_Ho_0
      have cW2 : wu_CW p (wu_up W i []) := wu_up_CW cW wu_Cp_nil
      refine wu_X_tk_n hnv hv hW2 cW2 (H _ _ _ FF (wu_Ho_fr F2 (by omega) cwi.2.1 HC) hW2) l (i + 1) n (by omega) (by omega) (fun j h1 h2 => ?_)
      rw [wu_up_n (by omega)]
      exact hc j h2 (by omega)
    · intro y ey
      subst ey
      rw [nI_1]
      have : i ≠ b := fun z => h (by rw [z]; exact hcb)
      exact ih (i + 1) n (by omega) (by omega) (by omega)
theorem wu_X_t46 {post : Int32 → St2 → Prop} {J : Int32 → Int32 → Int32 → Int32 → Int32 → (Nat → Int32) → (Nat → Int32) → (Nat → Int32) → (Nat → Int32) → (Nat → Int32) → (Nat → Int32) → Prop} {p nv v : Nat} {st : Int32} {mm : Nat → Int32} (hp : 2 ≤ p ∧ p ≤ 32749) (hnv : nv ≤ 6) (hv : v < 6) :
    ∀ (g ps n : Nat) (W : Nat → wu_P) (sn : Int32) (c d f sd sf : Nat → Int32), ps + g ≤ 1000 → g < n → wu_HW c d f W → wu_CW p W → wu_Me nv v W g → wu_Ho c d f (9 + v) [] →
    (∀ W' ch, wu_tr p nv v g W = (0, W', ch) → ∀ sn' c' d' f' sd' sf', wu_Fr (fun s => s = 9 + v ∨ wu_Qw s) c d f c' d' f' → wu_HW c' d' f' W' → wu_CW p W' → wu_Ho c' d' f' (9 + v) ch → wu_Cp p ch → ∀ y, y = nI v + (-1) → J y sn' (nI p) (nI nv) st c' d' f' mm sd' sf') →
    (∀ e W' ch, wu_tr p nv v g W = (e, W', ch) → e ≠ 0 → ∀ sn' c' d' f' sd' sf', wu_Fr (fun s => s = 9 + v ∨ wu_Qw s) c d f c' d' f' → post (wu_z e) (sn', nI p, nI nv, st, c', d', f', mm, sd', sf')) →
    wX_triangulate_46 post J (nI v) n (nI ps) sn (nI p) (nI nv) st c d f mm sd sf := by
  intro g
  induction g with
  | zero => intro ps n W sn c d f sd sf h1 h2 hW cW hM; exact absurd hM.1 (by omega)
  | succ g ih =>
    intro ps n W sn c d f sd sf h1 h2 hW cW hM hch H0 H1
    obtain ⟨n, rfl⟩ : ∃ k, n = k + 1 := ⟨n - 1, by omega⟩
    refine pk_le 1000 ps (fun h => absurd h (by omega)) (fun _ => ?_) rfl rfl (by omega) (by omega)
    have key : wpX_countOfClass (fun r_29 => (((r_29 ≤ 1 → (wX_triangulate_90 post J (nI v) sn (nI p) (nI nv) st c d f mm sd sf)) ∧ (¬ r_29 ≤ 1 → (wpX_leastOfClass (fun r_41 => (wpX_divideOthers (fun r_52 u => match u with | (f_sumCount_53, f_p_54, f_vars_55, f_state_56, a_counts_57, a_codes_58, a_coefs_59, a_multipliers_60, a_sumCodes_61, a_sumCoefs_62) => (((r_52 = 0 → (∀ x2_64 : Int32, x2_64 = nI ps + 1 → (wX_triangulate_46 post J (nI v) n x2_64 f_sumCount_53 f_p_54 f_vars_55 f_state_56 a_counts_57 a_codes_58 a_coefs_59 a_multipliers_60 a_sumCodes_61 a_sumCoefs_62))) ∧ (¬ r_52 = 0 → (post r_52 (f_sumCount_53, f_p_54, f_vars_55, f_state_56, a_counts_57, a_codes_58, a_coefs_59, a_multipliers_60, a_sumCodes_61, a_sumCoefs_62)))))) (sn, nI p, nI nv, st, c, d, f, mm, sd, sf) r_41 (nI v))) (sn, nI p, nI nv, st, c, d, f, mm, sd, sf) (nI v)))))) (sn, nI p, nI nv, st, c, d, f, mm, sd, sf) (wu_z (v : Int)) := by
      have ctb : wu_ct nv v W 8 0 ≤ 1000 := by
        have : ∀ n i, wu_ct nv v W n i ≤ n := by
          intro n
          induction n with
          | zero => intro i; exact Nat.le_refl _
          | succ n ih => intro i; rw [wu_ct]; have := ih (i + 1); by_cases h : wu_cl nv (W i) = (v : Int)
                         · rw [if_pos h]; omega
                         · rw [if_neg h]; omega
        have := this 8 0; omega
      refine wu_X_ct hnv (by omega) hW cW ?_
      refine pk_le (wu_ct nv v W 8 0) 1 (fun hle => ?_) (fun hgt => ?_) rfl rfl (by omega) (by omega)
      · by_cases h0 : wu_ct nv v W 8 0 = 0
        · refine ⟨9, wu_X_tk_n hnv hv hW cW ?_ 8 0 9 rfl (by omega) (fun j hj hj' => wu_ct_0 8 0 h0 j hj (by omega))⟩
          exact H0 W [] (wu_tr_0 h0) _ _ _ _ _ _ wu_Fr_refl hW cW hch wu_Cp_nil
        · obtain ⟨b, hb, eb, hcb, _⟩ := wu_ls_at hv cW h0
          refine ⟨9, wu_X_tk_1 hnv hv hb hW cW hcb (fun j hj hjb => wu_ct_1 b 8 0 hle (by omega) (by omega) hcb j (by omega) (by omega) hjb) (fun c' d' f' F HC HW' => ?_) 8 0 9 rfl (by omega) (by omega)⟩
          exact H0 _ _ (wu_tr_1 (by omega) eb) _ _ _ _ _ _ F HW' (wu_up_CW cW wu_Cp_nil) HC (cW b hb)
      · obtain ⟨b, hb, eb, hcb, hmin⟩ := wu_ls_at hv cW (show wu_ct nv v W 8 0 ≠ 0 by omega)
        refine wu_X_ls hnv hv hW cW ?_
        rw [eb, Int.toNat_natCast]
        refine wu_X_do hp hnv hv hb hW cW hcb (fun e W' hd sn' c' d' f' sd' sf' F hW' => ?_)
        have F' : wu_Fr (fun s => s = 9 + v ∨ wu_Qw s) c d f c' d' f' := wu_Fr_mono F (fun s z => Or.inr z)
        have be : e = 0 ∨ e = 3 ∨ e = 4 := by have := wu_do_b (p := p) (nv := nv) (v := v) (b := b) 8 0 W; rw [hd] at this; exact this
        refine wu_beq e 0 (fun he => ?_) (fun he => ?_) rfl wu_z0 (by omega) (by omega)
        · intro y ey
          subst ey
          rw [nI_1]
          subst he
          obtain ⟨cW', hM'⟩ := wu_Me_next hp.1 hnv hv cW hM (by omega) hb hcb hmin hd
          refine ih (ps + 1) n W' sn' c' d' f' sd' sf' (by omega) (by omega) (hW' rfl) cW' hM' (wu_Ho_fr F (fun z => by have := z.1; omega) (by simp) hch) (fun W2 ch h sn2 c2 d2 f2 sd2 sf2 F2 => ?_) (fun e2 W2 ch h he2 sn2 c2 d2 f2 sd2 sf2 F2 => ?_)
          · exact H0 W2 ch (by rw [wu_tr_2 (by omega) eb hd]; exact h) _ _ _ _ _ _ (wu_Fr_trans F' F2)
          · exact H1 e2 W2 ch (by rw [wu_tr_2 (by omega) eb hd]; exact h) he2 _ _ _ _ _ _ (wu_Fr_trans F' F2)
        · exact H1 e W' [] (wu_tr_3 (by omega) eb hd he) he _ _ _ _ _ _ F'
    rw [wu_zn] at key
    exact key
def wu_Qt (s : Nat) : Prop := (9 ≤ s ∧ s < 15) ∨ wu_Qw s
theorem wu_X_t40 {post : Int32 → St2 → Prop} {p nv : Nat} {st : Int32} {mm : Nat → Int32} (hp : 2 ≤ p ∧ p ≤ 32749) (hnv : nv ≤ 6) :
    ∀ (v n : Nat) (W C : Nat → wu_P) (sn : Int32) (c d f sd sf : Nat → Int32), v ≤ nv → v < n → wu_HW c d f W → wu_CW p W → (∀ u, u < 6 → wu_Ho c d f (9 + u) (C u) ∧ wu_Cp p (C u)) → (∀ u, u < v → C u = []) →
    (∀ C', wu_ta p nv v W C = (0, C') → ∀ sn' c' d' f' sd' sf', wu_Fr wu_Qt c d f c' d' f' → (∀ u, u < 6 → wu_Ho c' d' f' (9 + u) (C' u) ∧ wu_Cp p (C' u)) → post 0 (sn', nI p, nI nv, st, c', d', f', mm, sd', sf')) →
    (∀ e C', wu_ta p nv v W C = (e, C') → e ≠ 0 → ∀ sn' c' d' f' sd' sf', wu_Fr wu_Qt c d f c' d' f' → post (wu_z e) (sn', nI p, nI nv, st, c', d', f', mm, sd', sf')) →
    wX_triangulate_40 post n (wu_z ((v : Int) - 1)) sn (nI p) (nI nv) st c d f mm sd sf := by
  intro v
  induction v with
  | zero =>
    intro n W C sn c d f sd sf h1 h2 hW cW hC hz H0 H1
    obtain ⟨n, rfl⟩ : ∃ k, n = k + 1 := ⟨n - 1, by omega⟩
    exact wu_blt (-1) 0 (fun _ => H0 C rfl _ _ _ _ _ _ wu_Fr_refl hC) (fun h => absurd h (by decide)) rfl wu_z0 (by omega) (by omega)
  | succ v ih =>
    intro n W C sn c d f sd sf h1 h2 hW cW hC hz H0 H1
    obtain ⟨n, rfl⟩ : ∃ k, n = k + 1 := ⟨n - 1, by omega⟩
    have e : ((v + 1 : Nat) : Int) - 1 = (v : Int) := by omega
    rw [e]
    have hv : v < 6 := by omega
    refine wu_blt (v : Int) 0 (fun h => absurd h (by omega)) (fun _ => ?_) rfl wu_z0 (by omega) (by omega)
    rw [wu_zn]
    have hCv := (hC v hv).1
    rw [hz v (by omega)] at hCv
    refine ⟨17, wu_X_t46 hp hnv hv 16 0 17 W sn c d f sd sf (by omega) (by omega) hW cW (wu_Me_16 hv cW) hCv (fun W' ch ht sn' c' d' f' sd' sf' F hW' cW' hch cch y ey => ?_) (fun e W' ch ht he sn' c' d' f' sd' sf' F => ?_)⟩
    · subst ey
      rw [wu_zn1]
      have F' : wu_Fr wu_Qt c d f c' d' f' := wu_Fr_mono F (fun s z => z.elim (fun z => Or.inl ⟨by omega, by omega⟩) Or.inr)
      refine ih n W' (wu_up C v ch) sn' c' d' f' sd' sf' (by omega) (by omega) hW' cW' (fun u hu => ?_) (fun u hu => by rw [wu_up_n (by omega)]; exact hz u (by omega)) (fun C' h sn2 c2 d2 f2 sd2 sf2 F2 => ?_) (fun e C' h he sn2 c2 d2 f2 sd2 sf2 F2 => ?_)
      · by_cases q : u = v
        · rw [q, wu_up_s]; exact ⟨hch, cch⟩
        · rw [wu_up_n q]
          refine ⟨wu_Ho_fr F ?_ (hC u hu).2.2.1 (hC u hu).1, (hC u hu).2⟩
          rintro (z | z)
          · omega
          · have := z.1; omega
      · exact H0 C' (by rw [wu_ta_s ht]; exact h) _ _ _ _ _ _ (wu_Fr_trans F' F2)
      · exact H1 e C' (by rw [wu_ta_s ht]; exact h) he _ _ _ _ _ _ (wu_Fr_trans F' F2)
    · exact H1 e C (wu_ta_e ht he) he _ _ _ _ _ _ (wu_Fr_mono F (fun s z => z.elim (fun z => Or.inl ⟨by omega, by omega⟩) Or.inr))
theorem wu_X_t2 {post : Int32 → St2 → Prop} {p nv : Nat} {st : Int32} {mm : Nat → Int32} {W : Nat → wu_P} (hp : 2 ≤ p ∧ p ≤ 32749) (hnv : nv ≤ 6) (cW : wu_CW p W) :
    ∀ (l i n : Nat) (sn : Int32) (c d f sd sf : Nat → Int32), i + l = 8 → l < n → (∀ j, j < 8 → wu_Ho c d f j (W j)) → (∀ j, j < i → wu_Ho c d f (22 + j) (W j)) → (∀ u, u < 6 → wu_Ho c d f (9 + u) []) →
    (∀ C', wu_tt p nv W = (0, C') → ∀ sn' c' d' f' sd' sf', wu_Fr wu_Qt c d f c' d' f' → (∀ u, u < 6 → wu_Ho c' d' f' (9 + u) (C' u) ∧ wu_Cp p (C' u)) → post 0 (sn', nI p, nI nv, st, c', d', f', mm, sd', sf')) →
    (∀ e C', wu_tt p nv W = (e, C') → e ≠ 0 → ∀ sn' c' d' f' sd' sf', wu_Fr wu_Qt c d f c' d' f' → post (wu_z e) (sn', nI p, nI nv, st, c', d', f', mm, sd', sf')) →
    wX_triangulate_2 post n (nI i) sn (nI p) (nI nv) st c d f mm sd sf := by
  intro l
  induction l with
  | zero =>
    intro i n sn c d f sd sf hi hn hin hw hch H0 H1
    obtain ⟨n, rfl⟩ : ∃ k, n = k + 1 := ⟨n - 1, by omega⟩
    have hW : wu_HW c d f W := fun j hj => hw j (by omega)
    have ctb : wu_ct nv (-1) W 8 0 ≤ 1000 := by
      have : ∀ n i, wu_ct nv (-1) W n i ≤ n := by
        intro n
        induction n with
        | zero => intro i; exact Nat.le_refl _
        | succ n ih => intro i; rw [wu_ct]; have := ih (i + 1); by_cases h : wu_cl nv (W i) = -1
                       · rw [if_pos h]; omega
                       · rw [if_neg h]; omega
      have := this 8 0; omega
    refine pk_le 8 i (fun _ => ?_) (fun h => absurd h (by omega)) rfl rfl (by omega) (by omega)
    rw [wu_m1]
    refine wu_X_ct hnv (by omega) hW cW ?_
    refine pk_le (wu_ct nv (-1) W 8 0) 0 (fun h0 => ?_) (fun h0 => ?_) rfl rfl (by omega) (by omega)
    · intro y ey
      subst ey
      rw [wu_zs1]
      have et : wu_tt p nv W = wu_ta p nv nv W (fun _ => []) := by unfold wu_tt; rw [if_pos (by omega)]
      rw [et] at H0 H1
      exact ⟨nv + 1, wu_X_t40 hp hnv nv (nv + 1) W (fun _ => []) sn c d f sd sf (by omega) (by omega) hW cW (fun u hu => ⟨hch u hu, wu_Cp_nil⟩) (fun _ _ => rfl) H0 H1⟩
    · have et : wu_tt p nv W = (3, fun _ => []) := by unfold wu_tt; rw [if_neg (by omega)]
      rw [show (3 : Int32) = wu_z 3 from by decide]
      exact H1 3 _ et (by decide) _ _ _ _ _ _ wu_Fr_refl
  | succ l ih =>
    intro i n sn c d f sd sf hi hn hin hw hch H0 H1
    obtain ⟨n, rfl⟩ : ∃ k, n = k + 1 := ⟨n - 1, by omega⟩
    refine pk_le 8 i (fun h => absurd h (by omega)) (fun _ => ?_) rfl rfl (by omega) (by omega)
    rw [show (22 : Int32) + nI i = nI (22 + i) from nI_add 22 i]
    refine wu_X_copy (a := i) (b := 22 + i) (by omega) (by omega) (by omega) (hin i (by omega)) (cW i (by omega)).2.1 (fun c' d' f' F HC => ?_)
    intro y ey
    subst ey
    rw [nI_1]
    have F' : wu_Fr wu_Qt c d f c' d' f' := wu_Fr_mono F (fun s z => Or.inr ⟨by omega, by omega⟩)
    refine ih (i + 1) n sn c' d' f' sd sf (by omega) (by omega) (fun j hj => wu_Ho_fr F (by omega) (cW j hj).2.1 (hin j hj)) (fun j hj => ?_) (fun u hu => wu_Ho_fr F (by omega) (by simp) (hch u hu)) (fun C' h sn2 c2 d2 f2 sd2 sf2 F2 => H0 C' h _ _ _ _ _ _ (wu_Fr_trans F' F2)) (fun e C' h he sn2 c2 d2 f2 sd2 sf2 F2 => H1 e C' h he _ _ _ _ _ _ (wu_Fr_trans F' F2))
    by_cases q : j = i
    · rw [q]; exact HC
    · exact wu_Ho_fr F (by omega) (cW j (by omega)).2.1 (hw j (by omega))
