/-! the reference triangulates; its slots hold the lists up to order -/
def wu_Hp (c d f : Nat → Int32) (s : Nat) (L : wu_P) : Prop := ∃ L', List.Perm L' L ∧ wu_Ho c d f s L'
theorem wu_Hp_fr {Q : Nat → Prop} {p s : Nat} {c d f c' d' f' : Nat → Int32} {L : wu_P} (F : wu_Fr Q c d f c' d' f') (hs : ¬ Q s) (hL : wu_Cp p L) (h : wu_Hp c d f s L) : wu_Hp c' d' f' s L := by
  obtain ⟨L', hp, hL'⟩ := h
  exact ⟨L', hp, wu_Ho_fr F hs (hp.length_eq ▸ hL.2.1) hL'⟩
theorem wu_Hp_of {c d f : Nat → Int32} {s : Nat} {L : wu_P} (h : wu_Ho c d f s L) : wu_Hp c d f s L := ⟨L, List.Perm.refl _, h⟩
theorem wu_Hp_cnt {c d f : Nat → Int32} {s : Nat} {L : wu_P} (h : wu_Hp c d f s L) : c s = nI L.length := by
  obtain ⟨L', hp, hL'⟩ := h
  rw [hL'.1, hp.length_eq]
theorem wu_YP_deg {post : Int32 → Prop} {p : Nat} {bn P V st : Int32} {c d f m sd sf : Nat → Int32} {s v : Nat} {L : wu_P} (hs : s < 35) (hv : v < 6) (hL : wu_Hp c d f s L) (cL : wu_Cp p L) (H : post (wu_z (wu_dg v L))) : wpY_deg post (P, V, st, bn, c, d, f, m, sd, sf) (nI s) (nI v) := by
  obtain ⟨L', hp, hL'⟩ := hL
  exact wu_Y_deg hs hv hL' (wu_Ok_perm cL.2 hp.symm) (by rw [wu_dg_perm hp]; exact H)
theorem wu_YP_cls {post : Int32 → Prop} {p nv : Nat} {bn P st : Int32} {c d f m sd sf : Nat → Int32} {s : Nat} {L : wu_P} (hnv : nv ≤ 6) (hs : s < 35) (hL : wu_Hp c d f s L) (cL : wu_Cp p L) (H : post (wu_z (wu_cl nv L))) : wpY_cls post (P, nI nv, st, bn, c, d, f, m, sd, sf) (nI s) := by
  obtain ⟨L', hp, hL'⟩ := hL
  exact wu_Y_cls hnv hs hL' (wu_Ok_perm cL.2 hp.symm) (by rw [wu_cl_perm hp]; exact H)
theorem wu_YP_copy {post : SY → Prop} {p : Nat} {P V st bn : Int32} {c d f m bc bf : Nat → Int32} {a b : Nat} {L : wu_P} (ha : a < 35) (hb : b < 35) (hab : a ≠ b) (hL : wu_Hp c d f a L) (cL : wu_Cp p L)
    (H : ∀ c' d' f', wu_Fr (fun q => q = b) c d f c' d' f' → wu_Hp c' d' f' b L → post (P, V, st, bn, c', d', f', m, bc, bf)) : wpY_copy post (P, V, st, bn, c, d, f, m, bc, bf) (nI a) (nI b) := by
  obtain ⟨L', hp, hL'⟩ := hL
  exact wu_Y_copy ha hb hab hL' (hp.length_eq ▸ cL.2.1) (fun c' d' f' F h => H c' d' f' F ⟨L', hp, h⟩)
theorem wu_YP_div {post : Int32 → SY → Prop} {p a b v : Nat} {w : Bool} {bn V st x4 : Int32} {c d f mm bc bf : Nat → Int32} {A B : wu_P}
    (hp : 2 ≤ p ∧ p ≤ 32749) (ha : a < 30) (hb : b < 30) (hab : a ≠ b) (hv : v < 6) (hA : wu_Hp c d f a A) (cA : wu_Cp p A) (hB : wu_Hp c d f b B) (cB : wu_Cp p B) (hBn : B ≠ []) (hx4 : (w = false ∧ x4 = -1) ∨ (w = true ∧ x4 = nI 32))
    (hN : wu_dv p v B w A [] = none → ∀ bn' c' d' f' bc' bf', wu_Fr (wu_Qd a 32 w) c d f c' d' f' → post (-1) (nI p, V, st, bn', c', d', f', mm, bc', bf'))
    (hS : ∀ A' Q', wu_dv p v B w A [] = some (A', Q') → ∀ bn' c' d' f' bc' bf', wu_Fr (wu_Qd a 32 w) c d f c' d' f' → wu_Hp c' d' f' a A' → (w = true → wu_Hp c' d' f' 32 Q') → post (nI (wu_kk v A B)) (nI p, V, st, bn', c', d', f', mm, bc', bf')) :
    wpY_prem post (nI p, V, st, bn, c, d, f, mm, bc, bf) (nI a) (nI b) (nI v) x4 := by
  obtain ⟨AY, pA, hA'⟩ := hA
  obtain ⟨BY, pB, hB'⟩ := hB
  exact wu_Y_div hp ha hb hab hv hA' pA cA hB' pB cB hBn hx4 hN (fun A' Q' e AY' bn' c' d' f' bc' bf' pA' F HA HQ => hS A' Q' e bn' c' d' f' bc' bf' F ⟨AY', pA', HA⟩ HQ)
def wu_HY (c d f : Nat → Int32) (W : Nat → wu_P) : Prop := ∀ i, i < 8 → wu_Hp c d f (22 + i) (W i)
theorem wu_HY_fr {Q : Nat → Prop} {p : Nat} {c d f c' d' f' : Nat → Int32} {W : Nat → wu_P} (F : wu_Fr Q c d f c' d' f') (hQ : ∀ i, i < 8 → ¬ Q (22 + i)) (cW : wu_CW p W) (h : wu_HY c d f W) : wu_HY c' d' f' W :=
  fun i hi => wu_Hp_fr F (hQ i hi) (cW i hi) (h i hi)
theorem wu_HY_up {Q : Nat → Prop} {p : Nat} {c d f c' d' f' : Nat → Int32} {W : Nat → wu_P} {i : Nat} {L : wu_P} (F : wu_Fr Q c d f c' d' f') (hQ : ∀ j, j < 8 → j ≠ i → ¬ Q (22 + j)) (cW : wu_CW p W) (h : wu_HY c d f W) (hL : wu_Hp c' d' f' (22 + i) L) : wu_HY c' d' f' (wu_up W i L) := by
  intro j hj
  by_cases e : j = i
  · rw [e, wu_up_s]; exact hL
  · rw [wu_up_n e]; exact wu_Hp_fr F (hQ j hj e) (cW j hj) (h j hj)
def wu_Qx (s : Nat) : Prop := (22 ≤ s ∧ s < 32)
theorem wu_Y_t16 {post : Int32 → SY → Prop} {J : Int32 → Int32 → Int32 → Int32 → Int32 → (Nat → Int32) → (Nat → Int32) → (Nat → Int32) → (Nat → Int32) → (Nat → Int32) → (Nat → Int32) → Prop} {p nv v : Nat} {P st bn x2 : Int32} {c d f m bc bf : Nat → Int32} {W : Nat → wu_P} (hnv : nv ≤ 6) (hv : v < 6) (hW : wu_HY c d f W) (cW : wu_CW p W) :
    ∀ (l i n k : Nat) (b bd : Int), i + l = 8 → l < n → ((b = -1 ∧ bd = 16) ∨ ∃ q : Nat, b = (q : Int) ∧ q < 8 ∧ bd = wu_dg v (W q)) →
    (∀ n', wY_triang_16 post J (nI v) x2 P (nI nv) st bn c d f m bc bf (n' + 1) (wu_z (wu_ls nv v W l i b bd)) (nI (k + wu_ct nv v W l i)) (nI 8)) →
    wY_triang_16 post J (nI v) x2 P (nI nv) st bn c d f m bc bf n (wu_z b) (nI k) (nI i) := by
  intro l
  induction l with
  | zero =>
    intro i n k b bd hi hn hb H
    obtain ⟨n, rfl⟩ : ∃ k, n = k + 1 := ⟨n - 1, by omega⟩
    have : i = 8 := by omega
    subst this
    exact H n
  | succ l ih =>
    intro i n k b bd hi hn hb H
    obtain ⟨n, rfl⟩ : ∃ k, n = k + 1 := ⟨n - 1, by omega⟩
    have bc' := wu_cl_b nv (W i)
    have bdg := wu_dg_b v (W i)
    have b15 := wu_dg_15 hv (cW i (by omega)).2
    have hwi := hW i (by omega)
    have cwi := cW i (by omega)
    rw [wu_ls, wu_ct] at H
    refine pk_le 8 i (fun h => absurd h (by omega)) (fun _ => ?_) rfl rfl (by omega) (by omega)
    rw [show (22 : Int32) + nI i = nI (22 + i) from nI_add 22 i]
    refine wu_YP_cls (s := 22 + i) hnv (by omega) hwi cwi ?_
    refine wu_beq (wu_cl nv (W i)) (v : Int) (fun he => ?_) (fun he => ?_) rfl (wu_zn v).symm (by omega) (by omega)
    · intro x4 e4
      subst e4
      rw [nI_1]
      rw [if_pos he, show k + (wu_ct nv v W l (i + 1) + 1) = (k + 1) + wu_ct nv v W l (i + 1) by omega] at H
      rcases hb with ⟨rfl, rfl⟩ | ⟨q, rfl, hq, rfl⟩
      · refine wu_blt (-1) 0 (fun _ => ?_) (fun h => absurd h (by decide)) rfl wu_z0 (by omega) (by omega)
        intro y ey
        subst ey
        rw [nI_1]
        rw [if_pos ⟨he, by omega⟩] at H
        have := ih (i + 1) n (k + 1) (i : Int) (wu_dg v (W i)) (by omega) (by omega) (Or.inr ⟨i, rfl, by omega, rfl⟩) H
        rw [wu_zn] at this
        exact this
      · refine wu_blt (q : Int) 0 (fun h => absurd h (by omega)) (fun _ => ?_) rfl wu_z0 (by omega) (by omega)
        have bq := wu_dg_b v (W q)
        refine wu_YP_deg (s := 22 + i) (by omega) hv hwi cwi ?_
        rw [wu_zn, show (22 : Int32) + nI q = nI (22 + q) from nI_add 22 q]
        refine wu_YP_deg (s := 22 + q) (by omega) hv (hW q hq) (cW q hq) ?_
        refine wu_ble (wu_dg v (W q)) (wu_dg v (W i)) (fun hle => ?_) (fun hlt => ?_) rfl rfl (by omega) (by omega)
        · intro y ey
          subst ey
          rw [nI_1]
          rw [if_neg (by omega)] at H
          have := ih (i + 1) n (k + 1) (q : Int) (wu_dg v (W q)) (by omega) (by omega) (Or.inr ⟨q, rfl, hq, rfl⟩) H
          rw [wu_zn] at this
          exact this
        · intro y ey
          subst ey
          rw [nI_1]
          rw [if_pos ⟨he, hlt⟩] at H
          have := ih (i + 1) n (k + 1) (i : Int) (wu_dg v (W i)) (by omega) (by omega) (Or.inr ⟨i, rfl, by omega, rfl⟩) H
          rw [wu_zn] at this
          exact this
    · intro y ey
      subst ey
      rw [nI_1]
      rw [if_neg he, if_neg (fun z => he z.1)] at H
      exact ih (i + 1) n k b bd (by omega) (by omega) hb H
theorem wu_Y_t114 {post : Int32 → SY → Prop} {J : Int32 → Int32 → Int32 → Int32 → Int32 → (Nat → Int32) → (Nat → Int32) → (Nat → Int32) → (Nat → Int32) → (Nat → Int32) → (Nat → Int32) → Prop} {p nv v b : Nat} {st x2 : Int32} {mm : Nat → Int32} (hp : 2 ≤ p ∧ p ≤ 32749) (hnv : nv ≤ 6) (hv : v < 6) (hb : b < 8) :
    ∀ (l i n : Nat) (W : Nat → wu_P) (bn : Int32) (c d f bc bf : Nat → Int32), i + l = 8 → l < n → wu_HY c d f W → wu_CW p W → wu_cl nv (W b) = (v : Int) →
    (∀ W', wu_do p nv v b l i W = (0, W') → ∀ bn' c' d' f' bc' bf', wu_Fr wu_Qw c d f c' d' f' → wu_HY c' d' f' W' → ∀ y, y = x2 + 1 → J y (nI p) (nI nv) st bn' c' d' f' mm bc' bf') →
    (∀ e W', wu_do p nv v b l i W = (e, W') → e ≠ 0 → ∀ bn' c' d' f' bc' bf', wu_Fr wu_Qw c d f c' d' f' → post (wu_z e) (nI p, nI nv, st, bn', c', d', f', mm, bc', bf')) →
    wY_triang_114 post J (nI v) x2 (nI b) n (nI i) (nI p) (nI nv) st bn c d f mm bc bf := by
  intro l
  induction l with
  | zero =>
    intro i n W bn c d f bc bf hi hn hW cW hcb H0 H1
    obtain ⟨n, rfl⟩ : ∃ k, n = k + 1 := ⟨n - 1, by omega⟩
    exact pk_le 8 i (fun _ => H0 W rfl _ _ _ _ _ _ wu_Fr_refl hW) (fun h => absurd h (by omega)) rfl rfl (by omega) (by omega)
  | succ l ih =>
    intro i n W bn c d f bc bf hi hn hW cW hcb H0 H1
    obtain ⟨n, rfl⟩ : ∃ k, n = k + 1 := ⟨n - 1, by omega⟩
    have bc' := wu_cl_b nv (W i)
    have hwi := hW i (by omega)
    have cwi := cW i (by omega)
    refine pk_le 8 i (fun h => absurd h (by omega)) (fun _ => ?_) rfl rfl (by omega) (by omega)
    refine pk_eq i b (fun he => ?_) (fun he => ?_) rfl rfl (by omega) (by omega)
    · intro y ey
      subst ey
      rw [nI_1]
      have hs : i = b ∨ wu_cl nv (W i) ≠ (v : Int) := Or.inl he
      exact ih (i + 1) n W bn c d f bc bf (by omega) (by omega) hW cW hcb (fun W' h => H0 W' (by rw [wu_do_sk hs]; exact h)) (fun e W' h => H1 e W' (by rw [wu_do_sk hs]; exact h))
    · rw [show (22 : Int32) + nI i = nI (22 + i) from nI_add 22 i]
      refine wu_YP_cls (s := 22 + i) hnv (by omega) hwi cwi ?_
      refine wu_beq (wu_cl nv (W i)) (v : Int) (fun hc => ?_) (fun hc => ?_) rfl (wu_zn v).symm (by omega) (by omega)
      · have hs : ¬ (i = b ∨ wu_cl nv (W i) ≠ (v : Int)) := by
          rintro (z | z)
          · exact he z
          · exact z hc
        rw [show (22 : Int32) + nI b = nI (22 + b) from nI_add 22 b]
        have q1 : ∀ s, wu_Qd (22 + i) 32 false s → wu_Qw s := by
          intro s z
          rcases z with z | z | z | ⟨z, _⟩
          · exact ⟨by omega, by omega⟩
          · exact ⟨by omega, by omega⟩
          · exact ⟨by omega, by omega⟩
          · exact absurd z (by decide)
        refine wu_YP_div (a := 22 + i) (b := 22 + b) (w := false) hp (by omega) (by omega) (by omega) hv hwi cwi (hW b hb) (cW b hb) (wu_cl_ne hcb) (Or.inl ⟨rfl, rfl⟩) (fun e bn' c' d' f' bc2 bf2 F => ?_) (fun A Q e bn' c' d' f' bc2 bf2 F HA _ => ?_)
        · refine br_f (by decide) ?_
          rw [show (4 : Int32) = wu_z 4 from by decide]
          exact H1 4 W (wu_do_4 hs e) (by decide) _ _ _ _ _ _ (wu_Fr_mono F q1)
        · have F' : wu_Fr wu_Qw c d f c' d' f' := wu_Fr_mono F q1
          have cA := (wu_dv_Cp hp.1 hv (cW b hb) cwi wu_Cp_nil e).1
          have bA := wu_cl_b nv A
          have hk := wu_kk_le hv cwi.2 (wu_cl_ne hcb)
          refine br_t (nI_pos' (by omega)) ?_
          refine wu_YP_cls (s := 22 + i) hnv (by omega) HA cA ?_
          refine wu_beq (wu_cl nv A) (-1) (fun g => ?_) (fun g => ?_) rfl wu_m1 (by omega) (by omega)
          · rw [show (3 : Int32) = wu_z 3 from by decide]
            exact H1 3 _ (wu_do_3 hs e g) (by decide) _ _ _ _ _ _ F'
          · intro y ey
            subst ey
            rw [nI_1]
            have hW' : wu_HY c' d' f' (wu_up W i A) := by
              refine wu_HY_up F (fun j hj hji z => ?_) cW hW HA
              rcases z with z | z | z | ⟨z, _⟩
              · omega
              · omega
              · omega
              · exact absurd z (by decide)
            refine ih (i + 1) n (wu_up W i A) bn' c' d' f' bc2 bf2 (by omega) (by omega) hW' (wu_up_CW cW cA) (by rw [wu_up_n (fun z => he z.symm)]; exact hcb) (fun W' h bn2 c2 d2 f2 bc3 bf3 F2 h0 => ?_) (fun e' W' h he' bn2 c2 d2 f2 bc3 bf3 F2 => ?_)
            · exact H0 W' (by rw [wu_do_go hs e g]; exact h) _ _ _ _ _ _ (wu_Fr_trans F' F2) h0
            · exact H1 e' W' (by rw [wu_do_go hs e g]; exact h) he' _ _ _ _ _ _ (wu_Fr_trans F' F2)
      · intro y ey
        subst ey
        rw [nI_1]
        have hs : i = b ∨ wu_cl nv (W i) ≠ (v : Int) := Or.inr hc
        exact ih (i + 1) n W bn c d f bc bf (by omega) (by omega) hW cW hcb (fun W' h => H0 W' (by rw [wu_do_sk hs]; exact h)) (fun e W' h => H1 e W' (by rw [wu_do_sk hs]; exact h))
theorem wu_ct_le {nv : Nat} {w : Int} {W : Nat → wu_P} : ∀ n i, wu_ct nv w W n i ≤ n := by
  intro n
  induction n with
  | zero => intro i; exact Nat.le_refl _
  | succ n ih =>
    intro i
    rw [wu_ct]
    have := ih (i + 1)
    by_cases h : wu_cl nv (W i) = w
    · rw [if_pos h]; omega
    · rw [if_neg h]; omega
theorem wu_Y_t2 {post : Int32 → SY → Prop} {p nv v : Nat} {st : Int32} {mm : Nat → Int32} (hp : 2 ≤ p ∧ p ≤ 32749) (hnv : nv ≤ 6) (hv : v < 6) :
    ∀ (g it n : Nat) (W : Nat → wu_P) (bn : Int32) (c d f bc bf : Nat → Int32), it + g ≤ 64 → g < n → wu_HY c d f W → wu_CW p W → wu_Me nv v W g → wu_Hp c d f (9 + v) [] →
    (∀ W' ch, wu_tr p nv v g W = (0, W', ch) → ∀ bn' c' d' f' bc' bf', wu_Fr (fun s => s = 9 + v ∨ wu_Qw s) c d f c' d' f' → wu_HY c' d' f' W' → wu_CW p W' → wu_Hp c' d' f' (9 + v) ch → wu_Cp p ch → post 0 (nI p, nI nv, st, bn', c', d', f', mm, bc', bf')) →
    (∀ e W' ch, wu_tr p nv v g W = (e, W', ch) → e ≠ 0 → ∀ bn' c' d' f' bc' bf', wu_Fr (fun s => s = 9 + v ∨ wu_Qw s) c d f c' d' f' → post (wu_z e) (nI p, nI nv, st, bn', c', d', f', mm, bc', bf')) →
    wY_triang_2 post (nI v) n (nI it) (nI p) (nI nv) st bn c d f mm bc bf := by
  intro g
  induction g with
  | zero => intro it n W bn c d f bc bf h1 h2 hW cW hM; exact absurd hM.1 (by omega)
  | succ g ih =>
    intro it n W bn c d f bc bf h1 h2 hW cW hM hch H0 H1
    obtain ⟨n, rfl⟩ : ∃ k, n = k + 1 := ⟨n - 1, by omega⟩
    have ctb := wu_ct_le (nv := nv) (w := (v : Int)) (W := W) 8 0
    refine pk_le 64 it (fun h => absurd h (by omega)) (fun _ => ?_) rfl rfl (by omega) (by omega)
    refine ⟨9, ?_⟩
    rw [wu_m1]
    refine wu_Y_t16 hnv hv hW cW 8 0 9 0 (-1) 16 rfl (by omega) (Or.inl ⟨rfl, rfl⟩) (fun n' => ?_)
    rw [Nat.zero_add]
    refine pk_le 8 8 (fun _ => ?_) (fun h => absurd h (by omega)) rfl rfl (by omega) (by omega)
    refine pk_eq (wu_ct nv v W 8 0) 0 (fun h0 => ?_) (fun h0 => ?_) rfl rfl (by omega) (by omega)
    · exact H0 W [] (wu_tr_0 h0) _ _ _ _ _ _ wu_Fr_refl hW cW hch wu_Cp_nil
    · obtain ⟨b, hb, eb, hcb, hmin⟩ := wu_ls_at hv cW h0
      rw [eb, wu_zn]
      refine pk_eq (wu_ct nv v W 8 0) 1 (fun h1 => ?_) (fun h1 => ?_) rfl rfl (by omega) (by omega)
      · rw [show (22 : Int32) + nI b = nI (22 + b) from nI_add 22 b, show (9 : Int32) + nI v = nI (9 + v) from nI_add 9 v]
        refine wu_YP_copy (a := 22 + b) (b := 9 + v) (by omega) (by omega) (by omega) (hW b hb) (cW b hb) (fun c' d' f' F HC => ?_)
        refine ⟨vp_in_nI (by omega) (by decide), fun c2 e2 => ?_⟩
        rw [nI_clamp (by omega)] at e2
        subst e2
        have F2 : wu_Fr (fun s => s = 22 + b) c' d' f' (upd c' (22 + b) 0) d' f' := wu_Fr_cnt
        have FF : wu_Fr (fun s => s = 9 + v ∨ wu_Qw s) c d f (upd c' (22 + b) 0) d' f' := wu_Fr_trans (wu_Fr_mono F (fun s z => Or.inl z)) (wu_Fr_mono F2 (fun s z => Or.inr ⟨by omega, by omega⟩))
        have hW1 : wu_HY c' d' f' W := wu_HY_fr F (fun j hj => by omega) cW hW
        have hW2 : wu_HY (upd c' (22 + b) 0) d' f' (wu_up W b []) := wu_HY_up F2 (fun j hj hji => by omega) cW hW1 (wu_Hp_of wu_Ho_0)
        exact H0 _ _ (wu_tr_1 h1 eb) _ _ _ _ _ _ FF hW2 (wu_up_CW cW wu_Cp_nil) (wu_Hp_fr F2 (by omega) (cW b hb) HC) (cW b hb)
      · refine ⟨9, wu_Y_t114 hp hnv hv hb 8 0 9 W bn c d f bc bf rfl (by omega) hW cW hcb (fun W' hd bn' c' d' f' bc2 bf2 F hW' y ey => ?_) (fun e W' hd he bn' c' d' f' bc2 bf2 F => ?_)⟩
        · subst ey
          rw [nI_1]
          have F' : wu_Fr (fun s => s = 9 + v ∨ wu_Qw s) c d f c' d' f' := wu_Fr_mono F (fun s z => Or.inr z)
          obtain ⟨cW', hM'⟩ := wu_Me_next hp.1 hnv hv cW hM (by omega) hb hcb hmin hd
          refine ih (it + 1) n W' bn' c' d' f' bc2 bf2 (by omega) (by omega) hW' cW' hM' (wu_Hp_fr F (fun z => by have := z.1; omega) (wu_Cp_nil (p := p)) hch) (fun W2 ch h bn2 c2 d2 f2 bc3 bf3 F2 => ?_) (fun e2 W2 ch h he2 bn2 c2 d2 f2 bc3 bf3 F2 => ?_)
          · exact H0 W2 ch (by rw [wu_tr_2 (by omega) eb hd]; exact h) _ _ _ _ _ _ (wu_Fr_trans F' F2)
          · exact H1 e2 W2 ch (by rw [wu_tr_2 (by omega) eb hd]; exact h) he2 _ _ _ _ _ _ (wu_Fr_trans F' F2)
        · exact H1 e W' [] (wu_tr_3 (by omega) eb hd he) he _ _ _ _ _ _ (wu_Fr_mono F (fun s z => Or.inr z))
theorem wu_Y_tri {post : Int32 → SY → Prop} {p nv v : Nat} {st bn : Int32} {c d f mm bc bf : Nat → Int32} {W : Nat → wu_P} (hp : 2 ≤ p ∧ p ≤ 32749) (hnv : nv ≤ 6) (hv : v < 6) (hW : wu_HY c d f W) (cW : wu_CW p W) (hch : wu_Hp c d f (9 + v) [])
    (H0 : ∀ W' ch, wu_tr p nv v 16 W = (0, W', ch) → ∀ bn' c' d' f' bc' bf', wu_Fr (fun s => s = 9 + v ∨ wu_Qw s) c d f c' d' f' → wu_HY c' d' f' W' → wu_CW p W' → wu_Hp c' d' f' (9 + v) ch → wu_Cp p ch → post 0 (nI p, nI nv, st, bn', c', d', f', mm, bc', bf'))
    (H1 : ∀ e W' ch, wu_tr p nv v 16 W = (e, W', ch) → e ≠ 0 → ∀ bn' c' d' f' bc' bf', wu_Fr (fun s => s = 9 + v ∨ wu_Qw s) c d f c' d' f' → post (wu_z e) (nI p, nI nv, st, bn', c', d', f', mm, bc', bf')) :
    wpY_triang post (nI p, nI nv, st, bn, c, d, f, mm, bc, bf) (nI v) :=
  ⟨17, wu_Y_t2 hp hnv hv 16 0 17 W bn c d f bc bf (by omega) (by omega) hW cW (wu_Me_16 hv cW) hch H0 H1⟩
