/-! the reference divides -/
theorem wu_Ok_0 {p : Nat} {I : wu_P} (h : wu_Ok p I) : ∀ t, t ∈ I → t.2 < p ∧ wu_Sm (t.1 + 0) := fun t ht => ⟨(h.2.2 t ht).2.1, (h.2.2 t ht).2.2⟩
theorem wu_Y_171 {post : Int32 → SY → Prop} {J : Int32 → Int32 → Int32 → Int32 → Int32 → (Nat → Int32) → (Nat → Int32) → (Nat → Int32) → (Nat → Int32) → (Nat → Int32) → (Nat → Int32) → Prop} {p q : Nat} {bn V st x1 x2 x3 x5 x7 x8 : Int32} {c d f mm bc bf : Nat → Int32} {D E : wu_P} (hq : q < 35) (hY : wu_YB p D bn bc bf) (hD : D.length ≤ 512) (eD : wu_Eq p D E)
    (h0 : wu_st p E = none → post (-1) (nI p, V, st, bn, c, d, f, mm, bc, bf))
    (h1 : ∀ Q', wu_st p E = some Q' → ∀ QY c' d' f', List.Perm QY Q' → wu_Fr (fun s => s = q) c d f c' d' f' → wu_Ho c' d' f' q QY → ∀ y, y = x8 + 1 → J y (nI p) V st bn c' d' f' mm bc bf) :
    wY_prem_171 post J x1 x2 x3 (nI q) x5 x7 x8 (nI p) V st bn c d f mm bc bf := by
  unfold wY_prem_171
  try dsimp only
  refine wu_Y_store (s := q) hq hY hD (fun e0 => ?_) (fun Q' e1 QY c' d' f' pQ F HQ => ?_)
  · rw [wu_st_congr eD] at e0
    exact br_t rfl (h0 e0)
  · rw [wu_st_congr eD] at e1
    exact br_f (by decide) (h1 Q' e1 QY c' d' f' pQ F HQ)
theorem wu_Y_126 {post : Int32 → SY → Prop} {J : Int32 → Int32 → Int32 → Int32 → Int32 → (Nat → Int32) → (Nat → Int32) → (Nat → Int32) → (Nat → Int32) → (Nat → Int32) → (Nat → Int32) → Prop} {p a v m S : Nat} {w : Bool} {bn V st x2 x3 x4 x7 x8 x9 x10 : Int32} {c d f mm bc bf : Nat → Int32} {A B I Q IY D lY : wu_P} {e : Int}
    (hp : 2 ≤ p ∧ p ≤ 32749) (ha : a < 30) (hv : v < 6) (hm : m ≤ 15) (cA : wu_Cp p A) (cB : wu_Cp p B) (cI : wu_Cp p I) (cQ : wu_Cp p Q) (pI : List.Perm IY I) (hI : wu_Ho c d f 30 IY) (hq : w = true → ∃ QY, List.Perm QY Q ∧ wu_Ho c d f 32 QY) (hx4 : (w = false ∧ x4 = -1) ∨ (w = true ∧ x4 = nI 32))
    (hY : wu_YB p D bn bc bf) (hD : D.length ≤ 512) (eD : wu_Eq p D (wu_mul p 1 I A ++ wu_mul p (p - 1) (wu_ld v m A) B)) (he : e = wu_dg v A) (hx9 : x9 = wu_z e)
    (hl : (m : Int) ≤ e → x10 = nI S ∧ wu_Ho c d f 31 lY ∧ lY.length ≤ 16 ∧ List.Perm (wu_sh S lY) (wu_ld v m A))
    (hN : wu_rd p v m I B w A Q = none → ∀ bn' c' d' f' bc' bf', wu_Fr (wu_Qa a 32 w) c d f c' d' f' → post (-1) (nI p, V, st, bn', c', d', f', mm, bc', bf'))
    (hS : ∀ A' Q', wu_rd p v m I B w A Q = some (A', Q') → ∀ AY bn' c' d' f' bc' bf', List.Perm AY A' → wu_Fr (wu_Qa a 32 w) c d f c' d' f' → wu_Ho c' d' f' a AY → (w = true → ∃ QY, List.Perm QY Q' ∧ wu_Ho c' d' f' 32 QY) → ∀ y, y = x8 + 1 → J y (nI p) V st bn' c' d' f' mm bc' bf') :
    wY_prem_126 post J (nI a) x2 x3 x4 (nI m) x7 x8 x9 x10 (nI p) V st bn c d f mm bc bf := by
  have cl := wu_ld_Cp (m := m) hv cA
  have be := wu_dg_b v A
  unfold wY_prem_126
  try dsimp only
  refine wu_Y_store (s := a) (by omega) hY hD (fun e0 => ?_) (fun A' e1 AY c' d' f' pA F1 HA => ?_)
  · rw [wu_st_congr eD] at e0
    exact br_t rfl (hN (wu_rd_n1 e0) _ _ _ _ _ _ wu_Fr_refl)
  · rw [wu_st_congr eD] at e1
    have cA' := (wu_st_sp (wu_Ad_app (wu_mul_Ad (by omega) cI.2 cA.2) (wu_mul_Ad (by omega) cl.2 cB.2)) e1).1
    have hAY := (wu_Ok_perm cA'.2 pA.symm).1
    have F1' : wu_Fr (wu_Qa a 32 w) c d f c' d' f' := wu_Fr_mono F1 (fun s z => Or.inl z)
    refine br_f (by decide) ?_
    rcases hx4 with ⟨rfl, rfl⟩ | ⟨rfl, rfl⟩
    · exact br_t (by decide) (hS A' Q (wu_rd_s1 e1) AY _ _ _ _ _ _ pA F1' HA (fun z => absurd z (by decide)))
    · obtain ⟨QY, pQ, hQ⟩ := hq rfl
      have oQ := wu_Ok_perm cQ.2 pQ.symm
      have oI := wu_Ok_perm cI.2 pI.symm
      refine br_f (by decide) ?_
      refine wu_Y_prod (a := 30) (b := 32) (sh := 0) (ng := 0) (sc := 1) (A := []) hp (by omega) (by omega) (Or.inl ⟨rfl, rfl⟩) (wu_Ho_fr F1 (by omega) oI.1 hI) oI.1 (wu_Ok_0 oI) (wu_Ho_fr F1 (by omega) oQ.1 hQ) oQ (Nat.zero_le _) wu_YB_nil (fun bn2 bc2 bf2 Y2 => ?_)
      rw [List.nil_append, wu_sh0] at Y2
      have l2 := wu_mul_256 (sc := 1) oI oQ
      have fin : ∀ (D' : wu_P) (bn3 : Int32) (bc3 bf3 : Nat → Int32), wu_YB p D' bn3 bc3 bf3 → D'.length ≤ 512 → wu_Eq p D' (wu_mul p 1 I Q ++ wu_ld v m A) → wY_prem_171 post J (nI a) x2 x3 (nI 32) (nI m) x7 x8 (nI p) V st bn3 c' d' f' mm bc3 bf3 := by
        intro D' bn3 bc3 bf3 Y3 l3 e3
        refine wu_Y_171 (by omega) Y3 l3 e3 (fun e0 => hN (wu_rd_n2 e1 e0) _ _ _ _ _ _ F1') (fun Q' e4 QY' c2 d2 f2 pQ' F2 HQ' => ?_)
        exact hS A' Q' (wu_rd_s2 e1 e4) AY _ _ _ _ _ _ pA (wu_Fr_trans F1' (wu_Fr_mono F2 (fun s z => Or.inr ⟨rfl, z⟩))) (wu_Ho_fr F2 (by omega) hAY HA) (fun _ => ⟨QY', pQ', HQ'⟩)
      refine wu_blt e (m : Int) (fun hlt => ?_) (fun hge => ?_) hx9 (wu_zn m).symm (by omega) (by omega)
      · refine fin _ _ _ _ Y2 (by omega) ?_
        have z : wu_ld v m A = [] := by unfold wu_ld; rw [if_pos (by omega)]
        rw [z, List.append_nil]
        exact wu_Eq_perm (wu_mul_perm pI pQ)
      · obtain ⟨rfl, h31, l31, p31⟩ := hl hge
        refine wu_Y_shift (s := 31) (sh := S) hp (by omega) (wu_Ho_fr F1 (by omega) l31 h31) l31 (fun t ht => ?_) (by omega) Y2 (fun bn3 bc3 bf3 Y3 => ?_)
        · have : (t.1 + S, t.2) ∈ wu_ld v m A := p31.mem_iff.mp (List.mem_map.mpr ⟨t, ht, rfl⟩)
          have g := wu_Ok_Ad cl.2 _ this
          exact g
        · refine fin _ _ _ _ Y3 (by rw [List.length_append, wu_sh, List.length_map]; omega) ?_
          exact wu_Eq_app (wu_Eq_perm (wu_mul_perm pI pQ)) (wu_Eq_perm p31)
theorem wu_Y_56 {post : Int32 → SY → Prop} {p a b v m : Nat} {w : Bool} {V st x4 x7 : Int32} {mm : Nat → Int32} {B I BY IY : wu_P} {k : Nat}
    (hp : 2 ≤ p ∧ p ≤ 32749) (ha : a < 30) (hb : b < 30) (hab : a ≠ b) (hv : v < 6) (hm : m ≤ 15) (cB : wu_Cp p B) (cI : wu_Cp p I) (pB : List.Perm BY B) (pI : List.Perm IY I) (hx4 : (w = false ∧ x4 = -1) ∨ (w = true ∧ x4 = nI 32)) (hk : k ≤ 100) (hx7 : x7 = nI k) :
    ∀ (l r n : Nat) (A Q AY : wu_P) (bn : Int32) (c d f bc bf : Nat → Int32), r + l = k → l < n → List.Perm AY A → wu_Ho c d f a AY → wu_Cp p A → wu_Ho c d f b BY → wu_Ho c d f 30 IY → (w = true → ∃ QY, List.Perm QY Q ∧ wu_Ho c d f 32 QY) → wu_Cp p Q →
    (wu_rds p v m I B w l A Q = none → ∀ bn' c' d' f' bc' bf', wu_Fr (wu_Qb a 32 w) c d f c' d' f' → post (-1) (nI p, V, st, bn', c', d', f', mm, bc', bf')) →
    (∀ A' Q', wu_rds p v m I B w l A Q = some (A', Q') → ∀ AY' bn' c' d' f' bc' bf', List.Perm AY' A' → wu_Fr (wu_Qb a 32 w) c d f c' d' f' → wu_Ho c' d' f' a AY' → (w = true → ∃ QY, List.Perm QY Q' ∧ wu_Ho c' d' f' 32 QY) → post (nI k) (nI p, V, st, bn', c', d', f', mm, bc', bf')) →
    wY_prem_56 post (nI a) (nI b) (nI v) x4 (nI m) x7 n (nI r) (nI p) V st bn c d f mm bc bf := by
  have oB := wu_Ok_perm cB.2 pB.symm
  have oI := wu_Ok_perm cI.2 pI.symm
  intro l
  induction l with
  | zero =>
    intro r n A Q AY bn c d f bc bf hr hn pA hA cA hB hI hQ cQ hN hS
    obtain ⟨n, rfl⟩ : ∃ k, n = k + 1 := ⟨n - 1, by omega⟩
    have fin := hS A Q rfl AY bn c d f bc bf pA wu_Fr_refl hA hQ
    refine pk_le k r (fun _ => ?_) (fun h => absurd h (by omega)) hx7 rfl (by omega) (by omega)
    rw [hx7]
    exact fin
  | succ l ih =>
    intro r n A Q AY bn c d f bc bf hr hn pA hA cA hB hI hQ cQ hN hS
    obtain ⟨n, rfl⟩ : ∃ k, n = k + 1 := ⟨n - 1, by omega⟩
    have bA := wu_dg_b v A
    have oA := wu_Ok_perm cA.2 pA.symm
    have l1 := wu_mul_256 (sc := 1) oI oA
    have step : ∀ (c1 d1 f1 bc1 bf1 : Nat → Int32) (bn1 x10 : Int32) (S : Nat) (D lY : wu_P), wu_Fr (fun s => s = 31) c d f c1 d1 f1 → wu_YB p D bn1 bc1 bf1 → D.length ≤ 512 → wu_Eq p D (wu_mul p 1 I A ++ wu_mul p (p - 1) (wu_ld v m A) B) → ((m : Int) ≤ wu_dg v A → x10 = nI S ∧ wu_Ho c1 d1 f1 31 lY ∧ lY.length ≤ 16 ∧ List.Perm (wu_sh S lY) (wu_ld v m A)) →
        wY_prem_126 post (wY_prem_56 post (nI a) (nI b) (nI v) x4 (nI m) x7 n) (nI a) (nI b) (nI v) x4 (nI m) x7 (nI r) (wu_z (wu_dg v AY)) x10 (nI p) V st bn1 c1 d1 f1 mm bc1 bf1 := by
      intro c1 d1 f1 bc1 bf1 bn1 x10 S D lY F0 Y1 lD eD hl
      have F0' : wu_Fr (wu_Qb a 32 w) c d f c1 d1 f1 := wu_Fr_mono F0 (fun s z => Or.inr (Or.inl z))
      have hB1 := wu_Ho_fr F0 (show ¬ b = 31 by omega) oB.1 hB
      have hI1 := wu_Ho_fr F0 (show ¬ 30 = 31 by omega) oI.1 hI
      refine wu_Y_126 (S := S) (lY := lY) hp ha hv hm cA cB cI cQ pI hI1 (fun hw => ?_) hx4 Y1 lD eD (e := wu_dg v A) rfl (by rw [wu_dg_perm pA]) hl (fun e bn' c' d' f' bc' bf' F => ?_) (fun A' Q' e AY' bn' c' d' f' bc' bf' pA' F HA HQ y ey => ?_)
      · obtain ⟨QY, pQ, HQ⟩ := hQ hw
        exact ⟨QY, pQ, wu_Ho_fr F0 (by omega) (wu_Ok_perm cQ.2 pQ.symm).1 HQ⟩
      · exact hN (wu_rds_n e) _ _ _ _ _ _ (wu_Fr_trans F0' (wu_Fr_mono F wu_Qa_b))
      · subst ey
        rw [nI_1]
        have cc := wu_rd_Cp hp.1 hv cI cB cA cQ e
        have nb : ¬ wu_Qa a 32 w b := by
          rintro (z | ⟨z1, z2⟩)
          · exact hab z.symm
          · omega
        have n30 : ¬ wu_Qa a 32 w 30 := by
          rintro (z | ⟨z1, z2⟩)
          · omega
          · omega
        have FF := wu_Fr_trans F0' (wu_Fr_mono F wu_Qa_b)
        refine ih (r + 1) n A' Q' AY' bn' c' d' f' bc' bf' (by omega) (by omega) pA' HA cc.1 (wu_Ho_fr F nb oB.1 hB1) (wu_Ho_fr F n30 oI.1 hI1) HQ cc.2 (fun e2 bn2 c2 d2 f2 bc2 bf2 F2 => ?_) (fun A2 Q2 e2 AY2 bn2 c2 d2 f2 bc2 bf2 pA2 F2 HA2 HQ2 => ?_)
        · exact hN (by rw [wu_rds_s e]; exact e2) _ _ _ _ _ _ (wu_Fr_trans FF F2)
        · exact hS A2 Q2 (by rw [wu_rds_s e]; exact e2) AY2 _ _ _ _ _ _ pA2 (wu_Fr_trans FF F2) HA2 HQ2
    refine pk_le k r (fun h => absurd h (by omega)) (fun _ => ?_) hx7 rfl (by omega) (by omega)
    refine wu_Y_deg (s := a) (by omega) hv hA oA ?_
    refine wu_Y_prod (a := 30) (b := a) (sh := 0) (ng := 0) (sc := 1) (A := []) hp (by omega) (by omega) (Or.inl ⟨rfl, rfl⟩) hI oI.1 (wu_Ok_0 oI) hA oA (Nat.zero_le _) wu_YB_nil (fun bn2 bc2 bf2 Y2 => ?_)
    rw [List.nil_append, wu_sh0] at Y2
    have eA := wu_dg_perm (v := v) pA
    refine wu_blt (wu_dg v AY) (m : Int) (fun hlt => ?_) (fun hge => ?_) rfl (wu_zn m).symm (by omega) (by omega)
    · refine step c d f bc2 bf2 bn2 0 0 _ [] wu_Fr_refl Y2 (by omega) ?_ (fun z => absurd z (by omega))
      have z : wu_ld v m A = [] := by unfold wu_ld; rw [if_pos (by omega)]
      rw [z, show wu_mul p (p - 1) [] B = [] from rfl, List.append_nil]
      exact wu_Eq_perm (wu_mul_perm pI pA)
    · obtain ⟨e, he⟩ : ∃ e : Nat, wu_dg v A = (e : Int) := ⟨(wu_dg v A).toNat, by omega⟩
      have he15 : e < 32 := by omega
      have hle : m ≤ e := by omega
      have hYe : wu_dg v AY = (e : Int) := by omega
      have lde : wu_ld v m A = wu_pt v e (m * 32 ^ v) A := by unfold wu_ld; rw [he, if_neg (by omega)]; rfl
      have stp := step
      rw [hYe] at stp ⊢
      rw [wu_zn] at stp ⊢
      refine wu_Y_part (b := 31) (by omega) (by omega) (by omega) hv he15 hA oA (fun c1 d1 f1 F1 H31 => ?_)
      intro x10 e10
      rw [pk_sub hle, wu_shl5 _ hv, pk_mul] at e10
      have hsh := wu_sh_pt hv oA hle
      have l31 : (wu_pt v e (e * 32 ^ v) AY).length ≤ 16 := Nat.le_trans (wu_pt_len _ _ _ _) oA.1
      have p31 : List.Perm (wu_sh ((e - m) * 32 ^ v) (wu_pt v e (e * 32 ^ v) AY)) (wu_ld v m A) := by
        rw [hsh, lde]; exact wu_pt_perm pA
      have cl := wu_ld_Cp (m := m) hv cA
      subst e10
      refine wu_Y_prod (a := 31) (b := b) (sh := (e - m) * 32 ^ v) (ng := 1) (sc := p - 1) hp (by omega) (by omega) (Or.inr ⟨rfl, rfl⟩) H31 l31 (fun t ht => ?_) (wu_Ho_fr F1 (by omega) oB.1 hB) oB l1 Y2 (fun bn3 bc3 bf3 Y3 => ?_)
      · have : (t.1 + (e - m) * 32 ^ v, t.2) ∈ wu_ld v m A := p31.mem_iff.mp (List.mem_map.mpr ⟨t, ht, rfl⟩)
        have g := cl.2.2.2 _ this
        exact ⟨g.2.1, g.2.2⟩
      · have l3 := wu_mul_256 (sc := p - 1) (wu_Ok_perm cl.2 p31.symm) oB
        refine stp c1 d1 f1 bc3 bf3 bn3 _ ((e - m) * 32 ^ v) _ (wu_pt v e (e * 32 ^ v) AY) F1 Y3 (by rw [List.length_append]; omega) ?_ (fun _ => ⟨rfl, H31, l31, p31⟩)
        exact wu_Eq_app (wu_Eq_perm (wu_mul_perm pI pA)) (wu_Eq_perm (wu_mul_perm p31 pB))
theorem wu_Y_div {post : Int32 → SY → Prop} {p a b v : Nat} {w : Bool} {bn V st x4 : Int32} {c d f mm bc bf : Nat → Int32} {A B AY BY : wu_P}
    (hp : 2 ≤ p ∧ p ≤ 32749) (ha : a < 30) (hb : b < 30) (hab : a ≠ b) (hv : v < 6) (hA : wu_Ho c d f a AY) (pA : List.Perm AY A) (cA : wu_Cp p A) (hB : wu_Ho c d f b BY) (pB : List.Perm BY B) (cB : wu_Cp p B) (hBn : B ≠ []) (hx4 : (w = false ∧ x4 = -1) ∨ (w = true ∧ x4 = nI 32))
    (hN : wu_dv p v B w A [] = none → ∀ bn' c' d' f' bc' bf', wu_Fr (wu_Qd a 32 w) c d f c' d' f' → post (-1) (nI p, V, st, bn', c', d', f', mm, bc', bf'))
    (hS : ∀ A' Q', wu_dv p v B w A [] = some (A', Q') → ∀ AY' bn' c' d' f' bc' bf', List.Perm AY' A' → wu_Fr (wu_Qd a 32 w) c d f c' d' f' → wu_Ho c' d' f' a AY' → (w = true → ∃ QY, List.Perm QY Q' ∧ wu_Ho c' d' f' 32 QY) → post (nI (wu_kk v A B)) (nI p, V, st, bn', c', d', f', mm, bc', bf')) :
    wpY_prem post (nI p, V, st, bn, c, d, f, mm, bc, bf) (nI a) (nI b) (nI v) x4 := by
  obtain ⟨m, hm, hm15⟩ := wu_dg_nat hv cB.2 hBn
  have bA := wu_dg_b v A
  have oA := wu_Ok_perm cA.2 pA.symm
  have oB := wu_Ok_perm cB.2 pB.symm
  have hmY : wu_dg v BY = (m : Int) := by rw [wu_dg_perm pB]; exact hm
  have eA := wu_dg_perm (v := v) pA
  have ek : wu_kk v A B = (wu_dg v A - (m : Int) + 1).toNat := by unfold wu_kk; rw [hm]
  have ed : wu_dv p v B w A [] = wu_rds p v m (wu_in v B) B w (wu_kk v A B) A [] := by unfold wu_dv; rw [hm]; rfl
  unfold wpY_prem
  try dsimp only
  refine wu_Y_deg (s := b) (by omega) hv hB oB ?_
  rw [hmY, wu_zn]
  refine wu_Y_init hb hv hB oB hmY (fun c1 d1 f1 F1 H30 => ?_)
  have hi : wu_in v B = wu_pt v m (m * 32 ^ v) B := by unfold wu_in; rw [hm]; rfl
  have pI : List.Perm (wu_pt v m (m * 32 ^ v) BY) (wu_in v B) := by rw [hi]; exact wu_pt_perm pB
  have cI := wu_in_Cp hv cB
  have oI := wu_Ok_perm cI.2 pI.symm
  have F1' : wu_Fr (wu_Qd a 32 w) c d f c1 d1 f1 := wu_Fr_mono F1 (fun s z => Or.inr (Or.inl z))
  have go : ∀ c2 : Nat → Int32, wu_Fr (wu_Qd a 32 w) c d f c2 d1 f1 → wu_Ho c2 d1 f1 a AY → wu_Ho c2 d1 f1 b BY → wu_Ho c2 d1 f1 30 (wu_pt v m (m * 32 ^ v) BY) → (w = true → ∃ QY, List.Perm QY [] ∧ wu_Ho c2 d1 f1 32 QY) → wY_prem_27 post (nI a) (nI b) (nI v) x4 (nI m) (nI p) V st bn c2 d1 f1 mm bc bf := by
    intro c2 F2 hA2 hB2 hI2 hQ2
    unfold wY_prem_27
    try dsimp only
    refine wu_Y_deg (s := a) (by omega) hv hA2 oA ?_
    refine wu_ble (m : Int) (wu_dg v AY) (fun hle => ?_) (fun hgt => ?_) (wu_zn m).symm rfl (by omega) (by omega)
    · intro x7 e7
      have e7' : x7 = nI (wu_kk v A B) := by
        rw [e7, show (1 : Int32) = wu_z 1 from by decide, ← wu_zn, wu_zsub, wu_zadd, ← wu_zn]; exact congrArg wu_z (by omega)
      refine ⟨wu_kk v A B + 1, wu_Y_56 hp ha hb hab hv hm15 cB cI pB pI hx4 (k := wu_kk v A B) (by omega) e7' (wu_kk v A B) 0 _ A [] AY bn c2 d1 f1 bc bf (by omega) (by omega) pA hA2 cA hB2 hI2 hQ2 wu_Cp_nil (fun e bn' c' d' f' bc' bf' F => ?_) (fun A' Q' e AY' bn' c' d' f' bc' bf' pA' F HA HQ => ?_)⟩
      · exact hN (by rw [ed]; exact e) _ _ _ _ _ _ (wu_Fr_trans F2 (wu_Fr_mono F wu_Qb_d))
      · exact hS A' Q' (by rw [ed]; exact e) AY' _ _ _ _ _ _ pA' (wu_Fr_trans F2 (wu_Fr_mono F wu_Qb_d)) HA HQ
    · have k0 : wu_kk v A B = 0 := by omega
      have := hS A [] (by rw [ed, k0]; rfl) AY bn c2 d1 f1 bc bf pA F2 hA2 hQ2
      rw [k0] at this
      exact this
  have hA1 := wu_Ho_fr F1 (show ¬ a = 30 by omega) oA.1 hA
  have hB1 := wu_Ho_fr F1 (show ¬ b = 30 by omega) oB.1 hB
  rcases hx4 with ⟨rfl, rfl⟩ | ⟨rfl, rfl⟩
  · exact br_t (by decide) (go c1 F1' hA1 hB1 H30 (fun z => absurd z (by decide)))
  · refine br_f (by decide) ⟨vp_in_iff.mpr (by decide), fun c2 ec => ?_⟩
    have e32 : (nI 32).toNatClampNeg = 32 := nI_clamp (by decide)
    rw [e32] at ec
    subst ec
    have F2 : wu_Fr (fun s => s = 32) c1 d1 f1 (upd c1 32 0) d1 f1 := wu_Fr_cnt
    exact go _ (wu_Fr_trans F1' (wu_Fr_mono F2 (fun s z => Or.inr (Or.inr (Or.inr ⟨rfl, z⟩))))) (wu_Ho_fr F2 (by omega) oA.1 hA1) (wu_Ho_fr F2 (by omega) oB.1 hB1) (wu_Ho_fr F2 (by omega) oI.1 H30) (fun _ => ⟨[], List.Perm.refl _, wu_Ho_0⟩)
