/-! the component divides -/
theorem wu_pm1 {p : Nat} (hp : 2 ≤ p) : nI p - 1 = nI (p - 1) := pk_sub (a := p) (b := 1) (by omega)
theorem wu_nm1 {q : Nat} (h : q < 2147483648) : ¬ nI q = -1 := fun e => nI_pos (n := q) (by omega) (by rw [e]; decide)
theorem wu_mul_256 {p sc : Nat} {I L : wu_P} (hI : wu_Ok p I) (hL : wu_Ok p L) : (wu_mul p sc I L).length ≤ 256 := by
  rw [wu_mul_len]
  exact Nat.le_trans (Nat.mul_le_mul hI.1 hL.1) (by decide)
theorem wu_X_prodN {post : St2 → Prop} {p a b : Nat} {sn V st : Int32} {c d f m sd sf : Nat → Int32} {A I L : wu_P} (hp : 2 ≤ p ∧ p ≤ 32749) (ha : a < 34) (hb : b < 34) (hI : wu_Ho c d f a I) (hIO : wu_Ok p I) (hL : wu_Ho c d f b L) (hLO : wu_Ok p L) (hA : A.length ≤ 256) (hX : wu_XB p A sn sd sf)
    (H : ∀ sn' sd' sf', wu_XB p (A ++ wu_mul p (p - 1) I L) sn' sd' sf' → post (sn', nI p, V, st, c, d, f, m, sd', sf')) : wpX_addProduct post (sn, nI p, V, st, c, d, f, m, sd, sf) (nI a) (nI b) (nI p - 1) := by
  rw [wu_pm1 hp.1]
  exact wu_X_prod hp ha hb (by omega) hI hIO hL hLO hA hX H
def wu_Qa (a q : Nat) (w : Bool) (s : Nat) : Prop := s = a ∨ (w = true ∧ s = q)
def wu_Qb (a q : Nat) (w : Bool) (s : Nat) : Prop := s = a ∨ s = 31 ∨ (w = true ∧ s = q)
def wu_Qd (a q : Nat) (w : Bool) (s : Nat) : Prop := s = a ∨ s = 30 ∨ s = 31 ∨ (w = true ∧ s = q)
theorem wu_Qa_b {a q : Nat} {w : Bool} (s : Nat) (h : wu_Qa a q w s) : wu_Qb a q w s := h.elim Or.inl (fun z => Or.inr (Or.inr z))
theorem wu_Qb_d {a q : Nat} {w : Bool} (s : Nat) (h : wu_Qb a q w s) : wu_Qd a q w s := h.elim Or.inl (fun z => Or.inr (Or.inr z))
theorem wu_X_d80 {post : Int32 → St2 → Prop} {J : Int32 → Int32 → Int32 → Int32 → Int32 → (Nat → Int32) → (Nat → Int32) → (Nat → Int32) → (Nat → Int32) → (Nat → Int32) → (Nat → Int32) → Prop} {p a b v q m : Nat} {w : Bool} {sn V st x3 x4 x5 x6 x7 : Int32} {c d f mm sd sf : Nat → Int32} {A B I Q : wu_P}
    (hp : 2 ≤ p ∧ p ≤ 32749) (ha : a < 30) (hb : b < 30) (hv : v < 6) (hA : wu_Ho c d f a A) (cA : wu_Cp p A) (hB : wu_Ho c d f b B) (cB : wu_Cp p B) (hI : wu_Ho c d f 30 I) (cI : wu_Cp p I) (hl : wu_Ho c d f 31 (wu_ld v m A)) (hq : w = true → q < 30 ∧ q ≠ a ∧ wu_Ho c d f q Q) (cQ : wu_Cp p Q) (hx4 : (w = false ∧ x4 = -1) ∨ (w = true ∧ x4 = nI q))
    (hN : wu_rd p v m I B w A Q = none → ∀ sn' c' d' f' sd' sf', wu_Fr (wu_Qa a q w) c d f c' d' f' → post (-1) (sn', nI p, V, st, c', d', f', mm, sd', sf'))
    (hS : ∀ A' Q', wu_rd p v m I B w A Q = some (A', Q') → ∀ sn' c' d' f' sd' sf', wu_Fr (wu_Qa a q w) c d f c' d' f' → wu_Ho c' d' f' a A' → (w = true → wu_Ho c' d' f' q Q') → ∀ y, y = x7 + 1 → J y sn' (nI p) V st c' d' f' mm sd' sf') :
    wX_divide_80 post J (nI a) (nI b) x3 x4 x5 x6 x7 sn (nI p) V st c d f mm sd sf := by
  have cl := wu_ld_Cp (m := m) hv cA
  unfold wX_divide_80
  try dsimp only
  refine wu_X_prod (a := 30) (b := a) (sc := 1) (A := []) hp (by omega) (by omega) (by omega) hI cI.2 hA cA.2 (Nat.zero_le _) wu_XB_nil (fun sn1 sd1 sf1 X1 => ?_)
  rw [List.nil_append] at X1
  have l1 := wu_mul_256 (sc := 1) cI.2 cA.2
  refine wu_X_prodN (a := 31) (b := b) hp (by omega) (by omega) hl cl.2 hB cB.2 l1 X1 (fun sn2 sd2 sf2 X2 => ?_)
  have l2 := wu_mul_256 (sc := p - 1) cl.2 cB.2
  refine wu_X_store hp (s := a) (by omega) X2 (by rw [List.length_append]; omega) (fun e0 => ?_) (fun A' e1 c' d' f' F1 HA' => ?_)
  · exact br_t rfl (hN (wu_rd_n1 e0) _ _ _ _ _ _ wu_Fr_refl)
  · have cA' := (wu_st_sp (wu_Ad_app (wu_mul_Ad (by omega) cI.2 cA.2) (wu_mul_Ad (by omega) cl.2 cB.2)) e1).1
    have F1' : wu_Fr (wu_Qa a q w) c d f c' d' f' := wu_Fr_mono F1 (fun s z => Or.inl z)
    refine br_f (by decide) ?_
    rcases hx4 with ⟨rfl, rfl⟩ | ⟨rfl, rfl⟩
    · exact br_t rfl (hS A' Q (wu_rd_s1 e1) _ _ _ _ _ _ F1' HA' (fun z => absurd z (by decide)))
    · obtain ⟨hq30, hqa, hQ⟩ := hq rfl
      refine br_f (wu_nm1 (by omega)) ?_
      refine wu_X_prod (a := 30) (b := q) (sc := 1) (A := []) hp (by omega) (by omega) (by omega) (wu_Ho_fr F1 (by omega) cI.2.1 hI) cI.2 (wu_Ho_fr F1 hqa cQ.2.1 hQ) cQ.2 (Nat.zero_le _) wu_XB_nil (fun sn3 sd3 sf3 X3 => ?_)
      rw [List.nil_append] at X3
      have l3 := wu_mul_256 (sc := 1) cI.2 cQ.2
      have l4 := cl.2.1
      refine wu_X_addPoly (s := 31) hp (by omega) (wu_Ho_fr F1 (by omega) cl.2.1 hl) cl.2 (by omega) X3 (fun sn4 sd4 sf4 X4 => ?_)
      refine wu_X_store hp (s := q) (by omega) X4 (by rw [List.length_append]; omega) (fun e0 => ?_) (fun Q' e2 c2 d2 f2 F2 HQ' => ?_)
      · exact br_t rfl (hN (wu_rd_n2 e1 e0) _ _ _ _ _ _ F1')
      · exact br_f (by decide) (hS A' Q' (wu_rd_s2 e1 e2) _ _ _ _ _ _ (wu_Fr_trans F1' (wu_Fr_mono F2 (fun s z => Or.inr ⟨rfl, z⟩))) (wu_Ho_fr F2 (fun z => hqa z.symm) cA'.2.1 HA') (fun _ => HQ'))
theorem wu_X_d35 {post : Int32 → St2 → Prop} {p a b v q m : Nat} {w : Bool} {V st x4 x6 : Int32} {mm : Nat → Int32} {B I : wu_P} {κ : Int} {k : Nat}
    (hp : 2 ≤ p ∧ p ≤ 32749) (ha : a < 30) (hb : b < 30) (hab : a ≠ b) (hv : v < 6) (hm : m ≤ 15) (cB : wu_Cp p B) (cI : wu_Cp p I) (hq : w = true → q < 30 ∧ q ≠ a ∧ q ≠ b) (hx4 : (w = false ∧ x4 = -1) ∨ (w = true ∧ x4 = nI q)) (hκ : -100 ≤ κ ∧ κ ≤ 100) (hx6 : x6 = wu_z κ) (hk : k = κ.toNat) :
    ∀ (l r n : Nat) (A Q : wu_P) (sn : Int32) (c d f sd sf : Nat → Int32), r + l = k → l < n → wu_Ho c d f a A → wu_Cp p A → wu_Ho c d f b B → wu_Ho c d f 30 I → (w = true → wu_Ho c d f q Q) → wu_Cp p Q →
    (wu_rds p v m I B w l A Q = none → ∀ sn' c' d' f' sd' sf', wu_Fr (wu_Qb a q w) c d f c' d' f' → post (-1) (sn', nI p, V, st, c', d', f', mm, sd', sf')) →
    (∀ A' Q', wu_rds p v m I B w l A Q = some (A', Q') → ∀ sn' c' d' f' sd' sf', wu_Fr (wu_Qb a q w) c d f c' d' f' → wu_Ho c' d' f' a A' → (w = true → wu_Ho c' d' f' q Q') → post (nI k) (sn', nI p, V, st, c', d', f', mm, sd', sf')) →
    wX_divide_35 post (nI a) (nI b) (nI v) x4 (nI m) x6 n (nI r) sn (nI p) V st c d f mm sd sf := by
  intro l
  induction l with
  | zero =>
    intro r n A Q sn c d f sd sf hr hn hA cA hB hI hQ cQ hN hS
    obtain ⟨n, rfl⟩ : ∃ k, n = k + 1 := ⟨n - 1, by omega⟩
    have fin := hS A Q rfl sn c d f sd sf wu_Fr_refl hA hQ
    refine wu_ble κ (r : Int) (fun _ => wu_ble κ 0 (fun h => ?_) (fun h => ?_) hx6 wu_z0 (by omega) (by omega)) (fun h => absurd h (by omega)) hx6 (wu_zn r).symm (by omega) (by omega)
    · have e : k = 0 := by omega
      rw [e] at fin
      exact fin
    · have e : x6 = nI k := by rw [hx6, ← wu_zn]; exact congrArg wu_z (by omega)
      rw [e]
      exact fin
  | succ l ih =>
    intro r n A Q sn c d f sd sf hr hn hA cA hB hI hQ cQ hN hS
    obtain ⟨n, rfl⟩ : ∃ k, n = k + 1 := ⟨n - 1, by omega⟩
    have bA := wu_dg_b v A
    have step : ∀ c1 d1 f1 : Nat → Int32, wu_Fr (fun s => s = 31) c d f c1 d1 f1 → wu_Ho c1 d1 f1 31 (wu_ld v m A) → wX_divide_80 post (wX_divide_35 post (nI a) (nI b) (nI v) x4 (nI m) x6 n) (nI a) (nI b) (nI v) x4 (nI m) x6 (nI r) sn (nI p) V st c1 d1 f1 mm sd sf := by
      intro c1 d1 f1 F0 H31
      have F0' : wu_Fr (wu_Qb a q w) c d f c1 d1 f1 := wu_Fr_mono F0 (fun s z => Or.inr (Or.inl z))
      have hB1 := wu_Ho_fr F0 (show ¬ b = 31 by omega) cB.2.1 hB
      have hI1 := wu_Ho_fr F0 (show ¬ 30 = 31 by omega) cI.2.1 hI
      refine wu_X_d80 hp ha hb hv (wu_Ho_fr F0 (by omega) cA.2.1 hA) cA hB1 cB hI1 cI H31 (fun hw => ?_) cQ hx4 (fun e sn' c' d' f' sd' sf' F => ?_) (fun A' Q' e sn' c' d' f' sd' sf' F HA HQ y ey => ?_)
      · have := hq hw
        exact ⟨this.1, this.2.1, wu_Ho_fr F0 (by omega) cQ.2.1 (hQ hw)⟩
      · exact hN (wu_rds_n e) _ _ _ _ _ _ (wu_Fr_trans F0' (wu_Fr_mono F wu_Qa_b))
      · subst ey
        rw [nI_1]
        have cc := wu_rd_Cp hp.1 hv cI cB cA cQ e
        have nb : ¬ wu_Qa a q w b := by
          rintro (z | ⟨z1, z2⟩)
          · exact hab z.symm
          · exact (hq z1).2.2 z2.symm
        have n30 : ¬ wu_Qa a q w 30 := by
          rintro (z | ⟨z1, z2⟩)
          · omega
          · have := (hq z1).1; omega
        have FF := wu_Fr_trans F0' (wu_Fr_mono F wu_Qa_b)
        refine ih (r + 1) n A' Q' sn' c' d' f' sd' sf' (by omega) (by omega) HA cc.1 (wu_Ho_fr F nb cB.2.1 hB1) (wu_Ho_fr F n30 cI.2.1 hI1) HQ cc.2 (fun e2 sn2 c2 d2 f2 sd2 sf2 F2 => ?_) (fun A2 Q2 e2 sn2 c2 d2 f2 sd2 sf2 F2 HA2 HQ2 => ?_)
        · exact hN (by rw [wu_rds_s e]; exact e2) _ _ _ _ _ _ (wu_Fr_trans FF F2)
        · exact hS A2 Q2 (by rw [wu_rds_s e]; exact e2) _ _ _ _ _ _ (wu_Fr_trans FF F2) HA2 HQ2
    refine wu_ble κ (r : Int) (fun h => absurd h (by omega)) (fun _ => ?_) hx6 (wu_zn r).symm (by omega) (by omega)
    refine wu_X_deg (s := a) (by omega) hv hA cA.2 ?_
    intro c1 ec
    subst ec
    refine wu_blt (wu_dg v A) (m : Int) (fun hlt => ?_) (fun hge => ?_) rfl (wu_zn m).symm (by omega) (by omega)
    · refine step _ _ _ wu_Fr_cnt ?_
      unfold wu_ld
      rw [if_pos hlt]
      exact wu_Ho_0
    · obtain ⟨e, he⟩ : ∃ e : Nat, wu_dg v A = (e : Int) := ⟨(wu_dg v A).toNat, by omega⟩
      rw [he, wu_zn, pk_sub (by omega)]
      have F0 : wu_Fr (fun s => s = 31) c d f (upd c 31 0) d f := wu_Fr_cnt
      refine wu_X_coef (b := 31) (e' := e - m) (by omega) (by omega) (by omega) hv (by omega) (by omega) (wu_Ho_fr F0 (by omega) cA.2.1 hA) cA.2 (fun c2 d2 f2 F2 H31 => ?_)
      refine step _ _ _ (wu_Fr_trans F0 F2) ?_
      unfold wu_ld
      rw [if_neg (by omega), he]
      rw [show e - (e - m) = m by omega] at H31
      exact H31
theorem wu_X_div {post : Int32 → St2 → Prop} {p a b v q : Nat} {w : Bool} {sn V st x4 : Int32} {c d f mm sd sf : Nat → Int32} {A B Q : wu_P}
    (hp : 2 ≤ p ∧ p ≤ 32749) (ha : a < 30) (hb : b < 30) (hab : a ≠ b) (hv : v < 6) (hA : wu_Ho c d f a A) (cA : wu_Cp p A) (hB : wu_Ho c d f b B) (cB : wu_Cp p B) (hBn : B ≠ []) (hq : w = true → q < 30 ∧ q ≠ a ∧ q ≠ b) (hQ : w = true → wu_Ho c d f q Q) (cQ : wu_Cp p Q) (hx4 : (w = false ∧ x4 = -1) ∨ (w = true ∧ x4 = nI q))
    (hN : wu_dv p v B w A Q = none → ∀ sn' c' d' f' sd' sf', wu_Fr (wu_Qd a q w) c d f c' d' f' → post (-1) (sn', nI p, V, st, c', d', f', mm, sd', sf'))
    (hS : ∀ A' Q', wu_dv p v B w A Q = some (A', Q') → ∀ sn' c' d' f' sd' sf', wu_Fr (wu_Qd a q w) c d f c' d' f' → wu_Ho c' d' f' a A' → (w = true → wu_Ho c' d' f' q Q') → post (nI (wu_kk v A B)) (sn', nI p, V, st, c', d', f', mm, sd', sf')) :
    wpX_divide post (sn, nI p, V, st, c, d, f, mm, sd, sf) (nI a) (nI b) (nI v) x4 := by
  obtain ⟨m, hm, hm15⟩ := wu_dg_nat hv cB.2 hBn
  have bA := wu_dg_b v A
  unfold wpX_divide
  try dsimp only
  refine wu_X_deg (s := b) (by omega) hv hB cB.2 ?_
  refine wu_X_deg (s := a) (by omega) hv hA cA.2 ?_
  intro x6 e6
  rw [hm, show (1 : Int32) = wu_z 1 from by decide, wu_zsub, wu_zadd] at e6
  rw [hm, wu_zn]
  refine wu_X_coef (b := 30) (e' := 0) (by omega) (by omega) (by omega) hv (by omega) (by omega) hB cB.2 (fun c1 d1 f1 F1 H30 => ?_)
  have hi : wu_in v B = wu_pt v m ((m - 0) * 32 ^ v) B := by unfold wu_in; rw [hm]; rfl
  rw [← hi] at H30
  have F1' : wu_Fr (wu_Qd a q w) c d f c1 d1 f1 := wu_Fr_mono F1 (fun s z => Or.inr (Or.inl z))
  have ek : wu_kk v A B = (wu_dg v A - (m : Int) + 1).toNat := by unfold wu_kk; rw [hm]
  have ed : wu_dv p v B w A Q = wu_rds p v m (wu_in v B) B w (wu_kk v A B) A Q := by unfold wu_dv; rw [hm]; rfl
  refine ⟨wu_kk v A B + 1, wu_X_d35 hp ha hb hab hv hm15 cB (wu_in_Cp hv cB) hq hx4 (κ := wu_dg v A - (m : Int) + 1) (by omega) e6 ek (wu_kk v A B) 0 _ A Q sn c1 d1 f1 sd sf (by omega) (by omega) (wu_Ho_fr F1 (by omega) cA.2.1 hA) cA (wu_Ho_fr F1 (by omega) cB.2.1 hB) H30 (fun hw => wu_Ho_fr F1 (by have := (hq hw).1; omega) cQ.2.1 (hQ hw)) cQ (fun e sn' c' d' f' sd' sf' F => ?_) (fun A' Q' e sn' c' d' f' sd' sf' F HA HQ => ?_)⟩
  · exact hN (by rw [ed]; exact e) _ _ _ _ _ _ (wu_Fr_trans F1' (wu_Fr_mono F wu_Qb_d))
  · exact hS A' Q' (by rw [ed]; exact e) _ _ _ _ _ _ (wu_Fr_trans F1' (wu_Fr_mono F wu_Qb_d)) HA HQ
