/-! the reference reduces -/
theorem wu_YP_init {post : SY → Prop} {p : Nat} {bn P V st : Int32} {c d f m sd sf : Nat → Int32} {a v : Nat} {L : wu_P} (ha : a < 30) (hv : v < 6) (hL : wu_Hp c d f a L) (cL : wu_Cp p L) (hne : L ≠ [])
    (H : ∀ c' d' f', wu_Fr (fun q => q = 30) c d f c' d' f' → wu_Hp c' d' f' 30 (wu_in v L) → post (P, V, st, bn, c', d', f', m, sd, sf)) : wpY_initialOf post (P, V, st, bn, c, d, f, m, sd, sf) (nI a) (nI v) := by
  obtain ⟨L', hp, hL'⟩ := hL
  obtain ⟨e, he, he15⟩ := wu_dg_nat hv cL.2 hne
  refine wu_Y_init ha hv hL' (wu_Ok_perm cL.2 hp.symm) (by rw [wu_dg_perm hp]; exact he) (fun c' d' f' F h => H c' d' f' F ⟨_, ?_, h⟩)
  have : wu_in v L = wu_pt v e (e * 32 ^ v) L := by unfold wu_in; rw [he]; rfl
  rw [this]
  exact wu_pt_perm hp
/-- one product; the store: lists up to order -/
theorem wu_YP_prod {post : SY → Prop} {p a s : Nat} {V st bn : Int32} {c d f mm bc bf : Nat → Int32} {A E I L : wu_P} (hp : 2 ≤ p ∧ p ≤ 32749) (ha : a < 35) (hs : s < 35) (hI : wu_Hp c d f a I) (cI : wu_Cp p I) (hL : wu_Hp c d f s L) (cL : wu_Cp p L) (hA : A.length ≤ 256) (eA : wu_Eq p A E) (hY : wu_YB p A bn bc bf)
    (H : ∀ D bn' bc' bf', wu_YB p D bn' bc' bf' → D.length ≤ A.length + 256 → wu_Eq p D (E ++ wu_mul p 1 I L) → post (nI p, V, st, bn', c, d, f, mm, bc', bf')) :
    wpY_addProd post (nI p, V, st, bn, c, d, f, mm, bc, bf) (nI a) (nI s) 0 0 := by
  obtain ⟨I', pI, hI'⟩ := hI
  obtain ⟨L1, pL, hL'⟩ := hL
  have oI := wu_Ok_perm cI.2 pI.symm
  have oL := wu_Ok_perm cL.2 pL.symm
  refine wu_Y_prod (a := a) (b := s) (sh := 0) (ng := 0) (sc := 1) hp ha hs (Or.inl ⟨rfl, rfl⟩) hI' oI.1 (wu_Ok_0 oI) hL' oL hA hY (fun bn2 bc2 bf2 Y2 => ?_)
  rw [wu_sh0] at Y2
  have l2 := wu_mul_256 (sc := 1) oI oL
  exact H _ _ _ _ Y2 (by rw [List.length_append]; omega) (wu_Eq_app eA (wu_Eq_perm (wu_mul_perm pI pL)))
theorem wu_YP_store {post : Int32 → SY → Prop} {p s : Nat} {P V st bn : Int32} {c d f mm bc bf : Nat → Int32} {D E : wu_P} (hs : s < 35) (hY : wu_YB p D bn bc bf) (hD : D.length ≤ 512) (eD : wu_Eq p D E)
    (h0 : wu_st p E = none → post 0 (P, V, st, bn, c, d, f, mm, bc, bf))
    (h1 : ∀ L', wu_st p E = some L' → ∀ c' d' f', wu_Fr (fun q => q = s) c d f c' d' f' → wu_Hp c' d' f' s L' → post 1 (P, V, st, bn, c', d', f', mm, bc, bf)) :
    wpY_store post (P, V, st, bn, c, d, f, mm, bc, bf) (nI s) := by
  refine wu_Y_store (s := s) hs hY hD (fun e0 => ?_) (fun L' e1 LY c' d' f' pLY F HL => ?_)
  · rw [wu_st_congr eD] at e0
    exact h0 e0
  · rw [wu_st_congr eD] at e1
    exact h1 L' e1 _ _ _ F ⟨LY, pLY, HL⟩
theorem wu_Y_sc_12 {post : Int32 → SY → Prop} {p u k : Nat} {V st : Int32} {mm : Nat → Int32} {I : wu_P} (hp : 2 ≤ p ∧ p ≤ 32749) (hu : u < 6) (cI : wu_Cp p I) (hk : k ≤ 16) :
    ∀ (l t n : Nat) (L : wu_P) (bn : Int32) (c d f bc bf : Nat → Int32), t + l = k → l < n → wu_Hp c d f 30 I → wu_Hp c d f (15 + u) L → wu_Cp p L →
    (wu_mi p I l L = none → ∀ bn' c' d' f' bc' bf', wu_Fr (fun q => q = 15 + u) c d f c' d' f' → post 0 (nI p, V, st, bn', c', d', f', mm, bc', bf')) →
    (∀ L', wu_mi p I l L = some L' → ∀ bn' c' d' f' bc' bf', wu_Fr (fun q => q = 15 + u) c d f c' d' f' → wu_Hp c' d' f' (15 + u) L' → post 1 (nI p, V, st, bn', c', d', f', mm, bc', bf')) →
    wY_scaleQ_12 post (nI u) (nI k) n (nI t) (nI p) V st bn c d f mm bc bf := by
  intro l
  induction l with
  | zero =>
    intro t n L bn c d f bc bf ht hn hI hL cL H1 H0
    obtain ⟨n, rfl⟩ : ∃ k, n = k + 1 := ⟨n - 1, by omega⟩
    exact pk_le k t (fun _ => H0 L rfl _ _ _ _ _ _ wu_Fr_refl hL) (fun h => absurd h (by omega)) rfl rfl (by omega) (by omega)
  | succ l ih =>
    intro t n L bn c d f bc bf ht hn hI hL cL H1 H0
    obtain ⟨n, rfl⟩ : ∃ k, n = k + 1 := ⟨n - 1, by omega⟩
    refine pk_le k t (fun h => absurd h (by omega)) (fun _ => pk_le 16 t (fun h => absurd h (by omega)) (fun _ => ?_) rfl rfl (by omega) (by omega)) rfl rfl (by omega) (by omega)
    rw [show (15 : Int32) + nI u = nI (15 + u) from nI_add 15 u]
    refine wu_YP_prod (a := 30) (s := 15 + u) (A := []) (E := []) hp (by omega) (by omega) hI cI hL cL (Nat.zero_le _) (fun _ => rfl) wu_YB_nil (fun D bn' bc' bf' YD lD eD => ?_)
    rw [List.nil_append] at eD
    rw [List.length_nil] at lD
    refine wu_YP_store (s := 15 + u) (by omega) YD (by omega) eD (fun e0 => ?_) (fun L' e1 c' d' f' F HL => ?_)
    · exact br_t rfl (H1 (wu_mi_n e0) _ _ _ _ _ _ wu_Fr_refl)
    · refine br_f (by decide) (fun y ey => ?_)
      subst ey
      rw [nI_1]
      have cL' := (wu_st_sp (wu_mul_Ad (by omega) cI.2 cL.2) e1).1
      refine ih (t + 1) n L' bn' c' d' f' bc' bf' (by omega) (by omega) (wu_Hp_fr F (by omega) cI hI) HL cL' (fun e bn2 c2 d2 f2 bc2 bf2 F2 => ?_) (fun L2 e bn2 c2 d2 f2 bc2 bf2 F2 HL2 => ?_)
      · exact H1 (by rw [wu_mi_s e1]; exact e) _ _ _ _ _ _ (wu_Fr_trans F F2)
      · exact H0 L2 (by rw [wu_mi_s e1]; exact e) _ _ _ _ _ _ (wu_Fr_trans F F2) HL2
theorem wu_Y_sc {post : Int32 → SY → Prop} {p u v k : Nat} {V st bn : Int32} {c d f mm bc bf : Nat → Int32} {B L : wu_P} (hp : 2 ≤ p ∧ p ≤ 32749) (hu : u < 6) (hv : v < 6) (hk : k ≤ 16) (hB : wu_Hp c d f (9 + v) B) (cB : wu_Cp p B) (hne : B ≠ []) (hL : wu_Hp c d f (15 + u) L) (cL : wu_Cp p L)
    (H1 : wu_mi p (wu_in v B) k L = none → ∀ bn' c' d' f' bc' bf', wu_Fr (fun q => q = 15 + u ∨ q = 30) c d f c' d' f' → post 0 (nI p, V, st, bn', c', d', f', mm, bc', bf'))
    (H0 : ∀ L', wu_mi p (wu_in v B) k L = some L' → ∀ bn' c' d' f' bc' bf', wu_Fr (fun q => q = 15 + u ∨ q = 30) c d f c' d' f' → wu_Hp c' d' f' (15 + u) L' → post 1 (nI p, V, st, bn', c', d', f', mm, bc', bf')) :
    wpY_scaleQ post (nI p, V, st, bn, c, d, f, mm, bc, bf) (nI u) (nI v) (nI k) := by
  unfold wpY_scaleQ
  try dsimp only
  rw [show (9 : Int32) + nI v = nI (9 + v) from nI_add 9 v]
  refine wu_YP_init (a := 9 + v) (by omega) hv hB cB hne (fun c1 d1 f1 F1 HI => ?_)
  have F1' : wu_Fr (fun q => q = 15 + u ∨ q = 30) c d f c1 d1 f1 := wu_Fr_mono F1 (fun s z => Or.inr z)
  refine ⟨k + 1, wu_Y_sc_12 hp hu (wu_in_Cp hv cB) hk k 0 (k + 1) L bn c1 d1 f1 bc bf (by omega) (by omega) HI (wu_Hp_fr F1 (by omega) cL hL) cL (fun e bn' c' d' f' bc' bf' F => ?_) (fun L' e bn' c' d' f' bc' bf' F HL => ?_)⟩
  · exact H1 e _ _ _ _ _ _ (wu_Fr_trans F1' (wu_Fr_mono F (fun s z => Or.inl z)))
  · exact H0 L' e _ _ _ _ _ _ (wu_Fr_trans F1' (wu_Fr_mono F (fun s z => Or.inl z))) HL
theorem wu_Y_161 {post : Int32 → SY → Prop} {J : Int32 → Int32 → Int32 → Int32 → Int32 → (Nat → Int32) → (Nat → Int32) → (Nat → Int32) → (Nat → Int32) → (Nat → Int32) → (Nat → Int32) → Prop} {p nv v k : Nat} {st : Int32} {mm : Nat → Int32} {C : Nat → wu_P} (hp : 2 ≤ p ∧ p ≤ 32749) (hnv : nv ≤ 6) (hk : k ≤ 16) (cC : ∀ u, u < 6 → wu_Cp p (C u)) (hne : C v ≠ []) :
    ∀ (l n : Nat) (Q : Nat → wu_P) (bn : Int32) (c d f bc bf : Nat → Int32), v + l < nv → l < n → (∀ u, u < 6 → wu_Hp c d f (9 + u) (C u)) → wu_Hp c d f 32 (Q v) → (∀ u, u < 6 → u ≠ v → wu_Hp c d f (15 + u) (Q u)) → (∀ u, u < 6 → wu_Cp p (Q u)) → (∀ u, u < 6 → u ≠ v → C u = [] → Q u = []) →
    (wu_ra p (wu_in v (C v)) k v l Q = none → ∀ bn' c' d' f' m' bc' bf', wu_Fr (fun s => 9 ≤ s) c d f c' d' f' → (∀ s, 9 ≤ s → s ≤ 21 → c' s = 0) → wu_Mz m' → post 4 (nI p, nI nv, 4, bn', c', d', f', m', bc', bf')) →
    (∀ Q', wu_ra p (wu_in v (C v)) k v l Q = some Q' → ∀ bn' c' d' f' bc' bf', wu_Fr wu_Qr c d f c' d' f' → (∀ u, u < 6 → wu_Hp c' d' f' (15 + u) (Q' u) ∧ wu_Cp p (Q' u)) → (∀ u, u < 6 → u ≠ v → C u = [] → Q' u = []) → wu_Fr (fun s => (15 ≤ s ∧ s < 21) ∨ s = 30) c d f c' d' f' → ∀ y, y = nI v + (-1) → J y (nI p) (nI nv) st bn' c' d' f' mm bc' bf') →
    wY_prove_161 post J (nI v) (nI k) n (nI (v + l)) (nI p) (nI nv) st bn c d f mm bc bf := by
  intro l
  induction l with
  | zero =>
    intro n Q bn c d f bc bf hl hn hC h32 hQ cQ hz H1 H0
    obtain ⟨n, rfl⟩ : ∃ k, n = k + 1 := ⟨n - 1, by omega⟩
    refine pk_le (v + 0) v (fun _ => ?_) (fun h => absurd h (by omega)) rfl rfl (by omega) (by omega)
    rw [show (15 : Int32) + nI v = nI (15 + v) from nI_add 15 v]
    refine wu_YP_copy (a := 32) (b := 15 + v) (by omega) (by omega) (by omega) h32 (cQ v (by omega)) (fun c' d' f' F HQ => ?_)
    refine H0 Q rfl _ _ _ _ _ _ (wu_Fr_mono F (fun s z => Or.inl ⟨by omega, by omega⟩)) (fun u hu => ?_) hz (wu_Fr_mono F (fun s z => Or.inl ⟨by omega, by omega⟩))
    by_cases q : u = v
    · rw [q]; exact ⟨HQ, cQ v (by omega)⟩
    · exact ⟨wu_Hp_fr F (by omega) (cQ u hu) (hQ u hu q), cQ u hu⟩
  | succ l ih =>
    intro n Q bn c d f bc bf hl hn hC h32 hQ cQ hz H1 H0
    obtain ⟨n, rfl⟩ : ∃ k, n = k + 1 := ⟨n - 1, by omega⟩
    have hu6 : v + (l + 1) < 6 := by omega
    have c16 := (cC _ hu6).2.1
    refine pk_le (v + (l + 1)) v (fun h => absurd h (by omega)) (fun _ => ?_) rfl rfl (by omega) (by omega)
    rw [show (9 : Int32) + nI (v + (l + 1)) = nI (9 + (v + (l + 1))) from nI_add 9 _]
    refine ⟨vp_in_nI (by omega) (by decide), ?_⟩
    refine pk_le (C (v + (l + 1))).length 0 (fun h => ?_) (fun h => ?_) (by rw [nI_clamp (by omega)]; exact wu_Hp_cnt (hC _ hu6)) rfl (by omega) (by omega)
    · intro y ey
      subst ey
      rw [show nI (v + (l + 1)) + (-1) = nI (v + l) from pk_m1 _]
      have e0 : C (v + (l + 1)) = [] := List.length_eq_zero_iff.mp (by omega)
      have eq0 := hz _ hu6 (by omega) e0
      rw [wu_ra_z eq0] at H0 H1
      exact ih n Q bn c d f bc bf (by omega) (by omega) hC h32 hQ cQ hz H1 H0
    · refine wu_Y_sc hp hu6 (by omega) hk (hC v (by omega)) (cC v (by omega)) hne (hQ _ hu6 (by omega)) (cQ _ hu6) (fun e bn' c' d' f' bc' bf' F => ?_) (fun L' e bn' c' d' f' bc' bf' F HL => ?_)
      · refine br_t rfl ?_
        refine wu_Y_fail (fun c2 m2 hc hm => ?_)
        exact H1 (wu_ra_n e) _ _ _ _ _ _ _ (wu_Fr_trans (wu_Fr_mono F (fun s z => by omega)) (wu_Fr_mono (wu_Cz_fr hc) (fun s z => z.1))) hc.1 hm
      · refine br_f (by decide) (fun y ey => ?_)
        subst ey
        rw [show nI (v + (l + 1)) + (-1) = nI (v + l) from pk_m1 _]
        have cL' := wu_mi_Cp hp.1 (wu_in_Cp (by omega) (cC v (by omega))) _ _ _ (cQ _ hu6) e
        have F' : wu_Fr wu_Qr c d f c' d' f' := wu_Fr_mono F (fun s z => z.elim (fun z => Or.inl ⟨by omega, by omega⟩) (fun z => Or.inr ⟨by omega, by omega⟩))
        have F'' : wu_Fr (fun s => (15 ≤ s ∧ s < 21) ∨ s = 30) c d f c' d' f' := wu_Fr_mono F (fun s z => z.elim (fun z => Or.inl ⟨by omega, by omega⟩) (fun z => Or.inr z))
        refine ih n (wu_up Q (v + (l + 1)) L') bn' c' d' f' bc' bf' (by omega) (by omega) (fun u hu => wu_Hp_fr F (by omega) (cC u hu) (hC u hu)) ?_ (fun u hu huv => ?_) (fun u hu => ?_) (fun u hu huv hcu => ?_) (fun e2 bn2 c2 d2 f2 m2 bc2 bf2 F2 hc hm => ?_) (fun Q2 e2 bn2 c2 d2 f2 bc2 bf2 F2 HQ2 hz2 F3 => ?_)
        · rw [wu_up_n (by omega)]; exact wu_Hp_fr F (by omega) (cQ v (by omega)) h32
        · by_cases q : u = v + (l + 1)
          · rw [q, wu_up_s]; exact HL
          · rw [wu_up_n q]; exact wu_Hp_fr F (by omega) (cQ u hu) (hQ u hu huv)
        · by_cases q : u = v + (l + 1)
          · rw [q, wu_up_s]; exact cL'
          · rw [wu_up_n q]; exact cQ u hu
        · have q : u ≠ v + (l + 1) := fun z => by rw [z] at hcu; rw [hcu] at h; exact absurd h (by decide)
          rw [wu_up_n q]; exact hz u hu huv hcu
        · exact H1 (by rw [wu_ra_s e]; exact e2) _ _ _ _ _ _ _ (wu_Fr_trans (wu_Fr_mono F (fun s z => by omega)) F2) hc hm
        · exact H0 Q2 (by rw [wu_ra_s e]; exact e2) _ _ _ _ _ _ (wu_Fr_trans F' F2) HQ2 hz2 (wu_Fr_trans F'' F3)
