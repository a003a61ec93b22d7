/-! prove() on both sides -/
def wu_Z (r : Nat) : Int32 := if r = 0 then 1 else 2
theorem wu_Y_107 {post : Int32 → SY → Prop} {p nv : Nat} {st : Int32} {C : Nat → wu_P} (hp : 2 ≤ p ∧ p ≤ 32749) (hnv : nv ≤ 6) (cC : ∀ u, u < 6 → wu_Cp p (C u)) :
    ∀ (v n : Nat) (R : wu_P) (Q : Nat → wu_P) (K : Nat → Int) (bn : Int32) (c d f mm bc bf : Nat → Int32), v ≤ nv → v < n → wu_Hp c d f 21 R → wu_Cp p R → (∀ u, u < 6 → wu_Hp c d f (9 + u) (C u)) → (∀ u, u < 6 → wu_Hp c d f (15 + u) (Q u) ∧ wu_Cp p (Q u)) → (∀ u, u < v → Q u = []) → (∀ u, u < 6 → C u = [] → Q u = []) → wu_KO mm K →
    (∀ R' Q' K', wu_re p nv C v R Q K = some (R', Q', K') → ∀ bn' c' d' f' m' bc' bf', wu_Fr wu_Qr c d f c' d' f' → wu_Hp c' d' f' 21 R' → wu_Cp p R' → (∀ u, u < 6 → wu_Hp c' d' f' (15 + u) (Q' u) ∧ wu_Cp p (Q' u)) → wu_KO m' K' → post (if R'.length = 0 then 1 else 2) (nI p, nI nv, (if R'.length = 0 then 1 else 2), bn', c', d', f', m', bc', bf')) →
    (wu_re p nv C v R Q K = none → ∀ bn' c' d' f' m' bc' bf', wu_Fr (fun s => 9 ≤ s) c d f c' d' f' → (∀ s, 9 ≤ s → s ≤ 21 → c' s = 0) → wu_Mz m' → post 4 (nI p, nI nv, 4, bn', c', d', f', m', bc', bf')) →
    wY_prove_107 post n (wu_z ((v : Int) - 1)) (nI p) (nI nv) st bn c d f mm bc bf := by
  intro v
  induction v with
  | zero =>
    intro n R Q K bn c d f mm bc bf h1 h2 hR cR hC hQ hz hzz hK H0 H1
    obtain ⟨n, rfl⟩ : ∃ k, n = k + 1 := ⟨n - 1, by omega⟩
    have fin := H0 R Q K rfl bn c d f mm bc bf wu_Fr_refl hR cR hQ hK
    have hR16 := cR.2.1
    refine wu_blt (-1) 0 (fun _ => ?_) (fun h => absurd h (by decide)) rfl wu_z0 (by omega) (by omega)
    refine pk_eq R.length 0 (fun h => ?_) (fun h => ?_) (wu_Hp_cnt hR) rfl (by omega) (by omega)
    · rw [if_pos h] at fin; exact fin
    · rw [if_neg h] at fin; exact fin
  | succ v ih =>
    intro n R Q K bn c d f mm bc bf h1 h2 hR cR hC hQ hz hzz hK H0 H1
    obtain ⟨n, rfl⟩ : ∃ k, n = k + 1 := ⟨n - 1, by omega⟩
    have hv : v < 6 := by omega
    have e : ((v + 1 : Nat) : Int) - 1 = (v : Int) := by omega
    rw [e]
    have c16 := (cC v hv).2.1
    refine wu_blt (v : Int) 0 (fun h => absurd h (by omega)) (fun _ => ?_) rfl wu_z0 (by omega) (by omega)
    rw [wu_zn, show (9 : Int32) + nI v = nI (9 + v) from nI_add 9 v]
    refine ⟨vp_in_nI (by omega) (by decide), ?_⟩
    refine pk_le (C v).length 0 (fun h => ?_) (fun h => ?_) (by rw [nI_clamp (by omega)]; exact wu_Hp_cnt (hC v hv)) rfl (by omega) (by omega)
    · intro y ey
      subst ey
      rw [wu_zn1]
      rw [wu_re_z (by omega)] at H0 H1
      exact ih n R Q K bn c d f mm bc bf (by omega) (by omega) hR cR hC hQ (fun u hu => hz u (by omega)) hzz hK H0 H1
    · have h0 : (C v).length ≠ 0 := by omega
      have hne : C v ≠ [] := fun z => h0 (by rw [z]; rfl)
      have hk := wu_kk_le hv cR.2 hne
      have q1 : ∀ s, wu_Qd 21 32 true s → wu_Qr s := by
        intro s z
        rcases z with z | z | z | ⟨_, z⟩
        · exact Or.inl ⟨by omega, by omega⟩
        · exact Or.inr ⟨by omega, by omega⟩
        · exact Or.inr ⟨by omega, by omega⟩
        · exact Or.inr ⟨by omega, by omega⟩
      have q9 : ∀ s, wu_Qr s → 9 ≤ s := by
        intro s z
        rcases z with z | z <;> omega
      refine wu_YP_div (a := 21) (b := 9 + v) (w := true) hp (by omega) (by omega) (by omega) hv hR cR (hC v hv) (cC v hv) hne (Or.inr ⟨rfl, rfl⟩) (fun ed bn' c' d' f' bc' bf' F => ?_) (fun R' q ed bn' c' d' f' bc' bf' F HR Hq => ?_)
      · refine br_f (by decide) ?_
        refine wu_Y_fail (fun c2 m2 hc hm => ?_)
        exact H1 (wu_re_n1 h0 ed) _ _ _ _ _ _ _ (wu_Fr_trans (wu_Fr_mono F (fun s z => q9 s (q1 s z))) (wu_Fr_mono (wu_Cz_fr hc) (fun s z => z.1))) hc.1 hm
      · have cc := wu_dv_Cp hp.1 hv (cC v hv) cR wu_Cp_nil ed
        have F' : wu_Fr wu_Qr c d f c' d' f' := wu_Fr_mono F q1
        have hC' : ∀ u, u < 6 → wu_Hp c' d' f' (9 + u) (C u) := fun u hu => wu_Hp_fr F' (by rintro (z | z) <;> omega) (cC u hu) (hC u hu)
        refine br_t (nI_pos' (by omega)) ⟨vp_in_nI hv (by decide), fun m' em x3 e3 => ?_⟩
        rw [nI_clamp (by omega)] at em
        rw [show nI nv - 1 = nI (v + (nv - 1 - v)) from (pk_sub (a := nv) (b := 1) (by omega)).trans (congrArg nI (by omega))] at e3
        subst em e3
        refine ⟨nv - 1 - v + 1, wu_Y_161 hp hnv hk cC hne (nv - 1 - v) _ (wu_up Q v q) bn' c' d' f' bc' bf' (by omega) (by omega) hC' (by rw [wu_up_s]; exact Hq rfl) (fun u hu huv => ?_) (fun u hu => ?_) (fun u hu huv hcu => by rw [wu_up_n huv]; exact hzz u hu hcu) (fun er bn3 c3 d3 f3 m3 bc3 bf3 F3 hc hm => ?_) (fun Q3 er bn3 c3 d3 f3 bc3 bf3 F3 HQ3 hz3 F3' y ey => ?_)⟩
        · rw [wu_up_n huv]
          refine wu_Hp_fr F ?_ (hQ u hu).2 (hQ u hu).1
          rintro (z | z | z | ⟨_, z⟩) <;> omega
        · by_cases z : u = v
          · rw [z, wu_up_s]; exact cc.2
          · rw [wu_up_n z]; exact (hQ u hu).2
        · exact H1 (wu_re_n2 h0 ed er) _ _ _ _ _ _ _ (wu_Fr_trans (wu_Fr_mono F' q9) F3) hc hm
        · subst ey
          rw [wu_zn1]
          have FF : wu_Fr wu_Qr c d f c3 d3 f3 := wu_Fr_trans F' F3
          have hQz : ∀ u, u < v → Q3 u = [] := by
            intro u hu
            have := wu_ra_lo (nv - 1 - v) (wu_up Q v q) Q3 er u (by omega)
            rw [this, wu_up_n (by omega)]; exact hz u (by omega)
          have hzz3 : ∀ u, u < 6 → C u = [] → Q3 u = [] := by
            intro u hu hcu
            by_cases z : u = v
            · rw [z] at hcu; exact absurd hcu hne
            · exact hz3 u hu z hcu
          rw [wu_re_s h0 ed er] at H0 H1
          exact ih n R' Q3 _ bn3 c3 d3 f3 _ bc3 bf3 (by omega) (by omega) (wu_Hp_fr F3' (by rintro (z | z) <;> omega) cc.1 HR) cc.1 (fun u hu => wu_Hp_fr F3' (by rintro (z | z) <;> omega) (cC u hu) (hC' u hu)) HQ3 hQz hzz3 (wu_KO_up hK hk) (fun R4 Q4 K4 e4 bn4 c4 d4 f4 m4 bc4 bf4 F4 => H0 R4 Q4 K4 e4 _ _ _ _ _ _ _ (wu_Fr_trans FF F4)) (fun e4 bn4 c4 d4 f4 m4 bc4 bf4 F4 => H1 e4 _ _ _ _ _ _ _ (wu_Fr_trans (wu_Fr_mono FF q9) F4))
/-- what prove ends with, if not with results: its status; else 0 -/
noncomputable def wu_pe (p nv : Nat) (σ : Nat → wu_P) : Int := if (wu_tt p nv σ).1 = 0 then (if wu_re p nv (wu_tt p nv σ).2 nv (σ 8) (fun _ => []) (fun _ => -1) = none then 4 else 0) else (wu_tt p nv σ).1
theorem wu_pe_t {p nv : Nat} {σ C : Nat → wu_P} {e : Int} (h : wu_tt p nv σ = (e, C)) (he : e ≠ 0) : wu_pe p nv σ = e := by
  unfold wu_pe; rw [h]; exact if_neg he
theorem wu_pe_r {p nv : Nat} {σ C : Nat → wu_P} (h : wu_tt p nv σ = (0, C)) (h2 : wu_re p nv C nv (σ 8) (fun _ => []) (fun _ => -1) = none) : wu_pe p nv σ = 4 := by
  unfold wu_pe; rw [h]; rw [if_pos rfl]; exact if_pos h2
theorem wu_pe_0 {p nv : Nat} {σ C : Nat → wu_P} {r : wu_P × (Nat → wu_P) × (Nat → Int)} (h : wu_tt p nv σ = (0, C)) (h2 : wu_re p nv C nv (σ 8) (fun _ => []) (fun _ => -1) = some r) : wu_pe p nv σ = 0 := by
  unfold wu_pe; rw [h]; rw [if_pos rfl]; refine if_neg ?_
  show ¬ wu_re p nv C nv (σ 8) (fun _ => []) (fun _ => -1) = none
  rw [h2]; simp
theorem wu_Y_66 {post : Int32 → SY → Prop} {p nv : Nat} {st : Int32} {σ : Nat → wu_P} (hp : 2 ≤ p ∧ p ≤ 32749) (hnv : nv ≤ 6) (c8 : wu_Cp p (σ 8)) (ht0 : wu_ct nv (-1) σ 8 0 = 0)
    (H0 : ∀ C R Q K, wu_tt p nv σ = (0, C) → wu_re p nv C nv (σ 8) (fun _ => []) (fun _ => -1) = some (R, Q, K) → ∀ bn' c' d' f' m' bc' bf', (∀ u, u < 6 → wu_Hp c' d' f' (9 + u) (C u) ∧ wu_Cp p (C u)) → wu_Hp c' d' f' 21 R → wu_Cp p R → (∀ u, u < 6 → wu_Hp c' d' f' (15 + u) (Q u) ∧ wu_Cp p (Q u)) → wu_KO m' K → (∀ s, s < 9 → wu_Cp p (σ s) → wu_Hp c' d' f' s (σ s)) → post (if R.length = 0 then 1 else 2) (nI p, nI nv, (if R.length = 0 then 1 else 2), bn', c', d', f', m', bc', bf'))
    (H1 : wu_pe p nv σ ≠ 0 → ∀ bn' c' d' f' m' bc' bf', (∀ s, s < 9 → wu_Cp p (σ s) → wu_Hp c' d' f' s (σ s)) → (∀ s, 9 ≤ s → s ≤ 21 → c' s = 0) → wu_Mz m' → post (wu_z (wu_pe p nv σ)) (nI p, nI nv, wu_z (wu_pe p nv σ), bn', c', d', f', m', bc', bf')) :
    ∀ (v n : Nat) (W C : Nat → wu_P) (bn : Int32) (c d f mm bc bf : Nat → Int32), v ≤ nv → v < n → wu_HY c d f W → wu_CW p W → (∀ u, u < 6 → wu_Hp c d f (9 + u) (C u) ∧ wu_Cp p (C u)) → (∀ u, u < v → C u = []) → (∀ s, s < 9 → wu_Cp p (σ s) → wu_Hp c d f s (σ s)) → (∀ u, u < 6 → wu_Hp c d f (15 + u) []) → wu_Mz mm → wu_ta p nv v W C = wu_tt p nv σ →
    wY_prove_66 post n (wu_z ((v : Int) - 1)) (nI p) (nI nv) st bn c d f mm bc bf := by
  intro v
  induction v with
  | zero =>
    intro n W C bn c d f mm bc bf h1 h2 hW cW hC hz hin hq hm et
    obtain ⟨n, rfl⟩ : ∃ k, n = k + 1 := ⟨n - 1, by omega⟩
    have et' : wu_tt p nv σ = (0, C) := et.symm
    refine wu_blt (-1) 0 (fun _ => ?_) (fun h => absurd h (by decide)) rfl wu_z0 (by omega) (by omega)
    refine wu_YP_copy (a := 8) (b := 21) (by omega) (by omega) (by omega) (hin 8 (by omega) c8) c8 (fun c' d' f' F HR => ?_)
    intro x1 e1
    rw [wu_zs1] at e1
    subst e1
    refine ⟨nv + 1, wu_Y_107 hp hnv (fun u hu => (hC u hu).2) nv (nv + 1) (σ 8) (fun _ => []) (fun _ => -1) bn c' d' f' mm bc bf (by omega) (by omega) HR c8 (fun u hu => wu_Hp_fr F (by omega) (hC u hu).2 (hC u hu).1) (fun u hu => ⟨wu_Hp_fr F (by omega) (wu_Cp_nil (p := p)) (hq u hu), wu_Cp_nil⟩) (fun _ _ => rfl) (fun _ _ _ => rfl) (wu_Mz_KO hm) (fun R Q K e bn2 c2 d2 f2 m2 bc2 bf2 F2 hR cR hQ hK => ?_) (fun e bn2 c2 d2 f2 m2 bc2 bf2 F2 hc hm2 => ?_)⟩
    · refine H0 C R Q K et' e _ _ _ _ _ _ _ (fun u hu => ⟨wu_Hp_fr F2 (by rintro (z | z) <;> omega) (hC u hu).2 (wu_Hp_fr F (by omega) (hC u hu).2 (hC u hu).1), (hC u hu).2⟩) hR cR hQ hK (fun s hs cs => ?_)
      exact wu_Hp_fr F2 (by rintro (z | z) <;> omega) cs (wu_Hp_fr F (by omega) cs (hin s hs cs))
    · have ep := wu_pe_r et' e
      have := H1 (by rw [ep]; decide) bn2 c2 d2 f2 m2 bc2 bf2 (fun s hs cs => wu_Hp_fr F2 (by omega) cs (wu_Hp_fr F (by omega) cs (hin s hs cs))) hc hm2
      rw [ep] at this
      exact this
  | succ v ih =>
    intro n W C bn c d f mm bc bf h1 h2 hW cW hC hz hin hq hm et
    obtain ⟨n, rfl⟩ : ∃ k, n = k + 1 := ⟨n - 1, by omega⟩
    have hv : v < 6 := by omega
    have e : ((v + 1 : Nat) : Int) - 1 = (v : Int) := by omega
    rw [e]
    refine wu_blt (v : Int) 0 (fun h => absurd h (by omega)) (fun _ => ?_) rfl wu_z0 (by omega) (by omega)
    rw [wu_zn]
    have hCv := (hC v hv).1
    rw [hz v (by omega)] at hCv
    refine wu_Y_tri hp hnv hv hW cW hCv (fun W' ch ht bn' c' d' f' bc' bf' F hW' cW' hch cch => ?_) (fun e W' ch ht he bn' c' d' f' bc' bf' F => ?_)
    · refine br_t rfl (fun y ey => ?_)
      subst ey
      rw [wu_zn1]
      rw [wu_ta_s ht] at et
      refine ih n W' (wu_up C v ch) bn' c' d' f' mm bc' bf' (by omega) (by omega) hW' cW' (fun u hu => ?_) (fun u hu => by rw [wu_up_n (by omega)]; exact hz u (by omega)) (fun s hs cs => wu_Hp_fr F ?_ cs (hin s hs cs)) (fun u hu => wu_Hp_fr F ?_ (wu_Cp_nil (p := p)) (hq u hu)) hm et
      · by_cases q : u = v
        · rw [q, wu_up_s]; exact ⟨hch, cch⟩
        · rw [wu_up_n q]
          refine ⟨wu_Hp_fr F ?_ (hC u hu).2 (hC u hu).1, (hC u hu).2⟩
          rintro (z | z)
          · omega
          · have := z.1; omega
      · rintro (z | z)
        · omega
        · have := z.1; omega
      · rintro (z | z)
        · omega
        · have := z.1; omega
    · rw [wu_ta_e ht he] at et
      have be : e = 0 ∨ e = 3 ∨ e = 4 := by have := wu_tr_b (p := p) (nv := nv) (v := v) 16 W; rw [ht] at this; exact this
      refine br_f (fun z => he ?_) ?_
      · rw [wu_z0, wu_zeq (by omega) (by omega)] at z
        exact z
      refine wu_Y_fail (fun c2 m2 hc hm2 => ?_)
      have ep := wu_pe_t et.symm he
      have := H1 (by rw [ep]; exact he) bn' c2 d' f' m2 bc' bf' (fun s hs cs => ?_) hc.1 hm2
      · rw [ep] at this
        exact this
      · refine wu_Hp_fr (wu_Cz_fr hc) (by omega) cs (wu_Hp_fr F ?_ cs (hin s hs cs))
        rintro (z | z)
        · omega
        · have := z.1; omega
theorem wu_Y_29 {post : Int32 → SY → Prop} {p nv : Nat} {st bn : Int32} {c d f mm bc bf : Nat → Int32} {σ : Nat → wu_P} (hnv : nv ≤ 6) (hW : wu_HY c d f σ) (cW : wu_CW p σ)
    (H0 : wu_ct nv (-1) σ 8 0 = 0 → ∃ n66, wY_prove_66 post n66 (wu_z ((nv : Int) - 1)) (nI p) (nI nv) st bn c d f mm bc bf)
    (H1 : wu_ct nv (-1) σ 8 0 ≠ 0 → ∀ c' m', wu_Cz c c' → wu_Mz m' → post 3 (nI p, nI nv, 3, bn, c', d, f, m', bc, bf)) :
    ∀ (l i n : Nat), i + l = 8 → l < n → wu_ct nv (-1) σ 8 0 = wu_ct nv (-1) σ l i → wY_prove_29 post (nI p) (nI nv) st bn c d f mm bc bf n (nI i) := by
  intro l
  induction l with
  | zero =>
    intro i n hi hn hc
    obtain ⟨n, rfl⟩ : ∃ k, n = k + 1 := ⟨n - 1, by omega⟩
    refine pk_le 8 i (fun _ x1 e1 => ?_) (fun h => absurd h (by omega)) rfl rfl (by omega) (by omega)
    rw [wu_zs1] at e1
    subst e1
    exact H0 hc
  | succ l ih =>
    intro i n hi hn hc
    obtain ⟨n, rfl⟩ : ∃ k, n = k + 1 := ⟨n - 1, by omega⟩
    have bc' := wu_cl_b nv (σ i)
    refine pk_le 8 i (fun h => absurd h (by omega)) (fun _ => ?_) rfl rfl (by omega) (by omega)
    rw [show (22 : Int32) + nI i = nI (22 + i) from nI_add 22 i]
    refine wu_YP_cls (s := 22 + i) hnv (by omega) (hW i (by omega)) (cW i (by omega)) ?_
    refine wu_beq (wu_cl nv (σ i)) (-1) (fun h => ?_) (fun h => ?_) rfl wu_m1 (by omega) (by omega)
    · have e1 : wu_ct nv (-1) σ (l + 1) i = wu_ct nv (-1) σ l (i + 1) + 1 := by rw [wu_ct, if_pos h]
      rw [e1] at hc
      exact wu_Y_fail (fun c' m' h1 h2 => H1 (by omega) c' m' h1 h2)
    · intro y ey
      subst ey
      rw [nI_1]
      have e1 : wu_ct nv (-1) σ (l + 1) i = wu_ct nv (-1) σ l (i + 1) := by rw [wu_ct, if_neg h]
      rw [e1] at hc
      exact ih (i + 1) n (by omega) (by omega) hc
theorem wu_Y_6 {post : Int32 → SY → Prop} {p nv : Nat} {st bn : Int32} {mm bc bf : Nat → Int32} {σ : Nat → wu_P} (cW : ∀ j, j < 9 → wu_Cp p (σ j))
    (H : ∀ c' d' f', wu_HY c' d' f' σ → (∀ s, s < 9 → wu_Hp c' d' f' s (σ s)) → (∀ u, u < 6 → wu_Hp c' d' f' (9 + u) []) → (∀ u, u < 6 → wu_Hp c' d' f' (15 + u) []) → ∃ n29, wY_prove_29 post (nI p) (nI nv) st bn c' d' f' mm bc bf n29 0) :
    ∀ (l i n : Nat) (c d f : Nat → Int32), i + l = 8 → l < n → (∀ j, j < i → wu_Hp c d f (22 + j) (σ j)) → (∀ s, s < 9 → wu_Hp c d f s (σ s)) → (∀ u, u < 6 → wu_Hp c d f (9 + u) []) → (∀ u, u < 6 → wu_Hp c d f (15 + u) []) → wY_prove_6 post n (nI i) (nI p) (nI nv) st bn c d f mm bc bf := by
  intro l
  induction l with
  | zero =>
    intro i n c d f hi hn hw hin h9 h15
    obtain ⟨n, rfl⟩ : ∃ k, n = k + 1 := ⟨n - 1, by omega⟩
    exact pk_le 8 i (fun _ => H c d f (fun j hj => hw j (by omega)) hin h9 h15) (fun h => absurd h (by omega)) rfl rfl (by omega) (by omega)
  | succ l ih =>
    intro i n c d f hi hn hw hin h9 h15
    obtain ⟨n, rfl⟩ : ∃ k, n = k + 1 := ⟨n - 1, by omega⟩
    refine pk_le 8 i (fun h => absurd h (by omega)) (fun _ => ?_) rfl rfl (by omega) (by omega)
    rw [show (22 : Int32) + nI i = nI (22 + i) from nI_add 22 i]
    refine wu_YP_copy (a := i) (b := 22 + i) (by omega) (by omega) (by omega) (hin i (by omega)) (cW i (by omega)) (fun c' d' f' F HC => ?_)
    intro y ey
    subst ey
    rw [nI_1]
    refine ih (i + 1) n c' d' f' (by omega) (by omega) (fun j hj => ?_) (fun s hs => wu_Hp_fr F (by omega) (cW s hs) (hin s hs)) (fun u hu => wu_Hp_fr F (by omega) (wu_Cp_nil (p := p)) (h9 u hu)) (fun u hu => wu_Hp_fr F (by omega) (wu_Cp_nil (p := p)) (h15 u hu))
    by_cases q : j = i
    · rw [q]; exact HC
    · exact wu_Hp_fr F (by omega) (cW j (by omega)) (hw j (by omega))
theorem wu_Y_prove {post : Int32 → SY → Prop} {p nv : Nat} {st bn : Int32} {c d f mm bc bf : Nat → Int32} {σ : Nat → wu_P} (hp : 2 ≤ p ∧ p ≤ 32749) (hnv : nv ≤ 6) (cW : ∀ j, j < 9 → wu_Cp p (σ j)) (hin : ∀ s, s < 9 → wu_Hp c d f s (σ s))
    (H0 : ∀ C R Q K, wu_tt p nv σ = (0, C) → wu_re p nv C nv (σ 8) (fun _ => []) (fun _ => -1) = some (R, Q, K) → ∀ bn' c' d' f' m' bc' bf', (∀ u, u < 6 → wu_Hp c' d' f' (9 + u) (C u) ∧ wu_Cp p (C u)) → wu_Hp c' d' f' 21 R → wu_Cp p R → (∀ u, u < 6 → wu_Hp c' d' f' (15 + u) (Q u) ∧ wu_Cp p (Q u)) → wu_KO m' K → (∀ s, s < 9 → wu_Cp p (σ s) → wu_Hp c' d' f' s (σ s)) → post (if R.length = 0 then 1 else 2) (nI p, nI nv, (if R.length = 0 then 1 else 2), bn', c', d', f', m', bc', bf'))
    (H1 : wu_pe p nv σ ≠ 0 → ∀ bn' c' d' f' m' bc' bf', (∀ s, s < 9 → wu_Cp p (σ s) → wu_Hp c' d' f' s (σ s)) → (∀ s, 9 ≤ s → s ≤ 21 → c' s = 0) → wu_Mz m' → post (wu_z (wu_pe p nv σ)) (nI p, nI nv, wu_z (wu_pe p nv σ), bn', c', d', f', m', bc', bf')) :
    wpY_prove post (nI p, nI nv, st, bn, c, d, f, mm, bc, bf) := by
  unfold wpY_prove
  try dsimp only
  refine wu_Y_clear (fun c1 m1 hc hm => ?_)
  have F1 : wu_Fr (fun s => 9 ≤ s ∧ s ≤ 21) c d f c1 d f := wu_Cz_fr hc
  refine ⟨9, wu_Y_6 cW (fun c2 d2 f2 hW hin2 h9 h15 => ?_) 8 0 9 c1 d f rfl (by omega) (fun j hj => absurd hj (by omega)) (fun s hs => wu_Hp_fr F1 (by omega) (cW s hs) (hin s hs)) (fun u hu => wu_Hp_of (wu_Cz_ho hc (by omega) (by omega))) (fun u hu => wu_Hp_of (wu_Cz_ho hc (by omega) (by omega)))⟩
  have cW8 : wu_CW p σ := fun i hi => cW i (by omega)
  refine ⟨9, wu_Y_29 hnv hW cW8 (fun h0 => ?_) (fun h0 c3 m3 hc3 hm3 => ?_) 8 0 9 rfl (by omega) rfl⟩
  · refine ⟨nv + 1, wu_Y_66 hp hnv (cW 8 (by omega)) h0 H0 H1 nv (nv + 1) σ (fun _ => []) bn c2 d2 f2 m1 bc bf (by omega) (by omega) hW cW8 (fun u hu => ⟨h9 u hu, wu_Cp_nil⟩) (fun _ _ => rfl) (fun s hs _ => hin2 s hs) h15 hm ?_⟩
    unfold wu_tt
    rw [if_pos h0]
  · have et : wu_tt p nv σ = (3, fun _ => []) := by unfold wu_tt; rw [if_neg h0]
    have ep := wu_pe_t et (by decide)
    have := H1 (by rw [ep]; decide) bn c3 d2 f2 m3 bc bf (fun s hs cs => wu_Hp_fr (wu_Cz_fr hc3) (by omega) cs (hin2 s hs)) hc3.1 hm3
    rw [ep] at this
    exact this
/-! the component -/
theorem wu_X_18 {post : Int32 → SX → Prop} {sn P V st : Int32} {c d f mm sd sf : Nat → Int32} {e : Int} (he : e = 3 ∨ e = 4) (H : ∀ c' m', wu_Cz c c' → wu_Mz m' → post (wu_z e) (sn, P, V, wu_z e, c', d, f, m', sd, sf)) : wX_prove_18 post (wu_z e) sn P V st c d f mm sd sf := by
  unfold wX_prove_18
  rcases he with rfl | rfl
  · refine br_t (by decide) ?_
    unfold wX_prove_28
    exact wu_X_clear (fun c' m' h1 h2 => H c' m' h1 h2)
  · refine br_f (by decide) (br_t (by decide) ?_)
    unfold wX_prove_28
    exact wu_X_clear (fun c' m' h1 h2 => H c' m' h1 h2)
theorem wu_X_prove {post : Int32 → SX → Prop} {p nv : Nat} {sn st : Int32} {c d f mm sd sf : Nat → Int32} {σ : Nat → wu_P} (hp : 2 ≤ p ∧ p ≤ 32749) (hnv : nv ≤ 6) (cW : ∀ j, j < 9 → wu_Cp p (σ j)) (hin : ∀ s, s < 9 → wu_Ho c d f s (σ s))
    (H0 : ∀ C R Q K, wu_tt p nv σ = (0, C) → wu_re p nv C nv (σ 8) (fun _ => []) (fun _ => -1) = some (R, Q, K) → ∀ sn' c' d' f' m' sd' sf', (∀ u, u < 6 → wu_Ho c' d' f' (9 + u) (C u) ∧ wu_Cp p (C u)) → wu_Ho c' d' f' 21 R → wu_Cp p R → (∀ u, u < 6 → wu_Ho c' d' f' (15 + u) (Q u) ∧ wu_Cp p (Q u)) → wu_KO m' K → (∀ s, s < 9 → wu_Ho c' d' f' s (σ s)) → post (if R.length = 0 then 1 else 2) (sn', nI p, nI nv, (if R.length = 0 then 1 else 2), c', d', f', m', sd', sf'))
    (H1 : wu_pe p nv σ ≠ 0 → ∀ sn' c' d' f' m' sd' sf', (∀ s, s < 9 → wu_Ho c' d' f' s (σ s)) → (∀ s, 9 ≤ s → s ≤ 21 → c' s = 0) → wu_Mz m' → post (wu_z (wu_pe p nv σ)) (sn', nI p, nI nv, wu_z (wu_pe p nv σ), c', d', f', m', sd', sf')) :
    wpX_prove post (sn, nI p, nI nv, st, c, d, f, mm, sd, sf) := by
  unfold wpX_prove
  try dsimp only
  refine wu_X_clear (fun c1 m1 hc hm => ?_)
  have F1 : wu_Fr (fun s => 9 ≤ s ∧ s ≤ 21) c d f c1 d f := wu_Cz_fr hc
  have hin1 : ∀ s, s < 9 → wu_Ho c1 d f s (σ s) := fun s hs => wu_Ho_fr F1 (by omega) (cW s hs).2.1 (hin s hs)
  refine ⟨9, wu_X_t2 (W := σ) hp hnv (fun i hi => cW i (by omega)) 8 0 9 sn c1 d f sd sf rfl (by omega) (fun j hj => hin1 j (by omega)) (fun j hj => absurd hj (by omega)) (fun u hu => wu_Cz_ho hc (by omega) (by omega)) (fun C et sn2 c2 d2 f2 sd2 sf2 F2 hC => ?_) (fun e C et he sn2 c2 d2 f2 sd2 sf2 F2 => ?_)⟩
  · refine br_t rfl ?_
    unfold wpX_reduce
    try dsimp only
    have q9 : ∀ s, s < 9 → ¬ wu_Qt s := by
      intro s hs z
      rcases z with z | z
      · omega
      · have := z.1; omega
    have q15 : ∀ s, 15 ≤ s → s ≤ 21 → ¬ wu_Qt s := by
      intro s hs hs' z
      rcases z with z | z
      · omega
      · have := z.1; omega
    refine wu_X_copy (a := 8) (b := 21) (by omega) (by omega) (by omega) (wu_Ho_fr F2 (q9 8 (by omega)) (cW 8 (by omega)).2.1 (hin1 8 (by omega))) (cW 8 (by omega)).2.1 (fun c3 d3 f3 F3 HR => ?_)
    intro x1 e1
    rw [wu_zs1] at e1
    subst e1
    refine ⟨nv + 1, wu_X_re_15 hp hnv (fun u hu => (hC u hu).2) nv (nv + 1) (σ 8) (fun _ => []) (fun _ => -1) sn2 c3 d3 f3 m1 sd2 sf2 (by omega) (by omega) HR (cW 8 (by omega)) (fun u hu => wu_Ho_fr F3 (by omega) (hC u hu).2.2.1 (hC u hu).1) (fun u hu => ⟨wu_Ho_fr F3 (by omega) (by simp) (wu_Ho_fr F2 (q15 _ (by omega) (by omega)) (by simp) (wu_Cz_ho hc (by omega) (by omega))), wu_Cp_nil⟩) (fun _ _ => rfl) (wu_Mz_KO hm) (fun R Q K er sn4 c4 d4 f4 m4 sd4 sf4 F4 hR cR hQ hK => ?_) (fun er sn4 c4 d4 f4 m4 sd4 sf4 F4 => ?_)⟩
    · have fin := H0 C R Q K et er sn4 c4 d4 f4 m4 sd4 sf4 (fun u hu => ⟨wu_Ho_fr F4 (by rintro (z | z) <;> omega) (hC u hu).2.2.1 (wu_Ho_fr F3 (by omega) (hC u hu).2.2.1 (hC u hu).1), (hC u hu).2⟩) hR cR hQ hK (fun s hs => wu_Ho_fr F4 (by rintro (z | z) <;> omega) (cW s hs).2.1 (wu_Ho_fr F3 (by omega) (cW s hs).2.1 (wu_Ho_fr F2 (q9 s hs) (cW s hs).2.1 (hin1 s hs))))
      by_cases hl : R.length = 0
      · rw [if_pos hl] at fin ⊢
        exact br_f (by decide) (br_f (by decide) fin)
      · rw [if_neg hl] at fin ⊢
        exact br_f (by decide) (br_f (by decide) fin)
    · have ep := wu_pe_r et er
      rw [show (4 : Int32) = wu_z 4 from by decide]
      refine wu_X_18 (Or.inr rfl) (fun c5 m5 hc5 hm5 => ?_)
      have := H1 (by rw [ep]; decide) sn4 c5 d4 f4 m5 sd4 sf4 (fun s hs => wu_Ho_fr (wu_Cz_fr hc5) (by omega) (cW s hs).2.1 (wu_Ho_fr F4 (by rintro (z | z) <;> omega) (cW s hs).2.1 (wu_Ho_fr F3 (by omega) (cW s hs).2.1 (wu_Ho_fr F2 (q9 s hs) (cW s hs).2.1 (hin1 s hs))))) hc5.1 hm5
      rw [ep] at this
      exact this
  · have be : e = 0 ∨ e = 3 ∨ e = 4 := by have := wu_tt_b (p := p) (nv := nv) (W := σ); rw [et] at this; exact this
    have ep := wu_pe_t et he
    refine br_f (fun z => he ?_) ?_
    · rw [wu_z0, wu_zeq (by omega) (by omega)] at z
      exact z
    refine wu_X_18 (by omega) (fun c5 m5 hc5 hm5 => ?_)
    have := H1 (by rw [ep]; exact he) sn2 c5 d2 f2 m5 sd2 sf2 (fun s hs => ?_) hc5.1 hm5
    · rw [ep] at this
      exact this
    · refine wu_Ho_fr (wu_Cz_fr hc5) (by omega) (cW s hs).2.1 (wu_Ho_fr F2 ?_ (cW s hs).2.1 (hin1 s hs))
      rintro (z | z)
      · omega
      · have := z.1; omega
