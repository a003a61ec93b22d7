/-! the reference's buffer -/
theorem wu_Y_7 {post : SY → Prop} {p cc k : Nat} {V st : Int32} {c d f m bc bf : Nat → Int32} {A B : wu_P} (hp : 2 ≤ p ∧ p ≤ 32749) (hB : wu_BY p A B) (hAt : wu_At bc bf 0 B) (hl : B.length < 512) (h0 : 0 < k) (hk : k < p) (hc : cc < 1073741824)
    (H : ∀ bn' bc' bf', wu_YB p (A ++ [(cc, k)]) bn' bc' bf' → post (nI p, V, st, bn', c, d, f, m, bc', bf')) :
    ∀ (R M : wu_P) (n : Nat), B = M ++ R → (∀ t, t ∈ M → t.1 ≠ cc) → R.length < n → wY_addBuf_7 post (nI cc) (nI k) (nI p) V st (nI B.length) c d f m bc bf n (nI M.length) := by
  intro R
  induction R with
  | nil =>
    intro M n e hM hn
    obtain ⟨n, rfl⟩ : ∃ k, n = k + 1 := ⟨n - 1, by omega⟩
    rw [List.append_nil] at e
    subst e
    have hin : vp_in (nI B.length) 512 := vp_in_nI hl (by decide)
    refine pk_le B.length B.length (fun _ => pk_le 512 B.length (fun h => absurd h (by omega)) (fun _ => ⟨hin, fun bc' e1 => ⟨hin, fun bf' e2 => fun bn' e3 => ?_⟩⟩) rfl rfl (by omega) (by omega)) (fun h => absurd h (by omega)) rfl rfl (by omega) (by omega)
    subst e1 e2 e3
    rw [nI_1, nI_clamp (by omega)]
    refine H _ _ _ ⟨B ++ [(cc, k)], wu_BY_new hB hM h0 hk hc, by rw [wu_len1], ?_⟩
    have := wu_At_snoc (t := (cc, k)) hAt
    rw [Nat.zero_add] at this
    exact this
  | cons t R ih =>
    intro M n e hM hn
    obtain ⟨n, rfl⟩ : ∃ k, n = k + 1 := ⟨n - 1, by omega⟩
    have hBl : B.length = M.length + (R.length + 1) := by rw [e, List.length_append, List.length_cons]
    rw [List.length_cons] at hn
    have hin : vp_in (nI M.length) 512 := vp_in_nI (by omega) (by decide)
    have hcl : (nI M.length).toNatClampNeg = M.length := nI_clamp (by omega)
    have hbt := hB.2.1 t (by rw [e]; simp)
    have hA := hAt
    rw [e] at hA
    have hA := (wu_At_app M (t :: R) 0).mp hA
    rw [Nat.zero_add] at hA
    refine pk_le B.length M.length (fun h => absurd h (by omega)) (fun _ => ⟨hin, pk_eq t.1 cc (fun heq => ⟨hin, nI_ne0 (by omega) (by omega), fun x4 e4 => ?_⟩) (fun hne => ?_) (by rw [hcl]; exact hA.2.1) rfl (by omega) (by omega)⟩) rfl rfl (by omega) (by omega)
    · rw [hcl, hA.2.2.1, nI_add, pk_rem (by omega) (by omega) (by omega)] at e4
      subst e4
      obtain ⟨tc, tl⟩ := t
      dsimp only at heq
      subst heq
      subst e
      have hml : (tl + k) % p < p := Nat.mod_lt _ (by omega)
      refine pk_eq ((tl + k) % p) 0 (fun hz => ?_) (fun hz => ⟨hin, fun bf' e2 => ?_⟩) rfl rfl (by omega) (by omega)
      · intro bn' e3
        rw [hBl, show nI (M.length + (R.length + 1)) - 1 = nI (M.length + R.length) from nI_pred _] at e3
        subst e3
        have hin2 : vp_in (nI (M.length + R.length)) 512 := vp_in_nI (by omega) (by decide)
        have hcl2 : (nI (M.length + R.length)).toNatClampNeg = M.length + R.length := nI_clamp (by omega)
        refine ⟨hin2, hin, fun bc' e5 => ⟨hin2, hin, fun bf' e6 => ?_⟩⟩
        subst e5 e6
        rw [hcl, hcl2]
        have hd := wu_BY_del (k := k) hB hz
        rcases wu_snoc R with rfl | ⟨R', z, rfl⟩
        · rw [List.append_nil] at hd
          refine H _ _ _ ⟨M, hd, rfl, ?_⟩
          exact wu_At_congr M 0 (fun i _ hi => ⟨pk_un (by omega), pk_un (by omega)⟩) hA.1
        · have hpm : List.Perm (M ++ (R' ++ [z])) (M ++ z :: R') := List.Perm.append_left M (List.perm_append_singleton z R')
          have hAz := (wu_At_app R' [z] _).mp hA.2.2.2
          have g1 : bc (M.length + (R' ++ [z]).length) = nI z.1 := by
            rw [wu_len1, show M.length + (R'.length + 1) = M.length + 1 + R'.length by omega]; exact hAz.2.1
          have g2 : bf (M.length + (R' ++ [z]).length) = nI z.2 := by
            rw [wu_len1, show M.length + (R'.length + 1) = M.length + 1 + R'.length by omega]; exact hAz.2.2.1
          rw [g1, g2]
          refine H _ _ _ ⟨M ++ z :: R', wu_BY_perm hd hpm, ?_, ?_⟩
          · simp only [List.length_append, List.length_cons, List.length_nil]
          · exact wu_At_put hA.1 hAz.1
      · subst e2
        rw [hcl]
        refine H _ _ _ ⟨M ++ (tc, (tl + k) % p) :: R, wu_BY_upd hB (by omega) hz, ?_, ?_⟩
        · simp only [List.length_append, List.length_cons]
        · refine (wu_At_app M _ 0).mpr ⟨wu_At_congr M 0 (fun i _ hi => ⟨rfl, pk_un (by omega)⟩) hA.1, ?_⟩
          rw [Nat.zero_add]
          exact ⟨hA.2.1, pk_us, wu_At_congr R _ (fun i hi _ => ⟨rfl, pk_un (by omega)⟩) hA.2.2.2⟩
    · intro x ex
      subst ex
      have := ih (M ++ [t]) n (by rw [List.append_assoc]; exact e) (fun s hs => ?_) (by omega)
      · rw [wu_len1] at this; rw [nI_1]; exact this
      · rcases List.mem_append.mp hs with hs | hs
        · exact hM s hs
        · rw [List.mem_singleton] at hs; subst hs; exact hne
theorem wu_Y_add {post : SY → Prop} {p cc k : Nat} {bn V st : Int32} {c d f m bc bf : Nat → Int32} {A : wu_P} (hp : 2 ≤ p ∧ p ≤ 32749) (hY : wu_YB p A bn bc bf) (hA : A.length < 512) (hk : k < p) (hc : cc < 1073741824)
    (H : ∀ bn' bc' bf', wu_YB p (A ++ [(cc, k)]) bn' bc' bf' → post (nI p, V, st, bn', c, d, f, m, bc', bf')) : wpY_addBuf post (nI p, V, st, bn, c, d, f, m, bc, bf) (nI cc) (nI k) := by
  obtain ⟨B, hB, rfl, hAt⟩ := hY
  have hl := hB.2.2.1
  refine pk_eq k 0 (fun hz => ?_) (fun hz => ⟨B.length + 1, wu_Y_7 hp hB hAt (by omega) (by omega) hk hc H B [] (B.length + 1) rfl (fun _ h => absurd h List.not_mem_nil) (by omega)⟩) rfl rfl (by omega) (by omega)
  subst hz
  exact H _ _ _ ⟨B, wu_BY_zero hB, rfl, hAt⟩
/-! its products -/
theorem wu_neg {p x y : Nat} (hp : 0 < p) : (p - x * y % p) % p = x * (p - 1) % p * y % p := by
  rw [Nat.mod_mul_mod]
  have e1 : x * (p - 1) * y + x * y = x * y * p := by
    obtain ⟨q, rfl⟩ : ∃ q, p = q + 1 := ⟨p - 1, by omega⟩
    rw [Nat.add_sub_cancel, Nat.mul_add, Nat.mul_one, Nat.mul_right_comm x q y]
  generalize x * (p - 1) * y = u at e1 ⊢
  generalize x * y = q at e1 ⊢
  have h1 : (u % p + q % p) % p = 0 := by rw [← Nat.add_mod, e1]; exact Nat.mul_mod_left _ _
  have hu := Nat.mod_lt u hp
  have hq := Nat.mod_lt q hp
  by_cases hlt : u % p + q % p < p
  · rw [Nat.mod_eq_of_lt hlt] at h1
    rw [show p - q % p = p by omega, Nat.mod_self]; omega
  · rw [Nat.mod_eq_sub_mod (by omega), Nat.mod_eq_of_lt (by omega)] at h1
    rw [Nat.mod_eq_of_lt (by omega)]; omega
theorem wu_mul1 {p x y : Nat} : x * 1 % p * y % p = x * y % p := by rw [Nat.mul_one, Nat.mod_mul_mod]
def wu_sh (sh : Nat) (I : wu_P) : wu_P := I.map (fun i => (i.1 + sh, i.2))
theorem wu_Y_24 {post : SY → Prop} {J3 : Int32 → Int32 → Int32 → Int32 → Int32 → (Nat → Int32) → (Nat → Int32) → (Nat → Int32) → (Nat → Int32) → (Nat → Int32) → (Nat → Int32) → Prop} {p a b i ic ik sh ng sc : Nat} {V st : Int32} {c d f m : Nat → Int32} (hp : 2 ≤ p ∧ p ≤ 32749) (ha : a < 35) (hb : b < 35) (hi : i < 16) (hik : ik < p) (hng : (ng = 0 ∧ sc = 1) ∨ (ng = 1 ∧ sc = p - 1)) (gi : d (a * 16 + i) = nI ic) (gk : f (a * 16 + i) = nI ik) :
    ∀ (R : wu_P) (j n : Nat) (A : wu_P) (bn : Int32) (bc bf : Nat → Int32), c b = nI (j + R.length) → j + R.length ≤ 16 → wu_At d f (b * 16 + j) R → (∀ t, t ∈ R → t.2 < p ∧ ic + sh + t.1 < 1073741824) → A.length + R.length ≤ 512 → wu_YB p A bn bc bf → R.length < n →
    (∀ bn' bc' bf', wu_YB p (A ++ R.map (fun t => (ic + sh + t.1, ik * sc % p * t.2 % p))) bn' bc' bf' → ∀ y, y = nI i + 1 → J3 y (nI p) V st bn' c d f m bc' bf') →
    wY_addProd_24 post J3 (nI a) (nI b) (nI sh) (nI ng) (nI i) n (nI j) (nI p) V st bn c d f m bc bf := by
  intro R
  induction R with
  | nil =>
    intro j n A bn bc bf hc h16 hAt hR hA hY hn H
    obtain ⟨n, rfl⟩ : ∃ k, n = k + 1 := ⟨n - 1, by omega⟩
    exact ⟨vp_in_nI hb (by decide), pk_le (j + 0) j (fun _ => H _ _ _ (by rw [List.map_nil, List.append_nil]; exact hY)) (fun h => absurd h (by omega)) (by rw [nI_clamp (by omega)]; exact hc) rfl (by omega) (by omega)⟩
  | cons t R ih =>
    intro j n A bn bc bf hc h16 hAt hR hA hY hn H
    obtain ⟨n, rfl⟩ : ∃ k, n = k + 1 := ⟨n - 1, by omega⟩
    rw [List.length_cons] at hc h16 hA hn
    have hia : vp_in (nI a * 16 + nI i) 560 := pk_in (a * 16 + i) 560 (by omega) (wu_ix a i)
    have hib : vp_in (nI b * 16 + nI j) 560 := pk_in (b * 16 + j) 560 (by omega) (wu_ix b j)
    have hca := wu_ixc a i (by omega)
    have hcb := wu_ixc b j (by omega)
    have ht := hR t List.mem_cons_self
    have hsq := wu_sq hp.2 hik ht.1
    have hm := Nat.mod_lt (ik * t.2) (show 0 < p by omega)
    have fin : ∀ z : Nat, z = ik * sc % p * t.2 % p → wY_addProd_93 post J3 (wY_addProd_24 post J3 (nI a) (nI b) (nI sh) (nI ng) (nI i) n) (nI a) (nI b) (nI sh) (nI ng) (nI i) (nI j) (nI z) (nI p) V st bn c d f m bc bf := by
      intro z hz
      refine ⟨hia, hib, fun x8 e8 => ?_⟩
      rw [hca, hcb, gi, hAt.1, nI_add, nI_add, show ic + t.1 + sh = ic + sh + t.1 by omega] at e8
      subst e8
      refine wu_Y_add hp hY (by omega) (by rw [hz]; exact Nat.mod_lt _ (by omega)) ht.2 (fun bn' bc' bf' hY' => ?_)
      intro x ex
      subst ex
      rw [nI_1]
      refine ih (j + 1) n (A ++ [(ic + sh + t.1, z)]) bn' bc' bf' (by rw [hc]; exact congrArg nI (by omega)) (by omega) hAt.2.2 (fun s hs => hR s (List.mem_cons_of_mem _ hs)) (by rw [wu_len1]; omega) hY' (by omega) ?_
      intro bn'' bc'' bf'' hh
      rw [List.append_assoc, hz] at hh
      exact H _ _ _ hh
    refine ⟨vp_in_nI hb (by decide), pk_le (j + (R.length + 1)) j (fun h => absurd h (by omega)) (fun _ => pk_le 16 j (fun h => absurd h (by omega)) (fun _ => ⟨hia, hib, nI_ne0 (by omega) (by omega), fun x7 e7 => ?_⟩) rfl rfl (by omega) (by omega)) (by rw [nI_clamp (by omega)]; exact hc) rfl (by omega) (by omega)⟩
    rw [hca, hcb, gk, hAt.2.1, pk_mul, pk_rem (by omega) (by omega) (by omega)] at e7
    subst e7
    rcases hng with ⟨rfl, rfl⟩ | ⟨rfl, rfl⟩
    · exact br_t rfl (fin _ wu_mul1.symm)
    · refine br_f (by decide) ⟨nI_ne0 (by omega) (by omega), fun x7 e7 => ?_⟩
      rw [pk_sub (by omega), pk_rem (by omega) (by omega) (by omega)] at e7
      subst e7
      exact fin _ (wu_neg (by omega))
theorem wu_sh_cons (sh : Nat) (t : Nat × Nat) (R : wu_P) : wu_sh sh (t :: R) = (t.1 + sh, t.2) :: wu_sh sh R := rfl
theorem wu_Y_prod_3 {post : SY → Prop} {p a b sh ng sc : Nat} {V st : Int32} {c d f m : Nat → Int32} {L : wu_P} (hp : 2 ≤ p ∧ p ≤ 32749) (ha : a < 35) (hb : b < 35) (hng : (ng = 0 ∧ sc = 1) ∨ (ng = 1 ∧ sc = p - 1)) (hL : wu_Ho c d f b L) (hLO : wu_Ok p L) :
    ∀ (R : wu_P) (j n : Nat) (A : wu_P) (bn : Int32) (bc bf : Nat → Int32), c a = nI (j + R.length) → j + R.length ≤ 16 → wu_At d f (a * 16 + j) R → (∀ t, t ∈ R → t.2 < p ∧ wu_Sm (t.1 + sh)) → A.length + R.length * L.length ≤ 512 → wu_YB p A bn bc bf → R.length < n →
    (∀ bn' bc' bf', wu_YB p (A ++ wu_mul p sc (wu_sh sh R) L) bn' bc' bf' → post (nI p, V, st, bn', c, d, f, m, bc', bf')) →
    wY_addProd_3 post (nI a) (nI b) (nI sh) (nI ng) n (nI j) (nI p) V st bn c d f m bc bf := by
  intro R
  induction R with
  | nil =>
    intro j n A bn bc bf hc h16 hAt hR hA hY hn H
    obtain ⟨n, rfl⟩ : ∃ k, n = k + 1 := ⟨n - 1, by omega⟩
    exact ⟨vp_in_nI ha (by decide), pk_le (j + 0) j (fun _ => H _ _ _ (by rw [show wu_mul p sc (wu_sh sh []) L = [] from rfl, List.append_nil]; exact hY)) (fun h => absurd h (by omega)) (by rw [nI_clamp (by omega)]; exact hc) rfl (by omega) (by omega)⟩
  | cons t R ih =>
    intro j n A bn bc bf hc h16 hAt hR hA hY hn H
    obtain ⟨n, rfl⟩ : ∃ k, n = k + 1 := ⟨n - 1, by omega⟩
    rw [List.length_cons] at hc h16 hA hn
    rw [Nat.add_mul, Nat.one_mul] at hA
    have ht := hR t List.mem_cons_self
    refine ⟨vp_in_nI ha (by decide), pk_le (j + (R.length + 1)) j (fun h => absurd h (by omega)) (fun _ => pk_le 16 j (fun h => absurd h (by omega)) (fun _ => ?_) rfl rfl (by omega) (by omega)) (by rw [nI_clamp (by omega)]; exact hc) rfl (by omega) (by omega)⟩
    refine ⟨L.length + 1, wu_Y_24 (ic := t.1) (ik := t.2) (sh := sh) (sc := sc) hp ha hb (by omega) ht.1 hng hAt.1 hAt.2.1 L 0 (L.length + 1) A bn bc bf (by rw [Nat.zero_add]; exact hL.1) (by have := hLO.1; omega) hL.2 (fun s hs => ⟨(hLO.2.2 s hs).2.1, (wu_Sm_add ht.2 (hLO.2.2 s hs).2.2).1⟩) (by omega) hY (by omega) ?_⟩
    intro bn' bc' bf' hY' y ey
    subst ey
    rw [nI_1]
    refine ih (j + 1) n _ bn' bc' bf' (by rw [hc]; exact congrArg nI (by omega)) (by omega) hAt.2.2 (fun s hs => hR s (List.mem_cons_of_mem _ hs)) (by rw [List.length_append, List.length_map]; omega) hY' (by omega) ?_
    intro bn'' bc'' bf'' hh
    exact H _ _ _ (by rw [wu_sh_cons, wu_mul_cons, ← List.append_assoc]; exact hh)
theorem wu_Y_prod {post : SY → Prop} {p a b sh ng sc : Nat} {bn V st : Int32} {c d f m bc bf : Nat → Int32} {A I L : wu_P} (hp : 2 ≤ p ∧ p ≤ 32749) (ha : a < 35) (hb : b < 35) (hng : (ng = 0 ∧ sc = 1) ∨ (ng = 1 ∧ sc = p - 1)) (hI : wu_Ho c d f a I) (hI16 : I.length ≤ 16) (hIO : ∀ t, t ∈ I → t.2 < p ∧ wu_Sm (t.1 + sh)) (hL : wu_Ho c d f b L) (hLO : wu_Ok p L) (hA : A.length ≤ 256) (hY : wu_YB p A bn bc bf)
    (H : ∀ bn' bc' bf', wu_YB p (A ++ wu_mul p sc (wu_sh sh I) L) bn' bc' bf' → post (nI p, V, st, bn', c, d, f, m, bc', bf')) : wpY_addProd post (nI p, V, st, bn, c, d, f, m, bc, bf) (nI a) (nI b) (nI sh) (nI ng) :=
  ⟨I.length + 1, wu_Y_prod_3 hp ha hb hng hL hLO I 0 (I.length + 1) A bn bc bf (by rw [Nat.zero_add]; exact hI.1) (by omega) hI.2 hIO (by have h2 := hLO.1; have := Nat.mul_le_mul hI16 h2; omega) hY (by omega) H⟩
theorem wu_Y_shift_2 {post : SY → Prop} {p s sh : Nat} {V st : Int32} {c d f m : Nat → Int32} (hp : 2 ≤ p ∧ p ≤ 32749) (hs : s < 35) :
    ∀ (R : wu_P) (j n : Nat) (A : wu_P) (bn : Int32) (bc bf : Nat → Int32), c s = nI (j + R.length) → j + R.length ≤ 16 → wu_At d f (s * 16 + j) R → (∀ t, t ∈ R → t.2 < p ∧ t.1 + sh < 1073741824) → A.length + R.length ≤ 512 → wu_YB p A bn bc bf → R.length < n →
    (∀ bn' bc' bf', wu_YB p (A ++ wu_sh sh R) bn' bc' bf' → post (nI p, V, st, bn', c, d, f, m, bc', bf')) →
    wY_addShifted_2 post (nI s) (nI sh) n (nI j) (nI p) V st bn c d f m bc bf := by
  intro R
  induction R with
  | nil =>
    intro j n A bn bc bf hc h16 hAt hb hA hY hn H
    obtain ⟨n, rfl⟩ : ∃ k, n = k + 1 := ⟨n - 1, by omega⟩
    refine ⟨vp_in_nI hs (by decide), pk_le (j + 0) j (fun _ => H _ _ _ (by rw [show wu_sh sh [] = [] from rfl, List.append_nil]; exact hY)) (fun h => absurd h (by omega)) (by rw [nI_clamp (by omega)]; exact hc) rfl (by omega) (by omega)⟩
  | cons t R ih =>
    intro j n A bn bc bf hc h16 hAt hb hA hY hn H
    obtain ⟨n, rfl⟩ : ∃ k, n = k + 1 := ⟨n - 1, by omega⟩
    rw [List.length_cons] at hc h16 hA hn
    have hin : vp_in (nI s * 16 + nI j) 560 := pk_in (s * 16 + j) 560 (by omega) (wu_ix s j)
    refine ⟨vp_in_nI hs (by decide), pk_le (j + (R.length + 1)) j (fun h => absurd h (by omega)) (fun _ => pk_le 16 j (fun h => absurd h (by omega)) (fun _ => ⟨hin, hin, ?_⟩) rfl rfl (by omega) (by omega)) (by rw [nI_clamp (by omega)]; exact hc) rfl (by omega) (by omega)⟩
    rw [wu_ixc s j (by omega), hAt.1, hAt.2.1, nI_add]
    have ht := hb t List.mem_cons_self
    refine wu_Y_add hp hY (by omega) ht.1 ht.2 (fun bn' bc' bf' hY' => ?_)
    intro x ex
    subst ex
    rw [nI_1]
    refine ih (j + 1) n (A ++ [(t.1 + sh, t.2)]) bn' bc' bf' (by rw [hc]; exact congrArg nI (by omega)) (by omega) hAt.2.2 (fun s hs => hb s (List.mem_cons_of_mem _ hs)) (by rw [wu_len1]; omega) hY' (by omega) ?_
    intro bn'' bc'' bf'' hh
    rw [List.append_assoc] at hh
    exact H _ _ _ hh
theorem wu_Y_shift {post : SY → Prop} {p s sh : Nat} {bn V st : Int32} {c d f m bc bf : Nat → Int32} {A L : wu_P} (hp : 2 ≤ p ∧ p ≤ 32749) (hs : s < 35) (hL : wu_Ho c d f s L) (h16 : L.length ≤ 16) (hO : ∀ t, t ∈ L → t.2 < p ∧ t.1 + sh < 1073741824) (hA : A.length + L.length ≤ 512) (hY : wu_YB p A bn bc bf)
    (H : ∀ bn' bc' bf', wu_YB p (A ++ wu_sh sh L) bn' bc' bf' → post (nI p, V, st, bn', c, d, f, m, bc', bf')) : wpY_addShifted post (nI p, V, st, bn, c, d, f, m, bc, bf) (nI s) (nI sh) :=
  ⟨L.length + 1, wu_Y_shift_2 hp hs L 0 (L.length + 1) A bn bc bf (by rw [Nat.zero_add]; exact hL.1) (by omega) hL.2 hO hA hY (by omega) H⟩
/-! storing -/
theorem wu_Y_small_2 {post : Int32 → Prop} {P V st bn : Int32} {c d f m bc bf : Nat → Int32} {x : Nat} (hx : x < 2147483648) :
    ∀ (l v n : Nat), v + l = 6 → l < n → ((∀ w, v ≤ w → w < 6 → wu_ex w x ≤ 15) → post 1) → ((∃ w, w < 6 ∧ 15 < wu_ex w x) → post 0) → wY_small_2 post (nI x) P V st bn c d f m bc bf n (nI v) := by
  intro l
  induction l with
  | zero =>
    intro v n e hn h1 h0
    obtain ⟨n, rfl⟩ : ∃ k, n = k + 1 := ⟨n - 1, by omega⟩
    exact pk_le 6 v (fun _ => h1 (fun w hw hw' => absurd hw (by omega))) (fun h => absurd h (by omega)) rfl rfl (by omega) (by omega)
  | succ l ih =>
    intro v n e hn h1 h0
    obtain ⟨n, rfl⟩ : ∃ k, n = k + 1 := ⟨n - 1, by omega⟩
    have hlt := wu_exlt v x
    refine pk_le 6 v (fun h => absurd h (by omega)) (fun _ => pk_le (wu_ex v x) 15 (fun h => ?_) (fun h => h0 ⟨v, by omega, h⟩) (wu_shr hx (by omega)) rfl (by omega) (by omega)) rfl rfl (by omega) (by omega)
    intro y ey
    subst ey
    rw [nI_1]
    refine ih (v + 1) n (by omega) (by omega) (fun g => h1 (fun w hw hw' => ?_)) h0
    by_cases q : w = v
    · rw [q]; exact h
    · exact g w (by omega) hw'
theorem wu_Y_small {post : Int32 → Prop} {P V st bn : Int32} {c d f m bc bf : Nat → Int32} {x : Nat} (hx : x < 2147483648) (h1 : (∀ w, w < 6 → wu_ex w x ≤ 15) → post 1) (h0 : (∃ w, w < 6 ∧ 15 < wu_ex w x) → post 0) : wpY_small post (P, V, st, bn, c, d, f, m, bc, bf) (nI x) :=
  ⟨7, wu_Y_small_2 hx 6 0 7 rfl (by omega) (fun g => h1 (fun w hw => g w (Nat.zero_le w) hw)) h0⟩
theorem wu_Y_store_44 {post : Int32 → SY → Prop} {P V st : Int32} {m bc bf : Nat → Int32} {B : wu_P} {s : Nat} (hs : s < 35) (hl : B.length ≤ 16) :
    ∀ (R M : wu_P) (c d f : Nat → Int32) (n : Nat), B = M ++ R → wu_At bc bf M.length R → wu_At d f (s * 16) M → R.length < n →
    (∀ c' d' f', wu_Fr (fun q => q = s) c d f c' d' f' → wu_Ho c' d' f' s B → post 1 (P, V, st, nI B.length, c', d', f', m, bc, bf)) →
    wY_store_44 post (nI s) P V st (nI B.length) n (nI M.length) c d f m bc bf := by
  intro R
  induction R with
  | nil =>
    intro M c d f n e hAt hM hn H
    obtain ⟨n, rfl⟩ : ∃ k, n = k + 1 := ⟨n - 1, by omega⟩
    rw [List.append_nil] at e
    subst e
    refine pk_le B.length B.length (fun _ => ⟨vp_in_nI hs (by decide), fun c' ec => ?_⟩) (fun h => absurd h (by omega)) rfl rfl (by omega) (by omega)
    subst ec
    rw [nI_clamp (by omega)]
    exact H _ _ _ wu_Fr_cnt ⟨pk_us, hM⟩
  | cons t R ih =>
    intro M c d f n e hAt hM hn H
    obtain ⟨n, rfl⟩ : ∃ k, n = k + 1 := ⟨n - 1, by omega⟩
    have hBl : B.length = M.length + (R.length + 1) := by rw [e, List.length_append, List.length_cons]
    rw [List.length_cons] at hn
    have hin : vp_in (nI M.length) 512 := vp_in_nI (by omega) (by decide)
    have hcl : (nI M.length).toNatClampNeg = M.length := nI_clamp (by omega)
    have hix : vp_in (nI s * 16 + nI M.length) 560 := pk_in (s * 16 + M.length) 560 (by omega) (wu_ix s _)
    refine pk_le B.length M.length (fun h => absurd h (by omega)) (fun _ => ⟨hin, hix, fun d' ed => ⟨hin, hix, fun f' ef => fun x ex => ?_⟩⟩) rfl rfl (by omega) (by omega)
    subst ed ef ex
    rw [wu_ixc s M.length (by omega), hcl, hAt.1, hAt.2.1, nI_1]
    have := ih (M ++ [t]) c (upd d (s * 16 + M.length) (nI t.1)) (upd f (s * 16 + M.length) (nI t.2)) n (by rw [List.append_assoc]; exact e) (by rw [wu_len1]; exact hAt.2.2) (wu_At_snoc hM) (by omega) ?_
    · rw [wu_len1] at this; exact this
    · intro c' d' f' hF hH
      exact H _ _ _ (wu_Fr_trans (wu_Fr_wr (by omega) (by omega)) hF) hH
theorem wu_Y_store_13 {post : Int32 → SY → Prop} {P V st : Int32} {c d f m bc bf : Nat → Int32} {B : wu_P} {s : Nat} (hl : B.length ≤ 16) (hb : ∀ t, t ∈ B → t.1 < 2147483648)
    (h0 : (∃ t, t ∈ B ∧ ∃ v, v < 6 ∧ 15 < wu_ex v t.1) → post 0 (P, V, st, nI B.length, c, d, f, m, bc, bf)) (h1 : (∀ t, t ∈ B → ∀ v, v < 6 → wu_ex v t.1 ≤ 15) → ∃ n44, wY_store_44 post (nI s) P V st (nI B.length) n44 0 c d f m bc bf) :
    ∀ (R M : wu_P) (n : Nat), B = M ++ R → (∀ t, t ∈ M → ∀ v, v < 6 → wu_ex v t.1 ≤ 15) → wu_At bc bf M.length R → R.length < n →
    wY_store_13 post (nI s) P V st (nI B.length) c d f m bc bf n (nI M.length) := by
  intro R
  induction R with
  | nil =>
    intro M n e hM hAt hn
    obtain ⟨n, rfl⟩ : ∃ k, n = k + 1 := ⟨n - 1, by omega⟩
    rw [List.append_nil] at e
    subst e
    exact pk_le B.length B.length (fun _ => h1 hM) (fun h => absurd h (by omega)) rfl rfl (by omega) (by omega)
  | cons t R ih =>
    intro M n e hM hAt hn
    obtain ⟨n, rfl⟩ : ∃ k, n = k + 1 := ⟨n - 1, by omega⟩
    have hBl : B.length = M.length + (R.length + 1) := by rw [e, List.length_append, List.length_cons]
    rw [List.length_cons] at hn
    have hin : vp_in (nI M.length) 512 := vp_in_nI (by omega) (by decide)
    have hcl : (nI M.length).toNatClampNeg = M.length := nI_clamp (by omega)
    have htB : t ∈ B := by rw [e]; simp
    refine pk_le B.length M.length (fun h => absurd h (by omega)) (fun _ => ⟨hin, ?_⟩) rfl rfl (by omega) (by omega)
    rw [hcl, hAt.1]
    refine wu_Y_small (hb t htB) (fun g => br_f (by decide) (fun x ex => ?_)) (fun ⟨v, hv, z⟩ => br_t rfl (h0 ⟨t, htB, v, hv, z⟩))
    subst ex
    have := ih (M ++ [t]) n (by rw [List.append_assoc]; exact e) (fun s hs => ?_) (by rw [wu_len1]; exact hAt.2.2) (by omega)
    · rw [wu_len1] at this; rw [nI_1]; exact this
    · rcases List.mem_append.mp hs with hs | hs
      · exact hM s hs
      · rw [List.mem_singleton] at hs; subst hs; exact g
theorem wu_Y_store {post : Int32 → SY → Prop} {p s : Nat} {bn P V st : Int32} {c d f m bc bf : Nat → Int32} {A : wu_P} (hs : s < 35) (hY : wu_YB p A bn bc bf) (hA : A.length ≤ 512)
    (h0 : wu_st p A = none → post 0 (P, V, st, bn, c, d, f, m, bc, bf)) (h1 : ∀ L, wu_st p A = some L → ∀ L' c' d' f', List.Perm L' L → wu_Fr (fun q => q = s) c d f c' d' f' → wu_Ho c' d' f' s L' → post 1 (P, V, st, bn, c', d', f', m, bc, bf)) :
    wpY_store post (P, V, st, bn, c, d, f, m, bc, bf) (nI s) := by
  obtain ⟨B, hB, rfl, hAt⟩ := hY
  have hl : B.length ≤ 512 := Nat.le_trans hB.2.2.1 hA
  have hp := wu_nf_Y (wu_NF_BY hB)
  have hbg := wu_big_perm hp
  refine pk_le B.length 16 (fun h16 => ?_) (fun h16 => h0 (wu_st_n (hbg.mp (Or.inl h16)))) rfl rfl (by omega) (by omega)
  refine ⟨B.length + 1, wu_Y_store_13 h16 (fun t ht => by have := (hB.2.1 t ht).2.2; omega) (fun g => h0 (wu_st_n (hbg.mp (Or.inr g)))) (fun g => ?_) B [] (B.length + 1) rfl (fun _ h => absurd h List.not_mem_nil) hAt (by omega)⟩
  have nb : ¬ wu_big (wu_nf p A) := by
    rw [← hbg]
    rintro (z | ⟨t, ht, v, hv, z⟩)
    · omega
    · have := g t ht v hv; omega
  exact ⟨B.length + 1, wu_Y_store_44 hs h16 B [] c d f (B.length + 1) rfl hAt trivial (by omega) (fun c' d' f' hF hH => h1 _ (wu_st_s nb) B c' d' f' hp hF hH)⟩
