/-! pseudo-division on lists -/
def wu_ld (v m : Nat) (a : wu_P) : wu_P := if wu_dg v a < (m : Int) then [] else wu_pt v (wu_dg v a).toNat (m * 32 ^ v) a
noncomputable def wu_rd (p v m : Nat) (I b : wu_P) (w : Bool) (a q : wu_P) : Option (wu_P × wu_P) :=
  (wu_st p (wu_mul p 1 I a ++ wu_mul p (p - 1) (wu_ld v m a) b)).bind fun a' =>
    (if w = true then wu_st p (wu_mul p 1 I q ++ wu_ld v m a) else some q).bind fun q' => some (a', q')
noncomputable def wu_rds (p v m : Nat) (I b : wu_P) (w : Bool) : Nat → wu_P → wu_P → Option (wu_P × wu_P)
  | 0, a, q => some (a, q)
  | n + 1, a, q => (wu_rd p v m I b w a q).bind fun r => wu_rds p v m I b w n r.1 r.2
def wu_in (v : Nat) (b : wu_P) : wu_P := wu_pt v (wu_dg v b).toNat ((wu_dg v b).toNat * 32 ^ v) b
def wu_kk (v : Nat) (a b : wu_P) : Nat := (wu_dg v a - wu_dg v b + 1).toNat
noncomputable def wu_dv (p v : Nat) (b : wu_P) (w : Bool) (a q : wu_P) : Option (wu_P × wu_P) :=
  wu_rds p v (wu_dg v b).toNat (wu_in v b) b w (wu_kk v a b) a q
theorem wu_rd_n1 {p v m : Nat} {I b a q : wu_P} {w : Bool} (h : wu_st p (wu_mul p 1 I a ++ wu_mul p (p - 1) (wu_ld v m a) b) = none) : wu_rd p v m I b w a q = none := by
  unfold wu_rd; rw [h]; rfl
theorem wu_rd_n2 {p v m : Nat} {I b a q a' : wu_P} (h : wu_st p (wu_mul p 1 I a ++ wu_mul p (p - 1) (wu_ld v m a) b) = some a') (h2 : wu_st p (wu_mul p 1 I q ++ wu_ld v m a) = none) : wu_rd p v m I b true a q = none := by
  unfold wu_rd; rw [h, if_pos rfl, h2]; rfl
theorem wu_rd_s1 {p v m : Nat} {I b a q a' : wu_P} (h : wu_st p (wu_mul p 1 I a ++ wu_mul p (p - 1) (wu_ld v m a) b) = some a') : wu_rd p v m I b false a q = some (a', q) := by
  unfold wu_rd; rw [h, if_neg (by decide)]; rfl
theorem wu_rd_s2 {p v m : Nat} {I b a q a' q' : wu_P} (h : wu_st p (wu_mul p 1 I a ++ wu_mul p (p - 1) (wu_ld v m a) b) = some a') (h2 : wu_st p (wu_mul p 1 I q ++ wu_ld v m a) = some q') : wu_rd p v m I b true a q = some (a', q') := by
  unfold wu_rd; rw [h, if_pos rfl, h2]; rfl
theorem wu_rd_i {p v m : Nat} {I b a q a' q' : wu_P} {w : Bool} (h : wu_rd p v m I b w a q = some (a', q')) : wu_st p (wu_mul p 1 I a ++ wu_mul p (p - 1) (wu_ld v m a) b) = some a' ∧ ((w = true ∧ wu_st p (wu_mul p 1 I q ++ wu_ld v m a) = some q') ∨ (w = false ∧ q' = q)) := by
  cases h1 : wu_st p (wu_mul p 1 I a ++ wu_mul p (p - 1) (wu_ld v m a) b) with
  | none => rw [wu_rd_n1 h1] at h; exact absurd h (by simp)
  | some a'' =>
    cases w with
    | false =>
      rw [wu_rd_s1 h1] at h
      have := Prod.mk.inj (Option.some.inj h)
      exact ⟨by rw [this.1], Or.inr ⟨rfl, this.2.symm⟩⟩
    | true =>
      cases h2 : wu_st p (wu_mul p 1 I q ++ wu_ld v m a) with
      | none => rw [wu_rd_n2 h1 h2] at h; exact absurd h (by simp)
      | some q'' =>
        rw [wu_rd_s2 h1 h2] at h
        have := Prod.mk.inj (Option.some.inj h)
        exact ⟨by rw [this.1], Or.inl ⟨rfl, by rw [this.2]⟩⟩
theorem wu_rds_n {p v m n : Nat} {I b a q : wu_P} {w : Bool} (h : wu_rd p v m I b w a q = none) : wu_rds p v m I b w (n + 1) a q = none := by
  rw [wu_rds, h]; rfl
theorem wu_rds_s {p v m n : Nat} {I b a q a' q' : wu_P} {w : Bool} (h : wu_rd p v m I b w a q = some (a', q')) : wu_rds p v m I b w (n + 1) a q = wu_rds p v m I b w n a' q' := by
  rw [wu_rds, h]; rfl
/-! the parts keep what a slot may hold -/
theorem wu_pt_mem {v e K : Nat} {L : wu_P} {x : Nat × Nat} (h : x ∈ wu_pt v e K L) : ∃ t, t ∈ L ∧ wu_ex v t.1 = e ∧ x = (t.1 - K, t.2) := by
  unfold wu_pt at h
  obtain ⟨t, ht, rfl⟩ := List.mem_map.mp h
  rw [List.mem_filter, decide_eq_true_eq] at ht
  exact ⟨t, ht.1, ht.2, rfl⟩
theorem wu_pt_Cp {p v e k : Nat} {L : wu_P} (hv : v < 6) (hk : k ≤ e) (h : wu_Cp p L) : wu_Cp p (wu_pt v e (k * 32 ^ v) L) := by
  have hs : wu_Srt (wu_pt v e (k * 32 ^ v) L) := by
    unfold wu_Srt wu_pt
    rw [List.pairwise_map]
    have h1 : List.Pairwise (fun a b : Nat × Nat => a.1 < b.1) (L.filter (fun t => decide (wu_ex v t.1 = e))) := List.Pairwise.sublist List.filter_sublist h.1
    refine List.Pairwise.imp_of_mem (fun {a b} ha hb hab => ?_) h1
    rw [List.mem_filter, decide_eq_true_eq] at ha hb
    have g1 := (wu_down hv ha.2 hk (h.2.2.2 a ha.1).2.2).1
    have g2 := (wu_down hv hb.2 hk (h.2.2.2 b hb.1).2.2).1
    dsimp only
    omega
  refine ⟨hs, Nat.le_trans (wu_pt_len _ _ _ _) h.2.1, wu_Srt_nd hs, fun x hx => ?_⟩
  obtain ⟨t, ht, he, rfl⟩ := wu_pt_mem hx
  exact ⟨(h.2.2.2 t ht).1, (h.2.2.2 t ht).2.1, (wu_down hv he hk (h.2.2.2 t ht).2.2).2.1⟩
theorem wu_pt_perm {v e K : Nat} {L L' : wu_P} (h : List.Perm L L') : List.Perm (wu_pt v e K L) (wu_pt v e K L') := (h.filter _).map _
theorem wu_ld_Cp {p v m : Nat} {a : wu_P} (hv : v < 6) (h : wu_Cp p a) : wu_Cp p (wu_ld v m a) := by
  unfold wu_ld
  by_cases hd : wu_dg v a < (m : Int)
  · rw [if_pos hd]; exact wu_Cp_nil
  · rw [if_neg hd]; exact wu_pt_Cp hv (by omega) h
theorem wu_in_Cp {p v : Nat} {b : wu_P} (hv : v < 6) (h : wu_Cp p b) : wu_Cp p (wu_in v b) := wu_pt_Cp hv (Nat.le_refl _) h
theorem wu_mul_perm {p sc : Nat} {I I' L L' : wu_P} (h : List.Perm I I') (h' : List.Perm L L') : List.Perm (wu_mul p sc I L) (wu_mul p sc I' L') := by
  have h1 : List.Perm (wu_mul p sc I L) (wu_mul p sc I' L) := List.Perm.flatMap_right _ h
  refine h1.trans ?_
  clear h h1
  induction I' with
  | nil => exact List.Perm.refl _
  | cons i I' ih => rw [wu_mul_cons, wu_mul_cons]; exact List.Perm.append (h'.map _) ih
theorem wu_rd_Cp {p v m : Nat} {I b a q a' q' : wu_P} {w : Bool} (hp : 2 ≤ p) (hv : v < 6) (hI : wu_Cp p I) (hb : wu_Cp p b) (ha : wu_Cp p a) (hq : wu_Cp p q) (h : wu_rd p v m I b w a q = some (a', q')) : wu_Cp p a' ∧ wu_Cp p q' := by
  obtain ⟨h1, h2⟩ := wu_rd_i h
  have hl := wu_ld_Cp (m := m) hv ha
  refine ⟨(wu_st_sp (wu_Ad_app (wu_mul_Ad (by omega) hI.2 ha.2) (wu_mul_Ad (by omega) hl.2 hb.2)) h1).1, ?_⟩
  rcases h2 with ⟨_, h2⟩ | ⟨_, rfl⟩
  · exact (wu_st_sp (wu_Ad_app (wu_mul_Ad (by omega) hI.2 hq.2) (wu_Ok_Ad hl.2)) h2).1
  · exact hq
theorem wu_rds_Cp {p v m : Nat} {I b : wu_P} {w : Bool} (hp : 2 ≤ p) (hv : v < 6) (hI : wu_Cp p I) (hb : wu_Cp p b) : ∀ (n : Nat) (a q a' q' : wu_P), wu_Cp p a → wu_Cp p q → wu_rds p v m I b w n a q = some (a', q') → wu_Cp p a' ∧ wu_Cp p q' := by
  intro n
  induction n with
  | zero =>
    intro a q a' q' ha hq h
    rw [wu_rds] at h
    have := Prod.mk.inj (Option.some.inj h)
    rw [← this.1, ← this.2]; exact ⟨ha, hq⟩
  | succ n ih =>
    intro a q a' q' ha hq h
    cases h1 : wu_rd p v m I b w a q with
    | none => rw [wu_rds_n h1] at h; exact absurd h (by simp)
    | some r =>
      obtain ⟨a1, q1⟩ := r
      rw [wu_rds_s h1] at h
      have := wu_rd_Cp hp hv hI hb ha hq h1
      exact ih a1 q1 a' q' this.1 this.2 h
theorem wu_dv_Cp {p v : Nat} {b a q a' q' : wu_P} {w : Bool} (hp : 2 ≤ p) (hv : v < 6) (hb : wu_Cp p b) (ha : wu_Cp p a) (hq : wu_Cp p q) (h : wu_dv p v b w a q = some (a', q')) : wu_Cp p a' ∧ wu_Cp p q' :=
  wu_rds_Cp hp hv (wu_in_Cp hv hb) hb _ a q a' q' ha hq h
theorem wu_kk_le {p v : Nat} {a b : wu_P} (hv : v < 6) (ha : wu_Ok p a) (hb : b ≠ []) : wu_kk v a b ≤ 16 := by
  have h0 := wu_dg_ne (v := v) hb
  have h1 : wu_dg v a ≤ 15 := wu_dg_ge (by omega) (fun t ht => by have := (ha.2.2 t ht).2.2.2 v hv; omega)
  unfold wu_kk
  omega
/-! the degree falls -/
theorem wu_st_mem {p : Nat} {A L : wu_P} (hA : wu_Ad p A) (h : wu_st p A = some L) {t : Nat × Nat} (ht : t ∈ L) : wu_cf A t.1 % p ≠ 0 ∧ ∃ s, s ∈ A ∧ s.1 = t.1 := by
  obtain ⟨hC, hE⟩ := wu_st_sp hA h
  have b := hC.2.2.2 t ht
  have e := hE t.1
  rw [wu_cf_mem hC.2.2.1 ht, Nat.mod_eq_of_lt b.2.1] at e
  have hne : wu_cf A t.1 % p ≠ 0 := by omega
  refine ⟨hne, wu_cf_pos (fun z => hne ?_)⟩
  rw [z]; exact Nat.zero_mod p
/-- a bound on the exponents of a product -/
theorem wu_mul_ex {p sc v : Nat} {I L : wu_P} {x : Nat × Nat} (hv : v < 6) (hI : wu_Ok p I) (hL : wu_Ok p L) (h : x ∈ wu_mul p sc I L) : ∃ i, i ∈ I ∧ ∃ t, t ∈ L ∧ x.1 = i.1 + t.1 ∧ wu_ex v x.1 = wu_ex v i.1 + wu_ex v t.1 := by
  obtain ⟨i, hi, t, ht, rfl⟩ := wu_mul_mem h
  exact ⟨i, hi, t, ht, rfl, (wu_Sm_add (hI.2.2 i hi).2.2 (hL.2.2 t ht).2.2).2 v hv⟩
theorem wu_in_ex {p v w : Nat} {b : wu_P} (hv : v < 6) (hw : w < 6) (hb : wu_Ok p b) (hne : b ≠ []) {x : Nat × Nat} (h : x ∈ wu_in v b) : wu_ex v x.1 = 0 ∧ ((wu_ex w x.1 : Int) ≤ wu_dg w b) := by
  obtain ⟨t, ht, he, rfl⟩ := wu_pt_mem h
  have g := wu_down hv he (Nat.le_refl _) (hb.2.2 t ht).2.2
  have z : wu_ex v (t.1 - (wu_dg v b).toNat * 32 ^ v) = 0 := by rw [g.2.2.1]; omega
  refine ⟨z, ?_⟩
  by_cases hwv : w = v
  · subst hwv
    have := wu_dg_ne (v := w) hne
    dsimp only
    rw [z]; omega
  · dsimp only
    rw [g.2.2.2 w hw hwv]; exact wu_dg_le ht
/-- sums over products, one code: the inner list -/
theorem wu_cf_map1 (p k ic x : Nat) (L : wu_P) : wu_cf (L.map (fun t => (ic + t.1, k * t.2 % p))) x % p = (if ic ≤ x then k * wu_cf L (x - ic) else 0) % p := by
  induction L with
  | nil => simp [wu_cf]
  | cons t L ih =>
    rw [List.map_cons, wu_cf, wu_cf]
    by_cases h : ic ≤ x
    · rw [if_pos h] at ih ⊢
      by_cases g : ic + t.1 = x
      · rw [if_pos g, if_pos (by omega), Nat.mod_add_mod, Nat.add_mod, ih, ← Nat.add_mod, Nat.mul_add]
      · rw [if_neg g, if_neg (by omega), Nat.zero_add, Nat.zero_add]; exact ih
    · rw [if_neg h] at ih ⊢
      rw [if_neg (by omega), Nat.zero_add]; exact ih
/-! sums over lists -/
def wu_s1 (g : Nat × Nat → Nat) : wu_P → Nat
  | [] => 0
  | t :: L => g t + wu_s1 g L
theorem wu_s1_app (g : Nat × Nat → Nat) (A B : wu_P) : wu_s1 g (A ++ B) = wu_s1 g A + wu_s1 g B := by
  induction A with
  | nil => simp [wu_s1]
  | cons t A ih => rw [List.cons_append, wu_s1, wu_s1, ih, Nat.add_assoc]
theorem wu_s1_map (g : Nat × Nat → Nat) (h : Nat × Nat → Nat × Nat) (L : wu_P) : wu_s1 g (L.map h) = wu_s1 (fun t => g (h t)) L := by
  induction L with
  | nil => rfl
  | cons t L ih => rw [List.map_cons, wu_s1, wu_s1, ih]
theorem wu_s1_fil (g : Nat × Nat → Nat) (P : Nat × Nat → Bool) (L : wu_P) : wu_s1 g (L.filter P) = wu_s1 (fun t => if P t = true then g t else 0) L := by
  induction L with
  | nil => rfl
  | cons t L ih =>
    by_cases h : P t = true
    · rw [List.filter_cons_of_pos h, wu_s1, wu_s1, ih, if_pos h]
    · rw [List.filter_cons_of_neg h, wu_s1, ih, if_neg h, Nat.zero_add]
theorem wu_s1_zero (L : wu_P) : wu_s1 (fun _ => 0) L = 0 := by
  induction L with
  | nil => rfl
  | cons t L ih => rw [wu_s1, ih]
theorem wu_s1_add (g h : Nat × Nat → Nat) (L : wu_P) : wu_s1 g L + wu_s1 h L = wu_s1 (fun t => g t + h t) L := by
  induction L with
  | nil => rfl
  | cons t L ih => rw [wu_s1, wu_s1, wu_s1, ← ih]; omega
theorem wu_s1_swap (g : Nat × Nat → Nat × Nat → Nat) (A B : wu_P) : wu_s1 (fun a => wu_s1 (fun b => g a b) B) A = wu_s1 (fun b => wu_s1 (fun a => g a b) A) B := by
  induction A with
  | nil => exact (wu_s1_zero B).symm
  | cons a A ih => rw [wu_s1, ih, wu_s1_add]; rfl
theorem wu_s1_mod {p : Nat} (g : Nat × Nat → Nat) (L : wu_P) (h : ∀ t, t ∈ L → g t % p = 0) : wu_s1 g L % p = 0 := by
  induction L with
  | nil => exact Nat.zero_mod p
  | cons t L ih =>
    rw [wu_s1, Nat.add_mod, h t List.mem_cons_self, ih (fun s hs => h s (List.mem_cons_of_mem _ hs)), Nat.zero_add, Nat.zero_mod]
theorem wu_cf_s1 (L : wu_P) (x : Nat) : wu_cf L x = wu_s1 (fun t => if t.1 = x then t.2 else 0) L := by
  induction L with
  | nil => rfl
  | cons t L ih => rw [wu_cf, wu_s1, ih]
theorem wu_cf_mul (p sc x : Nat) (I L : wu_P) : wu_cf (wu_mul p sc I L) x = wu_s1 (fun i => wu_s1 (fun t => if i.1 + t.1 = x then i.2 * sc % p * t.2 % p else 0) L) I := by
  induction I with
  | nil => rfl
  | cons i I ih => rw [wu_mul_cons, wu_cf_app, ih, wu_cf_s1, wu_s1_map]; rfl
theorem wu_s1_congr (g h : Nat × Nat → Nat) (L : wu_P) (e : ∀ t, t ∈ L → g t = h t) : wu_s1 g L = wu_s1 h L := by
  induction L with
  | nil => rfl
  | cons t L ih => rw [wu_s1, wu_s1, e t List.mem_cons_self, ih (fun s hs => e s (List.mem_cons_of_mem _ hs))]
theorem wu_canc {p x y : Nat} (hp : 2 ≤ p) : (x * 1 % p * y % p + y * (p - 1) % p * x % p) % p = 0 := by
  rw [wu_mul1, ← wu_neg (by omega), Nat.mul_comm y x]
  generalize x * y = q
  have hq := Nat.mod_lt q (show 0 < p by omega)
  rw [Nat.add_mod_mod, show q % p + (p - q % p) = p by omega, Nat.mod_self]
theorem wu_lead {p v m e x : Nat} {a b : wu_P} (hp : 2 ≤ p) (hv : v < 6) (ha : wu_Ok p a) (hb : wu_Ok p b) (hm : wu_dg v b = (m : Int)) (he : wu_dg v a = (e : Int)) (hme : m ≤ e) (hx : wu_ex v x = e) :
    wu_cf (wu_mul p 1 (wu_in v b) a ++ wu_mul p (p - 1) (wu_ld v m a) b) x % p = 0 := by
  have e1 : wu_in v b = wu_pt v m (m * 32 ^ v) b := by unfold wu_in; rw [hm]; rfl
  have e2 : wu_ld v m a = wu_pt v e (m * 32 ^ v) a := by unfold wu_ld; rw [he, if_neg (by omega)]; rfl
  rw [wu_cf_app, wu_cf_mul, wu_cf_mul, e1, e2]
  unfold wu_pt
  rw [wu_s1_map, wu_s1_map, wu_s1_fil, wu_s1_fil]
  have r1 : wu_s1 (fun t => if decide (wu_ex v t.1 = e) = true then wu_s1 (fun u => if t.1 - m * 32 ^ v + u.1 = x then t.2 * (p - 1) % p * u.2 % p else 0) b else 0) a = wu_s1 (fun t => wu_s1 (fun u => if wu_ex v t.1 = e ∧ t.1 - m * 32 ^ v + u.1 = x then t.2 * (p - 1) % p * u.2 % p else 0) b) a := by
    refine wu_s1_congr _ _ _ (fun t _ => ?_)
    by_cases h : wu_ex v t.1 = e
    · rw [if_pos (by simp [h])]
      exact wu_s1_congr _ _ _ (fun u _ => by simp [h])
    · rw [if_neg (by simp [h])]
      exact (wu_s1_zero b).symm.trans (wu_s1_congr _ _ _ (fun u _ => by simp [h]))
  have r2 : wu_s1 (fun u => if decide (wu_ex v u.1 = m) = true then wu_s1 (fun t => if u.1 - m * 32 ^ v + t.1 = x then u.2 * 1 % p * t.2 % p else 0) a else 0) b = wu_s1 (fun u => wu_s1 (fun t => if wu_ex v u.1 = m ∧ u.1 - m * 32 ^ v + t.1 = x then u.2 * 1 % p * t.2 % p else 0) a) b := by
    refine wu_s1_congr _ _ _ (fun u _ => ?_)
    by_cases h : wu_ex v u.1 = m
    · rw [if_pos (by simp [h])]
      exact wu_s1_congr _ _ _ (fun t _ => by simp [h])
    · rw [if_neg (by simp [h])]
      exact (wu_s1_zero a).symm.trans (wu_s1_congr _ _ _ (fun t _ => by simp [h]))
  rw [r1, r2, wu_s1_swap _ a b, wu_s1_add]
  refine wu_s1_mod _ _ (fun u hu => ?_)
  try dsimp only
  rw [wu_s1_add]
  refine wu_s1_mod _ _ (fun t ht => ?_)
  try dsimp only
  have su := (hb.2.2 u hu).2.2
  have stt := (ha.2.2 t ht).2.2
  by_cases hu' : wu_ex v u.1 = m
  · have du := wu_down hv hu' (Nat.le_refl _) su
    by_cases ht' : wu_ex v t.1 = e
    · have dt := wu_down hv ht' hme stt
      by_cases q : u.1 - m * 32 ^ v + t.1 = x
      · rw [if_pos ⟨hu', q⟩, if_pos ⟨ht', by omega⟩]
        exact wu_canc hp
      · rw [if_neg (fun z => q z.2), if_neg (fun z => q (by omega))]
        exact Nat.zero_mod p
    · rw [if_neg, if_neg (fun z => ht' z.1)]
      · exact Nat.zero_mod p
      · rintro ⟨_, q⟩
        have := (wu_Sm_add du.2.1 stt).2 v hv
        rw [q, hx, du.2.2.1] at this
        exact ht' (by omega)
  · rw [if_neg (fun z => hu' z.1), if_neg]
    · exact Nat.zero_mod p
    · rintro ⟨ht', q⟩
      have dt := wu_down hv ht' hme stt
      have := (wu_Sm_add dt.2.1 su).2 v hv
      rw [q, hx, dt.2.2.1] at this
      exact hu' (by omega)
theorem wu_rd_dg {p v m : Nat} {b a q a' q' : wu_P} {w : Bool} (hp : 2 ≤ p) (hv : v < 6) (hb : wu_Cp p b) (hne : b ≠ []) (hm : wu_dg v b = (m : Int)) (ha : wu_Cp p a) (h : wu_rd p v m (wu_in v b) b w a q = some (a', q')) :
    wu_dg v a' ≤ wu_dg v a ∧ ((m : Int) ≤ wu_dg v a → wu_dg v a' < wu_dg v a) ∧ (∀ u, u < 6 → u ≠ v → wu_dg u a ≤ 0 → wu_dg u b ≤ 0 → wu_dg u a' ≤ 0) := by
  obtain ⟨h1, _⟩ := wu_rd_i h
  have hI := wu_in_Cp hv hb
  have hl := wu_ld_Cp (m := m) hv ha
  have hAd := wu_Ad_app (wu_mul_Ad (sc := 1) (show 0 < p by omega) hI.2 ha.2) (wu_mul_Ad (sc := p - 1) (show 0 < p by omega) hl.2 hb.2)
  have bda := wu_dg_b v a
  have key : ∀ t, t ∈ a' → (wu_ex v t.1 : Int) ≤ wu_dg v a := by
    intro t ht
    obtain ⟨_, s, hs, es⟩ := wu_st_mem hAd h1 ht
    rw [← es]
    rcases List.mem_append.mp hs with hs | hs
    · obtain ⟨i, hi, s', hs', _, ex⟩ := wu_mul_ex hv hI.2 ha.2 hs
      have g1 := (wu_in_ex hv hv hb.2 hne hi).1
      have g2 := wu_dg_le (v := v) hs'
      omega
    · obtain ⟨i, hi, s', hs', _, ex⟩ := wu_mul_ex hv hl.2 hb.2 hs
      have g2 := wu_dg_le (v := v) hs'
      unfold wu_ld at hi
      by_cases hd : wu_dg v a < (m : Int)
      · rw [if_pos hd] at hi; exact absurd hi List.not_mem_nil
      · rw [if_neg hd] at hi
        obtain ⟨y, hy, he, rfl⟩ := wu_pt_mem hi
        have g := (wu_down hv he (show m ≤ (wu_dg v a).toNat by omega) (ha.2.2.2 y hy).2.2).2.2.1
        dsimp only at ex
        omega
  refine ⟨wu_dg_ge bda.1 key, fun hme => ?_, fun u hu huv hua hub => ?_⟩
  · obtain ⟨e, he⟩ : ∃ e : Nat, wu_dg v a = (e : Int) := ⟨(wu_dg v a).toNat, by omega⟩
    have : wu_dg v a' ≤ (e : Int) - 1 := by
      refine wu_dg_ge (by omega) (fun t ht => ?_)
      have k := key t ht
      have hne' : wu_ex v t.1 ≠ e := fun z => (wu_st_mem hAd h1 ht).1 (wu_lead hp hv ha.2 hb.2 hm he (by omega) z)
      omega
    omega
  · refine wu_dg_ge (by omega) (fun t ht => ?_)
    obtain ⟨_, s, hs, es⟩ := wu_st_mem hAd h1 ht
    rw [← es]
    rcases List.mem_append.mp hs with hs | hs
    · obtain ⟨i, hi, s', hs', _, ex⟩ := wu_mul_ex hu hI.2 ha.2 hs
      have g1 := (wu_in_ex hv hu hb.2 hne hi).2
      have g2 := wu_dg_le (v := u) hs'
      omega
    · obtain ⟨i, hi, s', hs', _, ex⟩ := wu_mul_ex hu hl.2 hb.2 hs
      have g2 := wu_dg_le (v := u) hs'
      unfold wu_ld at hi
      by_cases hd : wu_dg v a < (m : Int)
      · rw [if_pos hd] at hi; exact absurd hi List.not_mem_nil
      · rw [if_neg hd] at hi
        obtain ⟨y, hy, he, rfl⟩ := wu_pt_mem hi
        have g := (wu_down hv he (show m ≤ (wu_dg v a).toNat by omega) (ha.2.2.2 y hy).2.2).2.2.2 u hu huv
        have g3 := wu_dg_le (v := u) hy
        dsimp only at ex
        omega
theorem wu_rds_dg {p v m : Nat} {b : wu_P} {w : Bool} (hp : 2 ≤ p) (hv : v < 6) (hb : wu_Cp p b) (hne : b ≠ []) (hm : wu_dg v b = (m : Int)) : ∀ (n : Nat) (a q a' q' : wu_P), wu_Cp p a → wu_Cp p q → wu_rds p v m (wu_in v b) b w n a q = some (a', q') → wu_dg v a ≤ (m : Int) - 1 + n →
    wu_dg v a' ≤ (m : Int) - 1 ∧ (∀ u, u < 6 → u ≠ v → wu_dg u a ≤ 0 → wu_dg u b ≤ 0 → wu_dg u a' ≤ 0) := by
  intro n
  induction n with
  | zero =>
    intro a q a' q' ha hq h hd
    rw [wu_rds] at h
    have := Prod.mk.inj (Option.some.inj h)
    rw [← this.1]
    exact ⟨by omega, fun _ _ _ h _ => h⟩
  | succ n ih =>
    intro a q a' q' ha hq h hd
    cases h1 : wu_rd p v m (wu_in v b) b w a q with
    | none => rw [wu_rds_n h1] at h; exact absurd h (by simp)
    | some r =>
      obtain ⟨a1, q1⟩ := r
      rw [wu_rds_s h1] at h
      have c := wu_rd_Cp hp hv (wu_in_Cp hv hb) hb ha hq h1
      have g := wu_rd_dg hp hv hb hne hm ha h1
      have := ih a1 q1 a' q' c.1 c.2 h (by
        by_cases hme : (m : Int) ≤ wu_dg v a
        · have := g.2.1 hme; omega
        · have := g.1; omega)
      exact ⟨this.1, fun u hu huv hua hub => this.2 u hu huv (g.2.2 u hu huv hua hub) hub⟩
theorem wu_dv_dg {p v : Nat} {b a q a' q' : wu_P} {w : Bool} (hp : 2 ≤ p) (hv : v < 6) (hb : wu_Cp p b) (hne : b ≠ []) (ha : wu_Cp p a) (hq : wu_Cp p q) (h : wu_dv p v b w a q = some (a', q')) :
    wu_dg v a' < wu_dg v b ∧ (∀ u, u < 6 → u ≠ v → wu_dg u a ≤ 0 → wu_dg u b ≤ 0 → wu_dg u a' ≤ 0) := by
  have h0 := wu_dg_ne (v := v) hne
  have e : wu_dg v b = ((wu_dg v b).toNat : Int) := by omega
  have := wu_rds_dg hp hv hb hne e (wu_kk v a b) a q a' q' ha hq h (by unfold wu_kk; omega)
  exact ⟨by omega, this.2⟩
/-! what Y adds is what X adds -/
theorem wu_sh0 (I : wu_P) : wu_sh 0 I = I := by
  unfold wu_sh
  rw [show (fun i : Nat × Nat => (i.1 + 0, i.2)) = id from rfl, List.map_id]
theorem wu_sh_pt {p v e m : Nat} {L : wu_P} (hv : v < 6) (hL : wu_Ok p L) (hm : m ≤ e) : wu_sh ((e - m) * 32 ^ v) (wu_pt v e (e * 32 ^ v) L) = wu_pt v e (m * 32 ^ v) L := by
  unfold wu_sh wu_pt
  rw [List.map_map]
  apply List.map_congr_left
  intro t ht
  rw [List.mem_filter, decide_eq_true_eq] at ht
  have h1 := (wu_down hv ht.2 (Nat.le_refl _) (hL.2.2 t ht.1).2.2).1
  have h2 : (e - m) * 32 ^ v = e * 32 ^ v - m * 32 ^ v := Nat.sub_mul _ _ _
  have h3 : m * 32 ^ v ≤ e * 32 ^ v := Nat.mul_le_mul_right _ hm
  show (t.1 - e * 32 ^ v + (e - m) * 32 ^ v, t.2) = (t.1 - m * 32 ^ v, t.2)
  rw [show t.1 - e * 32 ^ v + (e - m) * 32 ^ v = t.1 - m * 32 ^ v by omega]
