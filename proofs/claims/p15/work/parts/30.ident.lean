/-! the identity of pseudo-division, on formal sums mod p -/
def wu_L (φ : Nat → Nat) (A : wu_P) : Nat := wu_s1 (fun a => a.2 * φ a.1) A
theorem wu_L_app (φ : Nat → Nat) (A B : wu_P) : wu_L φ (A ++ B) = wu_L φ A + wu_L φ B := wu_s1_app _ A B
theorem wu_L_cons (φ : Nat → Nat) (t : Nat × Nat) (A : wu_P) : wu_L φ (t :: A) = t.2 * φ t.1 + wu_L φ A := rfl
theorem wu_L_cf (A : wu_P) (x : Nat) : wu_L (fun y => if y = x then 1 else 0) A = wu_cf A x := by
  induction A with
  | nil => rfl
  | cons t A ih =>
    rw [wu_L_cons, wu_cf, ih]
    by_cases h : t.1 = x
    · simp [h]
    · simp [h]
theorem wu_Eq_of_L {p : Nat} {A B : wu_P} (h : ∀ φ, wu_L φ A % p = wu_L φ B % p) : wu_Eq p A B := by
  intro x
  rw [← wu_L_cf, ← wu_L_cf]
  exact h _
def wu_sr (g : Nat → Nat) : Nat → Nat
  | 0 => 0
  | n + 1 => wu_sr g n + g n
theorem wu_sr_add (g h : Nat → Nat) (n : Nat) : wu_sr (fun x => g x + h x) n = wu_sr g n + wu_sr h n := by
  induction n with
  | zero => rfl
  | succ n ih => rw [wu_sr, wu_sr, wu_sr, ih]; omega
theorem wu_sr_0 {g : Nat → Nat} (n : Nat) (h : ∀ x, x < n → g x = 0) : wu_sr g n = 0 := by
  induction n with
  | zero => rfl
  | succ n ih => rw [wu_sr, ih (fun x hx => h x (by omega)), h n (by omega)]
theorem wu_sr_1 {g : Nat → Nat} {a : Nat} (n : Nat) (ha : a < n) (h : ∀ x, x ≠ a → g x = 0) : wu_sr g n = g a := by
  induction n with
  | zero => exact absurd ha (Nat.not_lt_zero a)
  | succ n ih =>
    rw [wu_sr]
    by_cases e : a = n
    · subst e
      rw [wu_sr_0 a (fun x hx => h x (by omega)), Nat.zero_add]
    · rw [ih (by omega), h n (fun z => e z.symm), Nat.add_zero]
theorem wu_sr_mod {p : Nat} {g h : Nat → Nat} (n : Nat) (e : ∀ x, g x % p = h x % p) : wu_sr g n % p = wu_sr h n % p := by
  induction n with
  | zero => rfl
  | succ n ih => rw [wu_sr, wu_sr, Nat.add_mod, ih, e n, ← Nat.add_mod]
theorem wu_L_sr (φ : Nat → Nat) (N : Nat) : ∀ A : wu_P, (∀ t, t ∈ A → t.1 < N) → wu_L φ A = wu_sr (fun x => wu_cf A x * φ x) N := by
  intro A
  induction A with
  | nil => intro _; exact (wu_sr_0 N (fun x _ => Nat.zero_mul _)).symm
  | cons t A ih =>
    intro h
    rw [wu_L_cons, ih (fun s hs => h s (List.mem_cons_of_mem _ hs))]
    have e : (fun x => wu_cf (t :: A) x * φ x) = (fun x => (if t.1 = x then t.2 else 0) * φ x + wu_cf A x * φ x) := by
      funext x; rw [wu_cf, Nat.add_mul]
    have e1 : wu_sr (fun x => (if t.1 = x then t.2 else 0) * φ x) N = t.2 * φ t.1 := by
      have := wu_sr_1 (g := fun x => (if t.1 = x then t.2 else 0) * φ x) (a := t.1) N (h t List.mem_cons_self) (fun x hx => by rw [if_neg (fun z => hx z.symm), Nat.zero_mul])
      rw [this, if_pos rfl]
    rw [e, wu_sr_add, e1]
theorem wu_bound : ∀ A : wu_P, ∃ N, ∀ t, t ∈ A → t.1 < N := by
  intro A
  induction A with
  | nil => exact ⟨0, fun _ h => absurd h List.not_mem_nil⟩
  | cons a A ih =>
    obtain ⟨N, h⟩ := ih
    refine ⟨N + a.1 + 1, fun t ht => ?_⟩
    rcases List.mem_cons.mp ht with rfl | ht
    · omega
    · have := h t ht; omega
theorem wu_L_of_Eq {p : Nat} {A B : wu_P} (h : wu_Eq p A B) (φ : Nat → Nat) : wu_L φ A % p = wu_L φ B % p := by
  obtain ⟨N, hN⟩ := wu_bound A
  obtain ⟨M, hM⟩ := wu_bound B
  rw [wu_L_sr φ (N + M) A (fun t ht => by have := hN t ht; omega), wu_L_sr φ (N + M) B (fun t ht => by have := hM t ht; omega)]
  refine wu_sr_mod _ (fun x => ?_)
  rw [Nat.mul_mod, h x, ← Nat.mul_mod]
theorem wu_L_congr {p : Nat} {φ ψ : Nat → Nat} (h : ∀ x, φ x % p = ψ x % p) (A : wu_P) : wu_L φ A % p = wu_L ψ A % p := by
  induction A with
  | nil => rfl
  | cons t A ih =>
    rw [wu_L_cons, wu_L_cons, Nat.add_mod, ih, Nat.mul_mod, h t.1, ← Nat.mul_mod, ← Nat.add_mod]
theorem wu_L_add (φ ψ : Nat → Nat) (A : wu_P) : wu_L (fun x => φ x + ψ x) A = wu_L φ A + wu_L ψ A := by
  induction A with
  | nil => rfl
  | cons t A ih => rw [wu_L_cons, wu_L_cons, wu_L_cons, ih, Nat.mul_add]; omega
theorem wu_L_map1 (p k ic : Nat) (φ : Nat → Nat) (B : wu_P) : wu_L φ (B.map (fun t => (ic + t.1, k % p * t.2 % p))) % p = (k * wu_L (fun y => φ (ic + y)) B) % p := by
  induction B with
  | nil => rfl
  | cons t B ih =>
    rw [List.map_cons, wu_L_cons, wu_L_cons, Nat.add_mod, ih, ← Nat.add_mod, Nat.mul_add]
    rw [Nat.add_mod, Nat.mod_mul_mod, Nat.mul_assoc, Nat.mod_mul_mod, ← Nat.add_mod]
theorem wu_L_mul (p sc : Nat) (φ : Nat → Nat) (A B : wu_P) : wu_L φ (wu_mul p sc A B) % p = (sc * wu_L (fun x => wu_L (fun y => φ (x + y)) B) A) % p := by
  induction A with
  | nil => rfl
  | cons i A ih =>
    rw [wu_mul_cons, wu_L_app, Nat.add_mod, ih, wu_L_map1, ← Nat.add_mod, wu_L_cons, Nat.mul_add]
    refine congrArg (· % p) ?_
    rw [Nat.mul_comm i.2 sc, Nat.mul_assoc]
theorem wu_M_L (p : Nat) (φ : Nat → Nat) (A B : wu_P) : wu_L φ (wu_mul p 1 A B) % p = wu_L (fun x => wu_L (fun y => φ (x + y)) B) A % p := by
  rw [wu_L_mul, Nat.one_mul]
theorem wu_M_congr {p : Nat} {A A' B B' : wu_P} (h : wu_Eq p A A') (h' : wu_Eq p B B') : wu_Eq p (wu_mul p 1 A B) (wu_mul p 1 A' B') := by
  refine wu_Eq_of_L (fun φ => ?_)
  rw [wu_M_L, wu_M_L, wu_L_congr (fun x => wu_L_of_Eq h' (fun y => φ (x + y))) A]
  exact wu_L_of_Eq h _
theorem wu_M_assoc (p : Nat) (A B C : wu_P) : wu_Eq p (wu_mul p 1 A (wu_mul p 1 B C)) (wu_mul p 1 (wu_mul p 1 A B) C) := by
  refine wu_Eq_of_L (fun φ => ?_)
  rw [wu_M_L, wu_M_L, wu_M_L, wu_L_congr (fun x => wu_M_L p (fun y => φ (x + y)) B C) A]
  refine wu_L_congr (fun x => wu_L_congr (fun y => wu_L_congr (fun z => ?_) C) B) A
  rw [Nat.add_assoc]
theorem wu_M_addr (p : Nat) (A B C : wu_P) : wu_Eq p (wu_mul p 1 A (B ++ C)) (wu_mul p 1 A B ++ wu_mul p 1 A C) := by
  refine wu_Eq_of_L (fun φ => ?_)
  rw [wu_M_L, wu_L_app, Nat.add_mod, wu_M_L, wu_M_L, ← Nat.add_mod, ← wu_L_add]
  refine wu_L_congr (fun x => ?_) A
  rw [wu_L_app]
theorem wu_M_addl (p sc : Nat) (A B C : wu_P) : wu_mul p sc (A ++ B) C = wu_mul p sc A C ++ wu_mul p sc B C := by
  induction A with
  | nil => rfl
  | cons a A ih => rw [List.cons_append, wu_mul_cons, wu_mul_cons, ih, List.append_assoc]
theorem wu_M_neg {p : Nat} (hp : 2 ≤ p) (A B : wu_P) : wu_Eq p (wu_mul p 1 A B ++ wu_mul p (p - 1) A B) [] := by
  refine wu_Eq_of_L (fun φ => ?_)
  rw [wu_L_app, Nat.add_mod, wu_L_mul, wu_L_mul, ← Nat.add_mod, ← Nat.add_mul, show 1 + (p - 1) = p by omega, Nat.mul_mod_right]
  exact (Nat.zero_mod p).symm
/-! powers -/
def wu_pw (p : Nat) (I : wu_P) : Nat → wu_P → wu_P
  | 0, A => A
  | n + 1, A => wu_pw p I n (wu_mul p 1 I A)
theorem wu_Eq_refl {p : Nat} (A : wu_P) : wu_Eq p A A := fun _ => rfl
theorem wu_pw_congr {p : Nat} {I : wu_P} : ∀ (n : Nat) (A B : wu_P), wu_Eq p A B → wu_Eq p (wu_pw p I n A) (wu_pw p I n B) := by
  intro n
  induction n with
  | zero => intro A B h; exact h
  | succ n ih => intro A B h; exact ih _ _ (wu_M_congr (wu_Eq_refl I) h)
theorem wu_pw_app {p : Nat} {I : wu_P} : ∀ (n : Nat) (A B : wu_P), wu_Eq p (wu_pw p I n (A ++ B)) (wu_pw p I n A ++ wu_pw p I n B) := by
  intro n
  induction n with
  | zero => intro A B; exact wu_Eq_refl _
  | succ n ih => intro A B; exact wu_Eq_trans (wu_pw_congr n _ _ (wu_M_addr p I A B)) (ih _ _)
theorem wu_pw_M {p : Nat} {I : wu_P} (C : wu_P) : ∀ (n : Nat) (A : wu_P), wu_Eq p (wu_pw p I n (wu_mul p 1 A C)) (wu_mul p 1 (wu_pw p I n A) C) := by
  intro n
  induction n with
  | zero => intro A; exact wu_Eq_refl _
  | succ n ih => intro A; exact wu_Eq_trans (wu_pw_congr n _ _ (wu_M_assoc p I A C)) (ih _)
theorem wu_pw_nil {p : Nat} {I : wu_P} : ∀ n : Nat, wu_pw p I n [] = [] := by
  intro n
  induction n with
  | zero => rfl
  | succ n ih => rw [wu_pw, wu_mul_nil]; exact ih
theorem wu_mi_pw {p : Nat} {I : wu_P} (hp : 2 ≤ p) (cI : wu_Cp p I) : ∀ (n : Nat) (L L' : wu_P), wu_Cp p L → wu_mi p I n L = some L' → wu_Eq p (wu_pw p I n L) L' := by
  intro n
  induction n with
  | zero => intro L L' _ h; rw [← Option.some.inj h]; exact wu_Eq_refl _
  | succ n ih =>
    intro L L' cL h
    cases e : wu_st p (wu_mul p 1 I L) with
    | none => rw [wu_mi_n e] at h; exact absurd h (by simp)
    | some L1 =>
      rw [wu_mi_s e] at h
      have g := wu_st_sp (wu_mul_Ad (by omega) cI.2 cL.2) e
      exact wu_Eq_trans (wu_pw_congr n _ _ g.2) (ih L1 L' g.1 h)
/-! one round, all rounds -/
theorem wu_rd_id {p v m : Nat} {I b a q a' q' : wu_P} (hp : 2 ≤ p) (hv : v < 6) (cI : wu_Cp p I) (cb : wu_Cp p b) (ca : wu_Cp p a) (cq : wu_Cp p q) (h : wu_rd p v m I b true a q = some (a', q')) :
    wu_Eq p (wu_mul p 1 I (wu_mul p 1 q b ++ a)) (wu_mul p 1 q' b ++ a') := by
  obtain ⟨h1, h2⟩ := wu_rd_i h
  have cl := wu_ld_Cp (m := m) hv ca
  have e1 := (wu_st_sp (wu_Ad_app (wu_mul_Ad (by omega) cI.2 ca.2) (wu_mul_Ad (by omega) cl.2 cb.2)) h1).2
  rcases h2 with ⟨_, h2⟩ | ⟨z, _⟩
  · have e2 := (wu_st_sp (wu_Ad_app (wu_mul_Ad (by omega) cI.2 cq.2) (wu_Ok_Ad cl.2)) h2).2
    have r1 : wu_Eq p (wu_mul p 1 I (wu_mul p 1 q b ++ a)) (wu_mul p 1 (wu_mul p 1 I q) b ++ wu_mul p 1 I a) :=
      wu_Eq_trans (wu_M_addr p I _ a) (wu_Eq_app (wu_M_assoc p I q b) (wu_Eq_refl _))
    have r2 : wu_Eq p (wu_mul p 1 q' b ++ a') (wu_mul p 1 (wu_mul p 1 I q ++ wu_ld v m a) b ++ (wu_mul p 1 I a ++ wu_mul p (p - 1) (wu_ld v m a) b)) :=
      wu_Eq_app (wu_M_congr (wu_Eq_symm e2) (wu_Eq_refl b)) (wu_Eq_symm e1)
    refine wu_Eq_trans r1 (wu_Eq_symm (wu_Eq_trans r2 ?_))
    rw [wu_M_addl]
    intro x
    have c := wu_M_neg hp (wu_ld v m a) b x
    rw [wu_cf_app] at c
    rw [wu_cf_app, wu_cf_app, wu_cf_app, wu_cf_app]
    have s : wu_cf (wu_mul p 1 (wu_mul p 1 I q) b) x + wu_cf (wu_mul p 1 (wu_ld v m a) b) x + (wu_cf (wu_mul p 1 I a) x + wu_cf (wu_mul p (p - 1) (wu_ld v m a) b) x) = (wu_cf (wu_mul p 1 (wu_mul p 1 I q) b) x + wu_cf (wu_mul p 1 I a) x) + (wu_cf (wu_mul p 1 (wu_ld v m a) b) x + wu_cf (wu_mul p (p - 1) (wu_ld v m a) b) x) := by omega
    rw [s, Nat.add_mod, c]
    show (_ % p + (0 % p)) % p = _
    rw [Nat.zero_mod, Nat.add_zero, Nat.mod_mod]
  · exact absurd z (by decide)
theorem wu_rds_id {p v m : Nat} {I b : wu_P} (hp : 2 ≤ p) (hv : v < 6) (cI : wu_Cp p I) (cb : wu_Cp p b) : ∀ (n : Nat) (a q a' q' : wu_P), wu_Cp p a → wu_Cp p q → wu_rds p v m I b true n a q = some (a', q') → wu_Eq p (wu_pw p I n (wu_mul p 1 q b ++ a)) (wu_mul p 1 q' b ++ a') := by
  intro n
  induction n with
  | zero =>
    intro a q a' q' ca cq h
    rw [wu_rds] at h
    have := Prod.mk.inj (Option.some.inj h)
    rw [← this.1, ← this.2]
    exact wu_Eq_refl _
  | succ n ih =>
    intro a q a' q' ca cq h
    cases h1 : wu_rd p v m I b true a q with
    | none => rw [wu_rds_n h1] at h; exact absurd h (by simp)
    | some r =>
      obtain ⟨a1, q1⟩ := r
      rw [wu_rds_s h1] at h
      have c := wu_rd_Cp hp hv cI cb ca cq h1
      exact wu_Eq_trans (wu_pw_congr n _ _ (wu_rd_id hp hv cI cb ca cq h1)) (ih a1 q1 a' q' c.1 c.2 h)
theorem wu_dv_id {p v : Nat} {b a a' q' : wu_P} (hp : 2 ≤ p) (hv : v < 6) (cb : wu_Cp p b) (ca : wu_Cp p a) (h : wu_dv p v b true a [] = some (a', q')) : wu_Eq p (wu_pw p (wu_in v b) (wu_kk v a b) a) (wu_mul p 1 q' b ++ a') := by
  have := wu_rds_id hp hv (wu_in_Cp hv cb) cb (wu_kk v a b) a [] a' q' ca wu_Cp_nil h
  exact this
theorem wu_ra_id {p k v : Nat} {I : wu_P} (hp : 2 ≤ p) (cI : wu_Cp p I) : ∀ (d : Nat) (Q Q' : Nat → wu_P), v + d < 6 → (∀ u, u < 6 → wu_Cp p (Q u)) → wu_ra p I k v d Q = some Q' → (∀ u, v < u → u ≤ v + d → wu_Eq p (wu_pw p I k (Q u)) (Q' u)) ∧ (∀ u, (u ≤ v ∨ v + d < u) → Q' u = Q u) ∧ (∀ u, u < 6 → wu_Cp p (Q' u)) := by
  intro d
  induction d with
  | zero =>
    intro Q Q' _ cQ h
    rw [← Option.some.inj h]
    exact ⟨fun u h1 h2 => absurd h1 (by omega), fun _ _ => rfl, cQ⟩
  | succ d ih =>
    intro Q Q' hd cQ h
    cases e : wu_mi p I k (Q (v + (d + 1))) with
    | none => rw [wu_ra_n e] at h; exact absurd h (by simp)
    | some L =>
      rw [wu_ra_s e] at h
      have eL := wu_mi_pw hp cI k _ L (cQ _ (by omega)) e
      have cL := wu_mi_Cp hp cI k _ L (cQ _ (by omega)) e
      have cQ1 : ∀ u, u < 6 → wu_Cp p (wu_up Q (v + (d + 1)) L u) := by
        intro u hu
        by_cases z : u = v + (d + 1)
        · rw [z, wu_up_s]; exact cL
        · rw [wu_up_n z]; exact cQ u hu
      obtain ⟨g1, g2, g3⟩ := ih _ Q' (by omega) cQ1 h
      refine ⟨fun u h1 h2 => ?_, fun u hu => ?_, g3⟩
      · by_cases z : u = v + (d + 1)
        · rw [z, g2 _ (by omega), wu_up_s]; exact eL
        · have := g1 u h1 (by omega)
          rw [wu_up_n z] at this
          exact this
      · rw [g2 u (by omega), wu_up_n (by omega)]
/-! the sum of the quotients times the chain -/
def wu_sg (p : Nat) (C Q : Nat → wu_P) : Nat → Nat → wu_P
  | 0, _ => []
  | n + 1, v => wu_mul p 1 (Q v) (C v) ++ wu_sg p C Q n (v + 1)
theorem wu_sg_pw {p k : Nat} {I : wu_P} {C Q Q1 : Nat → wu_P} : ∀ (n v : Nat), (∀ u, v ≤ u → u < v + n → wu_Eq p (wu_pw p I k (Q u)) (Q1 u)) → wu_Eq p (wu_pw p I k (wu_sg p C Q n v)) (wu_sg p C Q1 n v) := by
  intro n
  induction n with
  | zero => intro v _; show wu_Eq p (wu_pw p I k []) []; rw [wu_pw_nil]; exact wu_Eq_refl _
  | succ n ih =>
    intro v h
    refine wu_Eq_trans (wu_pw_app k _ _) (wu_Eq_app ?_ (ih (v + 1) (fun u h1 h2 => h u (by omega) (by omega))))
    exact wu_Eq_trans (wu_pw_M (C v) k (Q v)) (wu_M_congr (h v (Nat.le_refl v) (by omega)) (wu_Eq_refl _))
theorem wu_sg_snoc {p : Nat} {C Q : Nat → wu_P} : ∀ (n v : Nat), wu_Eq p (wu_sg p C Q (n + 1) v) (wu_sg p C Q n v ++ wu_mul p 1 (Q (v + n)) (C (v + n))) := by
  intro n
  induction n with
  | zero => intro v; show wu_Eq p (wu_mul p 1 (Q v) (C v) ++ []) ([] ++ wu_mul p 1 (Q v) (C v)); rw [List.append_nil, List.nil_append]; exact wu_Eq_refl _
  | succ n ih =>
    intro v
    have := wu_Eq_app (wu_Eq_refl (p := p) (wu_mul p 1 (Q v) (C v))) (ih (v + 1))
    rw [show v + 1 + n = v + (n + 1) by omega, ← List.append_assoc] at this
    exact this
def wu_lf (p : Nat) (C : Nat → wu_P) (K : Nat → Int) : Nat → wu_P → wu_P
  | 0, L => L
  | v + 1, L => if (C v).length = 0 then wu_lf p C K v L else wu_lf p C K v (wu_pw p (wu_in v (C v)) (K v).toNat L)
theorem wu_lf_congr {p : Nat} {C : Nat → wu_P} {K : Nat → Int} : ∀ (v : Nat) (A B : wu_P), wu_Eq p A B → wu_Eq p (wu_lf p C K v A) (wu_lf p C K v B) := by
  intro v
  induction v with
  | zero => intro A B h; exact h
  | succ v ih =>
    intro A B h
    rw [wu_lf, wu_lf]
    by_cases z : (C v).length = 0
    · rw [if_pos z, if_pos z]; exact ih A B h
    · rw [if_neg z, if_neg z]; exact ih _ _ (wu_pw_congr _ _ _ h)
theorem wu_le_lf {p : Nat} {C : Nat → wu_P} {K : Nat → Int} (hp : 2 ≤ p) (cC : ∀ u, u < 6 → wu_Cp p (C u)) : ∀ (v : Nat) (L L' : wu_P), v ≤ 6 → wu_Cp p L → wu_le p C K v L = some L' → wu_Eq p (wu_lf p C K v L) L' ∧ wu_Cp p L' := by
  intro v
  induction v with
  | zero => intro L L' _ cL h; rw [← Option.some.inj h]; exact ⟨wu_Eq_refl _, cL⟩
  | succ v ih =>
    intro L L' hv cL h
    rw [wu_lf]
    by_cases z : (C v).length = 0
    · rw [wu_le_z z] at h
      rw [if_pos z]
      exact ih L L' (by omega) cL h
    · rw [if_neg z]
      cases e : wu_mi p (wu_in v (C v)) (K v).toNat L with
      | none => rw [wu_le_n z e] at h; exact absurd h (by simp)
      | some L1 =>
        rw [wu_le_s z e] at h
        have cI := wu_in_Cp (show v < 6 by omega) (cC v (by omega))
        have g := ih L1 L' (by omega) (wu_mi_Cp hp cI _ _ _ cL e) h
        exact ⟨wu_Eq_trans (wu_lf_congr v _ _ (wu_mi_pw hp cI _ _ _ cL e)) g.1, g.2⟩
theorem wu_ri_sg {p : Nat} {C Q : Nat → wu_P} (hp : 2 ≤ p) (cC : ∀ u, u < 6 → wu_Cp p (C u)) (cQ : ∀ u, u < 6 → wu_Cp p (Q u)) : ∀ (v : Nat) (R S : wu_P), v ≤ 6 → wu_Cp p R → wu_ri p C Q v R = some S → wu_Eq p (R ++ wu_sg p C Q v 0) S ∧ wu_Cp p S := by
  intro v
  induction v with
  | zero => intro R S _ cR h; rw [← Option.some.inj h]; exact ⟨by show wu_Eq p (R ++ []) R; rw [List.append_nil]; exact wu_Eq_refl _, cR⟩
  | succ v ih =>
    intro R S hv cR h
    cases e : wu_st p (R ++ wu_mul p 1 (Q v) (C v)) with
    | none => rw [wu_ri_n e] at h; exact absurd h (by simp)
    | some R1 =>
      rw [wu_ri_s e] at h
      have g := wu_st_sp (wu_Ad_app (wu_Ok_Ad cR.2) (wu_mul_Ad (by omega) (cQ v (by omega)).2 (cC v (by omega)).2)) e
      have g2 := ih R1 S (by omega) g.1 h
      refine ⟨wu_Eq_trans ?_ g2.1, g2.2⟩
      have s := wu_Eq_app (wu_Eq_refl (p := p) R) (wu_sg_snoc (p := p) (C := C) (Q := Q) v 0)
      rw [Nat.zero_add] at s
      refine wu_Eq_trans s ?_
      refine wu_Eq_trans (wu_Eq_perm ?_) (wu_Eq_app g.2 (wu_Eq_refl (p := p) (wu_sg p C Q v 0)))
      rw [List.append_assoc]
      exact List.Perm.append_left R List.perm_append_comm
theorem wu_re_id {p nv : Nat} {C : Nat → wu_P} (hp : 2 ≤ p) (hnv : nv ≤ 6) (cC : ∀ u, u < 6 → wu_Cp p (C u)) : ∀ (v : Nat) (R : wu_P) (Q : Nat → wu_P) (K : Nat → Int) (R' : wu_P) (Q' : Nat → wu_P) (K' : Nat → Int), v ≤ nv → wu_Cp p R → (∀ u, u < 6 → wu_Cp p (Q u)) → wu_re p nv C v R Q K = some (R', Q', K') →
    (∀ u, v ≤ u → K' u = K u) ∧ ∀ H, wu_Eq p H (R ++ wu_sg p C Q (nv - v) v) → wu_Eq p (wu_lf p C K' v H) (R' ++ wu_sg p C Q' nv 0) := by
  intro v
  induction v with
  | zero =>
    intro R Q K R' Q' K' _ cR cQ h
    have e := Prod.mk.inj (Option.some.inj h)
    have e2 := Prod.mk.inj e.2
    rw [← e.1, ← e2.1, ← e2.2]
    exact ⟨fun _ _ => rfl, fun H h => h⟩
  | succ v ih =>
    intro R Q K R' Q' K' hv cR cQ h
    have hv6 : v < 6 := by omega
    have en : nv - v = (nv - (v + 1)) + 1 := by omega
    by_cases z : (C v).length = 0
    · rw [wu_re_z z] at h
      obtain ⟨g1, g2⟩ := ih R Q K R' Q' K' (by omega) cR cQ h
      refine ⟨fun u hu => g1 u (by omega), fun H hH => ?_⟩
      rw [wu_lf, if_pos z]
      refine g2 H ?_
      have z' : C v = [] := List.length_eq_zero_iff.mp z
      rw [en]
      show wu_Eq p H (R ++ (wu_mul p 1 (Q v) (C v) ++ wu_sg p C Q (nv - (v + 1)) (v + 1)))
      rw [z', wu_mul_nil, List.nil_append]
      exact hH
    · cases ed : wu_dv p v (C v) true R [] with
      | none => rw [wu_re_n1 z ed] at h; exact absurd h (by simp)
      | some r =>
        obtain ⟨R1, q⟩ := r
        have cc := wu_dv_Cp hp hv6 (cC v hv6) cR wu_Cp_nil ed
        cases er : wu_ra p (wu_in v (C v)) (wu_kk v R (C v)) v (nv - 1 - v) (wu_up Q v q) with
        | none => rw [wu_re_n2 z ed er] at h; exact absurd h (by simp)
        | some Q1 =>
          rw [wu_re_s z ed er] at h
          have cQu : ∀ u, u < 6 → wu_Cp p (wu_up Q v q u) := by
            intro u hu
            by_cases y : u = v
            · rw [y, wu_up_s]; exact cc.2
            · rw [wu_up_n y]; exact cQ u hu
          have cI := wu_in_Cp hv6 (cC v hv6)
          obtain ⟨a1, a2, a3⟩ := wu_ra_id hp cI (nv - 1 - v) (wu_up Q v q) Q1 (by omega) cQu er
          obtain ⟨g1, g2⟩ := ih R1 Q1 _ R' Q' K' (by omega) cc.1 a3 h
          have eK : K' v = (wu_kk v R (C v) : Int) := by rw [g1 v (Nat.le_refl v)]; exact if_pos rfl
          refine ⟨fun u hu => by rw [g1 u (by omega)]; exact if_neg (by omega), fun H hH => ?_⟩
          rw [wu_lf, if_neg z, eK, Int.toNat_natCast]
          refine g2 _ ?_
          have s1 := wu_Eq_trans (wu_pw_congr (I := wu_in v (C v)) (wu_kk v R (C v)) _ _ hH) (wu_pw_app (wu_kk v R (C v)) R (wu_sg p C Q (nv - (v + 1)) (v + 1)))
          have s2 := wu_dv_id hp hv6 (cC v hv6) cR ed
          have s3 : wu_Eq p (wu_pw p (wu_in v (C v)) (wu_kk v R (C v)) (wu_sg p C Q (nv - (v + 1)) (v + 1))) (wu_sg p C Q1 (nv - (v + 1)) (v + 1)) := by
            refine wu_sg_pw (nv - (v + 1)) (v + 1) (fun u h1 h2 => ?_)
            have := a1 u (by omega) (by omega)
            rw [wu_up_n (by omega)] at this
            exact this
          have eq1 : Q1 v = q := by rw [a2 v (by omega), wu_up_s]
          rw [en]
          show wu_Eq p _ (R1 ++ (wu_mul p 1 (Q1 v) (C v) ++ wu_sg p C Q1 (nv - (v + 1)) (v + 1)))
          rw [eq1]
          refine wu_Eq_trans s1 (wu_Eq_trans (wu_Eq_app s2 s3) (wu_Eq_perm ?_))
          rw [← List.append_assoc]
          exact List.Perm.append_right _ List.perm_append_comm
/-- check never answers CHECK_BAD on the results of prove -/
theorem wu_good {p nv : Nat} {C Q : Nat → wu_P} {K : Nat → Int} {G R : wu_P} (hp : 2 ≤ p) (hnv : nv ≤ 6) (cC : ∀ u, u < 6 → wu_Cp p (C u)) (cQ : ∀ u, u < 6 → wu_Cp p (Q u)) (cG : wu_Cp p G) (cR : wu_Cp p R) (h : wu_re p nv C nv G (fun _ => []) (fun _ => -1) = some (R, Q, K)) : wu_ch p nv C Q K G R = 1 ∨ wu_ch p nv C Q K G R = 3 := by
  have id := (wu_re_id hp hnv cC nv G (fun _ => []) (fun _ => -1) R Q K (Nat.le_refl _) cG (fun _ _ => wu_Cp_nil) h).2 G (by
    rw [Nat.sub_self]
    show wu_Eq p G (G ++ [])
    rw [List.append_nil]; exact wu_Eq_refl _)
  cases el : wu_le p C K nv G with
  | none => exact Or.inr (wu_ch_n1 el)
  | some L =>
    cases er : wu_ri p C Q nv R with
    | none => exact Or.inr (wu_ch_n2 el er)
    | some S =>
      have hl := wu_le_lf hp cC nv G L hnv cG el
      have hr := wu_ri_sg hp cC cQ nv R S hnv cR er
      have e : wu_Eq p L S := wu_Eq_trans (wu_Eq_symm hl.1) (wu_Eq_trans id hr.1)
      refine Or.inl (wu_ch_1 el er ?_)
      have nL : wu_NF p L L := ⟨hl.2.2.2.1, fun t ht => ⟨(hl.2.2.2.2 t ht).1, (hl.2.2.2.2 t ht).2.1⟩, wu_Eq_refl _⟩
      have nS : wu_NF p S S := ⟨hr.2.2.2.1, fun t ht => ⟨(hr.2.2.2.2 t ht).1, (hr.2.2.2.2 t ht).2.1⟩, wu_Eq_refl _⟩
      exact wu_Srt_eq hl.2.1 hr.2.1 (wu_NF_perm nL nS e)
