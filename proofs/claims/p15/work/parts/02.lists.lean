/-! polynomials as lists of (code, coefficient); how arrays hold them -/
abbrev wu_P : Type := List (Nat × Nat)
def wu_At (d f : Nat → Int32) : Nat → wu_P → Prop
  | _, [] => True
  | b, t :: L => d b = nI t.1 ∧ f b = nI t.2 ∧ wu_At d f (b + 1) L
theorem wu_snoc (L : wu_P) : L = [] ∨ ∃ M t, L = M ++ [t] := by
  induction L with
  | nil => exact Or.inl rfl
  | cons a L ih =>
    rcases ih with rfl | ⟨M, t, rfl⟩
    · exact Or.inr ⟨[], a, rfl⟩
    · exact Or.inr ⟨a :: M, t, rfl⟩
theorem wu_At_app {d f : Nat → Int32} : ∀ (L M : wu_P) (b : Nat), wu_At d f b (L ++ M) ↔ wu_At d f b L ∧ wu_At d f (b + L.length) M := by
  intro L
  induction L with
  | nil => intro M b; simp [wu_At]
  | cons t L ih =>
    intro M b
    have e : b + (t :: L).length = b + 1 + L.length := by simp only [List.length_cons]; omega
    rw [e]
    show (d b = nI t.1 ∧ f b = nI t.2 ∧ wu_At d f (b + 1) (L ++ M)) ↔ (d b = nI t.1 ∧ f b = nI t.2 ∧ wu_At d f (b + 1) L) ∧ _
    rw [ih M (b + 1)]
    constructor
    · rintro ⟨h1, h2, h3, h4⟩; exact ⟨⟨h1, h2, h3⟩, h4⟩
    · rintro ⟨⟨h1, h2, h3⟩, h4⟩; exact ⟨h1, h2, h3, h4⟩
theorem wu_At_congr {d f d' f' : Nat → Int32} : ∀ (L : wu_P) (b : Nat), (∀ i, b ≤ i → i < b + L.length → d' i = d i ∧ f' i = f i) → wu_At d f b L → wu_At d' f' b L := by
  intro L
  induction L with
  | nil => intro b _ _; exact trivial
  | cons t L ih =>
    intro b h ⟨h1, h2, h3⟩
    have h0 := h b (Nat.le_refl b) (by simp only [List.length_cons]; omega)
    exact ⟨h0.1.trans h1, h0.2.trans h2, ih (b + 1) (fun i hi hi' => h i (by omega) (by simp only [List.length_cons]; omega)) h3⟩
theorem wu_At_get {d f : Nat → Int32} : ∀ (L : wu_P) (b j : Nat) (hj : j < L.length), wu_At d f b L → d (b + j) = nI (L[j]'hj).1 ∧ f (b + j) = nI (L[j]'hj).2 := by
  intro L
  induction L with
  | nil => intro b j hj; exact absurd hj (Nat.not_lt_zero j)
  | cons t L ih =>
    intro b j hj ⟨h1, h2, h3⟩
    cases j with
    | zero => exact ⟨h1, h2⟩
    | succ j =>
      have hj' : j < L.length := by simp only [List.length_cons] at hj; omega
      have := ih (b + 1) j hj' h3
      rw [show b + (j + 1) = b + 1 + j by omega]
      exact this
theorem wu_At_of {d f : Nat → Int32} : ∀ (L : wu_P) (b : Nat), (∀ j (hj : j < L.length), d (b + j) = nI (L[j]'hj).1 ∧ f (b + j) = nI (L[j]'hj).2) → wu_At d f b L := by
  intro L
  induction L with
  | nil => intro b _; exact trivial
  | cons t L ih =>
    intro b h
    refine ⟨(h 0 (by simp)).1, (h 0 (by simp)).2, ih (b + 1) (fun j hj => ?_)⟩
    have := h (j + 1) (by simp only [List.length_cons]; omega)
    rw [show b + (j + 1) = b + 1 + j by omega] at this
    exact this
theorem wu_At_snoc {d f : Nat → Int32} {L : wu_P} {t : Nat × Nat} {b : Nat} (h : wu_At d f b L) : wu_At (upd d (b + L.length) (nI t.1)) (upd f (b + L.length) (nI t.2)) b (L ++ [t]) := by
  refine (wu_At_app L [t] b).mpr ⟨wu_At_congr L b (fun i _ hi => ⟨pk_un (by omega), pk_un (by omega)⟩) h, pk_us, pk_us, trivial⟩
/-- slot s holds L -/
def wu_Ho (c d f : Nat → Int32) (s : Nat) (L : wu_P) : Prop := c s = nI L.length ∧ wu_At d f (s * 16) L
/-- slots outside Q are as they were -/
def wu_Fr (Q : Nat → Prop) (c d f c' d' f' : Nat → Int32) : Prop := ∀ s, ¬ Q s → c' s = c s ∧ ∀ j, j < 16 → d' (s * 16 + j) = d (s * 16 + j) ∧ f' (s * 16 + j) = f (s * 16 + j)
theorem wu_Fr_refl {Q : Nat → Prop} {c d f : Nat → Int32} : wu_Fr Q c d f c d f := fun _ _ => ⟨rfl, fun _ _ => ⟨rfl, rfl⟩⟩
theorem wu_Fr_trans {Q : Nat → Prop} {c d f c' d' f' c'' d'' f'' : Nat → Int32} (h : wu_Fr Q c d f c' d' f') (h' : wu_Fr Q c' d' f' c'' d'' f'') : wu_Fr Q c d f c'' d'' f'' :=
  fun s hs => ⟨(h' s hs).1.trans (h s hs).1, fun j hj => ⟨((h' s hs).2 j hj).1.trans ((h s hs).2 j hj).1, ((h' s hs).2 j hj).2.trans ((h s hs).2 j hj).2⟩⟩
theorem wu_Fr_mono {Q Q' : Nat → Prop} {c d f c' d' f' : Nat → Int32} (h : wu_Fr Q c d f c' d' f') (hQ : ∀ s, Q s → Q' s) : wu_Fr Q' c d f c' d' f' :=
  fun s hs => h s (fun z => hs (hQ s z))
theorem wu_Fr_cnt {c d f : Nat → Int32} {s : Nat} {x : Int32} : wu_Fr (fun i => i = s) c d f (upd c s x) d f :=
  fun i hi => ⟨pk_un hi, fun _ _ => ⟨rfl, rfl⟩⟩
theorem wu_Ho_fr {Q : Nat → Prop} {c d f c' d' f' : Nat → Int32} {s : Nat} {L : wu_P} (h : wu_Fr Q c d f c' d' f') (hs : ¬ Q s) (hl : L.length ≤ 16) (H : wu_Ho c d f s L) : wu_Ho c' d' f' s L := by
  refine ⟨(h s hs).1.trans H.1, wu_At_congr L (s * 16) (fun i hi hi' => ?_) H.2⟩
  have := (h s hs).2 (i - s * 16) (by omega)
  rw [show s * 16 + (i - s * 16) = i by omega] at this
  exact this
theorem wu_Ho_0 {c d f : Nat → Int32} {s : Nat} : wu_Ho (upd c s 0) d f s [] := ⟨pk_us, trivial⟩
theorem wu_Ho_z {c d f : Nat → Int32} {s : Nat} (h : c s = 0) : wu_Ho c d f s [] := ⟨h, trivial⟩
/-! formal sums -/
def wu_cf : wu_P → Nat → Nat
  | [], _ => 0
  | t :: A, x => (if t.1 = x then t.2 else 0) + wu_cf A x
theorem wu_cf_app (A B : wu_P) (x : Nat) : wu_cf (A ++ B) x = wu_cf A x + wu_cf B x := by
  induction A with
  | nil => simp [wu_cf]
  | cons t A ih => rw [List.cons_append, wu_cf, wu_cf, ih, Nat.add_assoc]
theorem wu_cf_perm {A B : wu_P} (h : List.Perm A B) (x : Nat) : wu_cf A x = wu_cf B x := by
  induction h with
  | nil => rfl
  | cons t _ ih => rw [wu_cf, wu_cf, ih]
  | swap a b l => rw [wu_cf, wu_cf, wu_cf, wu_cf]; exact Nat.add_left_comm _ _ _
  | trans _ _ h1 h2 => exact h1.trans h2
theorem wu_cf_zero {A : wu_P} {x : Nat} : (∀ t, t ∈ A → t.1 ≠ x) → wu_cf A x = 0 := by
  induction A with
  | nil => intro _; rfl
  | cons a A ih =>
    intro h
    rw [wu_cf, if_neg (h a List.mem_cons_self), ih (fun t ht => h t (List.mem_cons_of_mem _ ht))]
theorem wu_cf_mem {A : wu_P} {t : Nat × Nat} : (A.map (fun t => t.1)).Nodup → t ∈ A → wu_cf A t.1 = t.2 := by
  induction A with
  | nil => intro _ h; exact absurd h List.not_mem_nil
  | cons a A ih =>
    intro hn ht
    rw [List.map_cons, List.nodup_cons] at hn
    rcases List.mem_cons.mp ht with rfl | ht
    · rw [wu_cf, if_pos rfl, wu_cf_zero, Nat.add_zero]
      intro s hs e
      exact hn.1 (List.mem_map.mpr ⟨s, hs, e⟩)
    · have : a.1 ≠ t.1 := fun e => hn.1 (List.mem_map.mpr ⟨t, ht, e.symm⟩)
      rw [wu_cf, if_neg this, ih hn.2 ht, Nat.zero_add]
theorem wu_cf_pos {A : wu_P} {x : Nat} (h : wu_cf A x ≠ 0) : ∃ t, t ∈ A ∧ t.1 = x := by
  refine Classical.byContradiction fun hn => h (wu_cf_zero fun t ht e => hn ⟨t, ht, e⟩)
theorem wu_cf_lt {A : wu_P} {p : Nat} (hp : 0 < p) (hn : (A.map (fun t => t.1)).Nodup) (h : ∀ t, t ∈ A → t.2 < p) (x : Nat) : wu_cf A x < p := by
  by_cases z : wu_cf A x = 0
  · omega
  · obtain ⟨t, ht, rfl⟩ := wu_cf_pos z
    rw [wu_cf_mem hn ht]; exact h t ht
def wu_Eq (p : Nat) (A B : wu_P) : Prop := ∀ x, wu_cf A x % p = wu_cf B x % p
theorem wu_Eq_symm {p : Nat} {A B : wu_P} (h : wu_Eq p A B) : wu_Eq p B A := fun x => (h x).symm
theorem wu_Eq_trans {p : Nat} {A B C : wu_P} (h : wu_Eq p A B) (h' : wu_Eq p B C) : wu_Eq p A C := fun x => (h x).trans (h' x)
theorem wu_Eq_perm {p : Nat} {A B : wu_P} (h : List.Perm A B) : wu_Eq p A B := fun x => by rw [wu_cf_perm h]
theorem wu_Eq_app {p : Nat} {A B A' B' : wu_P} (h : wu_Eq p A A') (h' : wu_Eq p B B') : wu_Eq p (A ++ B) (A' ++ B') := by
  intro x
  rw [wu_cf_app, wu_cf_app, Nat.add_mod, h x, h' x, ← Nat.add_mod]
def wu_Srt (L : wu_P) : Prop := L.Pairwise (fun a b => a.1 < b.1)
theorem wu_Srt_nd {L : wu_P} (h : wu_Srt L) : (L.map (fun t => t.1)).Nodup := by
  unfold List.Nodup
  rw [List.pairwise_map]
  exact List.Pairwise.imp (fun h => Nat.ne_of_lt h) h
theorem wu_nd_of {L : wu_P} (h : (L.map (fun t => t.1)).Nodup) : L.Nodup := by
  unfold List.Nodup at h ⊢
  rw [List.pairwise_map] at h
  exact List.Pairwise.imp (fun h e => h (by rw [e])) h
/-! the two buffers -/
def wu_BX (p : Nat) (A B : wu_P) : Prop := wu_Srt B ∧ (∀ t, t ∈ B → t.2 < p ∧ t.1 < 1073741824) ∧ B.length ≤ A.length ∧ wu_Eq p A B
def wu_BY (p : Nat) (A B : wu_P) : Prop := (B.map (fun t => t.1)).Nodup ∧ (∀ t, t ∈ B → 0 < t.2 ∧ t.2 < p ∧ t.1 < 1073741824) ∧ B.length ≤ A.length ∧ wu_Eq p A B
theorem wu_BX_ins {p c k : Nat} {A B1 B2 : wu_P} (h : wu_BX p A (B1 ++ B2)) (hk : k < p) (hc : c < 1073741824) (h1 : ∀ t, t ∈ B1 → t.1 < c) (h2 : ∀ t, t ∈ B2 → c < t.1) : wu_BX p (A ++ [(c, k)]) (B1 ++ (c, k) :: B2) := by
  obtain ⟨hs, hb, hl, he⟩ := h
  refine ⟨?_, ?_, ?_, ?_⟩
  · unfold wu_Srt at hs ⊢
    rw [List.pairwise_append] at hs ⊢
    refine ⟨hs.1, List.pairwise_cons.mpr ⟨fun t ht => h2 t ht, hs.2.1⟩, fun a ha b hb => ?_⟩
    rcases List.mem_cons.mp hb with rfl | hb
    · exact h1 a ha
    · exact hs.2.2 a ha b hb
  · intro t ht
    rcases List.mem_append.mp ht with ht | ht
    · exact hb t (List.mem_append.mpr (Or.inl ht))
    · rcases List.mem_cons.mp ht with rfl | ht
      · exact ⟨hk, hc⟩
      · exact hb t (List.mem_append.mpr (Or.inr ht))
  · simp only [List.length_append, List.length_cons, List.length_nil] at hl ⊢; omega
  · intro x
    have hx := he x
    rw [wu_cf_app] at hx
    rw [wu_cf_app, wu_cf_app, wu_cf, wu_cf, wu_cf, Nat.add_mod, hx, ← Nat.add_mod]
    exact congrArg (· % p) (by dsimp only; omega)
theorem wu_Eq_upd {p c k l : Nat} {A B0 B2 : wu_P} (he : wu_Eq p A (B0 ++ (c, l) :: B2)) : wu_Eq p (A ++ [(c, k)]) (B0 ++ (c, (l + k) % p) :: B2) := by
  intro x
  have hx := he x
  rw [wu_cf_app, wu_cf] at hx
  rw [wu_cf_app, wu_cf_app, wu_cf, wu_cf, wu_cf, Nat.add_mod, hx, ← Nat.add_mod]
  by_cases e : c = x
  · simp only [e, if_true, Nat.add_zero]
    rw [show wu_cf B0 x + ((l + k) % p + wu_cf B2 x) = (wu_cf B0 x + wu_cf B2 x) + (l + k) % p by omega, Nat.add_mod_mod]
    exact congrArg (· % p) (by omega)
  · simp only [e, if_false, Nat.add_zero]
theorem wu_BX_upd {p c k l : Nat} {A B0 B2 : wu_P} (h : wu_BX p A (B0 ++ (c, l) :: B2)) (hp : 0 < p) : wu_BX p (A ++ [(c, k)]) (B0 ++ (c, (l + k) % p) :: B2) := by
  obtain ⟨hs, hb, hl, he⟩ := h
  refine ⟨?_, ?_, ?_, ?_⟩
  · unfold wu_Srt at hs ⊢
    rw [List.pairwise_append, List.pairwise_cons] at hs ⊢
    refine ⟨hs.1, hs.2.1, fun a ha b hb => ?_⟩
    rcases List.mem_cons.mp hb with rfl | hb
    · exact hs.2.2 a ha (c, l) List.mem_cons_self
    · exact hs.2.2 a ha b (List.mem_cons_of_mem _ hb)
  · intro t ht
    rcases List.mem_append.mp ht with ht | ht
    · exact hb t (List.mem_append.mpr (Or.inl ht))
    · rcases List.mem_cons.mp ht with rfl | ht
      · exact ⟨Nat.mod_lt _ hp, (hb (c, l) (List.mem_append.mpr (Or.inr List.mem_cons_self))).2⟩
      · exact hb t (List.mem_append.mpr (Or.inr (List.mem_cons_of_mem _ ht)))
  · simp only [List.length_append, List.length_cons, List.length_nil] at hl ⊢; omega
  · exact wu_Eq_upd he
theorem wu_BY_perm {p : Nat} {A B B' : wu_P} (h : wu_BY p A B) (hp : List.Perm B B') : wu_BY p A B' :=
  ⟨(hp.map _).nodup h.1, fun t ht => h.2.1 t (hp.mem_iff.mpr ht), hp.length_eq ▸ h.2.2.1, wu_Eq_trans h.2.2.2 (wu_Eq_perm hp)⟩
theorem wu_BY_new {p c k : Nat} {A B : wu_P} (h : wu_BY p A B) (hn : ∀ t, t ∈ B → t.1 ≠ c) (h0 : 0 < k) (hk : k < p) (hc : c < 1073741824) : wu_BY p (A ++ [(c, k)]) (B ++ [(c, k)]) := by
  obtain ⟨hd, hb, hl, he⟩ := h
  refine ⟨?_, ?_, ?_, wu_Eq_app he (fun _ => rfl)⟩
  · have : List.Perm (((c, k) :: B).map (fun t => t.1)) ((B ++ [(c, k)]).map (fun t => t.1)) := ((List.perm_append_singleton (c, k) B).symm).map _
    refine this.nodup ?_
    rw [List.map_cons, List.nodup_cons]
    refine ⟨fun hm => ?_, hd⟩
    obtain ⟨t, ht, e⟩ := List.mem_map.mp hm
    exact hn t ht e
  · intro t ht
    rcases List.mem_append.mp ht with ht | ht
    · exact hb t ht
    · rw [List.mem_singleton] at ht; subst ht; exact ⟨h0, hk, hc⟩
  · simp only [List.length_append, List.length_cons, List.length_nil]; omega
theorem wu_BY_upd {p c k l : Nat} {A B0 B2 : wu_P} (h : wu_BY p A (B0 ++ (c, l) :: B2)) (hp : 0 < p) (hz : (l + k) % p ≠ 0) : wu_BY p (A ++ [(c, k)]) (B0 ++ (c, (l + k) % p) :: B2) := by
  obtain ⟨hd, hb, hl, he⟩ := h
  refine ⟨?_, ?_, ?_, wu_Eq_upd he⟩
  · simpa only [List.map_append, List.map_cons] using hd
  · intro t ht
    rcases List.mem_append.mp ht with ht | ht
    · exact hb t (List.mem_append.mpr (Or.inl ht))
    · rcases List.mem_cons.mp ht with rfl | ht
      · exact ⟨Nat.pos_of_ne_zero hz, Nat.mod_lt _ hp, (hb (c, l) (List.mem_append.mpr (Or.inr List.mem_cons_self))).2.2⟩
      · exact hb t (List.mem_append.mpr (Or.inr (List.mem_cons_of_mem _ ht)))
  · simp only [List.length_append, List.length_cons, List.length_nil] at hl ⊢; omega
theorem wu_BY_del {p c k l : Nat} {A B0 B2 : wu_P} (h : wu_BY p A (B0 ++ (c, l) :: B2)) (hz : (l + k) % p = 0) : wu_BY p (A ++ [(c, k)]) (B0 ++ B2) := by
  obtain ⟨hd, hb, hl, he⟩ := h
  have sub : List.Sublist (B0 ++ B2) (B0 ++ (c, l) :: B2) := List.Sublist.append (List.Sublist.refl _) (List.sublist_cons_self _ _)
  refine ⟨?_, fun t ht => hb t (sub.subset ht), ?_, ?_⟩
  · exact List.Pairwise.sublist (sub.map _) hd
  · simp only [List.length_append, List.length_cons, List.length_nil] at hl ⊢; omega
  · refine wu_Eq_trans (wu_Eq_upd (k := k) he) ?_
    rw [hz]
    intro x
    rw [wu_cf_app, wu_cf_app, wu_cf]
    by_cases e : c = x
    · simp [e]
    · simp [e]
theorem wu_BY_zero {p c : Nat} {A B : wu_P} (h : wu_BY p A B) : wu_BY p (A ++ [(c, 0)]) B := by
  obtain ⟨hd, hb, hl, he⟩ := h
  refine ⟨hd, hb, by simp only [List.length_append, List.length_cons, List.length_nil]; omega, fun x => ?_⟩
  rw [wu_cf_app, wu_cf, wu_cf]
  simp only [ite_self, Nat.add_zero]
  exact he x
def wu_XB (p : Nat) (A : wu_P) (sn : Int32) (sd sf : Nat → Int32) : Prop := ∃ B, wu_BX p A B ∧ sn = nI B.length ∧ wu_At sd sf 0 B
def wu_YB (p : Nat) (A : wu_P) (sn : Int32) (sd sf : Nat → Int32) : Prop := ∃ B, wu_BY p A B ∧ sn = nI B.length ∧ wu_At sd sf 0 B
theorem wu_XB_nil {p : Nat} {sd sf : Nat → Int32} : wu_XB p [] 0 sd sf :=
  ⟨[], ⟨List.Pairwise.nil, fun _ h => absurd h List.not_mem_nil, Nat.le_refl _, fun _ => rfl⟩, rfl, trivial⟩
theorem wu_YB_nil {p : Nat} {sd sf : Nat → Int32} : wu_YB p [] 0 sd sf :=
  ⟨[], ⟨List.Pairwise.nil, fun _ h => absurd h List.not_mem_nil, Nat.le_refl _, fun _ => rfl⟩, rfl, trivial⟩
/-! normal forms -/
def wu_NF (p : Nat) (A L : wu_P) : Prop := (L.map (fun t => t.1)).Nodup ∧ (∀ t, t ∈ L → 0 < t.2 ∧ t.2 < p) ∧ wu_Eq p A L
theorem wu_NF_sub {p : Nat} {A A' L L' : wu_P} (h : wu_NF p A L) (h' : wu_NF p A' L') (e : wu_Eq p A A') {t : Nat × Nat} (ht : t ∈ L) : t ∈ L' := by
  have b := h.2.1 t ht
  have hp : 0 < p := by omega
  have e1 : wu_cf L t.1 = wu_cf L' t.1 := by
    have := ((wu_Eq_symm h.2.2) t.1).trans ((e t.1).trans (h'.2.2 t.1))
    rwa [Nat.mod_eq_of_lt (wu_cf_lt hp h.1 (fun t ht => (h.2.1 t ht).2) _), Nat.mod_eq_of_lt (wu_cf_lt hp h'.1 (fun t ht => (h'.2.1 t ht).2) _)] at this
  rw [wu_cf_mem h.1 ht] at e1
  obtain ⟨s, hs, es⟩ := wu_cf_pos (A := L') (x := t.1) (by omega)
  rw [← es, wu_cf_mem h'.1 hs] at e1
  have : t = s := Prod.ext es.symm e1
  rw [this]; exact hs
theorem wu_NF_perm {p : Nat} {A A' L L' : wu_P} (h : wu_NF p A L) (h' : wu_NF p A' L') (e : wu_Eq p A A') : List.Perm L L' :=
  (List.perm_ext_iff_of_nodup (wu_nd_of h.1) (wu_nd_of h'.1)).mpr fun _ => ⟨wu_NF_sub h h' e, wu_NF_sub h' h (wu_Eq_symm e)⟩
theorem wu_Srt_eq {L L' : wu_P} (h : wu_Srt L) (h' : wu_Srt L') (hp : List.Perm L L') : L = L' :=
  List.Perm.eq_of_pairwise (le := fun (a b : Nat × Nat) => a.1 < b.1) (fun _ _ _ _ h1 h2 => absurd h2 (Nat.lt_asymm h1)) h h' hp
noncomputable def wu_nf (p : Nat) (A : wu_P) : wu_P := Classical.epsilon (fun L => wu_Srt L ∧ wu_NF p A L)
theorem wu_nf_sp {p : Nat} {A L : wu_P} (h : wu_Srt L) (h' : wu_NF p A L) : wu_Srt (wu_nf p A) ∧ wu_NF p A (wu_nf p A) :=
  Classical.epsilon_spec (p := fun L => wu_Srt L ∧ wu_NF p A L) ⟨L, h, h'⟩
theorem wu_nf_X {p : Nat} {A L : wu_P} (h : wu_Srt L) (h' : wu_NF p A L) : wu_nf p A = L :=
  wu_Srt_eq (wu_nf_sp h h').1 h (wu_NF_perm (wu_nf_sp h h').2 h' (fun _ => rfl))
theorem wu_sort {L : wu_P} (h : (L.map (fun t => t.1)).Nodup) : ∃ M, wu_Srt M ∧ List.Perm L M := by
  have hq := List.mergeSort_perm L (fun a b => decide (a.1 ≤ b.1))
  refine ⟨L.mergeSort (fun a b => decide (a.1 ≤ b.1)), ?_, hq.symm⟩
  have h1 := List.pairwise_mergeSort (le := fun (a b : Nat × Nat) => decide (a.1 ≤ b.1)) (fun a b c h1 h2 => by simp only [decide_eq_true_eq] at *; omega) (fun a b => by simp only [Bool.or_eq_true, decide_eq_true_eq]; omega) L
  have h2 : ((L.mergeSort (fun a b => decide (a.1 ≤ b.1))).map (fun t => t.1)).Nodup := ((hq.symm).map _).nodup h
  unfold List.Nodup at h2
  rw [List.pairwise_map] at h2
  refine List.Pairwise.imp₂ (fun a b x y => ?_) h1 h2
  simp only [decide_eq_true_eq] at x
  omega
theorem wu_nf_Y {p : Nat} {A L : wu_P} (h : wu_NF p A L) : List.Perm L (wu_nf p A) := by
  obtain ⟨M, hM, hq⟩ := wu_sort h.1
  have hN : wu_NF p A M := ⟨(hq.map _).nodup h.1, fun t ht => h.2.1 t (hq.mem_iff.mpr ht), wu_Eq_trans h.2.2 (wu_Eq_perm hq)⟩
  rw [wu_nf_X hM hN]; exact hq
theorem wu_nf_congr {p : Nat} {A A' : wu_P} (e : wu_Eq p A A') : wu_nf p A = wu_nf p A' := by
  have : (fun L => wu_Srt L ∧ wu_NF p A L) = (fun L => wu_Srt L ∧ wu_NF p A' L) := by
    funext L
    exact propext ⟨fun h => ⟨h.1, h.2.1, h.2.2.1, wu_Eq_trans (wu_Eq_symm e) h.2.2.2⟩, fun h => ⟨h.1, h.2.1, h.2.2.1, wu_Eq_trans e h.2.2.2⟩⟩
  unfold wu_nf
  rw [this]
theorem wu_cf_fil (A : wu_P) (x : Nat) : wu_cf (A.filter (fun t => decide (t.2 ≠ 0))) x = wu_cf A x := by
  induction A with
  | nil => rfl
  | cons t A ih =>
    by_cases h : t.2 = 0
    · rw [List.filter_cons_of_neg (by simp [h]), ih, wu_cf, h]; simp
    · rw [List.filter_cons_of_pos (by simp [h]), wu_cf, wu_cf, ih]
theorem wu_nf_BX {p : Nat} {A B : wu_P} (h : wu_BX p A B) : wu_nf p A = B.filter (fun t => decide (t.2 ≠ 0)) ∧ wu_Srt (B.filter (fun t => decide (t.2 ≠ 0))) ∧ wu_NF p A (B.filter (fun t => decide (t.2 ≠ 0))) := by
  have hs : wu_Srt (B.filter (fun t => decide (t.2 ≠ 0))) := List.Pairwise.sublist List.filter_sublist h.1
  have hN : wu_NF p A (B.filter (fun t => decide (t.2 ≠ 0))) := by
    refine ⟨wu_Srt_nd hs, fun t ht => ?_, fun x => ?_⟩
    · rw [List.mem_filter, decide_eq_true_eq] at ht
      exact ⟨Nat.pos_of_ne_zero ht.2, (h.2.1 t ht.1).1⟩
    · rw [wu_cf_fil]; exact h.2.2.2 x
  exact ⟨wu_nf_X hs hN, hs, hN⟩
theorem wu_NF_BY {p : Nat} {A B : wu_P} (h : wu_BY p A B) : wu_NF p A B := ⟨h.1, fun t ht => ⟨(h.2.1 t ht).1, (h.2.1 t ht).2.1⟩, h.2.2.2⟩
/-- a sorted buffer has a place for c -/
theorem wu_split (c : Nat) : ∀ B : wu_P, wu_Srt B → ∃ B1 B2, B = B1 ++ B2 ∧ (∀ t, t ∈ B1 → t.1 < c) ∧ ((∀ t, t ∈ B2 → c < t.1) ∨ ∃ l B3, B2 = (c, l) :: B3) := by
  intro B
  induction B with
  | nil => intro _; exact ⟨[], [], rfl, fun _ h => absurd h List.not_mem_nil, Or.inl fun _ h => absurd h List.not_mem_nil⟩
  | cons a B ih =>
    intro hs
    unfold wu_Srt at hs
    rw [List.pairwise_cons] at hs
    rcases Nat.lt_trichotomy a.1 c with h | h | h
    · obtain ⟨B1, B2, e, h1, h2⟩ := ih hs.2
      refine ⟨a :: B1, B2, by rw [e]; rfl, fun t ht => ?_, h2⟩
      rcases List.mem_cons.mp ht with rfl | ht
      · exact h
      · exact h1 t ht
    · exact ⟨[], a :: B, rfl, fun _ h => absurd h List.not_mem_nil, Or.inr ⟨a.2, B, by rw [← h]⟩⟩
    · refine ⟨[], a :: B, rfl, fun _ h => absurd h List.not_mem_nil, Or.inl fun t ht => ?_⟩
      rcases List.mem_cons.mp ht with rfl | ht
      · exact h
      · exact Nat.lt_trans h (hs.1 t ht)
theorem wu_BX_step {p c k : Nat} {A B : wu_P} (h : wu_BX p A B) (hk : k < p) (hc : c < 1073741824) : ∃ B', wu_BX p (A ++ [(c, k)]) B' := by
  obtain ⟨B1, B2, rfl, h1, h2 | ⟨l, B3, rfl⟩⟩ := wu_split c B h.1
  · exact ⟨_, wu_BX_ins h hk hc h1 h2⟩
  · exact ⟨_, wu_BX_upd h (by omega)⟩
theorem wu_BX_ex {p : Nat} : ∀ (R A B : wu_P), wu_BX p A B → (∀ t, t ∈ R → t.2 < p ∧ t.1 < 1073741824) → ∃ B', wu_BX p (A ++ R) B' := by
  intro R
  induction R with
  | nil => intro A B h _; exact ⟨B, by rw [List.append_nil]; exact h⟩
  | cons t R ih =>
    intro A B h hb
    obtain ⟨B', h'⟩ := wu_BX_step h (hb t List.mem_cons_self).1 (hb t List.mem_cons_self).2
    obtain ⟨B'', h''⟩ := ih _ _ h' (fun s hs => hb s (List.mem_cons_of_mem _ hs))
    rw [List.append_assoc] at h''
    exact ⟨B'', h''⟩
/-- the additions of a list, within bounds -/
def wu_Ad (p : Nat) (A : wu_P) : Prop := ∀ t, t ∈ A → t.2 < p ∧ t.1 < 1073741824
theorem wu_Ad_app {p : Nat} {A B : wu_P} (h : wu_Ad p A) (h' : wu_Ad p B) : wu_Ad p (A ++ B) := fun t ht =>
  (List.mem_append.mp ht).elim (h t) (h' t)
theorem wu_BX_all {p : Nat} {A : wu_P} (h : wu_Ad p A) : ∃ B, wu_BX p A B :=
  wu_BX_ex A [] [] ⟨List.Pairwise.nil, fun _ h => absurd h List.not_mem_nil, Nat.le_refl _, fun _ => rfl⟩ h
/-! what a slot may hold -/
def wu_big (L : wu_P) : Prop := 16 < L.length ∨ ∃ t, t ∈ L ∧ ∃ v, v < 6 ∧ 15 < wu_ex v t.1
theorem wu_big_perm {L L' : wu_P} (h : List.Perm L L') : wu_big L ↔ wu_big L' := by
  unfold wu_big
  rw [h.length_eq]
  constructor
  · rintro (h1 | ⟨t, ht, z⟩)
    · exact Or.inl h1
    · exact Or.inr ⟨t, h.mem_iff.mp ht, z⟩
  · rintro (h1 | ⟨t, ht, z⟩)
    · exact Or.inl h1
    · exact Or.inr ⟨t, h.mem_iff.mpr ht, z⟩
noncomputable def wu_st (p : Nat) (A : wu_P) : Option wu_P := @ite _ (wu_big (wu_nf p A)) (Classical.propDecidable _) none (some (wu_nf p A))
theorem wu_st_n {p : Nat} {A : wu_P} (h : wu_big (wu_nf p A)) : wu_st p A = none := by unfold wu_st; rw [if_pos h]
theorem wu_st_s {p : Nat} {A : wu_P} (h : ¬ wu_big (wu_nf p A)) : wu_st p A = some (wu_nf p A) := by unfold wu_st; rw [if_neg h]
theorem wu_st_i {p : Nat} {A L : wu_P} (h : wu_st p A = some L) : ¬ wu_big (wu_nf p A) ∧ wu_nf p A = L := by
  by_cases hb : wu_big (wu_nf p A)
  · rw [wu_st_n hb] at h; exact absurd h (by simp)
  · rw [wu_st_s hb] at h; exact ⟨hb, Option.some.inj h⟩
theorem wu_st_congr {p : Nat} {A A' : wu_P} (e : wu_Eq p A A') : wu_st p A = wu_st p A' := by unfold wu_st; rw [wu_nf_congr e]
def wu_Ok (p : Nat) (L : wu_P) : Prop := L.length ≤ 16 ∧ (L.map (fun t => t.1)).Nodup ∧ ∀ t, t ∈ L → 0 < t.2 ∧ t.2 < p ∧ wu_Sm t.1
def wu_Cp (p : Nat) (L : wu_P) : Prop := wu_Srt L ∧ wu_Ok p L
theorem wu_Ok_perm {p : Nat} {L L' : wu_P} (h : wu_Ok p L) (hp : List.Perm L L') : wu_Ok p L' :=
  ⟨hp.length_eq ▸ h.1, (hp.map _).nodup h.2.1, fun t ht => h.2.2 t (hp.mem_iff.mpr ht)⟩
theorem wu_Ok_nil {p : Nat} : wu_Ok p [] := ⟨by simp, by simp, fun _ h => absurd h List.not_mem_nil⟩
theorem wu_Cp_nil {p : Nat} : wu_Cp p [] := ⟨List.Pairwise.nil, wu_Ok_nil⟩
theorem wu_Ok_Ad {p : Nat} {L : wu_P} (h : wu_Ok p L) : wu_Ad p L := fun t ht => ⟨(h.2.2 t ht).2.1, by have := (h.2.2 t ht).2.2.1; omega⟩
theorem wu_st_sp {p : Nat} {A L : wu_P} (hA : wu_Ad p A) (h : wu_st p A = some L) : wu_Cp p L ∧ wu_Eq p A L := by
  obtain ⟨hb, e⟩ := wu_st_i h
  obtain ⟨B, hB⟩ := wu_BX_all hA
  obtain ⟨e2, hs, hN⟩ := wu_nf_BX hB
  rw [e] at e2 hb
  rw [← e2] at hs hN
  refine ⟨⟨hs, ?_, hN.1, fun t ht => ⟨(hN.2.1 t ht).1, (hN.2.1 t ht).2, ?_⟩⟩, hN.2.2⟩
  · exact Nat.le_of_not_lt fun z => hb (Or.inl z)
  · have ht' : t ∈ B := by rw [e2] at ht; exact (List.mem_filter.mp ht).1
    exact wu_Sm_of (hB.2.1 t ht').2 (fun v hv => Nat.le_of_not_lt fun z => hb (Or.inr ⟨t, ht, v, hv, z⟩))
/-- a polynomial that a slot holds is its own normal form -/
theorem wu_st_id {p : Nat} {L : wu_P} (h : wu_Cp p L) : wu_st p L = some L := by
  have hN : wu_NF p L L := ⟨h.2.2.1, fun t ht => ⟨(h.2.2.2 t ht).1, (h.2.2.2 t ht).2.1⟩, fun _ => rfl⟩
  have e := wu_nf_X h.1 hN
  have : ¬ wu_big (wu_nf p L) := by
    rw [e]
    rintro (z | ⟨t, ht, v, hv, z⟩)
    · have := h.2.1; omega
    · have := (h.2.2.2 t ht).2.2.2 v hv; omega
  rw [wu_st_s this, e]
