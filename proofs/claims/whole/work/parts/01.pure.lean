/-! The pure game. A value is at most C or it is T (endless); K v: v is the keeper's; M v e: e is an edge from v that counts;
to e: its end; g e: its gain. Pt f v: what f asks at v is at most f v. Lst f: f is the least of all that ask no more than they hold. -/
def eg_ask (C T a : Nat) (g : Int) : Nat :=
  if a = T then T else if (a : Int) - g < 0 then 0 else if (C : Int) < (a : Int) - g then T else ((a : Int) - g).toNat

theorem eg_ask_T {C T a : Nat} {g : Int} (h : a = T) : eg_ask C T a g = T := by
  unfold eg_ask; rw [if_pos h]
theorem eg_ask_0 {C T a : Nat} {g : Int} (h : a ≠ T) (h0 : (a : Int) - g < 0) : eg_ask C T a g = 0 := by
  unfold eg_ask; rw [if_neg h, if_pos h0]
theorem eg_ask_C {C T a : Nat} {g : Int} (h : a ≠ T) (h0 : ¬ (a : Int) - g < 0) (hc : (C : Int) < (a : Int) - g) : eg_ask C T a g = T := by
  unfold eg_ask; rw [if_neg h, if_neg h0, if_pos hc]
theorem eg_ask_x {C T a : Nat} {g : Int} (h : a ≠ T) (h0 : ¬ (a : Int) - g < 0) (hc : ¬ (C : Int) < (a : Int) - g) : eg_ask C T a g = ((a : Int) - g).toNat := by
  unfold eg_ask; rw [if_neg h, if_neg h0, if_neg hc]

/-- the four cases at once, for omega -/
theorem eg_ask_c (C T a : Nat) (g : Int) :
    (a = T ∧ eg_ask C T a g = T) ∨ (a ≠ T ∧ (a : Int) - g < 0 ∧ eg_ask C T a g = 0) ∨
    (a ≠ T ∧ (C : Int) < (a : Int) - g ∧ eg_ask C T a g = T) ∨
    (a ≠ T ∧ 0 ≤ (a : Int) - g ∧ (a : Int) - g ≤ C ∧ ((eg_ask C T a g : Nat) : Int) = (a : Int) - g) := by
  by_cases h : a = T
  · exact Or.inl ⟨h, eg_ask_T h⟩
  · by_cases h0 : (a : Int) - g < 0
    · exact Or.inr (Or.inl ⟨h, h0, eg_ask_0 h h0⟩)
    · by_cases hc : (C : Int) < (a : Int) - g
      · exact Or.inr (Or.inr (Or.inl ⟨h, hc, eg_ask_C h h0 hc⟩))
      · refine Or.inr (Or.inr (Or.inr ⟨h, by omega, by omega, ?_⟩))
        rw [eg_ask_x h h0 hc]
        exact Int.toNat_of_nonneg (by omega)

theorem eg_ask_r (C T a : Nat) (g : Int) : eg_ask C T a g ≤ C ∨ eg_ask C T a g = T := by
  have h := eg_ask_c C T a g
  omega
theorem eg_ask_mono {C T a b : Nat} {g : Int} (hCT : C < T) (hab : a ≤ b) (hb : b ≤ C ∨ b = T) : eg_ask C T a g ≤ eg_ask C T b g := by
  have h := eg_ask_c C T a g
  have h' := eg_ask_c C T b g
  omega

def eg_dn (T s x : Nat) : Nat := if x ≠ T ∧ s < x then x - 1 else x
theorem eg_dn_c (T s x : Nat) : (x ≠ T ∧ s < x ∧ eg_dn T s x + 1 = x) ∨ ((x = T ∨ x ≤ s) ∧ eg_dn T s x = x) := by
  by_cases h : x ≠ T ∧ s < x
  · refine Or.inl ⟨h.1, h.2, ?_⟩
    unfold eg_dn; rw [if_pos h]; omega
  · refine Or.inr ⟨by omega, ?_⟩
    unfold eg_dn; rw [if_neg h]
theorem eg_dn_ask {C T s a b : Nat} {g : Int} (hCT : C < T) (ra : a ≤ C ∨ a = T) (rb : b ≤ C ∨ b = T) (h1 : -6 ≤ g)
    (ha : a ≠ T → s < a ∨ a + 6 ≤ s) (h : eg_ask C T a g ≤ b) : eg_ask C T (eg_dn T s a) g ≤ eg_dn T s b := by
  have e1 := eg_ask_c C T a g
  have e2 := eg_ask_c C T (eg_dn T s a) g
  have e3 := eg_dn_c T s a
  have e4 := eg_dn_c T s b
  generalize eg_ask C T (eg_dn T s a) g = q at e2 ⊢
  generalize eg_ask C T a g = p at e1 h
  generalize eg_dn T s a = a' at e2 e3
  generalize eg_dn T s b = b' at e4 ⊢
  rcases e4 with ⟨b1, b2, b3⟩ | ⟨b1, b3⟩
  · have hb : b ≤ C := by omega
    have haT : a ≠ T := by omega
    have ha' := ha haT
    rcases e3 with ⟨a1, a2, a3⟩ | ⟨a1, a3⟩
    · omega
    · omega
  · rcases e3 with ⟨a1, a2, a3⟩ | ⟨a1, a3⟩
    · omega
    · omega

def eg_Rg (n C T : Nat) (f : Nat → Nat) : Prop := ∀ v, v < n → f v ≤ C ∨ f v = T
def eg_Pt (C T : Nat) (K : Nat → Prop) (M : Nat → Nat → Prop) (to : Nat → Nat) (g : Nat → Int) (f : Nat → Nat) (v : Nat) : Prop :=
  (K v → (∀ e, ¬ M v e) ∨ ∃ e, M v e ∧ eg_ask C T (f (to e)) (g e) ≤ f v) ∧ (¬ K v → ∀ e, M v e → eg_ask C T (f (to e)) (g e) ≤ f v)
def eg_Pre (n C T : Nat) (K : Nat → Prop) (M : Nat → Nat → Prop) (to : Nat → Nat) (g : Nat → Int) (f : Nat → Nat) : Prop :=
  ∀ v, v < n → eg_Pt C T K M to g f v
def eg_Lo (n C T : Nat) (K : Nat → Prop) (M : Nat → Nat → Prop) (to : Nat → Nat) (g : Nat → Int) (f : Nat → Nat) : Prop :=
  ∀ P, eg_Rg n C T P → eg_Pre n C T K M to g P → ∀ v, v < n → f v ≤ P v
def eg_Lst (n C T : Nat) (K : Nat → Prop) (M : Nat → Nat → Prop) (to : Nat → Nat) (g : Nat → Int) (f : Nat → Nat) : Prop :=
  eg_Rg n C T f ∧ eg_Pre n C T K M to g f ∧ eg_Lo n C T K M to g f
def eg_Ok (n : Nat) (M : Nat → Nat → Prop) (to : Nat → Nat) (g : Nat → Int) : Prop :=
  ∀ v e, M v e → to e < n ∧ -6 ≤ g e ∧ g e ≤ 6

/-- no gap of six: what lies above a gap could all be less by one -/
theorem eg_gap {n C T : Nat} {K : Nat → Prop} {M : Nat → Nat → Prop} {to : Nat → Nat} {g : Nat → Int} {f : Nat → Nat}
    (hM : eg_Ok n M to g) (hCT : C < T) (L : eg_Lst n C T K M to g f) (s : Nat)
    (H : ∀ v, v < n → f v ≠ T → s < f v ∨ f v + 6 ≤ s) : ∀ v, v < n → f v ≠ T → f v ≤ s := by
  obtain ⟨R, P, Lm⟩ := L
  have hR : eg_Rg n C T (fun v => eg_dn T s (f v)) := by
    intro v hv
    have h1 := R v hv
    have h2 := eg_dn_c T s (f v)
    show eg_dn T s (f v) ≤ C ∨ eg_dn T s (f v) = T
    omega
  have hP : eg_Pre n C T K M to g (fun v => eg_dn T s (f v)) := by
    intro v hv
    refine ⟨fun hk => ?_, fun hk e he => ?_⟩
    · rcases (P v hv).1 hk with h | ⟨e, he, h⟩
      · exact Or.inl h
      · obtain ⟨h1, h2, _⟩ := hM v e he
        exact Or.inr ⟨e, he, eg_dn_ask hCT (R _ h1) (R _ hv) h2 (H _ h1) h⟩
    · obtain ⟨h1, h2, _⟩ := hM v e he
      exact eg_dn_ask hCT (R _ h1) (R _ hv) h2 (H _ h1) ((P v hv).2 hk e he)
  intro v hv ht
  have h1 : f v ≤ eg_dn T s (f v) := Lm _ hR hP v hv
  have h2 := eg_dn_c T s (f v)
  omega

/-! counting -/
def eg_cn (p : Nat → Bool) : Nat → Nat
  | 0 => 0
  | k + 1 => (if p k = true then 1 else 0) + eg_cn p k
theorem eg_cn_t {p : Nat → Bool} {k : Nat} (h : p k = true) : eg_cn p (k + 1) = 1 + eg_cn p k := by
  show (if p k = true then 1 else 0) + eg_cn p k = _
  rw [if_pos h]
theorem eg_cn_f {p : Nat → Bool} {k : Nat} (h : ¬ p k = true) : eg_cn p (k + 1) = eg_cn p k := by
  show (if p k = true then 1 else 0) + eg_cn p k = _
  rw [if_neg h, Nat.zero_add]
theorem eg_cn_le (p : Nat → Bool) : ∀ k, eg_cn p k ≤ k := by
  intro k
  induction k with
  | zero => exact Nat.le_refl 0
  | succ k ih =>
    by_cases h : p k = true
    · rw [eg_cn_t h]; omega
    · rw [eg_cn_f h]; omega
theorem eg_cn_mono {p q : Nat → Bool} : ∀ k, (∀ v, v < k → p v = true → q v = true) → eg_cn p k ≤ eg_cn q k := by
  intro k
  induction k with
  | zero => intro _; exact Nat.le_refl 0
  | succ k ih =>
    intro h
    have ih' := ih (fun v hv => h v (by omega))
    by_cases hp : p k = true
    · rw [eg_cn_t hp, eg_cn_t (h k (by omega) hp)]; omega
    · rw [eg_cn_f hp]
      by_cases hq : q k = true
      · rw [eg_cn_t hq]; omega
      · rw [eg_cn_f hq]; exact ih'
theorem eg_cn_lt {p q : Nat → Bool} : ∀ k, (∀ v, v < k → p v = true → q v = true) → ∀ w, w < k → ¬ p w = true → q w = true → eg_cn p k < eg_cn q k := by
  intro k
  induction k with
  | zero => intro _ w hw; omega
  | succ k ih =>
    intro h w hw hp hq
    by_cases e : w = k
    · subst e
      have m := eg_cn_mono w (fun v hv => h v (by omega))
      rw [eg_cn_f hp, eg_cn_t hq]; omega
    · have i := ih (fun v hv => h v (by omega)) w (by omega) hp hq
      by_cases hp' : p k = true
      · rw [eg_cn_t hp', eg_cn_t (h k (by omega) hp')]; omega
      · rw [eg_cn_f hp']
        by_cases hq' : q k = true
        · rw [eg_cn_t hq']; omega
        · rw [eg_cn_f hq']; exact i
theorem eg_cn_all {p : Nat → Bool} : ∀ k, k ≤ eg_cn p k → ∀ v, v < k → p v = true := by
  intro k
  induction k with
  | zero => intro _ v hv; omega
  | succ k ih =>
    intro h v hv
    have l := eg_cn_le p k
    by_cases hp : p k = true
    · rw [eg_cn_t hp] at h
      by_cases e : v = k
      · rw [e]; exact hp
      · exact ih (by omega) v (by omega)
    · rw [eg_cn_f hp] at h
      omega

/-- a need is never greater than 6 * (n - 1) -/
theorem eg_bound {n C T : Nat} {K : Nat → Prop} {M : Nat → Nat → Prop} {to : Nat → Nat} {g : Nat → Int} {f : Nat → Nat}
    (hM : eg_Ok n M to g) (hCT : C < T) (L : eg_Lst n C T K M to g f) : ∀ v, v < n → f v ≠ T → f v ≤ 6 * (n - 1) := by
  intro v0 hv0 ht0
  refine Nat.le_of_not_lt fun hgt => ?_
  have step : ∀ j, j < n → ∃ v, v < n ∧ f v ≠ T ∧ f v ≤ 6 * j ∧ 6 * j < f v + 6 := by
    intro j hj
    refine Classical.byContradiction fun hno => ?_
    have h : f v0 ≤ 6 * j := eg_gap hM hCT L (6 * j) (fun v hv hf => Classical.byContradiction fun hh => hno ⟨v, hv, hf, by omega, by omega⟩) v0 hv0 ht0
    omega
  have cnt : ∀ j, j < n → j + 1 ≤ eg_cn (fun v => decide (f v ≠ T ∧ f v ≤ 6 * j)) n := by
    intro j
    induction j with
    | zero =>
      intro hj
      obtain ⟨v, hv, h1, h2, h3⟩ := step 0 hj
      have h := eg_cn_lt (p := fun _ => false) (q := fun v => decide (f v ≠ T ∧ f v ≤ 6 * 0)) n (fun v _ hf => absurd hf Bool.false_ne_true) v hv (fun hf => Bool.false_ne_true hf) (decide_eq_true ⟨h1, h2⟩)
      omega
    | succ j ih =>
      intro hj
      have i := ih (by omega)
      obtain ⟨v, hv, h1, h2, h3⟩ := step (j + 1) hj
      have h := eg_cn_lt (p := fun v => decide (f v ≠ T ∧ f v ≤ 6 * j)) (q := fun v => decide (f v ≠ T ∧ f v ≤ 6 * (j + 1))) n
        (fun v _ hf => decide_eq_true (by have hf' := of_decide_eq_true hf; exact ⟨hf'.1, by omega⟩)) v hv
        (fun hf => by have hf' := of_decide_eq_true hf; omega) (decide_eq_true ⟨h1, h2⟩)
      omega
  have hn := cnt (n - 1) (by omega)
  have ha := eg_cn_all (p := fun v => decide (f v ≠ T ∧ f v ≤ 6 * (n - 1))) n (by omega) v0 hv0
  have hd := of_decide_eq_true ha
  omega

/-- the needs by two caps are the same -/
def eg_up (x : Nat) : Nat := if x = 31 then 99 else x
theorem eg_up_c (x : Nat) : (x = 31 ∧ eg_up x = 99) ∨ (x ≠ 31 ∧ eg_up x = x) := by
  by_cases h : x = 31
  · exact Or.inl ⟨h, by unfold eg_up; rw [if_pos h]⟩
  · exact Or.inr ⟨h, by unfold eg_up; rw [if_neg h]⟩
def eg_lw (x : Nat) : Nat := if x = 99 then 31 else x
theorem eg_lw_c (x : Nat) : (x = 99 ∧ eg_lw x = 31) ∨ (x ≠ 99 ∧ eg_lw x = x) := by
  by_cases h : x = 99
  · exact Or.inl ⟨h, by unfold eg_lw; rw [if_pos h]⟩
  · exact Or.inr ⟨h, by unfold eg_lw; rw [if_neg h]⟩
theorem eg_up_ask {C a b : Nat} {g : Int} (hC : C ≤ 30) (ra : a ≤ 30 ∨ a = 31) (rb : b ≤ C ∨ b = 31) (h : eg_ask 30 31 a g ≤ b) :
    eg_ask C 99 (eg_up a) g ≤ eg_up b := by
  have e1 := eg_ask_c 30 31 a g
  have e2 := eg_ask_c C 99 (eg_up a) g
  have e3 := eg_up_c a
  have e4 := eg_up_c b
  generalize eg_ask C 99 (eg_up a) g = q at e2 ⊢
  generalize eg_ask 30 31 a g = p at e1 h
  generalize eg_up a = a' at e2 e3
  generalize eg_up b = b' at e4 ⊢
  rcases e4 with ⟨b1, b2⟩ | ⟨b1, b2⟩ <;> rcases e3 with ⟨a1, a2⟩ | ⟨a1, a2⟩ <;> omega
theorem eg_lw_ask {C a b : Nat} {g : Int} (hC : C ≤ 30) (ra : a ≤ C ∨ a = 99) (rb : b ≤ C ∨ b = 99) (h : eg_ask C 99 a g ≤ b) :
    eg_ask 30 31 (eg_lw a) g ≤ eg_lw b := by
  have e1 := eg_ask_c C 99 a g
  have e2 := eg_ask_c 30 31 (eg_lw a) g
  have e3 := eg_lw_c a
  have e4 := eg_lw_c b
  generalize eg_ask 30 31 (eg_lw a) g = q at e2 ⊢
  generalize eg_ask C 99 a g = p at e1 h
  generalize eg_lw a = a' at e2 e3
  generalize eg_lw b = b' at e4 ⊢
  rcases e4 with ⟨b1, b2⟩ | ⟨b1, b2⟩ <;> rcases e3 with ⟨a1, a2⟩ | ⟨a1, a2⟩ <;> omega
theorem eg_same {n C : Nat} {K : Nat → Prop} {M : Nat → Nat → Prop} {to : Nat → Nat} {g : Nat → Int} {f h : Nat → Nat}
    (hM : eg_Ok n M to g) (hC : C = 6 * (n - 1)) (hn : n ≤ 6) (L : eg_Lst n 30 31 K M to g f) (L' : eg_Lst n C 99 K M to g h) :
    ∀ v, v < n → h v = eg_up (f v) := by
  have hC30 : C ≤ 30 := by omega
  have B := eg_bound hM (by omega) L
  obtain ⟨R, P, Lm⟩ := L
  obtain ⟨R', P', Lm'⟩ := L'
  have rC : ∀ v, v < n → f v ≤ C ∨ f v = 31 := by
    intro v hv
    by_cases e : f v = 31
    · exact Or.inr e
    · have b := B v hv e
      exact Or.inl (by omega)
  have u1 : ∀ v, v < n → h v ≤ eg_up (f v) := by
    refine Lm' (fun v => eg_up (f v)) (fun v hv => ?_) (fun v hv => ⟨fun hk => ?_, fun hk e he => ?_⟩)
    · have h1 := rC v hv
      have h2 := eg_up_c (f v)
      show eg_up (f v) ≤ C ∨ eg_up (f v) = 99
      omega
    · rcases (P v hv).1 hk with q | ⟨e, he, q⟩
      · exact Or.inl q
      · exact Or.inr ⟨e, he, eg_up_ask hC30 (R _ (hM v e he).1) (rC v hv) q⟩
    · exact eg_up_ask hC30 (R _ (hM v e he).1) (rC v hv) ((P v hv).2 hk e he)
  have u2 : ∀ v, v < n → f v ≤ eg_lw (h v) := by
    refine Lm (fun v => eg_lw (h v)) (fun v hv => ?_) (fun v hv => ⟨fun hk => ?_, fun hk e he => ?_⟩)
    · have h1 := R' v hv
      have h2 := eg_lw_c (h v)
      show eg_lw (h v) ≤ 30 ∨ eg_lw (h v) = 31
      omega
    · rcases (P' v hv).1 hk with q | ⟨e, he, q⟩
      · exact Or.inl q
      · exact Or.inr ⟨e, he, eg_lw_ask hC30 (R' _ (hM v e he).1) (R' v hv) q⟩
    · exact eg_lw_ask hC30 (R' _ (hM v e he).1) (R' v hv) ((P' v hv).2 hk e he)
  intro v hv
  have a1 := u1 v hv
  have a2 := u2 v hv
  have a3 := R v hv
  have a4 := R' v hv
  have a5 := eg_up_c (f v)
  have a6 := eg_lw_c (h v)
  omega

/-! the best of the edges seen so far: k, the least is wanted; D e, edge e counts; A e, what it asks -/
def eg_No (D : Nat → Prop) (i : Nat) : Prop := ∀ e, e < i → ¬ D e
def eg_Sm (k : Prop) (D : Nat → Prop) (A : Nat → Nat) (i r : Nat) : Prop :=
  (∃ e, e < i ∧ D e ∧ A e = r) ∧ ∀ e, e < i → D e → (k → r ≤ A e) ∧ (¬ k → A e ≤ r)
def eg_Is (k : Prop) (D : Nat → Prop) (A : Nat → Nat) (i r : Nat) : Prop := (eg_No D i ∧ r = 0) ∨ eg_Sm k D A i r
theorem eg_No_0 {D : Nat → Prop} : eg_No D 0 := fun e he => by omega
theorem eg_No_s {D : Nat → Prop} {i : Nat} (h : eg_No D i) (hd : ¬ D i) : eg_No D (i + 1) := by
  intro e he
  by_cases q : e = i
  · rw [q]; exact hd
  · exact h e (by omega)
theorem eg_Sm_skip {k : Prop} {D : Nat → Prop} {A : Nat → Nat} {i r : Nat} (h : eg_Sm k D A i r) (hd : ¬ D i) : eg_Sm k D A (i + 1) r := by
  obtain ⟨⟨e, he, hD, hA⟩, h2⟩ := h
  refine ⟨⟨e, by omega, hD, hA⟩, fun j hj hj2 => ?_⟩
  by_cases q : j = i
  · rw [q] at hj2; exact absurd hj2 hd
  · exact h2 j (by omega) hj2
theorem eg_Sm_first {k : Prop} {D : Nat → Prop} {A : Nat → Nat} {i : Nat} (h : eg_No D i) (hd : D i) : eg_Sm k D A (i + 1) (A i) := by
  refine ⟨⟨i, by omega, hd, rfl⟩, fun j hj hj2 => ?_⟩
  by_cases q : j = i
  · rw [q]; exact ⟨fun _ => Nat.le_refl _, fun _ => Nat.le_refl _⟩
  · exact absurd hj2 (h j (by omega))
theorem eg_Sm_take {k : Prop} {D : Nat → Prop} {A : Nat → Nat} {i r : Nat} (h : eg_Sm k D A i r) (hd : D i) (h1 : k → A i ≤ r) (h2 : ¬ k → r ≤ A i) :
    eg_Sm k D A (i + 1) (A i) := by
  refine ⟨⟨i, by omega, hd, rfl⟩, fun j hj hj2 => ?_⟩
  by_cases q : j = i
  · rw [q]; exact ⟨fun _ => Nat.le_refl _, fun _ => Nat.le_refl _⟩
  · have c := h.2 j (by omega) hj2
    exact ⟨fun z => Nat.le_trans (h1 z) (c.1 z), fun z => Nat.le_trans (c.2 z) (h2 z)⟩
theorem eg_Sm_keep {k : Prop} {D : Nat → Prop} {A : Nat → Nat} {i r : Nat} (h : eg_Sm k D A i r) (h1 : k → r ≤ A i) (h2 : ¬ k → A i ≤ r) :
    eg_Sm k D A (i + 1) r := by
  obtain ⟨⟨e, he, hD, hA⟩, hh⟩ := h
  refine ⟨⟨e, by omega, hD, hA⟩, fun j hj hj2 => ?_⟩
  by_cases q : j = i
  · rw [q]; exact ⟨h1, h2⟩
  · exact hh j (by omega) hj2

theorem eg_Is_mono {k : Prop} {D : Nat → Prop} {A A' : Nat → Nat} {i r r' : Nat} (h : eg_Is k D A i r) (h' : eg_Is k D A' i r')
    (hA : ∀ e, D e → A e ≤ A' e) : r ≤ r' := by
  rcases h with ⟨_, h0⟩ | ⟨⟨e, he, hD, hr⟩, hs⟩
  · omega
  · rcases h' with ⟨hn, _⟩ | ⟨⟨e', he', hD', hr'⟩, hs'⟩
    · exact absurd hD (hn e he)
    · by_cases hk : k
      · have a := (hs e' he' hD').1 hk
        have b := hA e' hD'
        omega
      · have a := (hs' e he hD).2 hk
        have b := hA e hD
        omega

/-- what f asks at v, where edges at i and beyond don't count, is at most P v, for each P above f that asks no more than it holds -/
theorem eg_Is_le {n C T : Nat} {K : Nat → Prop} {M : Nat → Nat → Prop} {to : Nat → Nat} {g : Nat → Int} {f P : Nat → Nat} {v i r : Nat}
    (hM : eg_Ok n M to g) (hCT : C < T) (hi : ∀ e, M v e → e < i) (hR : eg_Rg n C T P) (hf : ∀ v, v < n → f v ≤ P v)
    (h : eg_Is (K v) (M v) (fun e => eg_ask C T (f (to e)) (g e)) i r) (hP : eg_Pt C T K M to g P v) : r ≤ P v := by
  have mono : ∀ e, M v e → eg_ask C T (f (to e)) (g e) ≤ eg_ask C T (P (to e)) (g e) := fun e he =>
    eg_ask_mono hCT (hf _ (hM v e he).1) (hR _ (hM v e he).1)
  rcases h with ⟨_, h0⟩ | ⟨⟨e, he, hD, hr⟩, hs⟩
  · omega
  · by_cases hk : K v
    · rcases hP.1 hk with q | ⟨e', he', q⟩
      · exact absurd hD (q e)
      · have a := (hs e' (hi e' he') he').1 hk
        have b := mono e' he'
        dsimp only at a
        omega
    · have a := hP.2 hk e hD
      have b := mono e hD
      dsimp only at hr
      omega
theorem eg_Pt_of {C T : Nat} {K : Nat → Prop} {M : Nat → Nat → Prop} {to : Nat → Nat} {g : Nat → Int} {f : Nat → Nat} {v i r : Nat}
    (hi : ∀ e, M v e → e < i) (h : eg_Is (K v) (M v) (fun e => eg_ask C T (f (to e)) (g e)) i r) (hr : r ≤ f v) : eg_Pt C T K M to g f v := by
  rcases h with ⟨hn, _⟩ | ⟨⟨e, he, hD, hre⟩, hs⟩
  · exact ⟨fun _ => Or.inl fun e he => hn e (hi e he) he, fun _ e he => absurd he (hn e (hi e he))⟩
  · refine ⟨fun _ => Or.inr ⟨e, hD, ?_⟩, fun hk e' he' => ?_⟩
    · dsimp only at hre; omega
    · have a := (hs e' (hi e' he') he').2 hk
      dsimp only at a; omega

/-! sums -/
def eg_sm (f : Nat → Nat) : Nat → Nat
  | 0 => 0
  | k + 1 => f k + eg_sm f k
theorem eg_sm_s (f : Nat → Nat) (k : Nat) : eg_sm f (k + 1) = f k + eg_sm f k := rfl
theorem eg_sm_le {f h : Nat → Nat} : ∀ k, (∀ v, v < k → f v ≤ h v) → eg_sm f k ≤ eg_sm h k := by
  intro k
  induction k with
  | zero => intro _; exact Nat.le_refl 0
  | succ k ih =>
    intro q
    have a := ih (fun v hv => q v (by omega))
    have b := q k (by omega)
    rw [eg_sm_s, eg_sm_s]; omega
theorem eg_sm_lt {f h : Nat → Nat} : ∀ k, (∀ v, v < k → f v ≤ h v) → ∀ w, w < k → f w ≠ h w → eg_sm f k + 1 ≤ eg_sm h k := by
  intro k
  induction k with
  | zero => intro _ w hw; omega
  | succ k ih =>
    intro q w hw hne
    have b := q k (by omega)
    rw [eg_sm_s, eg_sm_s]
    by_cases e : w = k
    · subst e
      have a := eg_sm_le w (fun v hv => q v (by omega))
      omega
    · have a := ih (fun v hv => q v (by omega)) w (by omega) hne
      omega
theorem eg_sm_b {f : Nat → Nat} {T : Nat} : ∀ k, (∀ v, v < k → f v ≤ T) → eg_sm f k ≤ k * T := by
  intro k
  induction k with
  | zero => intro _; exact Nat.zero_le _
  | succ k ih =>
    intro q
    have a := ih (fun v hv => q v (by omega))
    have b := q k (by omega)
    rw [eg_sm_s, Nat.succ_mul]; omega
