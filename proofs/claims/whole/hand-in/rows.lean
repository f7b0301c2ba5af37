section
/-! The pure game. A value is at most C or it is T (endless); K v: v is the keeper's; M v e: e is an edge from v that counts;
to e: its end; g e: its gain. Pt f v: what f asks at v is at most f v. Lst f: f is the least of all that ask no more than they hold. -/
def eg_ask (C T a : Nat) (g : Int) : Nat :=
  if a = T then T else if (a : Int) - g < 0 then 0 else if (C : Int) < (a : Int) - g then T else ((a : Int) - g).toNat

theorem eg_ask_T {C T a : Nat} {g : Int} (h : a = T) : eg_ask C T a g = T := by
  unfold eg_ask; rw [if_pos h]
theorem eg_ask_0 {C T a : Nat} {g : Int} (h : a ≠ T) (h0 : (a : Int) - g < 0) : eg_ask C T a g = 0 := by
  unfold eg_ask; rw [if_neg h, if_pos h0]
theorem eg_ask_C {C T a : Nat} {g : Int} (h : a ≠ T) (h0 : ¬ (a : Int) - g < 0) (hc : (C : Int) < (a : Int) - g) : eg_ask C T a g = T := by
  unfold eg_ask; rw [if_neg h, if_neg h0, if_pos hc]
theorem eg_ask_x {C T a : Nat} {g : Int} (h : a ≠ T) (h0 : ¬ (a : Int) - g < 0) (hc : ¬ (C : Int) < (a : Int) - g) : eg_ask C T a g = ((a : Int) - g).toNat := by
  unfold eg_ask; rw [if_neg h, if_neg h0, if_neg hc]

/-- the four cases at once, for omega -/
theorem eg_ask_c (C T a : Nat) (g : Int) :
    (a = T ∧ eg_ask C T a g = T) ∨ (a ≠ T ∧ (a : Int) - g < 0 ∧ eg_ask C T a g = 0) ∨
    (a ≠ T ∧ (C : Int) < (a : Int) - g ∧ eg_ask C T a g = T) ∨
    (a ≠ T ∧ 0 ≤ (a : Int) - g ∧ (a : Int) - g ≤ C ∧ ((eg_ask C T a g : Nat) : Int) = (a : Int) - g) := by
  by_cases h : a = T
  · exact Or.inl ⟨h, eg_ask_T h⟩
  · by_cases h0 : (a : Int) - g < 0
    · exact Or.inr (Or.inl ⟨h, h0, eg_ask_0 h h0⟩)
    · by_cases hc : (C : Int) < (a : Int) - g
      · exact Or.inr (Or.inr (Or.inl ⟨h, hc, eg_ask_C h h0 hc⟩))
      · refine Or.inr (Or.inr (Or.inr ⟨h, by omega, by omega, ?_⟩))
        rw [eg_ask_x h h0 hc]
        exact Int.toNat_of_nonneg (by omega)

theorem eg_ask_r (C T a : Nat) (g : Int) : eg_ask C T a g ≤ C ∨ eg_ask C T a g = T := by
  have h := eg_ask_c C T a g
  omega
theorem eg_ask_mono {C T a b : Nat} {g : Int} (hCT : C < T) (hab : a ≤ b) (hb : b ≤ C ∨ b = T) : eg_ask C T a g ≤ eg_ask C T b g := by
  have h := eg_ask_c C T a g
  have h' := eg_ask_c C T b g
  omega

def eg_dn (T s x : Nat) : Nat := if x ≠ T ∧ s < x then x - 1 else x
theorem eg_dn_c (T s x : Nat) : (x ≠ T ∧ s < x ∧ eg_dn T s x + 1 = x) ∨ ((x = T ∨ x ≤ s) ∧ eg_dn T s x = x) := by
  by_cases h : x ≠ T ∧ s < x
  · refine Or.inl ⟨h.1, h.2, ?_⟩
    unfold eg_dn; rw [if_pos h]; omega
  · refine Or.inr ⟨by omega, ?_⟩
    unfold eg_dn; rw [if_neg h]
theorem eg_dn_ask {C T s a b : Nat} {g : Int} (hCT : C < T) (ra : a ≤ C ∨ a = T) (rb : b ≤ C ∨ b = T) (h1 : -6 ≤ g)
    (ha : a ≠ T → s < a ∨ a + 6 ≤ s) (h : eg_ask C T a g ≤ b) : eg_ask C T (eg_dn T s a) g ≤ eg_dn T s b := by
  have e1 := eg_ask_c C T a g
  have e2 := eg_ask_c C T (eg_dn T s a) g
  have e3 := eg_dn_c T s a
  have e4 := eg_dn_c T s b
  generalize eg_ask C T (eg_dn T s a) g = q at e2 ⊢
  generalize eg_ask C T a g = p at e1 h
  generalize eg_dn T s a = a' at e2 e3
  generalize eg_dn T s b = b' at e4 ⊢
  rcases e4 with ⟨b1, b2, b3⟩ | ⟨b1, b3⟩
  · have hb : b ≤ C := by omega
    have haT : a ≠ T := by omega
    have ha' := ha haT
    rcases e3 with ⟨a1, a2, a3⟩ | ⟨a1, a3⟩
    · omega
    · omega
  · rcases e3 with ⟨a1, a2, a3⟩ | ⟨a1, a3⟩
    · omega
    · omega

def eg_Rg (n C T : Nat) (f : Nat → Nat) : Prop := ∀ v, v < n → f v ≤ C ∨ f v = T
def eg_Pt (C T : Nat) (K : Nat → Prop) (M : Nat → Nat → Prop) (to : Nat → Nat) (g : Nat → Int) (f : Nat → Nat) (v : Nat) : Prop :=
  (K v → (∀ e, ¬ M v e) ∨ ∃ e, M v e ∧ eg_ask C T (f (to e)) (g e) ≤ f v) ∧ (¬ K v → ∀ e, M v e → eg_ask C T (f (to e)) (g e) ≤ f v)
def eg_Pre (n C T : Nat) (K : Nat → Prop) (M : Nat → Nat → Prop) (to : Nat → Nat) (g : Nat → Int) (f : Nat → Nat) : Prop :=
  ∀ v, v < n → eg_Pt C T K M to g f v
def eg_Lo (n C T : Nat) (K : Nat → Prop) (M : Nat → Nat → Prop) (to : Nat → Nat) (g : Nat → Int) (f : Nat → Nat) : Prop :=
  ∀ P, eg_Rg n C T P → eg_Pre n C T K M to g P → ∀ v, v < n → f v ≤ P v
def eg_Lst (n C T : Nat) (K : Nat → Prop) (M : Nat → Nat → Prop) (to : Nat → Nat) (g : Nat → Int) (f : Nat → Nat) : Prop :=
  eg_Rg n C T f ∧ eg_Pre n C T K M to g f ∧ eg_Lo n C T K M to g f
def eg_Ok (n : Nat) (M : Nat → Nat → Prop) (to : Nat → Nat) (g : Nat → Int) : Prop :=
  ∀ v e, M v e → to e < n ∧ -6 ≤ g e ∧ g e ≤ 6

/-- no gap of six: what lies above a gap could all be less by one -/
theorem eg_gap {n C T : Nat} {K : Nat → Prop} {M : Nat → Nat → Prop} {to : Nat → Nat} {g : Nat → Int} {f : Nat → Nat}
    (hM : eg_Ok n M to g) (hCT : C < T) (L : eg_Lst n C T K M to g f) (s : Nat)
    (H : ∀ v, v < n → f v ≠ T → s < f v ∨ f v + 6 ≤ s) : ∀ v, v < n → f v ≠ T → f v ≤ s := by
  obtain ⟨R, P, Lm⟩ := L
  have hR : eg_Rg n C T (fun v => eg_dn T s (f v)) := by
    intro v hv
    have h1 := R v hv
    have h2 := eg_dn_c T s (f v)
    show eg_dn T s (f v) ≤ C ∨ eg_dn T s (f v) = T
    omega
  have hP : eg_Pre n C T K M to g (fun v => eg_dn T s (f v)) := by
    intro v hv
    refine ⟨fun hk => ?_, fun hk e he => ?_⟩
    · rcases (P v hv).1 hk with h | ⟨e, he, h⟩
      · exact Or.inl h
      · obtain ⟨h1, h2, _⟩ := hM v e he
        exact Or.inr ⟨e, he, eg_dn_ask hCT (R _ h1) (R _ hv) h2 (H _ h1) h⟩
    · obtain ⟨h1, h2, _⟩ := hM v e he
      exact eg_dn_ask hCT (R _ h1) (R _ hv) h2 (H _ h1) ((P v hv).2 hk e he)
  intro v hv ht
  have h1 : f v ≤ eg_dn T s (f v) := Lm _ hR hP v hv
  have h2 := eg_dn_c T s (f v)
  omega

/-! counting -/
def eg_cn (p : Nat → Bool) : Nat → Nat
  | 0 => 0
  | k + 1 => (if p k = true then 1 else 0) + eg_cn p k
theorem eg_cn_t {p : Nat → Bool} {k : Nat} (h : p k = true) : eg_cn p (k + 1) = 1 + eg_cn p k := by
  show (if p k = true then 1 else 0) + eg_cn p k = _
  rw [if_pos h]
theorem eg_cn_f {p : Nat → Bool} {k : Nat} (h : ¬ p k = true) : eg_cn p (k + 1) = eg_cn p k := by
  show (if p k = true then 1 else 0) + eg_cn p k = _
  rw [if_neg h, Nat.zero_add]
theorem eg_cn_le (p : Nat → Bool) : ∀ k, eg_cn p k ≤ k := by
  intro k
  induction k with
  | zero => exact Nat.le_refl 0
  | succ k ih =>
    by_cases h : p k = true
    · rw [eg_cn_t h]; omega
    · rw [eg_cn_f h]; omega
theorem eg_cn_mono {p q : Nat → Bool} : ∀ k, (∀ v, v < k → p v = true → q v = true) → eg_cn p k ≤ eg_cn q k := by
  intro k
  induction k with
  | zero => intro _; exact Nat.le_refl 0
  | succ k ih =>
    intro h
    have ih' := ih (fun v hv => h v (by omega))
    by_cases hp : p k = true
    · rw [eg_cn_t hp, eg_cn_t (h k (by omega) hp)]; omega
    · rw [eg_cn_f hp]
      by_cases hq : q k = true
      · rw [eg_cn_t hq]; omega
      · rw [eg_cn_f hq]; exact ih'
theorem eg_cn_lt {p q : Nat → Bool} : ∀ k, (∀ v, v < k → p v = true → q v = true) → ∀ w, w < k → ¬ p w = true → q w = true → eg_cn p k < eg_cn q k := by
  intro k
  induction k with
  | zero => intro _ w hw; omega
  | succ k ih =>
    intro h w hw hp hq
    by_cases e : w = k
    · subst e
      have m := eg_cn_mono w (fun v hv => h v (by omega))
      rw [eg_cn_f hp, eg_cn_t hq]; omega
    · have i := ih (fun v hv => h v (by omega)) w (by omega) hp hq
      by_cases hp' : p k = true
      · rw [eg_cn_t hp', eg_cn_t (h k (by omega) hp')]; omega
      · rw [eg_cn_f hp']
        by_cases hq' : q k = true
        · rw [eg_cn_t hq']; omega
        · rw [eg_cn_f hq']; exact i
theorem eg_cn_all {p : Nat → Bool} : ∀ k, k ≤ eg_cn p k → ∀ v, v < k → p v = true := by
  intro k
  induction k with
  | zero => intro _ v hv; omega
  | succ k ih =>
    intro h v hv
    have l := eg_cn_le p k
    by_cases hp : p k = true
    · rw [eg_cn_t hp] at h
      by_cases e : v = k
      · rw [e]; exact hp
      · exact ih (by omega) v (by omega)
    · rw [eg_cn_f hp] at h
      omega

/-- a need is never greater than 6 * (n - 1) -/
theorem eg_bound {n C T : Nat} {K : Nat → Prop} {M : Nat → Nat → Prop} {to : Nat → Nat} {g : Nat → Int} {f : Nat → Nat}
    (hM : eg_Ok n M to g) (hCT : C < T) (L : eg_Lst n C T K M to g f) : ∀ v, v < n → f v ≠ T → f v ≤ 6 * (n - 1) := by
  intro v0 hv0 ht0
  refine Nat.le_of_not_lt fun hgt => ?_
  have step : ∀ j, j < n → ∃ v, v < n ∧ f v ≠ T ∧ f v ≤ 6 * j ∧ 6 * j < f v + 6 := by
    intro j hj
    refine Classical.byContradiction fun hno => ?_
    have h : f v0 ≤ 6 * j := eg_gap hM hCT L (6 * j) (fun v hv hf => Classical.byContradiction fun hh => hno ⟨v, hv, hf, by omega, by omega⟩) v0 hv0 ht0
    omega
  have cnt : ∀ j, j < n → j + 1 ≤ eg_cn (fun v => decide (f v ≠ T ∧ f v ≤ 6 * j)) n := by
    intro j
    induction j with
    | zero =>
      intro hj
      obtain ⟨v, hv, h1, h2, h3⟩ := step 0 hj
      have h := eg_cn_lt (p := fun _ => false) (q := fun v => decide (f v ≠ T ∧ f v ≤ 6 * 0)) n (fun v _ hf => absurd hf Bool.false_ne_true) v hv (fun hf => Bool.false_ne_true hf) (decide_eq_true ⟨h1, h2⟩)
      omega
    | succ j ih =>
      intro hj
      have i := ih (by omega)
      obtain ⟨v, hv, h1, h2, h3⟩ := step (j + 1) hj
      have h := eg_cn_lt (p := fun v => decide (f v ≠ T ∧ f v ≤ 6 * j)) (q := fun v => decide (f v ≠ T ∧ f v ≤ 6 * (j + 1))) n
        (fun v _ hf => decide_eq_true (by have hf' := of_decide_eq_true hf; exact ⟨hf'.1, by omega⟩)) v hv
        (fun hf => by have hf' := of_decide_eq_true hf; omega) (decide_eq_true ⟨h1, h2⟩)
      omega
  have hn := cnt (n - 1) (by omega)
  have ha := eg_cn_all (p := fun v => decide (f v ≠ T ∧ f v ≤ 6 * (n - 1))) n (by omega) v0 hv0
  have hd := of_decide_eq_true ha
  omega

/-- the needs by two caps are the same -/
def eg_up (x : Nat) : Nat := if x = 31 then 99 else x
theorem eg_up_c (x : Nat) : (x = 31 ∧ eg_up x = 99) ∨ (x ≠ 31 ∧ eg_up x = x) := by
  by_cases h : x = 31
  · exact Or.inl ⟨h, by unfold eg_up; rw [if_pos h]⟩
  · exact Or.inr ⟨h, by unfold eg_up; rw [if_neg h]⟩
def eg_lw (x : Nat) : Nat := if x = 99 then 31 else x
theorem eg_lw_c (x : Nat) : (x = 99 ∧ eg_lw x = 31) ∨ (x ≠ 99 ∧ eg_lw x = x) := by
  by_cases h : x = 99
  · exact Or.inl ⟨h, by unfold eg_lw; rw [if_pos h]⟩
  · exact Or.inr ⟨h, by unfold eg_lw; rw [if_neg h]⟩
theorem eg_up_ask {C a b : Nat} {g : Int} (hC : C ≤ 30) (ra : a ≤ 30 ∨ a = 31) (rb : b ≤ C ∨ b = 31) (h : eg_ask 30 31 a g ≤ b) :
    eg_ask C 99 (eg_up a) g ≤ eg_up b := by
  have e1 := eg_ask_c 30 31 a g
  have e2 := eg_ask_c C 99 (eg_up a) g
  have e3 := eg_up_c a
  have e4 := eg_up_c b
  generalize eg_ask C 99 (eg_up a) g = q at e2 ⊢
  generalize eg_ask 30 31 a g = p at e1 h
  generalize eg_up a = a' at e2 e3
  generalize eg_up b = b' at e4 ⊢
  rcases e4 with ⟨b1, b2⟩ | ⟨b1, b2⟩ <;> rcases e3 with ⟨a1, a2⟩ | ⟨a1, a2⟩ <;> omega
theorem eg_lw_ask {C a b : Nat} {g : Int} (hC : C ≤ 30) (ra : a ≤ C ∨ a = 99) (rb : b ≤ C ∨ b = 99) (h : eg_ask C 99 a g ≤ b) :
    eg_ask 30 31 (eg_lw a) g ≤ eg_lw b := by
  have e1 := eg_ask_c C 99 a g
  have e2 := eg_ask_c 30 31 (eg_lw a) g
  have e3 := eg_lw_c a
  have e4 := eg_lw_c b
  generalize eg_ask 30 31 (eg_lw a) g = q at e2 ⊢
  generalize eg_ask C 99 a g = p at e1 h
  generalize eg_lw a = a' at e2 e3
  generalize eg_lw b = b' at e4 ⊢
  rcases e4 with ⟨b1, b2⟩ | ⟨b1, b2⟩ <;> rcases e3 with ⟨a1, a2⟩ | ⟨a1, a2⟩ <;> omega
theorem eg_same {n C : Nat} {K : Nat → Prop} {M : Nat → Nat → Prop} {to : Nat → Nat} {g : Nat → Int} {f h : Nat → Nat}
    (hM : eg_Ok n M to g) (hC : C = 6 * (n - 1)) (hn : n ≤ 6) (L : eg_Lst n 30 31 K M to g f) (L' : eg_Lst n C 99 K M to g h) :
    ∀ v, v < n → h v = eg_up (f v) := by
  have hC30 : C ≤ 30 := by omega
  have B := eg_bound hM (by omega) L
  obtain ⟨R, P, Lm⟩ := L
  obtain ⟨R', P', Lm'⟩ := L'
  have rC : ∀ v, v < n → f v ≤ C ∨ f v = 31 := by
    intro v hv
    by_cases e : f v = 31
    · exact Or.inr e
    · have b := B v hv e
      exact Or.inl (by omega)
  have u1 : ∀ v, v < n → h v ≤ eg_up (f v) := by
    refine Lm' (fun v => eg_up (f v)) (fun v hv => ?_) (fun v hv => ⟨fun hk => ?_, fun hk e he => ?_⟩)
    · have h1 := rC v hv
      have h2 := eg_up_c (f v)
      show eg_up (f v) ≤ C ∨ eg_up (f v) = 99
      omega
    · rcases (P v hv).1 hk with q | ⟨e, he, q⟩
      · exact Or.inl q
      · exact Or.inr ⟨e, he, eg_up_ask hC30 (R _ (hM v e he).1) (rC v hv) q⟩
    · exact eg_up_ask hC30 (R _ (hM v e he).1) (rC v hv) ((P v hv).2 hk e he)
  have u2 : ∀ v, v < n → f v ≤ eg_lw (h v) := by
    refine Lm (fun v => eg_lw (h v)) (fun v hv => ?_) (fun v hv => ⟨fun hk => ?_, fun hk e he => ?_⟩)
    · have h1 := R' v hv
      have h2 := eg_lw_c (h v)
      show eg_lw (h v) ≤ 30 ∨ eg_lw (h v) = 31
      omega
    · rcases (P' v hv).1 hk with q | ⟨e, he, q⟩
      · exact Or.inl q
      · exact Or.inr ⟨e, he, eg_lw_ask hC30 (R' _ (hM v e he).1) (R' v hv) q⟩
    · exact eg_lw_ask hC30 (R' _ (hM v e he).1) (R' v hv) ((P' v hv).2 hk e he)
  intro v hv
  have a1 := u1 v hv
  have a2 := u2 v hv
  have a3 := R v hv
  have a4 := R' v hv
  have a5 := eg_up_c (f v)
  have a6 := eg_lw_c (h v)
  omega

/-! the best of the edges seen so far: k, the least is wanted; D e, edge e counts; A e, what it asks -/
def eg_No (D : Nat → Prop) (i : Nat) : Prop := ∀ e, e < i → ¬ D e
def eg_Sm (k : Prop) (D : Nat → Prop) (A : Nat → Nat) (i r : Nat) : Prop :=
  (∃ e, e < i ∧ D e ∧ A e = r) ∧ ∀ e, e < i → D e → (k → r ≤ A e) ∧ (¬ k → A e ≤ r)
def eg_Is (k : Prop) (D : Nat → Prop) (A : Nat → Nat) (i r : Nat) : Prop := (eg_No D i ∧ r = 0) ∨ eg_Sm k D A i r
theorem eg_No_0 {D : Nat → Prop} : eg_No D 0 := fun e he => by omega
theorem eg_No_s {D : Nat → Prop} {i : Nat} (h : eg_No D i) (hd : ¬ D i) : eg_No D (i + 1) := by
  intro e he
  by_cases q : e = i
  · rw [q]; exact hd
  · exact h e (by omega)
theorem eg_Sm_skip {k : Prop} {D : Nat → Prop} {A : Nat → Nat} {i r : Nat} (h : eg_Sm k D A i r) (hd : ¬ D i) : eg_Sm k D A (i + 1) r := by
  obtain ⟨⟨e, he, hD, hA⟩, h2⟩ := h
  refine ⟨⟨e, by omega, hD, hA⟩, fun j hj hj2 => ?_⟩
  by_cases q : j = i
  · rw [q] at hj2; exact absurd hj2 hd
  · exact h2 j (by omega) hj2
theorem eg_Sm_first {k : Prop} {D : Nat → Prop} {A : Nat → Nat} {i : Nat} (h : eg_No D i) (hd : D i) : eg_Sm k D A (i + 1) (A i) := by
  refine ⟨⟨i, by omega, hd, rfl⟩, fun j hj hj2 => ?_⟩
  by_cases q : j = i
  · rw [q]; exact ⟨fun _ => Nat.le_refl _, fun _ => Nat.le_refl _⟩
  · exact absurd hj2 (h j (by omega))
theorem eg_Sm_take {k : Prop} {D : Nat → Prop} {A : Nat → Nat} {i r : Nat} (h : eg_Sm k D A i r) (hd : D i) (h1 : k → A i ≤ r) (h2 : ¬ k → r ≤ A i) :
    eg_Sm k D A (i + 1) (A i) := by
  refine ⟨⟨i, by omega, hd, rfl⟩, fun j hj hj2 => ?_⟩
  by_cases q : j = i
  · rw [q]; exact ⟨fun _ => Nat.le_refl _, fun _ => Nat.le_refl _⟩
  · have c := h.2 j (by omega) hj2
    exact ⟨fun z => Nat.le_trans (h1 z) (c.1 z), fun z => Nat.le_trans (c.2 z) (h2 z)⟩
theorem eg_Sm_keep {k : Prop} {D : Nat → Prop} {A : Nat → Nat} {i r : Nat} (h : eg_Sm k D A i r) (h1 : k → r ≤ A i) (h2 : ¬ k → A i ≤ r) :
    eg_Sm k D A (i + 1) r := by
  obtain ⟨⟨e, he, hD, hA⟩, hh⟩ := h
  refine ⟨⟨e, by omega, hD, hA⟩, fun j hj hj2 => ?_⟩
  by_cases q : j = i
  · rw [q]; exact ⟨h1, h2⟩
  · exact hh j (by omega) hj2

theorem eg_Is_mono {k : Prop} {D : Nat → Prop} {A A' : Nat → Nat} {i r r' : Nat} (h : eg_Is k D A i r) (h' : eg_Is k D A' i r')
    (hA : ∀ e, D e → A e ≤ A' e) : r ≤ r' := by
  rcases h with ⟨_, h0⟩ | ⟨⟨e, he, hD, hr⟩, hs⟩
  · omega
  · rcases h' with ⟨hn, _⟩ | ⟨⟨e', he', hD', hr'⟩, hs'⟩
    · exact absurd hD (hn e he)
    · by_cases hk : k
      · have a := (hs e' he' hD').1 hk
        have b := hA e' hD'
        omega
      · have a := (hs' e he hD).2 hk
        have b := hA e hD
        omega

/-- what f asks at v, where edges at i and beyond don't count, is at most P v, for each P above f that asks no more than it holds -/
theorem eg_Is_le {n C T : Nat} {K : Nat → Prop} {M : Nat → Nat → Prop} {to : Nat → Nat} {g : Nat → Int} {f P : Nat → Nat} {v i r : Nat}
    (hM : eg_Ok n M to g) (hCT : C < T) (hi : ∀ e, M v e → e < i) (hR : eg_Rg n C T P) (hf : ∀ v, v < n → f v ≤ P v)
    (h : eg_Is (K v) (M v) (fun e => eg_ask C T (f (to e)) (g e)) i r) (hP : eg_Pt C T K M to g P v) : r ≤ P v := by
  have mono : ∀ e, M v e → eg_ask C T (f (to e)) (g e) ≤ eg_ask C T (P (to e)) (g e) := fun e he =>
    eg_ask_mono hCT (hf _ (hM v e he).1) (hR _ (hM v e he).1)
  rcases h with ⟨_, h0⟩ | ⟨⟨e, he, hD, hr⟩, hs⟩
  · omega
  · by_cases hk : K v
    · rcases hP.1 hk with q | ⟨e', he', q⟩
      · exact absurd hD (q e)
      · have a := (hs e' (hi e' he') he').1 hk
        have b := mono e' he'
        dsimp only at a
        omega
    · have a := hP.2 hk e hD
      have b := mono e hD
      dsimp only at hr
      omega
theorem eg_Pt_of {C T : Nat} {K : Nat → Prop} {M : Nat → Nat → Prop} {to : Nat → Nat} {g : Nat → Int} {f : Nat → Nat} {v i r : Nat}
    (hi : ∀ e, M v e → e < i) (h : eg_Is (K v) (M v) (fun e => eg_ask C T (f (to e)) (g e)) i r) (hr : r ≤ f v) : eg_Pt C T K M to g f v := by
  rcases h with ⟨hn, _⟩ | ⟨⟨e, he, hD, hre⟩, hs⟩
  · exact ⟨fun _ => Or.inl fun e he => hn e (hi e he) he, fun _ e he => absurd he (hn e (hi e he))⟩
  · refine ⟨fun _ => Or.inr ⟨e, hD, ?_⟩, fun hk e' he' => ?_⟩
    · dsimp only at hre; omega
    · have a := (hs e' (hi e' he') he').2 hk
      dsimp only at a; omega

/-! sums -/
def eg_sm (f : Nat → Nat) : Nat → Nat
  | 0 => 0
  | k + 1 => f k + eg_sm f k
theorem eg_sm_s (f : Nat → Nat) (k : Nat) : eg_sm f (k + 1) = f k + eg_sm f k := rfl
theorem eg_sm_le {f h : Nat → Nat} : ∀ k, (∀ v, v < k → f v ≤ h v) → eg_sm f k ≤ eg_sm h k := by
  intro k
  induction k with
  | zero => intro _; exact Nat.le_refl 0
  | succ k ih =>
    intro q
    have a := ih (fun v hv => q v (by omega))
    have b := q k (by omega)
    rw [eg_sm_s, eg_sm_s]; omega
theorem eg_sm_lt {f h : Nat → Nat} : ∀ k, (∀ v, v < k → f v ≤ h v) → ∀ w, w < k → f w ≠ h w → eg_sm f k + 1 ≤ eg_sm h k := by
  intro k
  induction k with
  | zero => intro _ w hw; omega
  | succ k ih =>
    intro q w hw hne
    have b := q k (by omega)
    rw [eg_sm_s, eg_sm_s]
    by_cases e : w = k
    · subst e
      have a := eg_sm_le w (fun v hv => q v (by omega))
      omega
    · have a := ih (fun v hv => q v (by omega)) w (by omega) hne
      omega
theorem eg_sm_b {f : Nat → Nat} {T : Nat} : ∀ k, (∀ v, v < k → f v ≤ T) → eg_sm f k ≤ k * T := by
  intro k
  induction k with
  | zero => intro _; exact Nat.zero_le _
  | succ k ih =>
    intro q
    have a := ih (fun v hv => q v (by omega))
    have b := q k (by omega)
    rw [eg_sm_s, Nat.succ_mul]; omega
end
section
/-! small rows (pk_*: the kit's rows to paste), the relation -/
theorem pk_us {f : Nat → Int32} {k : Nat} {x : Int32} : upd f k x k = x := if_pos rfl
theorem pk_un {f : Nat → Int32} {k j : Nat} {x : Int32} (h : j ≠ k) : upd f k x j = f j := if_neg h
theorem pk_sub {a b : Nat} (h : b ≤ a) : nI a - nI b = nI (a - b) := by
  obtain ⟨c, rfl⟩ : ∃ c, a = c + b := ⟨a - b, by omega⟩
  rw [← nI_add, Int32.add_sub_cancel, Nat.add_sub_cancel]
theorem pk_mul (a b : Nat) : nI a * nI b = nI (a * b) := (Int32.ofNat_mul a b).symm
theorem pk_div {a d : Nat} (ha : a < 2 ^ 31) (h0 : 0 < d) (hd : d < 2 ^ 31) : nI a / nI d = nI (a / d) := by
  apply Int32.toInt_inj.mp
  rw [lg_idiv_nonneg (by rw [nI_toInt ha]; omega) (by rw [nI_toInt hd]; omega), nI_toInt ha, nI_toInt hd, nI_toInt (Nat.lt_of_le_of_lt (Nat.div_le_self a d) ha)]
  first | rfl | exact (Int.natCast_ediv _ _).symm
theorem pk_rem {a d : Nat} (ha : a < 2 ^ 31) (h0 : 0 < d) (hd : d < 2 ^ 31) : nI a - nI a / nI d * nI d = nI (a % d) := by
  rw [pk_div ha h0 hd, pk_mul, pk_sub (Nat.div_mul_le_self a d)]
  exact congrArg nI (by have := Nat.div_add_mod' a d; omega)
theorem pk_ix (x : Int32) {n : Nat} (hn : n < 2 ^ 31) : x < 0 ∨ nI n ≤ x ∨ ∃ j : Nat, j < n ∧ x = nI j := by
  by_cases h : x < 0
  · exact Or.inl h
  · obtain ⟨j, hj, rfl⟩ := nI_of h
    by_cases h2 : j < n
    · exact Or.inr (Or.inr ⟨j, h2, rfl⟩)
    · exact Or.inr (Or.inl (nI_le (by omega) hj))
theorem pk_le {x y : Int32} {A B : Prop} (a b : Nat) (f : a ≤ b → A) (g : b < a → B) (hx : x = nI a := by rfl) (hy : y = nI b := by rfl) (ha : a < 2 ^ 31 := by omega) (hb : b < 2 ^ 31 := by omega) : (x ≤ y → A) ∧ (¬ x ≤ y → B) := by
  subst hx hy
  rw [nI_leI ha hb]
  exact ⟨f, fun z => g (by omega)⟩
theorem pk_lt {x y : Int32} {A B : Prop} (a b : Nat) (f : a < b → A) (g : b ≤ a → B) (hx : x = nI a := by rfl) (hy : y = nI b := by rfl) (ha : a < 2 ^ 31 := by omega) (hb : b < 2 ^ 31 := by omega) : (x < y → A) ∧ (¬ x < y → B) := by
  subst hx hy
  rw [nI_ltI ha hb]
  exact ⟨f, fun z => g (by omega)⟩
theorem pk_eq {x y : Int32} {A B : Prop} (a b : Nat) (f : a = b → A) (g : a ≠ b → B) (hx : x = nI a := by rfl) (hy : y = nI b := by rfl) (ha : a < 2 ^ 31 := by omega) (hb : b < 2 ^ 31 := by omega) : (x = y → A) ∧ (¬ x = y → B) := by
  subst hx hy
  rw [nI_eq ha hb]
  exact ⟨f, g⟩
theorem pk_cl {x : Int32} (n : Nat) (hx : x = nI n := by rfl) (h : n < 2 ^ 31 := by omega) : x.toNatClampNeg = n := by
  subst hx
  exact nI_clamp h
theorem ex_cl {x : Int32} {c : Nat} (hc : c < 2 ^ 31) : x ≤ nI c ↔ x.toInt ≤ c := by
  rw [Int32.le_iff_toInt_le, nI_toInt hc]
theorem ex_c0 {x : Int32} : 0 ≤ x ↔ 0 ≤ x.toInt := by
  rw [Int32.le_iff_toInt_le, show (0 : Int32).toInt = 0 from by decide]
theorem ex_nn {x : Int32} (h : 0 ≤ x.toInt) : x = nI x.toInt.toNat := by
  have hl := Int32.toInt_lt x
  apply Int32.toInt_inj.mp
  rw [nI_toInt (by omega)]
  omega
theorem ex_sub {a : Nat} {g : Int32} (ha : a ≤ 99) (g1 : -6 ≤ g.toInt) (g2 : g.toInt ≤ 6) : (nI a - g).toInt = (a : Int) - g.toInt := by
  rw [Int32.toInt_sub, nI_toInt (by omega)]
  exact Int.bmod_eq_of_le (by omega) (by omega)
theorem ex_step {post : Int32 → Prop} {C T a : Nat} {g : Int32} (hC : C ≤ 30) (ha : a ≤ 99) (g1 : -6 ≤ g.toInt) (g2 : g.toInt ≤ 6) (hne : a ≠ T)
    (h : post (nI (eg_ask C T a g.toInt))) :
    (0 ≤ nI a - g → ((nI a - g ≤ nI C → post (nI a - g)) ∧ (¬ nI a - g ≤ nI C → post (nI T)))) ∧ (¬ 0 ≤ nI a - g → post 0) := by
  have hx := ex_sub ha g1 g2
  have c := eg_ask_c C T a g.toInt
  refine ⟨fun z => ⟨fun y => ?_, fun y => ?_⟩, fun z => ?_⟩
  · rw [ex_c0] at z
    rw [ex_cl (by omega)] at y
    have e : eg_ask C T a g.toInt = (nI a - g).toInt.toNat := by rw [hx] at z y ⊢; omega
    rw [ex_nn z, ← e]
    exact h
  · rw [ex_c0] at z
    rw [ex_cl (by omega)] at y
    have e : eg_ask C T a g.toInt = T := by rw [hx] at z y; omega
    rw [e] at h
    exact h
  · rw [ex_c0] at z
    have e : eg_ask C T a g.toInt = 0 := by rw [hx] at z; omega
    rw [e] at h
    exact h

/-- what the arrays of the edges hold -/
def eg_Gd (n m : Nat) (fr tt ga : Nat → Int32) : Prop :=
  (2 ≤ n ∧ n ≤ 6 ∧ m ≤ 14) ∧ (∀ e, e < m → ∃ j, j < n ∧ fr e = nI j) ∧ (∀ e, e < m → ∃ j, j < n ∧ tt e = nI j) ∧ (∀ e, e < m → -6 ≤ (ga e).toInt ∧ (ga e).toInt ≤ 6)
def eg_K (ow : Nat → Int32) (v : Nat) : Prop := ow v = 0
def eg_KY (ow : Nat → Int32) (sp pl : Int32) (v : Nat) : Prop := (if nI v = sp then pl else ow v) = 0
def eg_M (m : Nat) (fr : Nat → Int32) (w : Int32) (v e : Nat) : Prop := e < m ∧ fr e = nI v ∧ ¬ nI e = w
def eg_to (tt : Nat → Int32) (e : Nat) : Nat := (tt e).toNatClampNeg
def eg_g (ga : Nat → Int32) (e : Nat) : Int := (ga e).toInt
def eg_A (C T : Nat) (tt ga : Nat → Int32) (f : Nat → Nat) (e : Nat) : Nat := eg_ask C T (f (eg_to tt e)) (eg_g ga e)
theorem eg_A_b {C T : Nat} {tt ga : Nat → Int32} {f : Nat → Nat} {e : Nat} (hC : C ≤ 99) (hT : T ≤ 99) : eg_A C T tt ga f e ≤ 99 := by
  have h : eg_A C T tt ga f e ≤ C ∨ eg_A C T tt ga f e = T := eg_ask_r C T _ _
  omega
theorem eg_Is_r {C T : Nat} {tt ga : Nat → Int32} {f : Nat → Nat} {k : Prop} {D : Nat → Prop} {i r : Nat} (h : eg_Is k D (eg_A C T tt ga f) i r) : r ≤ C ∨ r = T := by
  rcases h with ⟨_, h0⟩ | ⟨⟨e, _, _, hr⟩, _⟩
  · omega
  · rw [← hr]; exact eg_ask_r C T _ _
theorem eg_Gd_ok {n m : Nat} {fr tt ga : Nat → Int32} {w : Int32} (G : eg_Gd n m fr tt ga) : eg_Ok n (eg_M m fr w) (eg_to tt) (eg_g ga) := by
  intro v e h
  obtain ⟨⟨h2, h6, h14⟩, _, ht, hg⟩ := G
  obtain ⟨j, hj, hj'⟩ := ht e h.1
  refine ⟨?_, (hg e h.1).1, (hg e h.1).2⟩
  show (tt e).toNatClampNeg < n
  rw [hj', nI_clamp (by omega)]
  exact hj
def eg_pt (f : Nat → Nat) (i r : Nat) : Nat → Nat := fun v => if v = i then r else f v
theorem eg_pt_s {f : Nat → Nat} {i r : Nat} : eg_pt f i r i = r := if_pos rfl
theorem eg_pt_n {f : Nat → Nat} {i r v : Nat} (h : v ≠ i) : eg_pt f i r v = f v := if_neg h
theorem eg_Pre_K {n C T : Nat} {K K' : Nat → Prop} {M : Nat → Nat → Prop} {to : Nat → Nat} {g : Nat → Int} {f : Nat → Nat}
    (hK : ∀ v, v < n → (K v ↔ K' v)) (h : eg_Pre n C T K M to g f) : eg_Pre n C T K' M to g f :=
  fun v hv => ⟨fun k => (h v hv).1 ((hK v hv).mpr k), fun k => (h v hv).2 (fun z => k ((hK v hv).mp z))⟩
theorem eg_Lst_K {n C T : Nat} {K K' : Nat → Prop} {M : Nat → Nat → Prop} {to : Nat → Nat} {g : Nat → Int} {f : Nat → Nat}
    (hK : ∀ v, v < n → (K v ↔ K' v)) (h : eg_Lst n C T K M to g f) : eg_Lst n C T K' M to g f :=
  ⟨h.1, eg_Pre_K hK h.2.1, fun P hR hP => h.2.2 P hR (eg_Pre_K (fun v hv => (hK v hv).symm) hP)⟩

/-- the relation: the same numbers and the same arrays of owners, starts, ends and gains on both sides; the worked-out arrays are free -/
def i_Rel (_ : Nat) (u : SX) (v : SY) : Prop :=
  ∃ (n m : Nat) (ow fr tt ga ne no la : Nat → Int32), u = (nI n, nI m, ow, fr, tt, ga, ne) ∧ v = (nI n, nI m, ow, fr, tt, ga, no, la) ∧ eg_Gd n m fr tt ga
theorem i_up {k : Nat} {u : SX} {v : SY} (h : i_Rel k u v) : i_Rel (k + 4) u v := h
end
section
/-! the class's findNeeds ends in the least vector, by its own cap (30, endless 31) -/
theorem ex_along {n m : Nat} {ow fr tt ga ne : Nat → Int32} {f : Nat → Nat} (G : eg_Gd n m fr tt ga) (hf : ∀ v, v < n → ne v = nI (f v)) (hr : eg_Rg n 30 31 f)
    {e : Nat} (he : e < m) {post : Int32 → Prop} (h : post (nI (eg_A 30 31 tt ga f e))) :
    wpX_askedAlong post (nI n, nI m, ow, fr, tt, ga, ne) (nI e) := by
  obtain ⟨⟨h2, h6, h14⟩, _, ht, hg⟩ := G
  obtain ⟨j, hj, hj'⟩ := ht e he
  obtain ⟨g1, g2⟩ := hg e he
  have ce : (nI e).toNatClampNeg = e := nI_clamp (by omega)
  have ct : (tt e).toNatClampNeg = j := by rw [hj']; exact nI_clamp (by omega)
  have er := hr j hj
  have h' : post (nI (eg_ask 30 31 (f j) (ga e).toInt)) := by
    have q : eg_to tt e = j := ct
    unfold eg_A at h
    rw [q] at h
    exact h
  have i1 : vp_in (nI e) 14 := vp_in_nI (by omega) (by omega)
  have i2 : vp_in (tt e) 6 := by rw [hj']; exact vp_in_nI (by omega) (by omega)
  unfold wpX_askedAlong
  dsimp only
  rw [ce, ct, hf j hj]
  refine ⟨i1, i2, nm_e ?_⟩
  refine pk_eq (f j) 31 (fun q => ?_) (fun q => ⟨i1, nm_e ?_⟩) rfl rfl (by omega) (by omega)
  · rw [eg_ask_T q] at h'; exact h'
  · exact ex_step (C := 30) (T := 31) (by omega) (by omega) g1 g2 q h'

theorem ex_at_l {n m v : Nat} {ow fr tt ga ne : Nat → Int32} {f : Nat → Nat} {w k3 : Int32} {post : Int32 → Prop} {k : Prop} (G : eg_Gd n m fr tt ga)
    (hf : ∀ v, v < n → ne v = nI (f v)) (hr : eg_Rg n 30 31 f) (hk : k3 = 0 ↔ ¬ k)
    (h : ∀ r, eg_Is k (eg_M m fr w v) (eg_A 30 31 tt ga f) m r → post (nI r)) :
    ∀ (N i : Nat) (x4 x5 : Int32), i ≤ m → m < i + N →
      ((x4 = 0 ∧ x5 = 0 ∧ eg_No (eg_M m fr w v) i) ∨ (x4 = 1 ∧ ∃ r, x5 = nI r ∧ eg_Sm k (eg_M m fr w v) (eg_A 30 31 tt ga f) i r)) →
      wX_askedAt_24 post (nI v) w k3 (nI n) (nI m) ow fr tt ga ne N x4 x5 (nI i) := by
  have hb := G.1
  intro N
  induction N with
  | zero => intro i x4 x5 h1 h2; omega
  | succ N ih =>
    intro i x4 x5 h1 h2 I
    rw [wX_askedAt_24]
    refine pk_le m i (fun q => ?_) (fun q => ⟨vp_in_nI (by omega) (by omega), ?_⟩) rfl rfl (by omega) (by omega)
    · have e : i = m := by omega
      rw [e] at I
      rcases I with ⟨_, p5, hn⟩ | ⟨_, r, p5, hs⟩
      · rw [p5]; exact h 0 (Or.inl ⟨hn, rfl⟩)
      · rw [p5]; exact h r (Or.inr hs)
    · rw [nI_clamp (n := i) (by omega)]
      have sk : ¬ eg_M m fr w v i → wX_askedAt_24 post (nI v) w k3 (nI n) (nI m) ow fr tt ga ne N x4 x5 (nI (i + 1)) := by
        intro nd
        refine ih (i + 1) x4 x5 (by omega) (by omega) ?_
        rcases I with ⟨p4, p5, hn⟩ | ⟨p4, r, p5, hs⟩
        · exact Or.inl ⟨p4, p5, eg_No_s hn nd⟩
        · exact Or.inr ⟨p4, r, p5, eg_Sm_skip hs nd⟩
      refine ⟨fun a => ⟨fun b => nm_r (nI_1 i) (sk (fun d => d.2.2 b)), fun b => ?_⟩, fun a => nm_r (nI_1 i) (sk (fun d => a d.2.1))⟩
      have hd : eg_M m fr w v i := ⟨q, a, b⟩
      have ab : eg_A 30 31 tt ga f i ≤ 99 := eg_A_b (by omega) (by omega)
      have nx : ∀ r, eg_Sm k (eg_M m fr w v) (eg_A 30 31 tt ga f) (i + 1) r → wX_askedAt_24 post (nI v) w k3 (nI n) (nI m) ow fr tt ga ne N 1 (nI r) (nI (i + 1)) :=
        fun r hs => ih (i + 1) 1 (nI r) (by omega) (by omega) (Or.inr ⟨rfl, r, rfl, hs⟩)
      refine ex_along G hf hr q ?_
      rcases I with ⟨p4, p5, hn⟩ | ⟨p4, r, p5, hs⟩
      · exact br_t p4 (nm_r (nI_1 i) (nx _ (eg_Sm_first hn hd)))
      · have rb : r ≤ 99 := by
          obtain ⟨⟨e, _, _, hre⟩, _⟩ := hs
          rw [← hre]; exact eg_A_b (by omega) (by omega)
        refine br_f (by rw [p4]; decide) ?_
        rw [p5]
        refine ⟨fun z => ?_, fun z => ?_⟩
        · have nk : ¬ k := hk.mp z
          exact pk_le (eg_A 30 31 tt ga f i) r (fun y => nm_r (nI_1 i) (nx r (eg_Sm_keep hs (fun hk' => absurd hk' nk) (fun _ => y))))
            (fun y => nm_r (nI_1 i) (nx _ (eg_Sm_take hs hd (fun hk' => absurd hk' nk) (fun _ => by omega)))) rfl rfl (by omega) (by omega)
        · have kk : k := Classical.byContradiction fun c => z (hk.mpr c)
          exact pk_le r (eg_A 30 31 tt ga f i) (fun y => nm_r (nI_1 i) (nx r (eg_Sm_keep hs (fun _ => y) (fun nk => absurd kk nk))))
            (fun y => nm_r (nI_1 i) (nx _ (eg_Sm_take hs hd (fun _ => by omega) (fun nk => absurd kk nk)))) rfl rfl (by omega) (by omega)

theorem ex_at {n m v : Nat} {ow fr tt ga ne : Nat → Int32} {f : Nat → Nat} {w : Int32} {post : Int32 → Prop} (G : eg_Gd n m fr tt ga)
    (hf : ∀ v, v < n → ne v = nI (f v)) (hr : eg_Rg n 30 31 f) (hv : v < n)
    (h : ∀ r, eg_Is (eg_K ow v) (eg_M m fr w v) (eg_A 30 31 tt ga f) m r → post (nI r)) :
    wpX_askedAt post (nI n, nI m, ow, fr, tt, ga, ne) (nI v) w := by
  have hb := G.1
  unfold wpX_askedAt
  dsimp only
  rw [nI_clamp (n := v) (by omega)]
  refine ⟨vp_in_nI (by omega) (by omega), fun a => ⟨m + 1, ?_⟩, fun a => ⟨m + 1, ?_⟩⟩
  · exact ex_at_l (k := eg_K ow v) G hf hr ⟨fun z => absurd z (by decide), fun z => absurd a z⟩ h (m + 1) 0 0 0 (Nat.zero_le _) (by omega) (Or.inl ⟨rfl, rfl, eg_No_0⟩)
  · exact ex_at_l (k := eg_K ow v) G hf hr ⟨fun _ => a, fun _ => rfl⟩ h (m + 1) 0 0 0 (Nat.zero_le _) (by omega) (Or.inl ⟨rfl, rfl, eg_No_0⟩)

theorem ex_43 {n m : Nat} {ow fr tt ga : Nat → Int32} {f0 : Nat → Nat} {w x3 : Int32} {post : SX → Prop}
    {J : Int32 → Int32 → (Nat → Int32) → (Nat → Int32) → (Nat → Int32) → (Nat → Int32) → (Nat → Int32) → Prop} (G : eg_Gd n m fr tt ga)
    (hJ : ∀ (x2 : Int32) (ne : Nat → Int32) (f : Nat → Nat), (∀ v, v < n → ne v = nI (f v)) → eg_Rg n 30 31 f →
      eg_Lo n 30 31 (eg_K ow) (eg_M m fr w) (eg_to tt) (eg_g ga) f →
      ((x2 = 0 ∧ eg_Pre n 30 31 (eg_K ow) (eg_M m fr w) (eg_to tt) (eg_g ga) f) ∨ (x2 = 1 ∧ eg_sm f0 n + 1 ≤ eg_sm f n)) → J x2 (x3 + 1) ow fr tt ga ne) :
    ∀ (N i : Nat) (x2 : Int32) (ne : Nat → Int32) (f : Nat → Nat), i ≤ n → n < i + N → (∀ v, v < n → ne v = nI (f v)) → eg_Rg n 30 31 f →
      eg_Lo n 30 31 (eg_K ow) (eg_M m fr w) (eg_to tt) (eg_g ga) f →
      ((x2 = 0 ∧ f = f0 ∧ ∀ v, v < i → eg_Pt 30 31 (eg_K ow) (eg_M m fr w) (eg_to tt) (eg_g ga) f v) ∨ (x2 = 1 ∧ eg_sm f0 n + 1 ≤ eg_sm f n)) →
      wX_findNeeds_43 post J w x3 (nI n) (nI m) N x2 (nI i) ow fr tt ga ne := by
  have hb := G.1
  have ok := eg_Gd_ok (w := w) G
  intro N
  induction N with
  | zero => intro i x2 ne f h1 h2; omega
  | succ N ih =>
    intro i x2 ne f h1 h2 hf hr hl I
    rw [wX_findNeeds_43]
    refine pk_le n i (fun q => nm_e ?_) (fun q => ?_) rfl rfl (by omega) (by omega)
    · refine hJ x2 ne f hf hr hl ?_
      rcases I with ⟨p, _, hp⟩ | I
      · exact Or.inl ⟨p, fun v hv => hp v (by omega)⟩
      · exact Or.inr I
    · refine ex_at G hf hr q (fun r hI => ?_)
      have rb := eg_Is_r hI
      have fb := hr i q
      rw [nI_clamp (n := i) (by omega), hf i q]
      refine ⟨vp_in_nI (by omega) (by omega), ?_⟩
      refine pk_le r (f i) (fun y => nm_r (nI_1 i) (ih (i + 1) x2 ne f (by omega) (by omega) hf hr hl ?_))
        (fun y => ⟨vp_in_nI (by omega) (by omega), nm_e (nm_r (nI_1 i) (ih (i + 1) 1 (upd ne i (nI r)) (eg_pt f i r) (by omega) (by omega) ?_ ?_ ?_ (Or.inr ⟨rfl, ?_⟩)))⟩)
        rfl rfl (by omega) (by omega)
      · rcases I with ⟨p, e, hp⟩ | I
        · refine Or.inl ⟨p, e, fun v hv => ?_⟩
          by_cases c : v = i
          · rw [c]; exact eg_Pt_of (i := m) (r := r) (fun e he => he.1) hI y
          · exact hp v (by omega)
        · exact Or.inr I
      · intro v hv
        by_cases c : v = i
        · rw [c, pk_us, eg_pt_s]
        · rw [pk_un c, eg_pt_n c]; exact hf v hv
      · intro v hv
        by_cases c : v = i
        · rw [c, eg_pt_s]; exact rb
        · rw [eg_pt_n c]; exact hr v hv
      · intro P hR hP v hv
        by_cases c : v = i
        · rw [c, eg_pt_s]; exact eg_Is_le (i := m) ok (by omega) (fun e he => he.1) hR (hl P hR hP) hI (hP i q)
        · rw [eg_pt_n c]; exact hl P hR hP v hv
      · have s1 : eg_sm f n + 1 ≤ eg_sm (eg_pt f i r) n := by
          refine eg_sm_lt n (fun v hv => ?_) i q (by rw [eg_pt_s]; omega)
          by_cases c : v = i
          · rw [c, eg_pt_s]; omega
          · rw [eg_pt_n c]; exact Nat.le_refl _
        rcases I with ⟨p, e, hp⟩ | ⟨p, s⟩
        · rw [← e]; exact s1
        · omega

theorem ex_27 {n m : Nat} {ow fr tt ga : Nat → Int32} {w : Int32} {post : SX → Prop} (G : eg_Gd n m fr tt ga)
    (h : ∀ (ne : Nat → Int32) (f : Nat → Nat), (∀ v, v < n → ne v = nI (f v)) → eg_Lst n 30 31 (eg_K ow) (eg_M m fr w) (eg_to tt) (eg_g ga) f → post (nI n, nI m, ow, fr, tt, ga, ne)) :
    ∀ (N q : Nat) (x2 : Int32) (ne : Nat → Int32) (f : Nat → Nat), q ≤ 187 → 187 < q + N → (∀ v, v < n → ne v = nI (f v)) → eg_Rg n 30 31 f →
      eg_Lo n 30 31 (eg_K ow) (eg_M m fr w) (eg_to tt) (eg_g ga) f →
      ((x2 = 0 ∧ eg_Pre n 30 31 (eg_K ow) (eg_M m fr w) (eg_to tt) (eg_g ga) f) ∨ (x2 = 1 ∧ q ≤ eg_sm f n)) →
      wX_findNeeds_27 post w (nI n) (nI m) N x2 (nI q) ow fr tt ga ne := by
  have hb := G.1
  intro N
  induction N with
  | zero => intro q x2 ne f h1 h2; omega
  | succ N ih =>
    intro q x2 ne f h1 h2 hf hr hl I
    rw [wX_findNeeds_27]
    rcases I with ⟨p, P⟩ | ⟨p, s⟩
    · exact br_t p (h ne f hf ⟨hr, P, hl⟩)
    · have b := eg_sm_b (f := f) (T := 31) n (fun v hv => by have z := hr v hv; omega)
      refine br_f (by rw [p]; decide) (br_f (nI_ge (b := 187) (by omega) (by decide)) ⟨n + 1, ?_⟩)
      refine ex_43 (f0 := f) G (fun x2' ne' f' hf' hr' hl' I' => ?_) (n + 1) 0 0 ne f (Nat.zero_le _) (by omega) hf hr hl (Or.inl ⟨rfl, rfl, fun v hv => by omega⟩)
      rw [nI_1]
      refine ih (q + 1) x2' ne' f' (by omega) (by omega) hf' hr' hl' ?_
      rcases I' with I' | ⟨p', s'⟩
      · exact Or.inl I'
      · exact Or.inr ⟨p', by omega⟩

theorem ex_2 {n m : Nat} {ow fr tt ga : Nat → Int32} {w : Int32} {post : SX → Prop} (G : eg_Gd n m fr tt ga)
    (h : ∀ (ne : Nat → Int32) (f : Nat → Nat), (∀ v, v < n → ne v = nI (f v)) → eg_Lst n 30 31 (eg_K ow) (eg_M m fr w) (eg_to tt) (eg_g ga) f → post (nI n, nI m, ow, fr, tt, ga, ne)) :
    ∀ (N i : Nat) (ne : Nat → Int32), i ≤ n → n < i + N → (∀ v, v < i → ne v = nI 0) → wX_findNeeds_2 post w (nI n) (nI m) N (nI i) ow fr tt ga ne := by
  have hb := G.1
  intro N
  induction N with
  | zero => intro i ne h1 h2; omega
  | succ N ih =>
    intro i ne h1 h2 I
    rw [wX_findNeeds_2]
    refine pk_le n i (fun q => ⟨188, ?_⟩) (fun q => ⟨vp_in_nI (by omega) (by omega), ?_⟩) rfl rfl (by omega) (by omega)
    · exact ex_27 G h 188 0 1 ne (fun _ => 0) (by omega) (by omega) (fun v hv => I v (by omega)) (fun v hv => Or.inl (Nat.zero_le _)) (fun P _ _ v _ => Nat.zero_le _)
        (Or.inr ⟨rfl, Nat.zero_le _⟩)
    · rw [nI_clamp (n := i) (by omega)]
      refine nm_e (nm_r (nI_1 i) (ih (i + 1) (upd ne i 0) (by omega) (by omega) (fun v hv => ?_)))
      by_cases c : v = i
      · rw [c, pk_us]; rfl
      · rw [pk_un c]; exact I v (by omega)

theorem ex_find {n m : Nat} {ow fr tt ga ne : Nat → Int32} {w : Int32} {post : SX → Prop} (G : eg_Gd n m fr tt ga)
    (h : ∀ (ne : Nat → Int32) (f : Nat → Nat), (∀ v, v < n → ne v = nI (f v)) → eg_Lst n 30 31 (eg_K ow) (eg_M m fr w) (eg_to tt) (eg_g ga) f → post (nI n, nI m, ow, fr, tt, ga, ne)) :
    wpX_findNeeds post (nI n, nI m, ow, fr, tt, ga, ne) w := by
  unfold wpX_findNeeds
  dsimp only
  exact ⟨n + 1, ex_2 G h (n + 1) 0 ne (Nat.zero_le _) (by omega) (fun v hv => by omega)⟩
end
section
/-! the reference's work ends in the least vector, by its own cap (6 * (n - 1), endless 99) -/
theorem ey_asks {n m : Nat} {ow fr tt ga no la : Nat → Int32} {f : Nat → Nat} (G : eg_Gd n m fr tt ga) (hf : ∀ v, v < n → no v = nI (f v)) (hr : eg_Rg n (6 * (n - 1)) 99 f)
    {e : Nat} (he : e < m) {post : Int32 → Prop} (h : post (nI (eg_A (6 * (n - 1)) 99 tt ga f e))) :
    wpY_asks post (nI n, nI m, ow, fr, tt, ga, no, la) (nI e) := by
  obtain ⟨⟨h2, h6, h14⟩, _, ht, hg⟩ := G
  obtain ⟨j, hj, hj'⟩ := ht e he
  obtain ⟨g1, g2⟩ := hg e he
  have ce : (nI e).toNatClampNeg = e := nI_clamp (by omega)
  have ct : (tt e).toNatClampNeg = j := by rw [hj']; exact nI_clamp (by omega)
  have er := hr j hj
  have h' : post (nI (eg_ask (6 * (n - 1)) 99 (f j) (ga e).toInt)) := by
    have q : eg_to tt e = j := ct
    unfold eg_A at h
    rw [q] at h
    exact h
  have i1 : vp_in (nI e) 14 := vp_in_nI (by omega) (by omega)
  have i2 : vp_in (tt e) 8 := by rw [hj']; exact vp_in_nI (by omega) (by omega)
  have hc : (6 : Int32) * (nI n - 1) = nI (6 * (n - 1)) := by
    have a : nI n - nI 1 = nI (n - 1) := pk_sub (by omega)
    have b : nI 6 * nI (n - 1) = nI (6 * (n - 1)) := pk_mul 6 (n - 1)
    rw [← b, ← a]
    rfl
  unfold wpY_asks
  dsimp only
  rw [ce, ct, hf j hj, hc]
  refine ⟨i1, i2, ?_⟩
  refine pk_eq (f j) 99 (fun q => ?_) (fun q => ⟨i1, i2, i1, nm_e ?_⟩) rfl rfl (by omega) (by omega)
  · rw [eg_ask_T q] at h'; exact h'
  · exact ex_step (C := 6 * (n - 1)) (T := 99) (by omega) (by omega) g1 g2 q h'

theorem ey_next_l {n m v : Nat} {ow fr tt ga no la : Nat → Int32} {f : Nat → Nat} {w p : Int32} {post : Int32 → Prop} (G : eg_Gd n m fr tt ga)
    (hf : ∀ v, v < n → no v = nI (f v)) (hr : eg_Rg n (6 * (n - 1)) 99 f)
    (h : ∀ r, eg_Is (p = 0) (eg_M m fr w v) (eg_A (6 * (n - 1)) 99 tt ga f) m r → post (nI r)) :
    ∀ (N i : Nat) (x4 : Int32), i ≤ m → m < i + N →
      ((x4 = -1 ∧ eg_No (eg_M m fr w v) i) ∨ (∃ r, x4 = nI r ∧ eg_Sm (p = 0) (eg_M m fr w v) (eg_A (6 * (n - 1)) 99 tt ga f) i r)) →
      wY_next_6 post (nI v) p w (nI n) (nI m) ow fr tt ga no la N x4 (nI i) := by
  have hb := G.1
  have AB : ∀ e, eg_A (6 * (n - 1)) 99 tt ga f e ≤ 99 := fun e => eg_A_b (by omega) (by omega)
  have RB : ∀ i r, eg_Sm (p = 0) (eg_M m fr w v) (eg_A (6 * (n - 1)) 99 tt ga f) i r → r ≤ 99 := by
    intro i r hs
    obtain ⟨⟨e, _, _, hre⟩, _⟩ := hs
    rw [← hre]; exact AB e
  intro N
  induction N with
  | zero => intro i x4 h1 h2; omega
  | succ N ih =>
    intro i x4 h1 h2 I
    rw [wY_next_6]
    refine pk_le m i (fun q => ?_) (fun q => br_f (nI_ge (b := 14) (by omega) (by decide)) ⟨vp_in_nI (by omega) (by omega), ?_⟩) rfl rfl (by omega) (by omega)
    · have e : i = m := by omega
      rw [e] at I
      unfold wY_next_100
      rcases I with ⟨p4, hn⟩ | ⟨r, p4, hs⟩
      · rw [p4]; exact br_f (by decide) (h 0 (Or.inl ⟨hn, rfl⟩))
      · have rb := RB m r hs
        rw [p4]; exact br_t (nI_pos' (by omega)) (h r (Or.inr hs))
    · rw [nI_clamp (n := i) (by omega)]
      have sk : ¬ eg_M m fr w v i → wY_next_6 post (nI v) p w (nI n) (nI m) ow fr tt ga no la N x4 (nI (i + 1)) := by
        intro nd
        refine ih (i + 1) x4 (by omega) (by omega) ?_
        rcases I with ⟨p4, hn⟩ | ⟨r, p4, hs⟩
        · exact Or.inl ⟨p4, eg_No_s hn nd⟩
        · exact Or.inr ⟨r, p4, eg_Sm_skip hs nd⟩
      refine ⟨fun a => ⟨fun b => nm_r (nI_1 i) (sk (fun d => d.2.2 b)), fun b => ?_⟩, fun a => nm_r (nI_1 i) (sk (fun d => a d.2.1))⟩
      have hd : eg_M m fr w v i := ⟨q, a, b⟩
      have ab := AB i
      have nx : ∀ r, eg_Sm (p = 0) (eg_M m fr w v) (eg_A (6 * (n - 1)) 99 tt ga f) (i + 1) r → wY_next_6 post (nI v) p w (nI n) (nI m) ow fr tt ga no la N (nI r) (nI (i + 1)) :=
        fun r hs => ih (i + 1) (nI r) (by omega) (by omega) (Or.inr ⟨r, rfl, hs⟩)
      refine ey_asks G hf hr q ?_
      rcases I with ⟨p4, hn⟩ | ⟨r, p4, hs⟩
      · have B : ∀ z0 : Int32, wY_next_78 post (wY_next_6 post (nI v) p w (nI n) (nI m) ow fr tt ga no la N) (nI v) p w x4 (nI i) (nI (eg_A (6 * (n - 1)) 99 tt ga f i)) z0 (nI n) (nI m) ow fr tt ga no la := by
          intro z0
          unfold wY_next_78
          exact br_t (by rw [p4]; decide) (nm_r (nI_1 i) (nx _ (eg_Sm_first hn hd)))
        exact ⟨fun _ => ⟨fun _ => B 0, fun _ => B 1⟩, fun _ => ⟨fun _ => B 0, fun _ => B 1⟩⟩
      · have rb := RB i r hs
        rw [p4]
        have B0 : eg_Sm (p = 0) (eg_M m fr w v) (eg_A (6 * (n - 1)) 99 tt ga f) (i + 1) r →
            wY_next_78 post (wY_next_6 post (nI v) p w (nI n) (nI m) ow fr tt ga no la N) (nI v) p w (nI r) (nI i) (nI (eg_A (6 * (n - 1)) 99 tt ga f i)) 0 (nI n) (nI m) ow fr tt ga no la := by
          intro z
          unfold wY_next_78
          exact br_f (nI_pos (by omega)) (br_t rfl (nm_r (nI_1 i) (nx _ z)))
        have B1 : eg_Sm (p = 0) (eg_M m fr w v) (eg_A (6 * (n - 1)) 99 tt ga f) (i + 1) (eg_A (6 * (n - 1)) 99 tt ga f i) →
            wY_next_78 post (wY_next_6 post (nI v) p w (nI n) (nI m) ow fr tt ga no la N) (nI v) p w (nI r) (nI i) (nI (eg_A (6 * (n - 1)) 99 tt ga f i)) 1 (nI n) (nI m) ow fr tt ga no la := by
          intro z
          unfold wY_next_78
          exact br_f (nI_pos (by omega)) (br_f (by decide) (nm_r (nI_1 i) (nx _ z)))
        refine ⟨fun z => ?_, fun z => ?_⟩
        · exact pk_le r (eg_A (6 * (n - 1)) 99 tt ga f i) (fun y => B0 (eg_Sm_keep hs (fun _ => y) (fun nk => absurd z nk)))
            (fun y => B1 (eg_Sm_take hs hd (fun _ => by omega) (fun nk => absurd z nk))) rfl rfl (by omega) (by omega)
        · exact pk_le (eg_A (6 * (n - 1)) 99 tt ga f i) r (fun y => B0 (eg_Sm_keep hs (fun k => absurd k z) (fun _ => y)))
            (fun y => B1 (eg_Sm_take hs hd (fun k => absurd k z) (fun _ => by omega))) rfl rfl (by omega) (by omega)

theorem ey_next {n m v : Nat} {ow fr tt ga no la : Nat → Int32} {f : Nat → Nat} {w p : Int32} {post : Int32 → Prop} (G : eg_Gd n m fr tt ga)
    (hf : ∀ v, v < n → no v = nI (f v)) (hr : eg_Rg n (6 * (n - 1)) 99 f)
    (h : ∀ r, eg_Is (p = 0) (eg_M m fr w v) (eg_A (6 * (n - 1)) 99 tt ga f) m r → post (nI r)) :
    wpY_next post (nI n, nI m, ow, fr, tt, ga, no, la) (nI v) p w := by
  unfold wpY_next
  dsimp only
  exact ⟨m + 1, ey_next_l G hf hr h (m + 1) 0 (-1) (Nat.zero_le _) (by omega) (Or.inl ⟨rfl, eg_No_0⟩)⟩

theorem ey_129 {n m : Nat} {ow fr tt ga la : Nat → Int32} {x1 x2 x3 x4 x5 : Int32} {post : SY → Prop}
    {J : Int32 → Int32 → (Nat → Int32) → (Nat → Int32) → (Nat → Int32) → (Nat → Int32) → (Nat → Int32) → (Nat → Int32) → Prop}
    (hJ : ∀ no : Nat → Int32, (∀ v, v < 8 → no v = la v) → J x4 (x5 + 1) ow fr tt ga no la) :
    ∀ (N i : Nat) (no : Nat → Int32), i ≤ 8 → 8 < i + N → (∀ v, v < i → no v = la v) → wY_work_129 post J x1 x2 x3 x4 x5 (nI n) (nI m) N (nI i) ow fr tt ga no la := by
  intro N
  induction N with
  | zero => intro i no h1 h2; omega
  | succ N ih =>
    intro i no h1 h2 I
    rw [wY_work_129]
    refine pk_le 8 i (fun q => nm_e (hJ no (fun v hv => I v (by omega)))) (fun q => ⟨vp_in_nI (by omega) (by omega), vp_in_nI (by omega) (by omega), ?_⟩) rfl rfl (by omega) (by omega)
    rw [nI_clamp (n := i) (by omega)]
    refine nm_e (nm_r (nI_1 i) (ih (i + 1) (upd no i (la i)) (by omega) (by omega) (fun v hv => ?_)))
    by_cases c : v = i
    · rw [c, pk_us]
    · rw [pk_un c]; exact I v (by omega)

theorem ey_49 {n m : Nat} {ow fr tt ga no : Nat → Int32} {f : Nat → Nat} {sp pl w x5 : Int32} {post : SY → Prop}
    {J : Int32 → Int32 → (Nat → Int32) → (Nat → Int32) → (Nat → Int32) → (Nat → Int32) → (Nat → Int32) → (Nat → Int32) → Prop} (G : eg_Gd n m fr tt ga)
    (hf : ∀ v, v < n → no v = nI (f v)) (hr : eg_Rg n (6 * (n - 1)) 99 f)
    (hJ : ∀ (x4 : Int32) (no' la : Nat → Int32) (h : Nat → Nat), (∀ v, v < n → no' v = nI (h v)) →
      (∀ v, v < n → eg_Is (eg_KY ow sp pl v) (eg_M m fr w v) (eg_A (6 * (n - 1)) 99 tt ga f) m (h v)) →
      ((x4 = 0 ∧ ∀ v, v < n → h v = f v) ∨ (x4 = 1 ∧ ∃ v, v < n ∧ h v ≠ f v)) → J x4 (x5 + 1) ow fr tt ga no' la) :
    ∀ (N i : Nat) (x4 : Int32) (la : Nat → Int32) (h : Nat → Nat), i ≤ n → n < i + N → (∀ v, v < i → la v = nI (h v)) →
      (∀ v, v < i → eg_Is (eg_KY ow sp pl v) (eg_M m fr w v) (eg_A (6 * (n - 1)) 99 tt ga f) m (h v)) →
      ((x4 = 0 ∧ ∀ v, v < i → h v = f v) ∨ (x4 = 1 ∧ ∃ v, v < i ∧ h v ≠ f v)) →
      wY_work_49 post J sp pl w x5 (nI n) (nI m) N x4 (nI i) ow fr tt ga no la := by
  have hb := G.1
  intro N
  induction N with
  | zero => intro i x4 la h h1 h2; omega
  | succ N ih =>
    intro i x4 la h h1 h2 hl hI I
    rw [wY_work_49]
    refine pk_le n i (fun q => ⟨9, ?_⟩) (fun q => br_f (nI_ge (b := 6) (by omega) (by decide)) ?_) rfl rfl (by omega) (by omega)
    · have e : i = n := by omega
      rw [e] at hl hI I
      exact ey_129 (fun no' hno => hJ x4 no' la h (fun v hv => (hno v (by omega)).trans (hl v hv)) hI I) 9 0 no (by omega) (by omega) (fun v hv => by omega)
    · have key : ∀ z0 : Int32, (eg_KY ow sp pl i ↔ z0 = 0) →
          wY_work_82 post J (wY_work_49 post J sp pl w x5 (nI n) (nI m) N) sp pl w x4 x5 (nI i) z0 (nI n) (nI m) ow fr tt ga no la := by
        intro z0 hz
        unfold wY_work_82
        refine ey_next G hf hr (fun r hIs => ?_)
        have rb := eg_Is_r hIs
        have fb := hr i q
        have hIs' : eg_Is (eg_KY ow sp pl i) (eg_M m fr w i) (eg_A (6 * (n - 1)) 99 tt ga f) m r := by rw [propext hz]; exact hIs
        have nx : ∀ y4 : Int32, ((y4 = 0 ∧ ∀ v, v < i + 1 → eg_pt h i r v = f v) ∨ (y4 = 1 ∧ ∃ v, v < i + 1 ∧ eg_pt h i r v ≠ f v)) →
            wY_work_49 post J sp pl w x5 (nI n) (nI m) N y4 (nI (i + 1)) ow fr tt ga no (upd la i (nI r)) := by
          intro y4 I'
          refine ih (i + 1) y4 (upd la i (nI r)) (eg_pt h i r) (by omega) (by omega) (fun v hv => ?_) (fun v hv => ?_) I'
          · by_cases c : v = i
            · rw [c, pk_us, eg_pt_s]
            · rw [pk_un c, eg_pt_n c]; exact hl v (by omega)
          · by_cases c : v = i
            · rw [c, eg_pt_s]; exact hIs'
            · rw [eg_pt_n c]; exact hI v (by omega)
        rw [nI_clamp (n := i) (by omega)]
        refine ⟨vp_in_nI (by omega) (by omega), nm_e ⟨vp_in_nI (by omega) (by omega), vp_in_nI (by omega) (by omega), ?_⟩⟩
        rw [pk_us, hf i q]
        refine pk_eq r (f i) (fun y => nm_r (nI_1 i) (nx x4 ?_)) (fun y => nm_r (nI_1 i) (nx 1 (Or.inr ⟨rfl, i, by omega, by rw [eg_pt_s]; exact y⟩))) rfl rfl (by omega) (by omega)
        rcases I with ⟨p, a⟩ | ⟨p, v, hv, a⟩
        · refine Or.inl ⟨p, fun v hv => ?_⟩
          by_cases c : v = i
          · rw [c, eg_pt_s]; exact y
          · rw [eg_pt_n c]; exact a v (by omega)
        · exact Or.inr ⟨p, v, by omega, by rw [eg_pt_n (by omega)]; exact a⟩
      refine ⟨fun a => key pl ?_, fun a => ⟨vp_in_nI (by omega) (by omega), ?_⟩⟩
      · unfold eg_KY; rw [if_pos a]
      · rw [nI_clamp (n := i) (by omega)]
        refine key (ow i) ?_
        unfold eg_KY; rw [if_neg a]

theorem ey_30 {n m : Nat} {ow fr tt ga : Nat → Int32} {sp pl w : Int32} {post : SY → Prop} (G : eg_Gd n m fr tt ga)
    (h : ∀ (no la : Nat → Int32) (f : Nat → Nat), (∀ v, v < n → no v = nI (f v)) → eg_Lst n (6 * (n - 1)) 99 (eg_KY ow sp pl) (eg_M m fr w) (eg_to tt) (eg_g ga) f → post (nI n, nI m, ow, fr, tt, ga, no, la)) :
    ∀ (N q : Nat) (x4 : Int32) (no la : Nat → Int32) (f : Nat → Nat), q ≤ 700 → 700 < q + N → (∀ v, v < n → no v = nI (f v)) → eg_Rg n (6 * (n - 1)) 99 f →
      eg_Lo n (6 * (n - 1)) 99 (eg_KY ow sp pl) (eg_M m fr w) (eg_to tt) (eg_g ga) f →
      ((x4 = 0 ∧ eg_Pre n (6 * (n - 1)) 99 (eg_KY ow sp pl) (eg_M m fr w) (eg_to tt) (eg_g ga) f) ∨
       (x4 = 1 ∧ q ≤ eg_sm f n ∧ ∀ v, v < n → ∀ r, eg_Is (eg_KY ow sp pl v) (eg_M m fr w v) (eg_A (6 * (n - 1)) 99 tt ga f) m r → f v ≤ r)) →
      wY_work_30 post sp pl w (nI n) (nI m) N x4 (nI q) ow fr tt ga no la := by
  have hb := G.1
  have ok := eg_Gd_ok (w := w) G
  intro N
  induction N with
  | zero => intro q x4 no la f h1 h2; omega
  | succ N ih =>
    intro q x4 no la f h1 h2 hf hr hl I
    rw [wY_work_30]
    refine pk_le 700 q (fun c => ?_) (fun c => ?_) rfl rfl (by omega) (by omega)
    · rcases I with ⟨p, P⟩ | ⟨p, s, _⟩
      · exact h no la f hf ⟨hr, P, hl⟩
      · have b := eg_sm_b (f := f) (T := 99) n (fun v hv => by have z := hr v hv; omega)
        omega
    · rcases I with ⟨p, P⟩ | ⟨p, s, up⟩
      · exact br_t p (h no la f hf ⟨hr, P, hl⟩)
      · refine br_f (by rw [p]; decide) ⟨n + 1, ?_⟩
        refine ey_49 G hf hr (fun y4 no' la' h' hno hIs I' => ?_) (n + 1) 0 0 la (fun _ => 0) (Nat.zero_le _) (by omega) (fun v hv => by omega) (fun v hv => by omega) (Or.inl ⟨rfl, fun v hv => by omega⟩)
        rw [nI_1]
        have le : ∀ v, v < n → f v ≤ h' v := fun v hv => up v hv _ (hIs v hv)
        rcases I' with ⟨p', e⟩ | ⟨p', v, hv, hne⟩
        · refine ih (q + 1) y4 no' la' f (by omega) (by omega) (fun v hv => by rw [hno v hv, e v hv]) hr hl (Or.inl ⟨p', fun v hv => ?_⟩)
          exact eg_Pt_of (i := m) (r := h' v) (fun e he => he.1) (hIs v hv) (by rw [e v hv]; exact Nat.le_refl _)
        · have hr' : eg_Rg n (6 * (n - 1)) 99 h' := fun v hv => eg_Is_r (hIs v hv)
          refine ih (q + 1) y4 no' la' h' (by omega) (by omega) hno hr' ?_ (Or.inr ⟨p', ?_, ?_⟩)
          · intro P hR hP v hv
            exact eg_Is_le (i := m) ok (by omega) (fun e he => he.1) hR (hl P hR hP) (hIs v hv) (hP v hv)
          · have t := eg_sm_lt n le v hv (fun z => hne z.symm)
            omega
          · intro v hv r hIr
            refine eg_Is_mono (hIs v hv) hIr (fun e he => ?_)
            exact eg_ask_mono (by omega) (le _ (ok v e he).1) (hr' _ (ok v e he).1)

theorem ey_3 {n m : Nat} {ow fr tt ga la : Nat → Int32} {sp pl w : Int32} {post : SY → Prop} (G : eg_Gd n m fr tt ga)
    (h : ∀ (no la : Nat → Int32) (f : Nat → Nat), (∀ v, v < n → no v = nI (f v)) → eg_Lst n (6 * (n - 1)) 99 (eg_KY ow sp pl) (eg_M m fr w) (eg_to tt) (eg_g ga) f → post (nI n, nI m, ow, fr, tt, ga, no, la)) :
    ∀ (N i : Nat) (no : Nat → Int32), i ≤ 8 → 8 < i + N → (∀ v, v < i → no v = nI 0) → wY_work_3 post sp pl w (nI n) (nI m) N (nI i) ow fr tt ga no la := by
  have hb := G.1
  intro N
  induction N with
  | zero => intro i no h1 h2; omega
  | succ N ih =>
    intro i no h1 h2 I
    rw [wY_work_3]
    refine pk_le 8 i (fun q => ⟨701, ?_⟩) (fun q => ⟨vp_in_nI (by omega) (by omega), ?_⟩) rfl rfl (by omega) (by omega)
    · exact ey_30 G h 701 0 1 no la (fun _ => 0) (by omega) (by omega) (fun v hv => I v (by omega)) (fun v hv => Or.inl (Nat.zero_le _)) (fun P _ _ v _ => Nat.zero_le _)
        (Or.inr ⟨rfl, Nat.zero_le _, fun v hv r _ => Nat.zero_le _⟩)
    · rw [nI_clamp (n := i) (by omega)]
      refine nm_e (nm_r (nI_1 i) (ih (i + 1) (upd no i 0) (by omega) (by omega) (fun v hv => ?_)))
      by_cases c : v = i
      · rw [c, pk_us]; rfl
      · rw [pk_un c]; exact I v (by omega)

theorem ey_work {n m : Nat} {ow fr tt ga no la : Nat → Int32} {sp pl w : Int32} {post : SY → Prop} (G : eg_Gd n m fr tt ga)
    (h : ∀ (no la : Nat → Int32) (f : Nat → Nat), (∀ v, v < n → no v = nI (f v)) → eg_Lst n (6 * (n - 1)) 99 (eg_KY ow sp pl) (eg_M m fr w) (eg_to tt) (eg_g ga) f → post (nI n, nI m, ow, fr, tt, ga, no, la)) :
    wpY_work post (nI n, nI m, ow, fr, tt, ga, no, la) sp pl w := by
  unfold wpY_work
  dsimp only
  exact ⟨9, ey_3 G h 9 0 no (by omega) (by omega) (fun v hv => by omega)⟩
end
section
/-! both sides worked out: needs f on one side, on the other the same with 31 read as 99; guards; loops over vertices -/
def eg_Fc (n : Nat) (f : Nat → Nat) (ne no : Nat → Int32) : Prop := ∀ v, v < n → ne v = nI (f v) ∧ no v = nI (eg_up (f v)) ∧ (f v ≤ 30 ∨ f v = 31)
theorem ez_fc {n m : Nat} {ow ow' fr tt ga ne no : Nat → Int32} {f h : Nat → Nat} {sp pl w : Int32} (G : eg_Gd n m fr tt ga)
    (hK : ∀ v, v < n → (eg_K ow' v ↔ eg_KY ow sp pl v)) (hf : ∀ v, v < n → ne v = nI (f v)) (L : eg_Lst n 30 31 (eg_K ow') (eg_M m fr w) (eg_to tt) (eg_g ga) f)
    (hn : ∀ v, v < n → no v = nI (h v)) (L' : eg_Lst n (6 * (n - 1)) 99 (eg_KY ow sp pl) (eg_M m fr w) (eg_to tt) (eg_g ga) h) : eg_Fc n f ne no := by
  have s := eg_same (eg_Gd_ok G) rfl G.1.2.1 (eg_Lst_K hK L) L'
  exact fun v hv => ⟨hf v hv, by rw [hn v hv, s v hv], L.1 v hv⟩
theorem ez_m1 {v : Nat} (h : v < 2 ^ 31) : ¬ nI v = -1 := by
  intro z
  have a := nI_pos h
  rw [z] at a
  exact a (by decide)
theorem ez_K {n : Nat} {ow : Nat → Int32} {pl : Int32} (hn : n ≤ 6) : ∀ v, v < n → (eg_K ow v ↔ eg_KY ow (-1) pl v) := by
  intro v hv
  unfold eg_K eg_KY
  rw [if_neg (ez_m1 (by omega))]
theorem ez_rel {k n m : Nat} {ow fr tt ga ne no la : Nat → Int32} (G : eg_Gd n m fr tt ga) : i_Rel k (nI n, nI m, ow, fr, tt, ga, ne) (nI n, nI m, ow, fr, tt, ga, no, la) :=
  ⟨n, m, ow, fr, tt, ga, ne, no, la, rfl, rfl, G⟩

/-! guards -/
theorem ex_isV {n j : Nat} {m : Int32} {ow fr tt ga ne : Nat → Int32} {post : Int32 → Prop} (hn : n ≤ 6) (hj : j < n) (h : post 1) : wpX_isVertex post (nI n, m, ow, fr, tt, ga, ne) (nI j) := by
  unfold wpX_isVertex
  dsimp only
  exact br_f (nI_pos (by omega)) (br_f (nI_ge hj (by omega)) h)
theorem ex_noV {n : Nat} {m x : Int32} {ow fr tt ga ne : Nat → Int32} {post : Int32 → Prop} (a : x < 0 ∨ nI n ≤ x) (h : post 0) : wpX_isVertex post (nI n, m, ow, fr, tt, ga, ne) x := by
  unfold wpX_isVertex
  dsimp only
  exact ⟨fun _ => h, fun z => ⟨fun _ => h, fun y => (a.elim (fun b => absurd b z) (fun b => absurd b y))⟩⟩
theorem ey_isV {n j : Nat} {m : Int32} {ow fr tt ga no la : Nat → Int32} {post : Int32 → Prop} (hn : n ≤ 6) (hj : j < n) (h : post 0) : wpY_bad post (nI n, m, ow, fr, tt, ga, no, la) (nI j) := by
  unfold wpY_bad
  dsimp only
  exact br_f (nI_pos (by omega)) (br_f (nI_ge hj (by omega)) (br_t (nI_le (b := 5) (by omega) (by decide)) h))
theorem ey_noV {n : Nat} {m x : Int32} {ow fr tt ga no la : Nat → Int32} {post : Int32 → Prop} (a : x < 0 ∨ nI n ≤ x) (h : post 1) : wpY_bad post (nI n, m, ow, fr, tt, ga, no, la) x := by
  unfold wpY_bad
  dsimp only
  exact ⟨fun _ => h, fun z => ⟨fun _ => h, fun y => (a.elim (fun b => absurd b z) (fun b => absurd b y))⟩⟩
theorem ex_isE {m j : Nat} {n : Int32} {ow fr tt ga ne : Nat → Int32} {post : Int32 → Prop} (hm : m ≤ 14) (hj : j < m) (h : post 1) : wpX_isEdge post (n, nI m, ow, fr, tt, ga, ne) (nI j) := by
  unfold wpX_isEdge
  dsimp only
  exact br_f (nI_pos (by omega)) (br_f (nI_ge hj (by omega)) h)
theorem ex_noE {m : Nat} {n x : Int32} {ow fr tt ga ne : Nat → Int32} {post : Int32 → Prop} (a : x < 0 ∨ nI m ≤ x) (h : post 0) : wpX_isEdge post (n, nI m, ow, fr, tt, ga, ne) x := by
  unfold wpX_isEdge
  dsimp only
  exact ⟨fun _ => h, fun z => ⟨fun _ => h, fun y => (a.elim (fun b => absurd b z) (fun b => absurd b y))⟩⟩
theorem ey_isE {m j : Nat} {n : Int32} {ow fr tt ga no la : Nat → Int32} {post : Int32 → Prop} (hm : m ≤ 14) (hj : j < m) (h : post 0) : wpY_badEdge post (n, nI m, ow, fr, tt, ga, no, la) (nI j) := by
  unfold wpY_badEdge
  dsimp only
  exact br_f (nI_pos (by omega)) (br_f (nI_ge hj (by omega)) (br_t (nI_le (b := 13) (by omega) (by decide)) h))
theorem ey_noE {m : Nat} {n x : Int32} {ow fr tt ga no la : Nat → Int32} {post : Int32 → Prop} (a : x < 0 ∨ nI m ≤ x) (h : post 1) : wpY_badEdge post (n, nI m, ow, fr, tt, ga, no, la) x := by
  unfold wpY_badEdge
  dsimp only
  exact ⟨fun _ => h, fun z => ⟨fun _ => h, fun y => (a.elim (fun b => absurd b z) (fun b => absurd b y))⟩⟩
theorem ez_gain (x : Int32) : (x < -6 ∨ 6 < x) ∨ (-6 ≤ x.toInt ∧ x.toInt ≤ 6) := by
  rw [Int32.lt_iff_toInt_lt, Int32.lt_iff_toInt_lt, show (-6 : Int32).toInt = -6 from by decide, show (6 : Int32).toInt = 6 from by decide]
  omega
theorem ex_isG {x : Int32} {post : Int32 → Prop} (a : -6 ≤ x.toInt ∧ x.toInt ≤ 6) (h : post 1) : wpX_isGain post x := by
  unfold wpX_isGain
  refine br_f ?_ (br_f ?_ h)
  · rw [Int32.lt_iff_toInt_lt, show (-6 : Int32).toInt = -6 from by decide]; omega
  · rw [Int32.lt_iff_toInt_lt, show (6 : Int32).toInt = 6 from by decide]; omega
theorem ex_noG {x : Int32} {post : Int32 → Prop} (a : x < -6 ∨ 6 < x) (h : post 0) : wpX_isGain post x := by
  unfold wpX_isGain
  exact ⟨fun _ => h, fun z => ⟨fun _ => h, fun y => (a.elim (fun b => absurd b z) (fun b => absurd b y))⟩⟩
theorem ey_isG {u : SY} {x : Int32} {post : Int32 → Prop} (a : -6 ≤ x.toInt ∧ x.toInt ≤ 6) (h : post 0) : wpY_badGain post u x := by
  unfold wpY_badGain
  refine br_f ?_ (br_t ?_ h)
  · rw [Int32.lt_iff_toInt_lt, show (-6 : Int32).toInt = -6 from by decide]; omega
  · rw [Int32.le_iff_toInt_le, show (6 : Int32).toInt = 6 from by decide]; omega
theorem ey_noG {u : SY} {x : Int32} {post : Int32 → Prop} (a : x < -6 ∨ 6 < x) (h : post 1) : wpY_badGain post u x := by
  unfold wpY_badGain
  exact ⟨fun _ => h, fun z => ⟨fun y => (a.elim (fun b => absurd b z) (fun b => absurd y (Int32.not_le.mpr b))), fun _ => h⟩⟩
theorem ez_pl (x : Int32) : (x = 0 ∨ x = 1) ∨ (¬ x = 0 ∧ ¬ x = 1 ∧ (x < 0 ∨ ¬ x ≤ 1)) := by
  by_cases h : x < 0
  · refine Or.inr ⟨fun z => ?_, fun z => ?_, Or.inl h⟩
    · rw [z] at h; exact absurd h (by decide)
    · rw [z] at h; exact absurd h (by decide)
  · obtain ⟨j, hj, rfl⟩ := nI_of h
    by_cases h0 : j = 0
    · exact Or.inl (Or.inl (congrArg nI h0))
    · by_cases h1 : j = 1
      · exact Or.inl (Or.inr (congrArg nI h1))
      · refine Or.inr ⟨fun z => h0 ((nI_eq (b := 0) hj (by decide)).mp z), fun z => h1 ((nI_eq (b := 1) hj (by decide)).mp z), Or.inr (nI_ge (a := 1) (by omega) hj)⟩
theorem ex_isP {x : Int32} {post : Int32 → Prop} (a : x = 0 ∨ x = 1) (h : post 1) : wpX_isPlayer post x := by
  unfold wpX_isPlayer
  exact ⟨fun _ => h, fun z => ⟨fun _ => h, fun y => (a.elim (fun b => absurd b z) (fun b => absurd b y))⟩⟩
theorem ex_noP {x : Int32} {post : Int32 → Prop} (a : ¬ x = 0 ∧ ¬ x = 1) (h : post 0) : wpX_isPlayer post x := by
  unfold wpX_isPlayer
  exact br_f a.1 (br_f a.2 h)
theorem ez_pl1 {x : Int32} (a : x = 0 ∨ x = 1) : ¬ x < 0 ∧ x ≤ 1 := by
  rcases a with rfl | rfl
  · decide
  · decide

/-! the answer of a need -/
def eg_ans (x : Nat) : Int32 := if x = 31 then -2 else nI x
theorem ex_ans {n j : Nat} {N m : Int32} {ow fr tt ga ne no : Nat → Int32} {f : Nat → Nat} {post : Int32 → Prop} (hn : n ≤ 6) (F : eg_Fc n f ne no) (hj : j < n) (h : post (eg_ans (f j))) :
    wpX_needAnswer post (N, m, ow, fr, tt, ga, ne) (nI j) := by
  obtain ⟨a, b, c⟩ := F j hj
  unfold wpX_needAnswer
  dsimp only
  rw [nI_clamp (n := j) (by omega), a]
  unfold eg_ans at h
  refine ⟨vp_in_nI (by omega) (by omega), pk_eq (f j) 31 (fun q => ?_) (fun q => ⟨vp_in_nI (by omega) (by omega), ?_⟩) rfl rfl (by omega) (by omega)⟩
  · rw [if_pos q] at h; exact h
  · rw [if_neg q] at h; exact h
theorem ey_told {n j : Nat} {N m : Int32} {ow fr tt ga ne no la : Nat → Int32} {f : Nat → Nat} {post : Int32 → Prop} (hn : n ≤ 6) (F : eg_Fc n f ne no) (hj : j < n) (h : post (eg_ans (f j))) :
    wpY_told post (N, m, ow, fr, tt, ga, no, la) (nI j) := by
  obtain ⟨a, b, c⟩ := F j hj
  unfold wpY_told
  dsimp only
  rw [nI_clamp (n := j) (by omega), b]
  unfold eg_ans at h
  refine ⟨vp_in_nI (by omega) (by omega), ?_⟩
  rcases eg_up_c (f j) with ⟨q, e⟩ | ⟨q, e⟩
  · rw [if_pos q] at h
    rw [e]
    exact br_t rfl h
  · rw [if_neg q] at h
    rw [e]
    exact pk_eq (f j) 99 (fun z => absurd z (by omega)) (fun _ => ⟨vp_in_nI (by omega) (by omega), h⟩) rfl rfl (by omega) (by omega)

/-! loops that fold -/
def eg_it (F : Nat → Int32 → Int32) : Nat → Nat → Int32 → Int32
  | 0, _, x => x
  | d + 1, i, x => eg_it F d (i + 1) (F i x)
theorem eg_it_s {F : Nat → Int32 → Int32} {d i : Nat} {x y : Int32} (h : F i x = y) : eg_it F (d + 1) i x = eg_it F d (i + 1) y := by
  rw [← h]; rfl
def eg_sf (c : Int32) (f : Nat → Nat) (i : Nat) (x : Int32) : Int32 := if f i = 31 then x else if c < nI (f i) then x else x ||| ((1 : Int32) <<< (nI i &&& 31))
def eg_hp (f : Nat → Nat) (i : Nat) (x : Int32) : Int32 := if f i = 31 then x + 1 else x
def eg_gt (f : Nat → Nat) (i : Nat) (x : Int32) : Int32 := if f i = 31 then x else if nI (f i) ≤ x then x else nI (f i)
theorem ex_safe {n : Nat} {m c : Int32} {ow fr tt ga ne : Nat → Int32} {f : Nat → Nat} {post : Int32 → SX → Prop} (hn : n ≤ 6) (hf : ∀ v, v < n → ne v = nI (f v)) (hr : eg_Rg n 30 31 f) :
    ∀ (d i N : Nat) (x : Int32), i + d = n → d < N → post (eg_it (eg_sf c f) d i x) (nI n, m, ow, fr, tt, ga, ne) → wX_safe_9 post c (nI n) m ow fr tt ga ne N x (nI i) := by
  intro d
  induction d with
  | zero =>
    intro i N x hi hN h
    obtain ⟨N, rfl⟩ : ∃ k, N = k + 1 := ⟨N - 1, by omega⟩
    rw [wX_safe_9]
    exact br_t (nI_le (by omega) (by omega)) h
  | succ d ih =>
    intro i N x hi hN h
    obtain ⟨N, rfl⟩ : ∃ k, N = k + 1 := ⟨N - 1, by omega⟩
    have c0 := hr i (by omega)
    have nx : ∀ y, eg_sf c f i x = y → wX_safe_9 post c (nI n) m ow fr tt ga ne N y (nI (i + 1)) := fun y e => ih (i + 1) N y (by omega) (by omega) (by rw [← eg_it_s e]; exact h)
    rw [wX_safe_9]
    dsimp only
    rw [nI_clamp (n := i) (by omega), hf i (by omega)]
    unfold eg_sf at nx
    refine br_f (nI_ge (by omega) (by omega)) ⟨vp_in_nI (by omega) (by omega), ?_⟩
    exact pk_eq (f i) 31 (fun q => nm_r (nI_1 i) (nx _ (if_pos q))) (fun q => ⟨vp_in_nI (by omega) (by omega), fun z => nm_r (nI_1 i) (nx _ (by rw [if_neg q, if_pos z])), fun z => nm_e (nm_r (nI_1 i) (nx _ (by rw [if_neg q, if_neg z])))⟩) rfl rfl (by omega) (by omega)
theorem ey_safe {n : Nat} {m c : Int32} {ow fr tt ga ne no la : Nat → Int32} {f : Nat → Nat} {post : Int32 → SY → Prop} (hn : n ≤ 6) (F : eg_Fc n f ne no) :
    ∀ (d i N : Nat) (x : Int32), i + d = n → d < N → post (eg_it (eg_sf c f) d i x) (nI n, m, ow, fr, tt, ga, no, la) → wY_safe_11 post c (nI n) m ow fr tt ga no la N x (nI i) := by
  intro d
  induction d with
  | zero =>
    intro i N x hi hN h
    obtain ⟨N, rfl⟩ : ∃ k, N = k + 1 := ⟨N - 1, by omega⟩
    rw [wY_safe_11]
    exact br_t (nI_le (by omega) (by omega)) h
  | succ d ih =>
    intro i N x hi hN h
    obtain ⟨N, rfl⟩ : ∃ k, N = k + 1 := ⟨N - 1, by omega⟩
    obtain ⟨_, b, c0⟩ := F i (by omega)
    have nx : ∀ y, eg_sf c f i x = y → wY_safe_11 post c (nI n) m ow fr tt ga no la N y (nI (i + 1)) := fun y e => ih (i + 1) N y (by omega) (by omega) (by rw [← eg_it_s e]; exact h)
    rw [wY_safe_11]
    dsimp only
    rw [nI_clamp (n := i) (by omega), b]
    unfold eg_sf at nx
    refine br_f (nI_ge (by omega) (by omega)) ⟨vp_in_nI (by omega) (by omega), ?_⟩
    rcases eg_up_c (f i) with ⟨q, e⟩ | ⟨q, e⟩
    · rw [e]
      exact br_t rfl (nm_r (nI_1 i) (nx _ (if_pos q)))
    · rw [e]
      exact pk_eq (f i) 99 (fun z => absurd z (by omega)) (fun _ => ⟨vp_in_nI (by omega) (by omega), fun z => nm_r (nI_1 i) (nx _ (by rw [if_neg q, if_pos z])), fun z => nm_e (nm_r (nI_1 i) (nx _ (by rw [if_neg q, if_neg z])))⟩) rfl rfl (by omega) (by omega)
theorem ex_hopeless {n : Nat} {m : Int32} {ow fr tt ga ne : Nat → Int32} {f : Nat → Nat} {post : Int32 → SX → Prop} (hn : n ≤ 6) (hf : ∀ v, v < n → ne v = nI (f v)) (hr : eg_Rg n 30 31 f) :
    ∀ (d i N : Nat) (x : Int32), i + d = n → d < N → post (eg_it (eg_hp f) d i x) (nI n, m, ow, fr, tt, ga, ne) → wX_hopeless_9 post (nI n) m ow fr tt ga ne N x (nI i) := by
  intro d
  induction d with
  | zero =>
    intro i N x hi hN h
    obtain ⟨N, rfl⟩ : ∃ k, N = k + 1 := ⟨N - 1, by omega⟩
    rw [wX_hopeless_9]
    exact br_t (nI_le (by omega) (by omega)) h
  | succ d ih =>
    intro i N x hi hN h
    obtain ⟨N, rfl⟩ : ∃ k, N = k + 1 := ⟨N - 1, by omega⟩
    have c0 := hr i (by omega)
    have nx : ∀ y, eg_hp f i x = y → wX_hopeless_9 post (nI n) m ow fr tt ga ne N y (nI (i + 1)) := fun y e => ih (i + 1) N y (by omega) (by omega) (by rw [← eg_it_s e]; exact h)
    rw [wX_hopeless_9]
    dsimp only
    rw [nI_clamp (n := i) (by omega), hf i (by omega)]
    unfold eg_hp at nx
    refine br_f (nI_ge (by omega) (by omega)) ⟨vp_in_nI (by omega) (by omega), ?_⟩
    exact pk_eq (f i) 31 (fun q => nm_e (nm_r (nI_1 i) (nx _ (if_pos q)))) (fun q => nm_r (nI_1 i) (nx _ (if_neg q))) rfl rfl (by omega) (by omega)
theorem ey_hopeless {n : Nat} {m : Int32} {ow fr tt ga ne no la : Nat → Int32} {f : Nat → Nat} {post : Int32 → SY → Prop} (hn : n ≤ 6) (F : eg_Fc n f ne no) :
    ∀ (d i N : Nat) (x : Int32), i + d = n → d < N → post (eg_it (eg_hp f) d i x) (nI n, m, ow, fr, tt, ga, no, la) → wY_hopeless_11 post (nI n) m ow fr tt ga no la N x (nI i) := by
  intro d
  induction d with
  | zero =>
    intro i N x hi hN h
    obtain ⟨N, rfl⟩ : ∃ k, N = k + 1 := ⟨N - 1, by omega⟩
    rw [wY_hopeless_11]
    exact br_t (nI_le (by omega) (by omega)) h
  | succ d ih =>
    intro i N x hi hN h
    obtain ⟨N, rfl⟩ : ∃ k, N = k + 1 := ⟨N - 1, by omega⟩
    obtain ⟨_, b, c0⟩ := F i (by omega)
    have nx : ∀ y, eg_hp f i x = y → wY_hopeless_11 post (nI n) m ow fr tt ga no la N y (nI (i + 1)) := fun y e => ih (i + 1) N y (by omega) (by omega) (by rw [← eg_it_s e]; exact h)
    rw [wY_hopeless_11]
    dsimp only
    rw [nI_clamp (n := i) (by omega), b]
    unfold eg_hp at nx
    refine br_f (nI_ge (by omega) (by omega)) ⟨vp_in_nI (by omega) (by omega), ?_⟩
    rcases eg_up_c (f i) with ⟨q, e⟩ | ⟨q, e⟩
    · rw [e]
      exact br_t rfl (nm_e (nm_r (nI_1 i) (nx _ (if_pos q))))
    · rw [e]
      exact pk_eq (f i) 99 (fun z => absurd z (by omega)) (fun _ => nm_r (nI_1 i) (nx _ (if_neg q))) rfl rfl (by omega) (by omega)
theorem ex_greatest {n : Nat} {m : Int32} {ow fr tt ga ne : Nat → Int32} {f : Nat → Nat} {post : Int32 → SX → Prop} (hn : n ≤ 6) (hf : ∀ v, v < n → ne v = nI (f v)) (hr : eg_Rg n 30 31 f) :
    ∀ (d i N : Nat) (x : Int32), i + d = n → d < N → post (eg_it (eg_gt f) d i x) (nI n, m, ow, fr, tt, ga, ne) → wX_greatest_9 post (nI n) m ow fr tt ga ne N x (nI i) := by
  intro d
  induction d with
  | zero =>
    intro i N x hi hN h
    obtain ⟨N, rfl⟩ : ∃ k, N = k + 1 := ⟨N - 1, by omega⟩
    rw [wX_greatest_9]
    exact br_t (nI_le (by omega) (by omega)) h
  | succ d ih =>
    intro i N x hi hN h
    obtain ⟨N, rfl⟩ : ∃ k, N = k + 1 := ⟨N - 1, by omega⟩
    have c0 := hr i (by omega)
    have nx : ∀ y, eg_gt f i x = y → wX_greatest_9 post (nI n) m ow fr tt ga ne N y (nI (i + 1)) := fun y e => ih (i + 1) N y (by omega) (by omega) (by rw [← eg_it_s e]; exact h)
    rw [wX_greatest_9]
    dsimp only
    rw [nI_clamp (n := i) (by omega), hf i (by omega)]
    unfold eg_gt at nx
    refine br_f (nI_ge (by omega) (by omega)) ⟨vp_in_nI (by omega) (by omega), ?_⟩
    exact pk_eq (f i) 31 (fun q => nm_r (nI_1 i) (nx _ (if_pos q))) (fun q => ⟨vp_in_nI (by omega) (by omega), fun z => nm_r (nI_1 i) (nx _ (by rw [if_neg q, if_pos z])), fun z => ⟨vp_in_nI (by omega) (by omega), nm_e (nm_r (nI_1 i) (nx _ (by rw [if_neg q, if_neg z])))⟩⟩) rfl rfl (by omega) (by omega)
theorem ey_greatest {n : Nat} {m : Int32} {ow fr tt ga ne no la : Nat → Int32} {f : Nat → Nat} {post : Int32 → SY → Prop} (hn : n ≤ 6) (F : eg_Fc n f ne no) :
    ∀ (d i N : Nat) (x : Int32), i + d = n → d < N → post (eg_it (eg_gt f) d i x) (nI n, m, ow, fr, tt, ga, no, la) → wY_greatest_11 post (nI n) m ow fr tt ga no la N x (nI i) := by
  intro d
  induction d with
  | zero =>
    intro i N x hi hN h
    obtain ⟨N, rfl⟩ : ∃ k, N = k + 1 := ⟨N - 1, by omega⟩
    rw [wY_greatest_11]
    exact br_t (nI_le (by omega) (by omega)) h
  | succ d ih =>
    intro i N x hi hN h
    obtain ⟨N, rfl⟩ : ∃ k, N = k + 1 := ⟨N - 1, by omega⟩
    obtain ⟨_, b, c0⟩ := F i (by omega)
    have nx : ∀ y, eg_gt f i x = y → wY_greatest_11 post (nI n) m ow fr tt ga no la N y (nI (i + 1)) := fun y e => ih (i + 1) N y (by omega) (by omega) (by rw [← eg_it_s e]; exact h)
    rw [wY_greatest_11]
    dsimp only
    rw [nI_clamp (n := i) (by omega), b]
    unfold eg_gt at nx
    refine br_f (nI_ge (by omega) (by omega)) ⟨vp_in_nI (by omega) (by omega), ?_⟩
    rcases eg_up_c (f i) with ⟨q, e⟩ | ⟨q, e⟩
    · rw [e]
      exact br_t rfl (nm_r (nI_1 i) (nx _ (if_pos q)))
    · rw [e]
      exact pk_eq (f i) 99 (fun z => absurd z (by omega)) (fun _ => ⟨vp_in_nI (by omega) (by omega), fun z => nm_r (nI_1 i) (nx _ (by rw [if_neg q, if_pos z])), fun z => ⟨vp_in_nI (by omega) (by omega), nm_e (nm_r (nI_1 i) (nx _ (by rw [if_neg q, if_neg z])))⟩⟩) rfl rfl (by omega) (by omega)
end
section
/-! good edges, the choice, counts over edges, the play, link, cut -/
def eg_gd (ow fr tt ga : Nat → Int32) (f : Nat → Nat) (e : Nat) : Bool :=
  decide ((f (eg_to fr e) = 31 ∧ ow (eg_to fr e) = 1 ∧ f (eg_to tt e) = 31) ∨ (f (eg_to fr e) ≠ 31 ∧ f (eg_to tt e) ≠ 31 ∧ eg_A 30 31 tt ga f e = f (eg_to fr e)))
theorem ex_good {n m : Nat} {ow fr tt ga ne : Nat → Int32} {f : Nat → Nat} (G : eg_Gd n m fr tt ga) (hf : ∀ v, v < n → ne v = nI (f v)) (hr : eg_Rg n 30 31 f)
    {e : Nat} (he : e < m) {post : Int32 → Prop} (h1 : eg_gd ow fr tt ga f e = true → post 1) (h0 : ¬ eg_gd ow fr tt ga f e = true → post 0) :
    wpX_isGoodForOwner post (nI n, nI m, ow, fr, tt, ga, ne) (nI e) := by
  have G' := G
  obtain ⟨⟨h2, h6, h14⟩, hs, ht, hg⟩ := G'
  obtain ⟨t, ht1, ht2⟩ := ht e he
  obtain ⟨s, hs1, hs2⟩ := hs e he
  have ce : (nI e).toNatClampNeg = e := nI_clamp (by omega)
  have ct : (tt e).toNatClampNeg = t := by rw [ht2]; exact nI_clamp (by omega)
  have cs : (nI s).toNatClampNeg = s := nI_clamp (by omega)
  have et : eg_to tt e = t := ct
  have es : eg_to fr e = s := by show (fr e).toNatClampNeg = s; rw [hs2]; exact cs
  have bt := hr t ht1
  have bs := hr s hs1
  have ab : eg_A 30 31 tt ga f e ≤ 99 := eg_A_b (by omega) (by omega)
  unfold eg_gd at h1 h0
  rw [decide_eq_true_iff, et, es] at h1 h0
  have i1 : vp_in (nI e) 14 := vp_in_nI (by omega) (by omega)
  have i2 : vp_in (tt e) 6 := by rw [ht2]; exact vp_in_nI (by omega) (by omega)
  have i3 : vp_in (nI s) 6 := vp_in_nI (by omega) (by omega)
  unfold wpX_isGoodForOwner
  dsimp only
  rw [ce, ct, hf t ht1]
  refine ⟨i1, nm_r hs2 ⟨i1, i2, ?_⟩⟩
  refine pk_eq (f t) 31 (fun q => ?_) (fun q => ?_) rfl rfl (by omega) (by omega)
  · unfold wX_isGoodForOwner_28
    rw [cs, hf s hs1]
    refine ⟨i3, pk_eq (f s) 31 (fun y => ⟨i3, fun a => br_f (by decide) (h1 (Or.inl ⟨y, a, q⟩)), fun a => h0 (fun z => ?_)⟩) (fun y => br_f (by decide) (h0 (fun z => ?_))) rfl rfl (by omega) (by omega)⟩
    · rcases z with z | z
      · exact a z.2.1
      · exact z.1 y
    · rcases z with z | z
      · exact y z.1
      · exact z.2.1 q
  · unfold wX_isGoodForOwner_28
    rw [cs, hf s hs1]
    refine ⟨i3, pk_eq (f s) 31 (fun y => ⟨i3, fun a => br_t rfl (h0 (fun z => ?_)), fun a => h0 (fun z => ?_)⟩)
      (fun y => br_t rfl (ex_along G hf hr he ⟨i3, pk_eq (eg_A 30 31 tt ga f e) (f s) (fun a => h1 (Or.inr ⟨y, q, a⟩)) (fun a => h0 (fun z => ?_)) rfl rfl (by omega) (by omega)⟩)) rfl rfl (by omega) (by omega)⟩
    · rcases z with z | z
      · exact q z.2.2
      · exact z.1 y
    · rcases z with z | z
      · exact a z.2.1
      · exact z.1 y
    · rcases z with z | z
      · exact y z.1
      · exact a z.2.2
theorem ey_94 {x s : Nat} {z0 N m : Int32} {ow fr tt ga no la : Nat → Int32} {post : Int32 → Prop} (hs : s < 8) (hx : x ≤ 99) (hno : no s = nI x)
    (h1 : z0 = nI x → post 1) (h0 : ¬ z0 = nI x → post 0) : wY_good_94 post (nI s) z0 N m ow fr tt ga no la := by
  unfold wY_good_94
  rw [nI_clamp (n := s) (by omega), hno]
  exact ⟨vp_in_nI (by omega) (by omega), h1, h0⟩
theorem ey_good {n m : Nat} {ow fr tt ga ne no la : Nat → Int32} {f : Nat → Nat} (G : eg_Gd n m fr tt ga) (F : eg_Fc n f ne no)
    {e : Nat} (he : e < m) {post : Int32 → Prop} (h1 : eg_gd ow fr tt ga f e = true → post 1) (h0 : ¬ eg_gd ow fr tt ga f e = true → post 0) :
    wpY_good post (nI n, nI m, ow, fr, tt, ga, no, la) (nI e) := by
  obtain ⟨⟨h2, h6, h14⟩, hs, ht, hg⟩ := G
  obtain ⟨t, ht1, ht2⟩ := ht e he
  obtain ⟨s, hs1, hs2⟩ := hs e he
  obtain ⟨g1, g2⟩ := hg e he
  have ce : (nI e).toNatClampNeg = e := nI_clamp (by omega)
  have ct : (tt e).toNatClampNeg = t := by rw [ht2]; exact nI_clamp (by omega)
  have cs : (nI s).toNatClampNeg = s := nI_clamp (by omega)
  have et : eg_to tt e = t := ct
  have es : eg_to fr e = s := by show (fr e).toNatClampNeg = s; rw [hs2]; exact cs
  obtain ⟨_, nt, bt⟩ := F t ht1
  obtain ⟨_, ns, bs⟩ := F s hs1
  have ac := eg_ask_c 30 31 (f t) (ga e).toInt
  have ea : eg_A 30 31 tt ga f e = eg_ask 30 31 (f t) (ga e).toInt := by unfold eg_A; rw [et]; rfl
  unfold eg_gd at h1 h0
  rw [decide_eq_true_iff, et, es, ea] at h1 h0
  generalize eg_ask 30 31 (f t) (ga e).toInt = A at ac h1 h0
  have i1 : vp_in (nI e) 14 := vp_in_nI (by omega) (by omega)
  have i2 : vp_in (tt e) 8 := by rw [ht2]; exact vp_in_nI (by omega) (by omega)
  have i3 : vp_in (nI s) 8 := vp_in_nI (by omega) (by omega)
  unfold wpY_good
  dsimp only
  rw [ce, ct, nt]
  refine ⟨i1, nm_r hs2 ⟨i3, ?_⟩⟩
  rw [cs, ns]
  rcases eg_up_c (f s) with ⟨y, es⟩ | ⟨y, es⟩
  · rw [es]
    refine br_t rfl ⟨i3, fun a => ⟨i1, i2, ?_⟩, fun a => h0 (fun z => ?_)⟩
    · rcases eg_up_c (f t) with ⟨q, et⟩ | ⟨q, et⟩
      · rw [et]; exact br_t rfl (h1 (Or.inl ⟨y, a, q⟩))
      · rw [et]
        exact pk_eq (f t) 99 (fun z => absurd z (by omega)) (fun _ => h0 (fun z => by rcases z with z | z; exact q z.2.2; exact z.1 y)) rfl rfl (by omega) (by omega)
    · rcases z with z | z
      · exact a z.2.1
      · exact z.1 y
  · rw [es]
    refine pk_eq (f s) 99 (fun z => absurd z (by omega)) (fun _ => ⟨i1, i2, i1, nm_e ⟨i1, i2, ?_⟩⟩) rfl rfl (by omega) (by omega)
    rcases eg_up_c (f t) with ⟨q, et⟩ | ⟨q, et⟩
    · rw [et]; exact br_t rfl (h0 (fun z => by rcases z with z | z; exact y z.1; exact z.2.1 q))
    · rw [et]
      have hx := ex_sub (a := f t) (g := ga e) (by omega) g1 g2
      refine pk_eq (f t) 99 (fun z => absurd z (by omega)) (fun _ => ⟨fun a => ?_, fun a => ?_⟩) rfl rfl (by omega) (by omega)
      · rw [ex_c0, hx] at a
        refine ey_94 (x := f s) (by omega) (by omega) (by rw [ns, es]) (fun c => h1 (Or.inr ⟨y, q, ?_⟩)) (fun c => h0 (fun z => ?_))
        · have c' := congrArg Int32.toInt c
          rw [hx, nI_toInt (by omega)] at c'
          omega
        · rcases z with z | z
          · exact y z.1
          · refine c (Int32.toInt_inj.mp ?_)
            rw [hx, nI_toInt (by omega)]
            omega
      · rw [ex_c0, hx] at a
        refine ey_94 (x := f s) (by omega) (by omega) (by rw [ns, es]) (fun c => h1 (Or.inr ⟨y, q, ?_⟩)) (fun c => h0 (fun z => ?_))
        · have c' : 0 = f s := (nI_eq (a := 0) (by omega) (by omega)).mp c
          omega
        · rcases z with z | z
          · exact y z.1
          · refine c ((nI_eq (a := 0) (by omega) (by omega)).mpr ?_)
            omega

/-! the first good edge -/
def eg_b (x : Int32) (ow fr tt ga : Nat → Int32) (f : Nat → Nat) (i : Nat) : Bool := decide (fr i = x ∧ eg_gd ow fr tt ga f i = true)
def eg_fst (b : Nat → Bool) : Nat → Nat → Int32
  | 0, _ => -2
  | d + 1, i => if b i = true then nI i else eg_fst b d (i + 1)
theorem eg_fst_t {b : Nat → Bool} {d i : Nat} (h : b i = true) : eg_fst b (d + 1) i = nI i := if_pos h
theorem eg_fst_f {b : Nat → Bool} {d i : Nat} (h : ¬ b i = true) : eg_fst b (d + 1) i = eg_fst b d (i + 1) := if_neg h
theorem eg_fst_v {b : Nat → Bool} {m : Nat} : ∀ d i, i + d = m → eg_fst b d i = -2 ∨ ∃ e, e < m ∧ eg_fst b d i = nI e := by
  intro d
  induction d with
  | zero => intro i _; exact Or.inl rfl
  | succ d ih =>
    intro i hi
    by_cases h : b i = true
    · exact Or.inr ⟨i, by omega, eg_fst_t h⟩
    · rw [eg_fst_f h]; exact ih (i + 1) (by omega)
theorem ex_first_l {n m : Nat} {x : Int32} {ow fr tt ga ne : Nat → Int32} {f : Nat → Nat} {post : Int32 → Prop} (G : eg_Gd n m fr tt ga) (hf : ∀ v, v < n → ne v = nI (f v)) (hr : eg_Rg n 30 31 f) :
    ∀ d i N : Nat, i + d = m → d < N → post (eg_fst (eg_b x ow fr tt ga f) d i) → wX_firstGoodEdge_2 post x (nI n) (nI m) ow fr tt ga ne N (nI i) := by
  have hb := G.1
  intro d
  induction d with
  | zero =>
    intro i N hi hN h
    obtain ⟨N, rfl⟩ : ∃ k, N = k + 1 := ⟨N - 1, by omega⟩
    rw [wX_firstGoodEdge_2]
    exact br_t (nI_le (by omega) (by omega)) h
  | succ d ih =>
    intro i N hi hN h
    obtain ⟨N, rfl⟩ : ∃ k, N = k + 1 := ⟨N - 1, by omega⟩
    have nx : ¬ eg_b x ow fr tt ga f i = true → wX_firstGoodEdge_2 post x (nI n) (nI m) ow fr tt ga ne N (nI (i + 1)) := fun q => ih (i + 1) N (by omega) (by omega) (by rw [← eg_fst_f q]; exact h)
    rw [wX_firstGoodEdge_2]
    dsimp only
    rw [nI_clamp (n := i) (by omega)]
    refine br_f (nI_ge (by omega) (by omega)) ⟨vp_in_nI (by omega) (by omega), fun a => ?_, fun a => nm_r (nI_1 i) (nx (fun z => a (of_decide_eq_true z).1))⟩
    refine ex_good G hf hr (by omega) (fun q => br_f (by decide) ?_) (fun q => br_t rfl (nm_r (nI_1 i) (nx (fun z => q (of_decide_eq_true z).2))))
    rw [eg_fst_t (decide_eq_true ⟨a, q⟩)] at h
    exact h
theorem ex_first {n m : Nat} {x : Int32} {ow fr tt ga ne : Nat → Int32} {f : Nat → Nat} {post : Int32 → Prop} (G : eg_Gd n m fr tt ga) (hf : ∀ v, v < n → ne v = nI (f v)) (hr : eg_Rg n 30 31 f)
    (h : post (eg_fst (eg_b x ow fr tt ga f) m 0)) : wpX_firstGoodEdge post (nI n, nI m, ow, fr, tt, ga, ne) x := by
  unfold wpX_firstGoodEdge
  dsimp only
  exact ⟨m + 1, ex_first_l G hf hr m 0 (m + 1) (by omega) (by omega) h⟩
theorem ey_first_l {n m : Nat} {x : Int32} {ow fr tt ga ne no la : Nat → Int32} {f : Nat → Nat} {post : Int32 → Prop} (G : eg_Gd n m fr tt ga) (F : eg_Fc n f ne no) :
    ∀ d i N : Nat, i + d = m → d < N → post (eg_fst (eg_b x ow fr tt ga f) d i) → wY_chosen_2 post x (nI n) (nI m) ow fr tt ga no la N (nI i) := by
  have hb := G.1
  intro d
  induction d with
  | zero =>
    intro i N hi hN h
    obtain ⟨N, rfl⟩ : ∃ k, N = k + 1 := ⟨N - 1, by omega⟩
    rw [wY_chosen_2]
    exact br_t (nI_le (by omega) (by omega)) h
  | succ d ih =>
    intro i N hi hN h
    obtain ⟨N, rfl⟩ : ∃ k, N = k + 1 := ⟨N - 1, by omega⟩
    have nx : ¬ eg_b x ow fr tt ga f i = true → wY_chosen_2 post x (nI n) (nI m) ow fr tt ga no la N (nI (i + 1)) := fun q => ih (i + 1) N (by omega) (by omega) (by rw [← eg_fst_f q]; exact h)
    rw [wY_chosen_2]
    dsimp only
    rw [nI_clamp (n := i) (by omega)]
    refine br_f (nI_ge (by omega) (by omega)) (br_f (nI_ge (b := 14) (by omega) (by decide)) ⟨vp_in_nI (by omega) (by omega), fun a => ?_, fun a => nm_r (nI_1 i) (nx (fun z => a (of_decide_eq_true z).1))⟩)
    refine ey_good G F (by omega) (fun q => br_f (by decide) ?_) (fun q => br_t rfl (nm_r (nI_1 i) (nx (fun z => q (of_decide_eq_true z).2))))
    rw [eg_fst_t (decide_eq_true ⟨a, q⟩)] at h
    exact h
theorem ey_first {n m : Nat} {x : Int32} {ow fr tt ga ne no la : Nat → Int32} {f : Nat → Nat} {post : Int32 → Prop} (G : eg_Gd n m fr tt ga) (F : eg_Fc n f ne no)
    (h : post (eg_fst (eg_b x ow fr tt ga f) m 0)) : wpY_chosen post (nI n, nI m, ow, fr, tt, ga, no, la) x := by
  unfold wpY_chosen
  dsimp only
  exact ⟨m + 1, ey_first_l G F m 0 (m + 1) (by omega) (by omega) h⟩

/-! choices -/
def eg_cc (b : Nat → Bool) (i : Nat) (x : Int32) : Int32 := if b i = true then x + 1 else x
theorem ex_choices {n m : Nat} {x : Int32} {ow fr tt ga ne : Nat → Int32} {f : Nat → Nat} {post : Int32 → SX → Prop} (G : eg_Gd n m fr tt ga) (hf : ∀ v, v < n → ne v = nI (f v)) (hr : eg_Rg n 30 31 f) :
    ∀ (d i N : Nat) (y : Int32), i + d = m → d < N → post (eg_it (eg_cc (eg_b x ow fr tt ga f)) d i y) (nI n, nI m, ow, fr, tt, ga, ne) → wX_choices_19 post x (nI n) (nI m) ow fr tt ga ne N y (nI i) := by
  have hb := G.1
  intro d
  induction d with
  | zero =>
    intro i N y hi hN h
    obtain ⟨N, rfl⟩ : ∃ k, N = k + 1 := ⟨N - 1, by omega⟩
    rw [wX_choices_19]
    exact br_t (nI_le (by omega) (by omega)) h
  | succ d ih =>
    intro i N y hi hN h
    obtain ⟨N, rfl⟩ : ∃ k, N = k + 1 := ⟨N - 1, by omega⟩
    have nx : ∀ z, eg_cc (eg_b x ow fr tt ga f) i y = z → wX_choices_19 post x (nI n) (nI m) ow fr tt ga ne N z (nI (i + 1)) := fun z e => ih (i + 1) N z (by omega) (by omega) (by rw [← eg_it_s e]; exact h)
    have nf : ¬ eg_b x ow fr tt ga f i = true → wX_choices_19 post x (nI n) (nI m) ow fr tt ga ne N y (nI (i + 1)) := fun q => nx y (if_neg q)
    rw [wX_choices_19]
    dsimp only
    rw [nI_clamp (n := i) (by omega)]
    refine br_f (nI_ge (by omega) (by omega)) ⟨vp_in_nI (by omega) (by omega), fun a => ?_, fun a => nm_r (nI_1 i) (nf (fun z => a (of_decide_eq_true z).1))⟩
    exact ex_good G hf hr (by omega) (fun q => br_f (by decide) (nm_e (nm_r (nI_1 i) (nx _ (if_pos (decide_eq_true ⟨a, q⟩)))))) (fun q => br_t rfl (nm_r (nI_1 i) (nf (fun z => q (of_decide_eq_true z).2))))
theorem ey_choices {n m : Nat} {x : Int32} {ow fr tt ga ne no la : Nat → Int32} {f : Nat → Nat} {post : Int32 → SY → Prop} (G : eg_Gd n m fr tt ga) (F : eg_Fc n f ne no) :
    ∀ (d i N : Nat) (y : Int32), i + d = m → d < N → post (eg_it (eg_cc (eg_b x ow fr tt ga f)) d i y) (nI n, nI m, ow, fr, tt, ga, no, la) → wY_choices_21 post x (nI n) (nI m) ow fr tt ga no la N y (nI i) := by
  have hb := G.1
  intro d
  induction d with
  | zero =>
    intro i N y hi hN h
    obtain ⟨N, rfl⟩ : ∃ k, N = k + 1 := ⟨N - 1, by omega⟩
    rw [wY_choices_21]
    exact br_t (nI_le (by omega) (by omega)) h
  | succ d ih =>
    intro i N y hi hN h
    obtain ⟨N, rfl⟩ : ∃ k, N = k + 1 := ⟨N - 1, by omega⟩
    have nx : ∀ z, eg_cc (eg_b x ow fr tt ga f) i y = z → wY_choices_21 post x (nI n) (nI m) ow fr tt ga no la N z (nI (i + 1)) := fun z e => ih (i + 1) N z (by omega) (by omega) (by rw [← eg_it_s e]; exact h)
    have nf : ¬ eg_b x ow fr tt ga f i = true → wY_choices_21 post x (nI n) (nI m) ow fr tt ga no la N y (nI (i + 1)) := fun q => nx y (if_neg q)
    rw [wY_choices_21]
    dsimp only
    rw [nI_clamp (n := i) (by omega)]
    refine br_f (nI_ge (by omega) (by omega)) (br_f (nI_ge (b := 14) (by omega) (by decide)) ⟨vp_in_nI (by omega) (by omega), fun a => ?_, fun a => nm_r (nI_1 i) (nf (fun z => a (of_decide_eq_true z).1))⟩)
    exact ey_good G F (by omega) (fun q => br_f (by decide) (nm_e (nm_r (nI_1 i) (nx _ (if_pos (decide_eq_true ⟨a, q⟩)))))) (fun q => br_t rfl (nm_r (nI_1 i) (nf (fun z => q (of_decide_eq_true z).2))))
end
section
/-! the play; the count of link; the shift of cut -/
def eg_st (c : Int32 → Int32) (tt ga : Nat → Int32) : Nat → Int32 → Int32 → Int32
  | 0, x, _ => x
  | d + 1, x, a => if c a = -2 then x else eg_st c tt ga d (x + ga (c a).toNatClampNeg) (tt (c a).toNatClampNeg)
theorem eg_st_t {c : Int32 → Int32} {tt ga : Nat → Int32} {d : Nat} {x a : Int32} (h : c a = -2) : eg_st c tt ga (d + 1) x a = x := if_pos h
theorem eg_st_f {c : Int32 → Int32} {tt ga : Nat → Int32} {d : Nat} {x a : Int32} (h : ¬ c a = -2) :
    eg_st c tt ga (d + 1) x a = eg_st c tt ga d (x + ga (c a).toNatClampNeg) (tt (c a).toNatClampNeg) := if_neg h
def eg_ch (m : Nat) (ow fr tt ga : Nat → Int32) (f : Nat → Nat) (a : Int32) : Int32 := eg_fst (eg_b a ow fr tt ga f) m 0
theorem eg_ch_v {m : Nat} {ow fr tt ga : Nat → Int32} {f : Nat → Nat} {a : Int32} (h : ¬ eg_ch m ow fr tt ga f a = -2) : ∃ e, e < m ∧ eg_ch m ow fr tt ga f a = nI e := by
  rcases eg_fst_v (b := eg_b a ow fr tt ga f) (m := m) m 0 (by omega) with q | q
  · exact absurd q h
  · exact q
theorem ex_store {n m s : Nat} {ow fr tt ga ne : Nat → Int32} {f : Nat → Nat} {post : Int32 → SX → Prop} (G : eg_Gd n m fr tt ga) (hf : ∀ v, v < n → ne v = nI (f v)) (hr : eg_Rg n 30 31 f) (hs : s < 2 ^ 31) :
    ∀ (d i N : Nat) (x a : Int32), i + d = s → d < N → post (eg_st (eg_ch m ow fr tt ga f) tt ga d x a) (nI n, nI m, ow, fr, tt, ga, ne) →
      wX_store_47 post (nI s) (nI n) (nI m) ow fr tt ga ne N x a (nI i) := by
  have hb := G.1
  intro d
  induction d with
  | zero =>
    intro i N x a hi hN h
    obtain ⟨N, rfl⟩ : ∃ k, N = k + 1 := ⟨N - 1, by omega⟩
    rw [wX_store_47]
    exact br_t (nI_le (by omega) (by omega)) h
  | succ d ih =>
    intro i N x a hi hN h
    obtain ⟨N, rfl⟩ : ∃ k, N = k + 1 := ⟨N - 1, by omega⟩
    rw [wX_store_47]
    refine br_f (nI_ge (by omega) (by omega)) (ex_first G hf hr ?_)
    refine ⟨fun q => ?_, fun q => ?_⟩
    · rw [eg_st_t q] at h; exact h
    · obtain ⟨e, he, hc⟩ := eg_ch_v q
      have iv : vp_in (eg_ch m ow fr tt ga f a) 14 := by rw [hc]; exact vp_in_nI (by omega) (by omega)
      rw [eg_st_f q] at h
      exact ⟨iv, nm_e ⟨iv, nm_e (nm_r (nI_1 i) (ih (i + 1) N _ _ (by omega) (by omega) h))⟩⟩
theorem ey_store {n m s : Nat} {p : Int32} {ow fr tt ga ne no la : Nat → Int32} {f : Nat → Nat} {post : Int32 → SY → Prop} (G : eg_Gd n m fr tt ga) (F : eg_Fc n f ne no) (hs : s < 2 ^ 31) (hp : p / 128 = nI s) :
    ∀ (d i N : Nat) (x a : Int32), i + d = s → d < N → post (eg_st (eg_ch m ow fr tt ga f) tt ga d x a) (nI n, nI m, ow, fr, tt, ga, no, la) →
      wY_store_59 post p (nI n) (nI m) ow fr tt ga no la N x a (nI i) := by
  have hb := G.1
  intro d
  induction d with
  | zero =>
    intro i N x a hi hN h
    obtain ⟨N, rfl⟩ : ∃ k, N = k + 1 := ⟨N - 1, by omega⟩
    rw [wY_store_59]
    dsimp only
    rw [hp]
    exact ⟨by decide, br_t (nI_le (by omega) (by omega)) h⟩
  | succ d ih =>
    intro i N x a hi hN h
    obtain ⟨N, rfl⟩ : ∃ k, N = k + 1 := ⟨N - 1, by omega⟩
    rw [wY_store_59]
    dsimp only
    rw [hp]
    refine ⟨by decide, br_f (nI_ge (by omega) (by omega)) (ey_first G F ?_)⟩
    by_cases q : eg_ch m ow fr tt ga f a = -2
    · rw [eg_st_t q] at h
      have ng : ¬ 0 ≤ eg_ch m ow fr tt ga f a := by rw [q]; decide
      exact br_f ng h
    · obtain ⟨e, he, hc⟩ := eg_ch_v q
      have iv : vp_in (eg_ch m ow fr tt ga f a) 14 := by rw [hc]; exact vp_in_nI (by omega) (by omega)
      have ps : 0 ≤ eg_ch m ow fr tt ga f a := by rw [hc]; exact nI_pos' (by omega)
      rw [eg_st_f q] at h
      exact br_t ps ⟨iv, nm_e ⟨iv, nm_e (nm_r (nI_1 i) (ih (i + 1) N _ _ (by omega) (by omega) h))⟩⟩

def eg_ce (fr : Nat → Int32) (u : Int32) (i : Nat) (x : Int32) : Int32 := if fr i = u then x + 1 else x
theorem ex_from_l {m : Nat} {n u : Int32} {ow fr tt ga ne : Nat → Int32} {post : Int32 → Prop} (hm : m ≤ 14) :
    ∀ (d i N : Nat) (x : Int32), i + d = m → d < N → post (eg_it (eg_ce fr u) d i x) → wX_edgesFrom_4 post u n (nI m) ow fr tt ga ne N x (nI i) := by
  intro d
  induction d with
  | zero =>
    intro i N x hi hN h
    obtain ⟨N, rfl⟩ : ∃ k, N = k + 1 := ⟨N - 1, by omega⟩
    rw [wX_edgesFrom_4]
    exact br_t (nI_le (by omega) (by omega)) h
  | succ d ih =>
    intro i N x hi hN h
    obtain ⟨N, rfl⟩ : ∃ k, N = k + 1 := ⟨N - 1, by omega⟩
    have nx : ∀ y, eg_ce fr u i x = y → wX_edgesFrom_4 post u n (nI m) ow fr tt ga ne N y (nI (i + 1)) := fun y e => ih (i + 1) N y (by omega) (by omega) (by rw [← eg_it_s e]; exact h)
    rw [wX_edgesFrom_4]
    dsimp only
    rw [nI_clamp (n := i) (by omega)]
    exact br_f (nI_ge (by omega) (by omega)) ⟨vp_in_nI (by omega) (by omega), fun a => nm_e (nm_r (nI_1 i) (nx _ (if_pos a))), fun a => nm_r (nI_1 i) (nx _ (if_neg a))⟩
theorem ex_from {m : Nat} {n u : Int32} {ow fr tt ga ne : Nat → Int32} {post : Int32 → Prop} (hm : m ≤ 14) (h : post (eg_it (eg_ce fr u) m 0 0)) : wpX_edgesFrom post (n, nI m, ow, fr, tt, ga, ne) u := by
  unfold wpX_edgesFrom
  dsimp only
  exact ⟨m + 1, ex_from_l hm m 0 (m + 1) 0 (by omega) (by omega) h⟩
theorem ey_link_l {m : Nat} {n u v g : Int32} {ow fr tt ga no la : Nat → Int32} {post : Int32 → SY → Prop} (hm : m < 14) :
    ∀ (d i N : Nat) (x : Int32), i + d = m → d < N →
      (eg_it (eg_ce fr u) d i x < 3 → post (nI m) (n, nI (m + 1), ow, upd fr m u, upd tt m v, upd ga m g, no, la)) →
      (¬ eg_it (eg_ce fr u) d i x < 3 → post (-4) (n, nI m, ow, fr, tt, ga, no, la)) → wY_link_51 post u v g (nI m) n (nI m) ow fr tt ga no la N x (nI i) := by
  intro d
  induction d with
  | zero =>
    intro i N x hi hN h1 h0
    obtain ⟨N, rfl⟩ : ∃ k, N = k + 1 := ⟨N - 1, by omega⟩
    rw [wY_link_51]
    dsimp only
    rw [nI_clamp (n := m) (by omega)]
    have iv : vp_in (nI m) 14 := vp_in_nI (by omega) (by omega)
    exact br_t (nI_le (by omega) (by omega)) ⟨fun a => ⟨iv, nm_e ⟨iv, nm_e ⟨iv, nm_e (nm_r (nI_1 m) (h1 a))⟩⟩⟩, h0⟩
  | succ d ih =>
    intro i N x hi hN h1 h0
    obtain ⟨N, rfl⟩ : ∃ k, N = k + 1 := ⟨N - 1, by omega⟩
    have nx : ∀ y, eg_ce fr u i x = y → wY_link_51 post u v g (nI m) n (nI m) ow fr tt ga no la N y (nI (i + 1)) :=
      fun y e => ih (i + 1) N y (by omega) (by omega) (by rw [← eg_it_s e]; exact h1) (by rw [← eg_it_s e]; exact h0)
    rw [wY_link_51]
    dsimp only
    rw [nI_clamp (n := i) (by omega)]
    exact br_f (nI_ge (by omega) (by omega)) ⟨vp_in_nI (by omega) (by omega), fun a => nm_e (nm_r (nI_1 i) (nx _ (if_pos a))), fun a => nm_r (nI_1 i) (nx _ (if_neg a))⟩

/-! cut -/
def eg_sh : Nat → Nat → (Nat → Int32) → Nat → Int32
  | 0, _, a => a
  | d + 1, i, a => eg_sh d (i + 1) (upd a i (a (i + 1)))
theorem eg_sh_v {P : Int32 → Prop} : ∀ (d i : Nat) (a : Nat → Int32), (∀ j, j < i + d + 1 → P (a j)) → ∀ j, j < i + d + 1 → P (eg_sh d i a j) := by
  intro d
  induction d with
  | zero => intro i a h; exact h
  | succ d ih =>
    intro i a h j hj
    refine ih (i + 1) (upd a i (a (i + 1))) (fun k hk => ?_) j (by omega)
    by_cases c : k = i
    · rw [c, pk_us]; exact h (i + 1) (by omega)
    · rw [pk_un c]; exact h k (by omega)
theorem ex_cut {m : Nat} {n : Int32} {ow ne : Nat → Int32} {post : Int32 → SX → Prop} (hm : m < 14) :
    ∀ (d i N : Nat) (fr tt ga : Nat → Int32), i + d = m → d < N → post (nI m) (n, nI m, ow, eg_sh d i fr, eg_sh d i tt, eg_sh d i ga, ne) →
      wX_cut_14 post n (nI (m + 1)) N (nI (i + 1)) ow fr tt ga ne := by
  intro d
  induction d with
  | zero =>
    intro i N fr tt ga hi hN h
    obtain ⟨N, rfl⟩ : ∃ k, N = k + 1 := ⟨N - 1, by omega⟩
    rw [wX_cut_14]
    exact br_t (nI_le (by omega) (by omega)) (nm_r (nI_pred m) h)
  | succ d ih =>
    intro i N fr tt ga hi hN h
    obtain ⟨N, rfl⟩ : ∃ k, N = k + 1 := ⟨N - 1, by omega⟩
    rw [wX_cut_14]
    dsimp only
    rw [nI_pred i, nI_clamp (n := i) (by omega), nI_clamp (n := i + 1) (by omega)]
    have i0 : vp_in (nI i) 14 := vp_in_nI (by omega) (by omega)
    have i1 : vp_in (nI (i + 1)) 14 := vp_in_nI (by omega) (by omega)
    exact br_f (nI_ge (by omega) (by omega)) ⟨i1, i0, nm_e ⟨i1, i0, nm_e ⟨i1, i0, nm_e (nm_r (nI_1 (i + 1)) (ih (i + 1) N _ _ _ (by omega) (by omega) h))⟩⟩⟩
theorem ey_cut {m : Nat} {n : Int32} {ow no la : Nat → Int32} {post : Int32 → SY → Prop} (hm : m < 14) :
    ∀ (d i N : Nat) (fr tt ga : Nat → Int32), i + d = m → d < N → post (nI m) (n, nI m, ow, eg_sh d i fr, eg_sh d i tt, eg_sh d i ga, no, la) →
      wY_cut_12 post n (nI (m + 1)) N (nI i) ow fr tt ga no la := by
  intro d
  induction d with
  | zero =>
    intro i N fr tt ga hi hN h
    obtain ⟨N, rfl⟩ : ∃ k, N = k + 1 := ⟨N - 1, by omega⟩
    rw [wY_cut_12]
    dsimp only
    rw [nI_pred m]
    unfold wY_cut_76
    exact br_t (nI_le (by omega) (by omega)) (nm_r (nI_pred m) h)
  | succ d ih =>
    intro i N fr tt ga hi hN h
    obtain ⟨N, rfl⟩ : ∃ k, N = k + 1 := ⟨N - 1, by omega⟩
    rw [wY_cut_12]
    dsimp only
    rw [nI_pred m, nI_clamp (n := i) (by omega)]
    have e1 : nI i + 1 = nI (i + 1) := nI_1 i
    have i0 : vp_in (nI i) 14 := vp_in_nI (by omega) (by omega)
    have i1 : vp_in (nI (i + 1)) 14 := vp_in_nI (by omega) (by omega)
    refine br_f (nI_ge (by omega) (by omega)) (br_f (nI_ge (b := 13) (by omega) (by decide)) ?_)
    rw [e1, nI_clamp (n := i + 1) (by omega)]
    exact ⟨i1, i0, nm_e ⟨i1, i0, nm_e ⟨i1, i0, nm_e (nm_e (ih (i + 1) N _ _ _ (by omega) (by omega) h))⟩⟩⟩
end
section
/-! what is owed -/
theorem ez_g0 {n : Nat} {a b c : Nat → Int32} (h2 : 2 ≤ n) (h6 : n ≤ 6) : eg_Gd n 0 a b c :=
  ⟨⟨h2, h6, by omega⟩, fun e he => by omega, fun e he => by omega, fun e he => by omega⟩
theorem ez_fx {n : Nat} {ne : Nat → Int32} {f : Nat → Nat} (hf : ∀ v, v < n → ne v = nI (f v)) (hr : eg_Rg n 30 31 f) : eg_Fc n f ne (fun v => nI (eg_up (f v))) :=
  fun v hv => ⟨hf v hv, rfl, hr v hv⟩
theorem ez_ix (x : Int32) {n : Nat} (hn : n ≤ 14) : (x < 0 ∨ nI n ≤ x) ∨ ∃ j : Nat, j < n ∧ x = nI j := by
  rcases pk_ix x (n := n) (by omega) with a | a | a
  · exact Or.inl (Or.inl a)
  · exact Or.inl (Or.inr a)
  · exact Or.inr a
theorem ez_link {n m i j : Nat} {fr tt ga : Nat → Int32} {g : Int32} (G : eg_Gd n m fr tt ga) (hm : m < 14) (hi : i < n) (hj : j < n) (hg : -6 ≤ g.toInt ∧ g.toInt ≤ 6) :
    eg_Gd n (m + 1) (upd fr m (nI i)) (upd tt m (nI j)) (upd ga m g) := by
  obtain ⟨⟨h2, h6, h14⟩, hs, ht, hgg⟩ := G
  refine ⟨⟨h2, h6, by omega⟩, fun e he => ?_, fun e he => ?_, fun e he => ?_⟩
  · by_cases c : e = m
    · rw [c, pk_us]; exact ⟨i, hi, rfl⟩
    · rw [pk_un c]; exact hs e (by omega)
  · by_cases c : e = m
    · rw [c, pk_us]; exact ⟨j, hj, rfl⟩
    · rw [pk_un c]; exact ht e (by omega)
  · by_cases c : e = m
    · rw [c, pk_us]; exact hg
    · rw [pk_un c]; exact hgg e (by omega)
theorem ez_set {n m i : Nat} {fr tt ga : Nat → Int32} {g : Int32} (G : eg_Gd n m fr tt ga) (hg : -6 ≤ g.toInt ∧ g.toInt ≤ 6) :
    eg_Gd n m fr tt (upd ga i g) := by
  obtain ⟨hb, hs, ht, hgg⟩ := G
  refine ⟨hb, hs, ht, fun e he => ?_⟩
  by_cases c : e = i
  · rw [c, pk_us]; exact hg
  · rw [pk_un c]; exact hgg e he
theorem ez_cut {n m j : Nat} {fr tt ga : Nat → Int32} (G : eg_Gd n (m + 1) fr tt ga) (hj : j ≤ m) : eg_Gd n m (eg_sh (m - j) j fr) (eg_sh (m - j) j tt) (eg_sh (m - j) j ga) := by
  obtain ⟨⟨h2, h6, h14⟩, hs, ht, hg⟩ := G
  refine ⟨⟨h2, h6, by omega⟩, fun e he => ?_, fun e he => ?_, fun e he => ?_⟩
  · exact eg_sh_v (P := fun x => ∃ j, j < n ∧ x = nI j) (m - j) j fr (fun k hk => hs k (by omega)) e (by omega)
  · exact eg_sh_v (P := fun x => ∃ j, j < n ∧ x = nI j) (m - j) j tt (fun k hk => ht k (by omega)) e (by omega)
  · exact eg_sh_v (P := fun x => -6 ≤ x.toInt ∧ x.toInt ≤ 6) (m - j) j ga (fun k hk => hg k (by omega)) e (by omega)
theorem ez_back {ow : Nat → Int32} {j : Nat} {p : Int32} : upd (upd ow j p) j (ow j) = ow := by
  funext k
  by_cases c : k = j
  · rw [c, pk_us]
  · rw [pk_un c, pk_un c]
theorem ex_isPl {x : Int32} {post : Int32 → Prop} (a0 : ¬ x < 0) (a1 : ¬ 30 < x / 128) (a2 : ¬ 100 < x - x / 128 * 128) (h : post 1) : wpX_isPlay post x := by
  unfold wpX_isPlay
  exact br_f a0 ⟨by decide, br_f a1 ⟨by decide, br_f a2 h⟩⟩
theorem ex_noPl {x : Int32} {post : Int32 → Prop} (a : x < 0 ∨ 30 < x / 128 ∨ 100 < x - x / 128 * 128) (h : post 0) : wpX_isPlay post x := by
  unfold wpX_isPlay
  refine ⟨fun _ => h, fun z => ⟨by decide, fun _ => h, fun y => ⟨by decide, fun _ => h, fun w => ?_⟩⟩⟩
  rcases a with a | a | a
  · exact absurd a z
  · exact absurd a y
  · exact absurd a w

theorem i_vc0 (k0 : Int32) : wpX_init (fun u => wpY_init (fun v => i_Rel 1 u v) k0) k0 := by
  unfold wpX_init wpY_init
  refine ⟨fun a => ⟨fun b => br_t a (br_t b ?_), fun b => br_t a (br_f b ?_)⟩, fun a => br_f a ?_⟩
  · have h0 : ¬ k0 < 0 := fun z => absurd (Int32.lt_of_le_of_lt a z) (by decide)
    obtain ⟨j, hj, rfl⟩ := nI_of2 (M := 6) (n := 6) (by decide) h0 b
    have h2 : 2 ≤ j := (nI_leI (a := 2) (by omega) (by omega)).mp a
    exact ez_rel (n := j) (m := 0) (ez_g0 h2 hj)
  · exact ez_rel (n := 6) (m := 0) (ez_g0 (by omega) (by omega))
  · exact ez_rel (n := 2) (m := 0) (ez_g0 (by omega) (by omega))
theorem i_vc_vertices {k : Nat} {u : SX} {v : SY} (I : i_Rel k u v) (hk : k + 4 ≤ 2049) : wpX_vertices (fun r => wpY_vertices (fun r' => r' = r ∧ i_Rel (k + 4) u v) v) u := by
  obtain ⟨n, m, ow, fr, tt, ga, ne, no, la, rfl, rfl, G⟩ := I
  unfold wpX_vertices wpY_vertices
  dsimp only
  exact ⟨rfl, ez_rel G⟩
theorem i_vc_give {k : Nat} {u : SX} {v : SY} (I : i_Rel k u v) (hk : k + 4 ≤ 2049) (v1 : Int32) (v2 : Int32) : wpX_give (fun r u' => wpY_give (fun r' v' => r' = r ∧ i_Rel (k + 4) u' v') v v1 v2) u v1 v2 := by
  obtain ⟨n, m, ow, fr, tt, ga, ne, no, la, rfl, rfl, G⟩ := I
  have hb := G.1
  unfold wpX_give wpY_give
  dsimp only
  rcases ez_ix v1 (n := n) (by omega) with a | ⟨j, hj, rfl⟩
  · exact ex_noV a (br_t rfl (ey_noV a (br_f (by decide) ⟨rfl, ez_rel G⟩)))
  · rcases ez_pl v2 with p | ⟨p0, p1, p2⟩
    · refine ex_isV hb.2.1 hj (br_f (by decide) (ex_isP p (br_f (by decide) ⟨vp_in_nI (by omega) (by omega), nm_e ⟨vp_in_nI (by omega) (by omega), nm_e ?_⟩⟩)))
      exact ey_isV hb.2.1 hj (br_t rfl (br_f (ez_pl1 p).1 (br_t (ez_pl1 p).2 ⟨vp_in_nI (by omega) (by omega), nm_e ⟨vp_in_nI (by omega) (by omega), nm_e ⟨rfl, ez_rel G⟩⟩⟩)))
    · refine ex_isV hb.2.1 hj (br_f (by decide) (ex_noP ⟨p0, p1⟩ (br_t rfl ?_)))
      exact ey_isV hb.2.1 hj (br_t rfl ⟨fun _ => ⟨rfl, ez_rel G⟩, fun z => ⟨fun y => p2.elim (fun c => absurd c z) (fun c => absurd y c), fun _ => ⟨rfl, ez_rel G⟩⟩⟩)
theorem i_vc_link {k : Nat} {u : SX} {v : SY} (I : i_Rel k u v) (hk : k + 4 ≤ 2049) (v1 : Int32) (v2 : Int32) (v3 : Int32) : wpX_link (fun r u' => wpY_link (fun r' v' => r' = r ∧ i_Rel (k + 4) u' v') v v1 v2 v3) u v1 v2 v3 := by
  obtain ⟨n, m, ow, fr, tt, ga, ne, no, la, rfl, rfl, G⟩ := I
  have hb := G.1
  unfold wpX_link wpY_link
  dsimp only
  rcases ez_ix v1 (n := n) (by omega) with a | ⟨i, hi, rfl⟩
  · exact ex_noV a (br_t rfl (ey_noV a (br_f (by decide) ⟨rfl, ez_rel G⟩)))
  · rcases ez_ix v2 (n := n) (by omega) with a | ⟨j, hj, rfl⟩
    · exact ex_isV hb.2.1 hi (br_f (by decide) (ex_noV a (br_t rfl (ey_isV hb.2.1 hi (br_t rfl (ey_noV a (br_f (by decide) ⟨rfl, ez_rel G⟩)))))))
    · rcases ez_gain v3 with g | g
      · exact ex_isV hb.2.1 hi (br_f (by decide) (ex_isV hb.2.1 hj (br_f (by decide) (ex_noG g (br_t rfl
          (ey_isV hb.2.1 hi (br_t rfl (ey_isV hb.2.1 hj (br_t rfl (ey_noG g (br_f (by decide) ⟨rfl, ez_rel G⟩)))))))))))
      · refine ex_isV hb.2.1 hi (br_f (by decide) (ex_isV hb.2.1 hj (br_f (by decide) (ex_isG g (br_f (by decide) ?_)))))
        refine pk_lt m 14 (fun h14 => ?_) (fun h14 => ?_) rfl rfl (by omega) (by omega)
        · have iv : vp_in (nI m) 14 := vp_in_nI (by omega) (by omega)
          refine ex_from hb.2.2 ?_
          rw [nI_clamp (n := m) (by omega)]
          refine ⟨fun c => ⟨iv, nm_e ⟨iv, nm_e ⟨iv, nm_e (nm_r (nI_1 m) ?_)⟩⟩⟩, fun c => ?_⟩
          · exact ey_isV hb.2.1 hi (br_t rfl (ey_isV hb.2.1 hj (br_t rfl (ey_isG g (br_t rfl (br_t (nI_lt (b := 14) h14 (by decide))
              ⟨m + 1, ey_link_l h14 m 0 (m + 1) 0 (by omega) (by omega) (fun _ => ⟨rfl, ez_rel (ez_link G h14 hi hj g)⟩) (fun z => absurd c z)⟩))))))
          · exact ey_isV hb.2.1 hi (br_t rfl (ey_isV hb.2.1 hj (br_t rfl (ey_isG g (br_t rfl (br_t (nI_lt (b := 14) h14 (by decide))
              ⟨m + 1, ey_link_l h14 m 0 (m + 1) 0 (by omega) (by omega) (fun z => absurd z c) (fun _ => ⟨rfl, ez_rel G⟩)⟩))))))
        · exact ey_isV hb.2.1 hi (br_t rfl (ey_isV hb.2.1 hj (br_t rfl (ey_isG g (br_t rfl (br_f (nI_nlt (b := 14) h14 (by omega)) ⟨rfl, ez_rel G⟩))))))
theorem i_vc_cut {k : Nat} {u : SX} {v : SY} (I : i_Rel k u v) (hk : k + 4 ≤ 2049) (v1 : Int32) : wpX_cut (fun r u' => wpY_cut (fun r' v' => r' = r ∧ i_Rel (k + 4) u' v') v v1) u v1 := by
  obtain ⟨n, m, ow, fr, tt, ga, ne, no, la, rfl, rfl, G⟩ := I
  have hb := G.1
  unfold wpX_cut wpY_cut
  dsimp only
  rcases ez_ix v1 (n := m) (by omega) with a | ⟨j, hj, rfl⟩
  · exact ex_noE a (br_t rfl (ey_noE a (br_f (by decide) ⟨rfl, ez_rel G⟩)))
  · obtain ⟨m, rfl⟩ : ∃ k, m = k + 1 := ⟨m - 1, by omega⟩
    refine ex_isE hb.2.2 hj (br_f (by decide) (nm_r (nI_1 j) ⟨m + 1, ex_cut (by omega) (m - j) j (m + 1) fr tt ga (by omega) (by omega) ?_⟩))
    exact ey_isE hb.2.2 hj (br_t rfl ⟨m + 1, ey_cut (by omega) (m - j) j (m + 1) fr tt ga (by omega) (by omega) ⟨rfl, ez_rel (ez_cut G (by omega))⟩⟩)
theorem i_vc_set {k : Nat} {u : SX} {v : SY} (I : i_Rel k u v) (hk : k + 4 ≤ 2049) (v1 : Int32) (v2 : Int32) : wpX_set (fun r u' => wpY_set (fun r' v' => r' = r ∧ i_Rel (k + 4) u' v') v v1 v2) u v1 v2 := by
  obtain ⟨n, m, ow, fr, tt, ga, ne, no, la, rfl, rfl, G⟩ := I
  have hb := G.1
  unfold wpX_set wpY_set
  dsimp only
  rcases ez_ix v1 (n := m) (by omega) with a | ⟨j, hj, rfl⟩
  · exact ex_noE a (br_t rfl (ey_noE a (br_f (by decide) ⟨rfl, ez_rel G⟩)))
  · rcases ez_gain v2 with g | g
    · exact ex_isE hb.2.2 hj (br_f (by decide) (ex_noG g (br_t rfl (ey_isE hb.2.2 hj (br_t rfl (ey_noG g (br_f (by decide) ⟨rfl, ez_rel G⟩)))))))
    · have iv : vp_in (nI j) 14 := vp_in_nI (by omega) (by omega)
      refine ex_isE hb.2.2 hj (br_f (by decide) (ex_isG g (br_f (by decide) ⟨iv, nm_e ⟨iv, nm_e ?_⟩⟩)))
      exact ey_isE hb.2.2 hj (br_t rfl (ey_isG g (br_t rfl ⟨iv, nm_e ⟨iv, nm_e ⟨rfl, ez_rel (ez_set G g)⟩⟩⟩)))
theorem i_vc_edges {k : Nat} {u : SX} {v : SY} (I : i_Rel k u v) (hk : k + 4 ≤ 2049) : wpX_edges (fun r => wpY_edges (fun r' => r' = r ∧ i_Rel (k + 4) u v) v) u := by
  obtain ⟨n, m, ow, fr, tt, ga, ne, no, la, rfl, rfl, G⟩ := I
  unfold wpX_edges wpY_edges
  dsimp only
  exact ⟨rfl, ez_rel G⟩
theorem i_vc_need {k : Nat} {u : SX} {v : SY} (I : i_Rel k u v) (hk : k + 4 ≤ 2049) (v1 : Int32) : wpX_need (fun r u' => wpY_need (fun r' v' => r' = r ∧ i_Rel (k + 4) u' v') v v1) u v1 := by
  obtain ⟨n, m, ow, fr, tt, ga, ne, no, la, rfl, rfl, G⟩ := I
  have hb := G.1
  unfold wpX_need wpY_need
  dsimp only
  rcases ez_ix v1 (n := n) (by omega) with a | ⟨j, hj, rfl⟩
  · exact ex_noV a (br_t rfl (ey_noV a (br_f (by decide) ⟨rfl, ez_rel G⟩)))
  · refine ex_isV hb.2.1 hj (br_f (by decide) (ex_find G (fun ne f hf L => ?_)))
    dsimp only
    refine ex_ans hb.2.1 (ez_fx hf L.1) hj ?_
    refine ey_isV hb.2.1 hj (br_t rfl (ey_work G (fun no la h hn L' => ?_)))
    dsimp only
    exact ey_told hb.2.1 (ez_fc G (ez_K hb.2.1) hf L hn L') hj ⟨rfl, ez_rel G⟩
theorem i_vc_safe {k : Nat} {u : SX} {v : SY} (I : i_Rel k u v) (hk : k + 4 ≤ 2049) (v1 : Int32) : wpX_safe (fun r u' => wpY_safe (fun r' v' => r' = r ∧ i_Rel (k + 4) u' v') v v1) u v1 := by
  obtain ⟨n, m, ow, fr, tt, ga, ne, no, la, rfl, rfl, G⟩ := I
  have hb := G.1
  unfold wpX_safe wpY_safe
  dsimp only
  refine ex_find G (fun ne f hf L => ?_)
  dsimp only
  refine ⟨n + 1, ex_safe hb.2.1 hf L.1 n 0 (n + 1) 0 (by omega) (by omega) ?_⟩
  refine ey_work G (fun no la h hn L' => ?_)
  dsimp only
  exact ⟨n + 1, ey_safe hb.2.1 (ez_fc G (ez_K hb.2.1) hf L hn L') n 0 (n + 1) 0 (by omega) (by omega) ⟨rfl, ez_rel G⟩⟩
theorem i_vc_hopeless {k : Nat} {u : SX} {v : SY} (I : i_Rel k u v) (hk : k + 4 ≤ 2049) : wpX_hopeless (fun r u' => wpY_hopeless (fun r' v' => r' = r ∧ i_Rel (k + 4) u' v') v) u := by
  obtain ⟨n, m, ow, fr, tt, ga, ne, no, la, rfl, rfl, G⟩ := I
  have hb := G.1
  unfold wpX_hopeless wpY_hopeless
  dsimp only
  refine ex_find G (fun ne f hf L => ?_)
  dsimp only
  refine ⟨n + 1, ex_hopeless hb.2.1 hf L.1 n 0 (n + 1) 0 (by omega) (by omega) ?_⟩
  refine ey_work G (fun no la h hn L' => ?_)
  dsimp only
  exact ⟨n + 1, ey_hopeless hb.2.1 (ez_fc G (ez_K hb.2.1) hf L hn L') n 0 (n + 1) 0 (by omega) (by omega) ⟨rfl, ez_rel G⟩⟩
theorem i_vc_choice {k : Nat} {u : SX} {v : SY} (I : i_Rel k u v) (hk : k + 4 ≤ 2049) (v1 : Int32) : wpX_choice (fun r u' => wpY_choice (fun r' v' => r' = r ∧ i_Rel (k + 4) u' v') v v1) u v1 := by
  obtain ⟨n, m, ow, fr, tt, ga, ne, no, la, rfl, rfl, G⟩ := I
  have hb := G.1
  unfold wpX_choice wpY_choice
  dsimp only
  rcases ez_ix v1 (n := n) (by omega) with a | ⟨j, hj, rfl⟩
  · exact ex_noV a (br_t rfl (ey_noV a (br_f (by decide) ⟨rfl, ez_rel G⟩)))
  · refine ex_isV hb.2.1 hj (br_f (by decide) (ex_find G (fun ne f hf L => ?_)))
    dsimp only
    refine ex_first G hf L.1 ?_
    refine ey_isV hb.2.1 hj (br_t rfl (ey_work G (fun no la h hn L' => ?_)))
    dsimp only
    exact ey_first G (ez_fc G (ez_K hb.2.1) hf L hn L') ⟨rfl, ez_rel G⟩
theorem i_vc_choices {k : Nat} {u : SX} {v : SY} (I : i_Rel k u v) (hk : k + 4 ≤ 2049) (v1 : Int32) : wpX_choices (fun r u' => wpY_choices (fun r' v' => r' = r ∧ i_Rel (k + 4) u' v') v v1) u v1 := by
  obtain ⟨n, m, ow, fr, tt, ga, ne, no, la, rfl, rfl, G⟩ := I
  have hb := G.1
  unfold wpX_choices wpY_choices
  dsimp only
  rcases ez_ix v1 (n := n) (by omega) with a | ⟨j, hj, rfl⟩
  · exact ex_noV a (br_t rfl (ey_noV a (br_f (by decide) ⟨rfl, ez_rel G⟩)))
  · refine ex_isV hb.2.1 hj (br_f (by decide) (ex_find G (fun ne f hf L => ?_)))
    dsimp only
    refine ⟨m + 1, ex_choices G hf L.1 m 0 (m + 1) 0 (by omega) (by omega) ?_⟩
    refine ey_isV hb.2.1 hj (br_t rfl (ey_work G (fun no la h hn L' => ?_)))
    dsimp only
    exact ⟨m + 1, ey_choices G (ez_fc G (ez_K hb.2.1) hf L hn L') m 0 (m + 1) 0 (by omega) (by omega) ⟨rfl, ez_rel G⟩⟩
theorem i_vc_needWithout {k : Nat} {u : SX} {v : SY} (I : i_Rel k u v) (hk : k + 4 ≤ 2049) (v1 : Int32) (v2 : Int32) : wpX_needWithout (fun r u' => wpY_needWithout (fun r' v' => r' = r ∧ i_Rel (k + 4) u' v') v v1 v2) u v1 v2 := by
  obtain ⟨n, m, ow, fr, tt, ga, ne, no, la, rfl, rfl, G⟩ := I
  have hb := G.1
  unfold wpX_needWithout wpY_needWithout
  dsimp only
  rcases ez_ix v1 (n := n) (by omega) with a | ⟨j, hj, rfl⟩
  · exact ex_noV a (br_t rfl (ey_noV a (br_f (by decide) ⟨rfl, ez_rel G⟩)))
  · rcases ez_ix v2 (n := m) (by omega) with a | ⟨e, he, rfl⟩
    · exact ex_isV hb.2.1 hj (br_f (by decide) (ex_noE a (br_t rfl (ey_isV hb.2.1 hj (br_t rfl (ey_noE a (br_f (by decide) ⟨rfl, ez_rel G⟩)))))))
    · refine ex_isV hb.2.1 hj (br_f (by decide) (ex_isE hb.2.2 he (br_f (by decide) (ex_find G (fun ne f hf L => ?_)))))
      dsimp only
      refine ex_ans hb.2.1 (ez_fx hf L.1) hj ?_
      refine ey_isV hb.2.1 hj (br_t rfl (ey_isE hb.2.2 he (br_t rfl (ey_work G (fun no la h hn L' => ?_)))))
      dsimp only
      exact ey_told hb.2.1 (ez_fc G (ez_K hb.2.1) hf L hn L') hj ⟨rfl, ez_rel G⟩
theorem i_vc_needOf {k : Nat} {u : SX} {v : SY} (I : i_Rel k u v) (hk : k + 4 ≤ 2049) (v1 : Int32) (v2 : Int32) : wpX_needOf (fun r u' => wpY_needOf (fun r' v' => r' = r ∧ i_Rel (k + 4) u' v') v v1 v2) u v1 v2 := by
  obtain ⟨n, m, ow, fr, tt, ga, ne, no, la, rfl, rfl, G⟩ := I
  have hb := G.1
  unfold wpX_needOf wpY_needOf
  dsimp only
  rcases ez_ix v1 (n := n) (by omega) with a | ⟨j, hj, rfl⟩
  · exact ex_noV a (br_t rfl (ey_noV a (br_f (by decide) ⟨rfl, ez_rel G⟩)))
  · rcases ez_pl v2 with p | ⟨p0, p1, p2⟩
    · have iv : vp_in (nI j) 6 := vp_in_nI (by omega) (by omega)
      have cj : (nI j).toNatClampNeg = j := nI_clamp (by omega)
      rw [cj]
      refine ex_isV hb.2.1 hj (br_f (by decide) (ex_isP p (br_f (by decide) ⟨iv, nm_e ⟨iv, nm_e (ex_find G (fun ne f hf L => ?_))⟩⟩)))
      dsimp only
      refine ⟨iv, nm_r ez_back (ex_ans hb.2.1 (ez_fx hf L.1) hj ?_)⟩
      refine ey_isV hb.2.1 hj (br_t rfl (br_f (ez_pl1 p).1 (br_t (ez_pl1 p).2 (ey_work G (fun no la h hn L' => ?_)))))
      dsimp only
      refine ey_told hb.2.1 (ez_fc G (fun v hv => ?_) hf L hn L') hj ⟨rfl, ez_rel G⟩
      unfold eg_K eg_KY
      by_cases c : v = j
      · rw [c, pk_us, if_pos rfl]
      · rw [pk_un c, if_neg (fun z => c ((nI_eq (by omega) (by omega)).mp z))]
    · refine ex_isV hb.2.1 hj (br_f (by decide) (ex_noP ⟨p0, p1⟩ (br_t rfl ?_)))
      exact ey_isV hb.2.1 hj (br_t rfl ⟨fun _ => ⟨rfl, ez_rel G⟩, fun z => ⟨fun y => p2.elim (fun c => absurd c z) (fun c => absurd y c), fun _ => ⟨rfl, ez_rel G⟩⟩⟩)
theorem i_vc_greatest {k : Nat} {u : SX} {v : SY} (I : i_Rel k u v) (hk : k + 4 ≤ 2049) : wpX_greatest (fun r u' => wpY_greatest (fun r' v' => r' = r ∧ i_Rel (k + 4) u' v') v) u := by
  obtain ⟨n, m, ow, fr, tt, ga, ne, no, la, rfl, rfl, G⟩ := I
  have hb := G.1
  unfold wpX_greatest wpY_greatest
  dsimp only
  refine ex_find G (fun ne f hf L => ?_)
  dsimp only
  refine ⟨n + 1, ex_greatest hb.2.1 hf L.1 n 0 (n + 1) 0 (by omega) (by omega) ?_⟩
  refine ey_work G (fun no la h hn L' => ?_)
  dsimp only
  exact ⟨n + 1, ey_greatest hb.2.1 (ez_fc G (ez_K hb.2.1) hf L hn L') n 0 (n + 1) 0 (by omega) (by omega) ⟨rfl, ez_rel G⟩⟩
theorem i_vc_store {k : Nat} {u : SX} {v : SY} (I : i_Rel k u v) (hk : k + 4 ≤ 2049) (v1 : Int32) (v2 : Int32) : wpX_store (fun r u' => wpY_store (fun r' v' => r' = r ∧ i_Rel (k + 4) u' v') v v1 v2) u v1 v2 := by
  obtain ⟨n, m, ow, fr, tt, ga, ne, no, la, rfl, rfl, G⟩ := I
  have hb := G.1
  unfold wpX_store wpY_store
  dsimp only
  rcases ez_ix v1 (n := n) (by omega) with a | ⟨j, hj, rfl⟩
  · exact ex_noV a (br_t rfl (ey_noV a (br_f (by decide) ⟨rfl, ez_rel G⟩)))
  · by_cases c0 : v2 < 0
    · exact ex_isV hb.2.1 hj (br_f (by decide) (ex_noPl (Or.inl c0) (br_t rfl (ey_isV hb.2.1 hj (br_t rfl (br_t c0 ⟨rfl, ez_rel G⟩))))))
    · by_cases c1 : 30 < v2 / 128
      · exact ex_isV hb.2.1 hj (br_f (by decide) (ex_noPl (Or.inr (Or.inl c1)) (br_t rfl (ey_isV hb.2.1 hj (br_t rfl (br_f c0 ⟨by decide, br_t c1 ⟨rfl, ez_rel G⟩⟩))))))
      · by_cases c2 : 100 < v2 - v2 / 128 * 128
        · exact ex_isV hb.2.1 hj (br_f (by decide) (ex_noPl (Or.inr (Or.inr c2)) (br_t rfl (ey_isV hb.2.1 hj (br_t rfl (br_f c0 ⟨by decide, br_f c1 ⟨by decide, br_f (Int32.not_le.mpr c2) ⟨rfl, ez_rel G⟩⟩⟩))))))
        · obtain ⟨s, hs, hp⟩ : ∃ s : Nat, s < 2 ^ 31 ∧ v2 / 128 = nI s := by
            obtain ⟨p, hp, rfl⟩ := nI_of c0
            exact ⟨p / 128, by omega, pk_div (d := 128) hp (by omega) (by omega)⟩
          refine ex_isV hb.2.1 hj (br_f (by decide) (ex_isPl c0 c1 c2 (br_f (by decide) (ex_find G (fun ne f hf L => ?_)))))
          dsimp only
          refine ⟨by decide, nm_r hp ⟨by decide, nm_e ⟨s + 1, ex_store G hf L.1 hs s 0 (s + 1) _ _ (by omega) (by omega) ?_⟩⟩⟩
          refine ey_isV hb.2.1 hj (br_t rfl (br_f c0 ⟨by decide, br_f c1 ⟨by decide, br_t (Int32.not_lt.mp c2) (ey_work G (fun no la h hn L' => ?_))⟩⟩))
          dsimp only
          exact ⟨by decide, nm_e ⟨s + 1, ey_store G (ez_fc G (ez_K hb.2.1) hf L hn L') hs hp s 0 (s + 1) _ _ (by omega) (by omega) ⟨rfl, ez_rel G⟩⟩⟩
end
