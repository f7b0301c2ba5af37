/-! small rows (pk_*: the kit's rows to paste), the relation -/
theorem pk_us {f : Nat → Int32} {k : Nat} {x : Int32} : upd f k x k = x := if_pos rfl
theorem pk_un {f : Nat → Int32} {k j : Nat} {x : Int32} (h : j ≠ k) : upd f k x j = f j := if_neg h
theorem pk_sub {a b : Nat} (h : b ≤ a) : nI a - nI b = nI (a - b) := by
  obtain ⟨c, rfl⟩ : ∃ c, a = c + b := ⟨a - b, by omega⟩
  rw [← nI_add, Int32.add_sub_cancel, Nat.add_sub_cancel]
theorem pk_mul (a b : Nat) : nI a * nI b = nI (a * b) := (Int32.ofNat_mul a b).symm
theorem pk_div {a d : Nat} (ha : a < 2 ^ 31) (h0 : 0 < d) (hd : d < 2 ^ 31) : nI a / nI d = nI (a / d) := by
  apply Int32.toInt_inj.mp
  rw [lg_idiv_nonneg (by rw [nI_toInt ha]; omega) (by rw [nI_toInt hd]; omega), nI_toInt ha, nI_toInt hd, nI_toInt (Nat.lt_of_le_of_lt (Nat.div_le_self a d) ha)]
  first | rfl | exact (Int.natCast_ediv _ _).symm
theorem pk_rem {a d : Nat} (ha : a < 2 ^ 31) (h0 : 0 < d) (hd : d < 2 ^ 31) : nI a - nI a / nI d * nI d = nI (a % d) := by
  rw [pk_div ha h0 hd, pk_mul, pk_sub (Nat.div_mul_le_self a d)]
  exact congrArg nI (by have := Nat.div_add_mod' a d; omega)
theorem pk_ix (x : Int32) {n : Nat} (hn : n < 2 ^ 31) : x < 0 ∨ nI n ≤ x ∨ ∃ j : Nat, j < n ∧ x = nI j := by
  by_cases h : x < 0
  · exact Or.inl h
  · obtain ⟨j, hj, rfl⟩ := nI_of h
    by_cases h2 : j < n
    · exact Or.inr (Or.inr ⟨j, h2, rfl⟩)
    · exact Or.inr (Or.inl (nI_le (by omega) hj))
theorem pk_le {x y : Int32} {A B : Prop} (a b : Nat) (f : a ≤ b → A) (g : b < a → B) (hx : x = nI a := by rfl) (hy : y = nI b := by rfl) (ha : a < 2 ^ 31 := by omega) (hb : b < 2 ^ 31 := by omega) : (x ≤ y → A) ∧ (¬ x ≤ y → B) := by
  subst hx hy
  rw [nI_leI ha hb]
  exact ⟨f, fun z => g (by omega)⟩
theorem pk_lt {x y : Int32} {A B : Prop} (a b : Nat) (f : a < b → A) (g : b ≤ a → B) (hx : x = nI a := by rfl) (hy : y = nI b := by rfl) (ha : a < 2 ^ 31 := by omega) (hb : b < 2 ^ 31 := by omega) : (x < y → A) ∧ (¬ x < y → B) := by
  subst hx hy
  rw [nI_ltI ha hb]
  exact ⟨f, fun z => g (by omega)⟩
theorem pk_eq {x y : Int32} {A B : Prop} (a b : Nat) (f : a = b → A) (g : a ≠ b → B) (hx : x = nI a := by rfl) (hy : y = nI b := by rfl) (ha : a < 2 ^ 31 := by omega) (hb : b < 2 ^ 31 := by omega) : (x = y → A) ∧ (¬ x = y → B) := by
  subst hx hy
  rw [nI_eq ha hb]
  exact ⟨f, g⟩
theorem pk_cl {x : Int32} (n : Nat) (hx : x = nI n := by rfl) (h : n < 2 ^ 31 := by omega) : x.toNatClampNeg = n := by
  subst hx
  exact nI_clamp h
theorem ex_cl {x : Int32} {c : Nat} (hc : c < 2 ^ 31) : x ≤ nI c ↔ x.toInt ≤ c := by
  rw [Int32.le_iff_toInt_le, nI_toInt hc]
theorem ex_c0 {x : Int32} : 0 ≤ x ↔ 0 ≤ x.toInt := by
  rw [Int32.le_iff_toInt_le, show (0 : Int32).toInt = 0 from by decide]
theorem ex_nn {x : Int32} (h : 0 ≤ x.toInt) : x = nI x.toInt.toNat := by
  have hl := Int32.toInt_lt x
  apply Int32.toInt_inj.mp
  rw [nI_toInt (by omega)]
  omega
theorem ex_sub {a : Nat} {g : Int32} (ha : a ≤ 99) (g1 : -6 ≤ g.toInt) (g2 : g.toInt ≤ 6) : (nI a - g).toInt = (a : Int) - g.toInt := by
  rw [Int32.toInt_sub, nI_toInt (by omega)]
  exact Int.bmod_eq_of_le (by omega) (by omega)
theorem ex_step {post : Int32 → Prop} {C T a : Nat} {g : Int32} (hC : C ≤ 30) (ha : a ≤ 99) (g1 : -6 ≤ g.toInt) (g2 : g.toInt ≤ 6) (hne : a ≠ T)
    (h : post (nI (eg_ask C T a g.toInt))) :
    (0 ≤ nI a - g → ((nI a - g ≤ nI C → post (nI a - g)) ∧ (¬ nI a - g ≤ nI C → post (nI T)))) ∧ (¬ 0 ≤ nI a - g → post 0) := by
  have hx := ex_sub ha g1 g2
  have c := eg_ask_c C T a g.toInt
  refine ⟨fun z => ⟨fun y => ?_, fun y => ?_⟩, fun z => ?_⟩
  · rw [ex_c0] at z
    rw [ex_cl (by omega)] at y
    have e : eg_ask C T a g.toInt = (nI a - g).toInt.toNat := by rw [hx] at z y ⊢; omega
    rw [ex_nn z, ← e]
    exact h
  · rw [ex_c0] at z
    rw [ex_cl (by omega)] at y
    have e : eg_ask C T a g.toInt = T := by rw [hx] at z y; omega
    rw [e] at h
    exact h
  · rw [ex_c0] at z
    have e : eg_ask C T a g.toInt = 0 := by rw [hx] at z; omega
    rw [e] at h
    exact h

/-- what the arrays of the edges hold -/
def eg_Gd (n m : Nat) (fr tt ga : Nat → Int32) : Prop :=
  (2 ≤ n ∧ n ≤ 6 ∧ m ≤ 14) ∧ (∀ e, e < m → ∃ j, j < n ∧ fr e = nI j) ∧ (∀ e, e < m → ∃ j, j < n ∧ tt e = nI j) ∧ (∀ e, e < m → -6 ≤ (ga e).toInt ∧ (ga e).toInt ≤ 6)
def eg_K (ow : Nat → Int32) (v : Nat) : Prop := ow v = 0
def eg_KY (ow : Nat → Int32) (sp pl : Int32) (v : Nat) : Prop := (if nI v = sp then pl else ow v) = 0
def eg_M (m : Nat) (fr : Nat → Int32) (w : Int32) (v e : Nat) : Prop := e < m ∧ fr e = nI v ∧ ¬ nI e = w
def eg_to (tt : Nat → Int32) (e : Nat) : Nat := (tt e).toNatClampNeg
def eg_g (ga : Nat → Int32) (e : Nat) : Int := (ga e).toInt
def eg_A (C T : Nat) (tt ga : Nat → Int32) (f : Nat → Nat) (e : Nat) : Nat := eg_ask C T (f (eg_to tt e)) (eg_g ga e)
theorem eg_A_b {C T : Nat} {tt ga : Nat → Int32} {f : Nat → Nat} {e : Nat} (hC : C ≤ 99) (hT : T ≤ 99) : eg_A C T tt ga f e ≤ 99 := by
  have h : eg_A C T tt ga f e ≤ C ∨ eg_A C T tt ga f e = T := eg_ask_r C T _ _
  omega
theorem eg_Is_r {C T : Nat} {tt ga : Nat → Int32} {f : Nat → Nat} {k : Prop} {D : Nat → Prop} {i r : Nat} (h : eg_Is k D (eg_A C T tt ga f) i r) : r ≤ C ∨ r = T := by
  rcases h with ⟨_, h0⟩ | ⟨⟨e, _, _, hr⟩, _⟩
  · omega
  · rw [← hr]; exact eg_ask_r C T _ _
theorem eg_Gd_ok {n m : Nat} {fr tt ga : Nat → Int32} {w : Int32} (G : eg_Gd n m fr tt ga) : eg_Ok n (eg_M m fr w) (eg_to tt) (eg_g ga) := by
  intro v e h
  obtain ⟨⟨h2, h6, h14⟩, _, ht, hg⟩ := G
  obtain ⟨j, hj, hj'⟩ := ht e h.1
  refine ⟨?_, (hg e h.1).1, (hg e h.1).2⟩
  show (tt e).toNatClampNeg < n
  rw [hj', nI_clamp (by omega)]
  exact hj
def eg_pt (f : Nat → Nat) (i r : Nat) : Nat → Nat := fun v => if v = i then r else f v
theorem eg_pt_s {f : Nat → Nat} {i r : Nat} : eg_pt f i r i = r := if_pos rfl
theorem eg_pt_n {f : Nat → Nat} {i r v : Nat} (h : v ≠ i) : eg_pt f i r v = f v := if_neg h
theorem eg_Pre_K {n C T : Nat} {K K' : Nat → Prop} {M : Nat → Nat → Prop} {to : Nat → Nat} {g : Nat → Int} {f : Nat → Nat}
    (hK : ∀ v, v < n → (K v ↔ K' v)) (h : eg_Pre n C T K M to g f) : eg_Pre n C T K' M to g f :=
  fun v hv => ⟨fun k => (h v hv).1 ((hK v hv).mpr k), fun k => (h v hv).2 (fun z => k ((hK v hv).mp z))⟩
theorem eg_Lst_K {n C T : Nat} {K K' : Nat → Prop} {M : Nat → Nat → Prop} {to : Nat → Nat} {g : Nat → Int} {f : Nat → Nat}
    (hK : ∀ v, v < n → (K v ↔ K' v)) (h : eg_Lst n C T K M to g f) : eg_Lst n C T K' M to g f :=
  ⟨h.1, eg_Pre_K hK h.2.1, fun P hR hP => h.2.2 P hR (eg_Pre_K (fun v hv => (hK v hv).symm) hP)⟩

/-- the relation: the same numbers and the same arrays of owners, starts, ends and gains on both sides; the worked-out arrays are free -/
def i_Rel (_ : Nat) (u : SX) (v : SY) : Prop :=
  ∃ (n m : Nat) (ow fr tt ga ne no la : Nat → Int32), u = (nI n, nI m, ow, fr, tt, ga, ne) ∧ v = (nI n, nI m, ow, fr, tt, ga, no, la) ∧ eg_Gd n m fr tt ga
theorem i_up {k : Nat} {u : SX} {v : SY} (h : i_Rel k u v) : i_Rel (k + 4) u v := h
