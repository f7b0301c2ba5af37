/-! good edges, the choice, counts over edges, the play, link, cut -/
def eg_gd (ow fr tt ga : Nat → Int32) (f : Nat → Nat) (e : Nat) : Bool :=
  decide ((f (eg_to fr e) = 31 ∧ ow (eg_to fr e) = 1 ∧ f (eg_to tt e) = 31) ∨ (f (eg_to fr e) ≠ 31 ∧ f (eg_to tt e) ≠ 31 ∧ eg_A 30 31 tt ga f e = f (eg_to fr e)))
theorem ex_good {n m : Nat} {ow fr tt ga ne : Nat → Int32} {f : Nat → Nat} (G : eg_Gd n m fr tt ga) (hf : ∀ v, v < n → ne v = nI (f v)) (hr : eg_Rg n 30 31 f)
    {e : Nat} (he : e < m) {post : Int32 → Prop} (h1 : eg_gd ow fr tt ga f e = true → post 1) (h0 : ¬ eg_gd ow fr tt ga f e = true → post 0) :
    wpX_isGoodForOwner post (nI n, nI m, ow, fr, tt, ga, ne) (nI e) := by
  have G' := G
  obtain ⟨⟨h2, h6, h14⟩, hs, ht, hg⟩ := G'
  obtain ⟨t, ht1, ht2⟩ := ht e he
  obtain ⟨s, hs1, hs2⟩ := hs e he
  have ce : (nI e).toNatClampNeg = e := nI_clamp (by omega)
  have ct : (tt e).toNatClampNeg = t := by rw [ht2]; exact nI_clamp (by omega)
  have cs : (nI s).toNatClampNeg = s := nI_clamp (by omega)
  have et : eg_to tt e = t := ct
  have es : eg_to fr e = s := by show (fr e).toNatClampNeg = s; rw [hs2]; exact cs
  have bt := hr t ht1
  have bs := hr s hs1
  have ab : eg_A 30 31 tt ga f e ≤ 99 := eg_A_b (by omega) (by omega)
  unfold eg_gd at h1 h0
  rw [decide_eq_true_iff, et, es] at h1 h0
  have i1 : vp_in (nI e) 14 := vp_in_nI (by omega) (by omega)
  have i2 : vp_in (tt e) 6 := by rw [ht2]; exact vp_in_nI (by omega) (by omega)
  have i3 : vp_in (nI s) 6 := vp_in_nI (by omega) (by omega)
  unfold wpX_isGoodForOwner
  dsimp only
  rw [ce, ct, hf t ht1]
  refine ⟨i1, nm_r hs2 ⟨i1, i2, ?_⟩⟩
  refine pk_eq (f t) 31 (fun q => ?_) (fun q => ?_) rfl rfl (by omega) (by omega)
  · unfold wX_isGoodForOwner_28
    rw [cs, hf s hs1]
    refine ⟨i3, pk_eq (f s) 31 (fun y => ⟨i3, fun a => br_f (by decide) (h1 (Or.inl ⟨y, a, q⟩)), fun a => h0 (fun z => ?_)⟩) (fun y => br_f (by decide) (h0 (fun z => ?_))) rfl rfl (by omega) (by omega)⟩
    · rcases z with z | z
      · exact a z.2.1
      · exact z.1 y
    · rcases z with z | z
      · exact y z.1
      · exact z.2.1 q
  · unfold wX_isGoodForOwner_28
    rw [cs, hf s hs1]
    refine ⟨i3, pk_eq (f s) 31 (fun y => ⟨i3, fun a => br_t rfl (h0 (fun z => ?_)), fun a => h0 (fun z => ?_)⟩)
      (fun y => br_t rfl (ex_along G hf hr he ⟨i3, pk_eq (eg_A 30 31 tt ga f e) (f s) (fun a => h1 (Or.inr ⟨y, q, a⟩)) (fun a => h0 (fun z => ?_)) rfl rfl (by omega) (by omega)⟩)) rfl rfl (by omega) (by omega)⟩
    · rcases z with z | z
      · exact q z.2.2
      · exact z.1 y
    · rcases z with z | z
      · exact a z.2.1
      · exact z.1 y
    · rcases z with z | z
      · exact y z.1
      · exact a z.2.2
theorem ey_94 {x s : Nat} {z0 N m : Int32} {ow fr tt ga no la : Nat → Int32} {post : Int32 → Prop} (hs : s < 8) (hx : x ≤ 99) (hno : no s = nI x)
    (h1 : z0 = nI x → post 1) (h0 : ¬ z0 = nI x → post 0) : wY_good_94 post (nI s) z0 N m ow fr tt ga no la := by
  unfold wY_good_94
  rw [nI_clamp (n := s) (by omega), hno]
  exact ⟨vp_in_nI (by omega) (by omega), h1, h0⟩
theorem ey_good {n m : Nat} {ow fr tt ga ne no la : Nat → Int32} {f : Nat → Nat} (G : eg_Gd n m fr tt ga) (F : eg_Fc n f ne no)
    {e : Nat} (he : e < m) {post : Int32 → Prop} (h1 : eg_gd ow fr tt ga f e = true → post 1) (h0 : ¬ eg_gd ow fr tt ga f e = true → post 0) :
    wpY_good post (nI n, nI m, ow, fr, tt, ga, no, la) (nI e) := by
  obtain ⟨⟨h2, h6, h14⟩, hs, ht, hg⟩ := G
  obtain ⟨t, ht1, ht2⟩ := ht e he
  obtain ⟨s, hs1, hs2⟩ := hs e he
  obtain ⟨g1, g2⟩ := hg e he
  have ce : (nI e).toNatClampNeg = e := nI_clamp (by omega)
  have ct : (tt e).toNatClampNeg = t := by rw [ht2]; exact nI_clamp (by omega)
  have cs : (nI s).toNatClampNeg = s := nI_clamp (by omega)
  have et : eg_to tt e = t := ct
  have es : eg_to fr e = s := by show (fr e).toNatClampNeg = s; rw [hs2]; exact cs
  obtain ⟨_, nt, bt⟩ := F t ht1
  obtain ⟨_, ns, bs⟩ := F s hs1
  have ac := eg_ask_c 30 31 (f t) (ga e).toInt
  have ea : eg_A 30 31 tt ga f e = eg_ask 30 31 (f t) (ga e).toInt := by unfold eg_A; rw [et]; rfl
  unfold eg_gd at h1 h0
  rw [decide_eq_true_iff, et, es, ea] at h1 h0
  generalize eg_ask 30 31 (f t) (ga e).toInt = A at ac h1 h0
  have i1 : vp_in (nI e) 14 := vp_in_nI (by omega) (by omega)
  have i2 : vp_in (tt e) 8 := by rw [ht2]; exact vp_in_nI (by omega) (by omega)
  have i3 : vp_in (nI s) 8 := vp_in_nI (by omega) (by omega)
  unfold wpY_good
  dsimp only
  rw [ce, ct, nt]
  refine ⟨i1, nm_r hs2 ⟨i3, ?_⟩⟩
  rw [cs, ns]
  rcases eg_up_c (f s) with ⟨y, es⟩ | ⟨y, es⟩
  · rw [es]
    refine br_t rfl ⟨i3, fun a => ⟨i1, i2, ?_⟩, fun a => h0 (fun z => ?_)⟩
    · rcases eg_up_c (f t) with ⟨q, et⟩ | ⟨q, et⟩
      · rw [et]; exact br_t rfl (h1 (Or.inl ⟨y, a, q⟩))
      · rw [et]
        exact pk_eq (f t) 99 (fun z => absurd z (by omega)) (fun _ => h0 (fun z => by rcases z with z | z; exact q z.2.2; exact z.1 y)) rfl rfl (by omega) (by omega)
    · rcases z with z | z
      · exact a z.2.1
      · exact z.1 y
  · rw [es]
    refine pk_eq (f s) 99 (fun z => absurd z (by omega)) (fun _ => ⟨i1, i2, i1, nm_e ⟨i1, i2, ?_⟩⟩) rfl rfl (by omega) (by omega)
    rcases eg_up_c (f t) with ⟨q, et⟩ | ⟨q, et⟩
    · rw [et]; exact br_t rfl (h0 (fun z => by rcases z with z | z; exact y z.1; exact z.2.1 q))
    · rw [et]
      have hx := ex_sub (a := f t) (g := ga e) (by omega) g1 g2
      refine pk_eq (f t) 99 (fun z => absurd z (by omega)) (fun _ => ⟨fun a => ?_, fun a => ?_⟩) rfl rfl (by omega) (by omega)
      · rw [ex_c0, hx] at a
        refine ey_94 (x := f s) (by omega) (by omega) (by rw [ns, es]) (fun c => h1 (Or.inr ⟨y, q, ?_⟩)) (fun c => h0 (fun z => ?_))
        · have c' := congrArg Int32.toInt c
          rw [hx, nI_toInt (by omega)] at c'
          omega
        · rcases z with z | z
          · exact y z.1
          · refine c (Int32.toInt_inj.mp ?_)
            rw [hx, nI_toInt (by omega)]
            omega
      · rw [ex_c0, hx] at a
        refine ey_94 (x := f s) (by omega) (by omega) (by rw [ns, es]) (fun c => h1 (Or.inr ⟨y, q, ?_⟩)) (fun c => h0 (fun z => ?_))
        · have c' : 0 = f s := (nI_eq (a := 0) (by omega) (by omega)).mp c
          omega
        · rcases z with z | z
          · exact y z.1
          · refine c ((nI_eq (a := 0) (by omega) (by omega)).mpr ?_)
            omega

/-! the first good edge -/
def eg_b (x : Int32) (ow fr tt ga : Nat → Int32) (f : Nat → Nat) (i : Nat) : Bool := decide (fr i = x ∧ eg_gd ow fr tt ga f i = true)
def eg_fst (b : Nat → Bool) : Nat → Nat → Int32
  | 0, _ => -2
  | d + 1, i => if b i = true then nI i else eg_fst b d (i + 1)
theorem eg_fst_t {b : Nat → Bool} {d i : Nat} (h : b i = true) : eg_fst b (d + 1) i = nI i := if_pos h
theorem eg_fst_f {b : Nat → Bool} {d i : Nat} (h : ¬ b i = true) : eg_fst b (d + 1) i = eg_fst b d (i + 1) := if_neg h
theorem eg_fst_v {b : Nat → Bool} {m : Nat} : ∀ d i, i + d = m → eg_fst b d i = -2 ∨ ∃ e, e < m ∧ eg_fst b d i = nI e := by
  intro d
  induction d with
  | zero => intro i _; exact Or.inl rfl
  | succ d ih =>
    intro i hi
    by_cases h : b i = true
    · exact Or.inr ⟨i, by omega, eg_fst_t h⟩
    · rw [eg_fst_f h]; exact ih (i + 1) (by omega)
theorem ex_first_l {n m : Nat} {x : Int32} {ow fr tt ga ne : Nat → Int32} {f : Nat → Nat} {post : Int32 → Prop} (G : eg_Gd n m fr tt ga) (hf : ∀ v, v < n → ne v = nI (f v)) (hr : eg_Rg n 30 31 f) :
    ∀ d i N : Nat, i + d = m → d < N → post (eg_fst (eg_b x ow fr tt ga f) d i) → wX_firstGoodEdge_2 post x (nI n) (nI m) ow fr tt ga ne N (nI i) := by
  have hb := G.1
  intro d
  induction d with
  | zero =>
    intro i N hi hN h
    obtain ⟨N, rfl⟩ : ∃ k, N = k + 1 := ⟨N - 1, by omega⟩
    rw [wX_firstGoodEdge_2]
    exact br_t (nI_le (by omega) (by omega)) h
  | succ d ih =>
    intro i N hi hN h
    obtain ⟨N, rfl⟩ : ∃ k, N = k + 1 := ⟨N - 1, by omega⟩
    have nx : ¬ eg_b x ow fr tt ga f i = true → wX_firstGoodEdge_2 post x (nI n) (nI m) ow fr tt ga ne N (nI (i + 1)) := fun q => ih (i + 1) N (by omega) (by omega) (by rw [← eg_fst_f q]; exact h)
    rw [wX_firstGoodEdge_2]
    dsimp only
    rw [nI_clamp (n := i) (by omega)]
    refine br_f (nI_ge (by omega) (by omega)) ⟨vp_in_nI (by omega) (by omega), fun a => ?_, fun a => nm_r (nI_1 i) (nx (fun z => a (of_decide_eq_true z).1))⟩
    refine ex_good G hf hr (by omega) (fun q => br_f (by decide) ?_) (fun q => br_t rfl (nm_r (nI_1 i) (nx (fun z => q (of_decide_eq_true z).2))))
    rw [eg_fst_t (decide_eq_true ⟨a, q⟩)] at h
    exact h
theorem ex_first {n m : Nat} {x : Int32} {ow fr tt ga ne : Nat → Int32} {f : Nat → Nat} {post : Int32 → Prop} (G : eg_Gd n m fr tt ga) (hf : ∀ v, v < n → ne v = nI (f v)) (hr : eg_Rg n 30 31 f)
    (h : post (eg_fst (eg_b x ow fr tt ga f) m 0)) : wpX_firstGoodEdge post (nI n, nI m, ow, fr, tt, ga, ne) x := by
  unfold wpX_firstGoodEdge
  dsimp only
  exact ⟨m + 1, ex_first_l G hf hr m 0 (m + 1) (by omega) (by omega) h⟩
theorem ey_first_l {n m : Nat} {x : Int32} {ow fr tt ga ne no la : Nat → Int32} {f : Nat → Nat} {post : Int32 → Prop} (G : eg_Gd n m fr tt ga) (F : eg_Fc n f ne no) :
    ∀ d i N : Nat, i + d = m → d < N → post (eg_fst (eg_b x ow fr tt ga f) d i) → wY_chosen_2 post x (nI n) (nI m) ow fr tt ga no la N (nI i) := by
  have hb := G.1
  intro d
  induction d with
  | zero =>
    intro i N hi hN h
    obtain ⟨N, rfl⟩ : ∃ k, N = k + 1 := ⟨N - 1, by omega⟩
    rw [wY_chosen_2]
    exact br_t (nI_le (by omega) (by omega)) h
  | succ d ih =>
    intro i N hi hN h
    obtain ⟨N, rfl⟩ : ∃ k, N = k + 1 := ⟨N - 1, by omega⟩
    have nx : ¬ eg_b x ow fr tt ga f i = true → wY_chosen_2 post x (nI n) (nI m) ow fr tt ga no la N (nI (i + 1)) := fun q => ih (i + 1) N (by omega) (by omega) (by rw [← eg_fst_f q]; exact h)
    rw [wY_chosen_2]
    dsimp only
    rw [nI_clamp (n := i) (by omega)]
    refine br_f (nI_ge (by omega) (by omega)) (br_f (nI_ge (b := 14) (by omega) (by decide)) ⟨vp_in_nI (by omega) (by omega), fun a => ?_, fun a => nm_r (nI_1 i) (nx (fun z => a (of_decide_eq_true z).1))⟩)
    refine ey_good G F (by omega) (fun q => br_f (by decide) ?_) (fun q => br_t rfl (nm_r (nI_1 i) (nx (fun z => q (of_decide_eq_true z).2))))
    rw [eg_fst_t (decide_eq_true ⟨a, q⟩)] at h
    exact h
theorem ey_first {n m : Nat} {x : Int32} {ow fr tt ga ne no la : Nat → Int32} {f : Nat → Nat} {post : Int32 → Prop} (G : eg_Gd n m fr tt ga) (F : eg_Fc n f ne no)
    (h : post (eg_fst (eg_b x ow fr tt ga f) m 0)) : wpY_chosen post (nI n, nI m, ow, fr, tt, ga, no, la) x := by
  unfold wpY_chosen
  dsimp only
  exact ⟨m + 1, ey_first_l G F m 0 (m + 1) (by omega) (by omega) h⟩

/-! choices -/
def eg_cc (b : Nat → Bool) (i : Nat) (x : Int32) : Int32 := if b i = true then x + 1 else x
theorem ex_choices {n m : Nat} {x : Int32} {ow fr tt ga ne : Nat → Int32} {f : Nat → Nat} {post : Int32 → SX → Prop} (G : eg_Gd n m fr tt ga) (hf : ∀ v, v < n → ne v = nI (f v)) (hr : eg_Rg n 30 31 f) :
    ∀ (d i N : Nat) (y : Int32), i + d = m → d < N → post (eg_it (eg_cc (eg_b x ow fr tt ga f)) d i y) (nI n, nI m, ow, fr, tt, ga, ne) → wX_choices_19 post x (nI n) (nI m) ow fr tt ga ne N y (nI i) := by
  have hb := G.1
  intro d
  induction d with
  | zero =>
    intro i N y hi hN h
    obtain ⟨N, rfl⟩ : ∃ k, N = k + 1 := ⟨N - 1, by omega⟩
    rw [wX_choices_19]
    exact br_t (nI_le (by omega) (by omega)) h
  | succ d ih =>
    intro i N y hi hN h
    obtain ⟨N, rfl⟩ : ∃ k, N = k + 1 := ⟨N - 1, by omega⟩
    have nx : ∀ z, eg_cc (eg_b x ow fr tt ga f) i y = z → wX_choices_19 post x (nI n) (nI m) ow fr tt ga ne N z (nI (i + 1)) := fun z e => ih (i + 1) N z (by omega) (by omega) (by rw [← eg_it_s e]; exact h)
    have nf : ¬ eg_b x ow fr tt ga f i = true → wX_choices_19 post x (nI n) (nI m) ow fr tt ga ne N y (nI (i + 1)) := fun q => nx y (if_neg q)
    rw [wX_choices_19]
    dsimp only
    rw [nI_clamp (n := i) (by omega)]
    refine br_f (nI_ge (by omega) (by omega)) ⟨vp_in_nI (by omega) (by omega), fun a => ?_, fun a => nm_r (nI_1 i) (nf (fun z => a (of_decide_eq_true z).1))⟩
    exact ex_good G hf hr (by omega) (fun q => br_f (by decide) (nm_e (nm_r (nI_1 i) (nx _ (if_pos (decide_eq_true ⟨a, q⟩)))))) (fun q => br_t rfl (nm_r (nI_1 i) (nf (fun z => q (of_decide_eq_true z).2))))
theorem ey_choices {n m : Nat} {x : Int32} {ow fr tt ga ne no la : Nat → Int32} {f : Nat → Nat} {post : Int32 → SY → Prop} (G : eg_Gd n m fr tt ga) (F : eg_Fc n f ne no) :
    ∀ (d i N : Nat) (y : Int32), i + d = m → d < N → post (eg_it (eg_cc (eg_b x ow fr tt ga f)) d i y) (nI n, nI m, ow, fr, tt, ga, no, la) → wY_choices_21 post x (nI n) (nI m) ow fr tt ga no la N y (nI i) := by
  have hb := G.1
  intro d
  induction d with
  | zero =>
    intro i N y hi hN h
    obtain ⟨N, rfl⟩ : ∃ k, N = k + 1 := ⟨N - 1, by omega⟩
    rw [wY_choices_21]
    exact br_t (nI_le (by omega) (by omega)) h
  | succ d ih =>
    intro i N y hi hN h
    obtain ⟨N, rfl⟩ : ∃ k, N = k + 1 := ⟨N - 1, by omega⟩
    have nx : ∀ z, eg_cc (eg_b x ow fr tt ga f) i y = z → wY_choices_21 post x (nI n) (nI m) ow fr tt ga no la N z (nI (i + 1)) := fun z e => ih (i + 1) N z (by omega) (by omega) (by rw [← eg_it_s e]; exact h)
    have nf : ¬ eg_b x ow fr tt ga f i = true → wY_choices_21 post x (nI n) (nI m) ow fr tt ga no la N y (nI (i + 1)) := fun q => nx y (if_neg q)
    rw [wY_choices_21]
    dsimp only
    rw [nI_clamp (n := i) (by omega)]
    refine br_f (nI_ge (by omega) (by omega)) (br_f (nI_ge (b := 14) (by omega) (by decide)) ⟨vp_in_nI (by omega) (by omega), fun a => ?_, fun a => nm_r (nI_1 i) (nf (fun z => a (of_decide_eq_true z).1))⟩)
    exact ey_good G F (by omega) (fun q => br_f (by decide) (nm_e (nm_r (nI_1 i) (nx _ (if_pos (decide_eq_true ⟨a, q⟩)))))) (fun q => br_t rfl (nm_r (nI_1 i) (nf (fun z => q (of_decide_eq_true z).2))))
