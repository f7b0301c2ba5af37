/-! both sides worked out: needs f on one side, on the other the same with 31 read as 99; guards; loops over vertices -/
def eg_Fc (n : Nat) (f : Nat → Nat) (ne no : Nat → Int32) : Prop := ∀ v, v < n → ne v = nI (f v) ∧ no v = nI (eg_up (f v)) ∧ (f v ≤ 30 ∨ f v = 31)
theorem ez_fc {n m : Nat} {ow ow' fr tt ga ne no : Nat → Int32} {f h : Nat → Nat} {sp pl w : Int32} (G : eg_Gd n m fr tt ga)
    (hK : ∀ v, v < n → (eg_K ow' v ↔ eg_KY ow sp pl v)) (hf : ∀ v, v < n → ne v = nI (f v)) (L : eg_Lst n 30 31 (eg_K ow') (eg_M m fr w) (eg_to tt) (eg_g ga) f)
    (hn : ∀ v, v < n → no v = nI (h v)) (L' : eg_Lst n (6 * (n - 1)) 99 (eg_KY ow sp pl) (eg_M m fr w) (eg_to tt) (eg_g ga) h) : eg_Fc n f ne no := by
  have s := eg_same (eg_Gd_ok G) rfl G.1.2.1 (eg_Lst_K hK L) L'
  exact fun v hv => ⟨hf v hv, by rw [hn v hv, s v hv], L.1 v hv⟩
theorem ez_m1 {v : Nat} (h : v < 2 ^ 31) : ¬ nI v = -1 := by
  intro z
  have a := nI_pos h
  rw [z] at a
  exact a (by decide)
theorem ez_K {n : Nat} {ow : Nat → Int32} {pl : Int32} (hn : n ≤ 6) : ∀ v, v < n → (eg_K ow v ↔ eg_KY ow (-1) pl v) := by
  intro v hv
  unfold eg_K eg_KY
  rw [if_neg (ez_m1 (by omega))]
theorem ez_rel {k n m : Nat} {ow fr tt ga ne no la : Nat → Int32} (G : eg_Gd n m fr tt ga) : i_Rel k (nI n, nI m, ow, fr, tt, ga, ne) (nI n, nI m, ow, fr, tt, ga, no, la) :=
  ⟨n, m, ow, fr, tt, ga, ne, no, la, rfl, rfl, G⟩

/-! guards -/
theorem ex_isV {n j : Nat} {m : Int32} {ow fr tt ga ne : Nat → Int32} {post : Int32 → Prop} (hn : n ≤ 6) (hj : j < n) (h : post 1) : wpX_isVertex post (nI n, m, ow, fr, tt, ga, ne) (nI j) := by
  unfold wpX_isVertex
  dsimp only
  exact br_f (nI_pos (by omega)) (br_f (nI_ge hj (by omega)) h)
theorem ex_noV {n : Nat} {m x : Int32} {ow fr tt ga ne : Nat → Int32} {post : Int32 → Prop} (a : x < 0 ∨ nI n ≤ x) (h : post 0) : wpX_isVertex post (nI n, m, ow, fr, tt, ga, ne) x := by
  unfold wpX_isVertex
  dsimp only
  exact ⟨fun _ => h, fun z => ⟨fun _ => h, fun y => (a.elim (fun b => absurd b z) (fun b => absurd b y))⟩⟩
theorem ey_isV {n j : Nat} {m : Int32} {ow fr tt ga no la : Nat → Int32} {post : Int32 → Prop} (hn : n ≤ 6) (hj : j < n) (h : post 0) : wpY_bad post (nI n, m, ow, fr, tt, ga, no, la) (nI j) := by
  unfold wpY_bad
  dsimp only
  exact br_f (nI_pos (by omega)) (br_f (nI_ge hj (by omega)) (br_t (nI_le (b := 5) (by omega) (by decide)) h))
theorem ey_noV {n : Nat} {m x : Int32} {ow fr tt ga no la : Nat → Int32} {post : Int32 → Prop} (a : x < 0 ∨ nI n ≤ x) (h : post 1) : wpY_bad post (nI n, m, ow, fr, tt, ga, no, la) x := by
  unfold wpY_bad
  dsimp only
  exact ⟨fun _ => h, fun z => ⟨fun _ => h, fun y => (a.elim (fun b => absurd b z) (fun b => absurd b y))⟩⟩
theorem ex_isE {m j : Nat} {n : Int32} {ow fr tt ga ne : Nat → Int32} {post : Int32 → Prop} (hm : m ≤ 14) (hj : j < m) (h : post 1) : wpX_isEdge post (n, nI m, ow, fr, tt, ga, ne) (nI j) := by
  unfold wpX_isEdge
  dsimp only
  exact br_f (nI_pos (by omega)) (br_f (nI_ge hj (by omega)) h)
theorem ex_noE {m : Nat} {n x : Int32} {ow fr tt ga ne : Nat → Int32} {post : Int32 → Prop} (a : x < 0 ∨ nI m ≤ x) (h : post 0) : wpX_isEdge post (n, nI m, ow, fr, tt, ga, ne) x := by
  unfold wpX_isEdge
  dsimp only
  exact ⟨fun _ => h, fun z => ⟨fun _ => h, fun y => (a.elim (fun b => absurd b z) (fun b => absurd b y))⟩⟩
theorem ey_isE {m j : Nat} {n : Int32} {ow fr tt ga no la : Nat → Int32} {post : Int32 → Prop} (hm : m ≤ 14) (hj : j < m) (h : post 0) : wpY_badEdge post (n, nI m, ow, fr, tt, ga, no, la) (nI j) := by
  unfold wpY_badEdge
  dsimp only
  exact br_f (nI_pos (by omega)) (br_f (nI_ge hj (by omega)) (br_t (nI_le (b := 13) (by omega) (by decide)) h))
theorem ey_noE {m : Nat} {n x : Int32} {ow fr tt ga no la : Nat → Int32} {post : Int32 → Prop} (a : x < 0 ∨ nI m ≤ x) (h : post 1) : wpY_badEdge post (n, nI m, ow, fr, tt, ga, no, la) x := by
  unfold wpY_badEdge
  dsimp only
  exact ⟨fun _ => h, fun z => ⟨fun _ => h, fun y => (a.elim (fun b => absurd b z) (fun b => absurd b y))⟩⟩
theorem ez_gain (x : Int32) : (x < -6 ∨ 6 < x) ∨ (-6 ≤ x.toInt ∧ x.toInt ≤ 6) := by
  rw [Int32.lt_iff_toInt_lt, Int32.lt_iff_toInt_lt, show (-6 : Int32).toInt = -6 from by decide, show (6 : Int32).toInt = 6 from by decide]
  omega
theorem ex_isG {x : Int32} {post : Int32 → Prop} (a : -6 ≤ x.toInt ∧ x.toInt ≤ 6) (h : post 1) : wpX_isGain post x := by
  unfold wpX_isGain
  refine br_f ?_ (br_f ?_ h)
  · rw [Int32.lt_iff_toInt_lt, show (-6 : Int32).toInt = -6 from by decide]; omega
  · rw [Int32.lt_iff_toInt_lt, show (6 : Int32).toInt = 6 from by decide]; omega
theorem ex_noG {x : Int32} {post : Int32 → Prop} (a : x < -6 ∨ 6 < x) (h : post 0) : wpX_isGain post x := by
  unfold wpX_isGain
  exact ⟨fun _ => h, fun z => ⟨fun _ => h, fun y => (a.elim (fun b => absurd b z) (fun b => absurd b y))⟩⟩
theorem ey_isG {u : SY} {x : Int32} {post : Int32 → Prop} (a : -6 ≤ x.toInt ∧ x.toInt ≤ 6) (h : post 0) : wpY_badGain post u x := by
  unfold wpY_badGain
  refine br_f ?_ (br_t ?_ h)
  · rw [Int32.lt_iff_toInt_lt, show (-6 : Int32).toInt = -6 from by decide]; omega
  · rw [Int32.le_iff_toInt_le, show (6 : Int32).toInt = 6 from by decide]; omega
theorem ey_noG {u : SY} {x : Int32} {post : Int32 → Prop} (a : x < -6 ∨ 6 < x) (h : post 1) : wpY_badGain post u x := by
  unfold wpY_badGain
  exact ⟨fun _ => h, fun z => ⟨fun y => (a.elim (fun b => absurd b z) (fun b => absurd y (Int32.not_le.mpr b))), fun _ => h⟩⟩
theorem ez_pl (x : Int32) : (x = 0 ∨ x = 1) ∨ (¬ x = 0 ∧ ¬ x = 1 ∧ (x < 0 ∨ ¬ x ≤ 1)) := by
  by_cases h : x < 0
  · refine Or.inr ⟨fun z => ?_, fun z => ?_, Or.inl h⟩
    · rw [z] at h; exact absurd h (by decide)
    · rw [z] at h; exact absurd h (by decide)
  · obtain ⟨j, hj, rfl⟩ := nI_of h
    by_cases h0 : j = 0
    · exact Or.inl (Or.inl (congrArg nI h0))
    · by_cases h1 : j = 1
      · exact Or.inl (Or.inr (congrArg nI h1))
      · refine Or.inr ⟨fun z => h0 ((nI_eq (b := 0) hj (by decide)).mp z), fun z => h1 ((nI_eq (b := 1) hj (by decide)).mp z), Or.inr (nI_ge (a := 1) (by omega) hj)⟩
theorem ex_isP {x : Int32} {post : Int32 → Prop} (a : x = 0 ∨ x = 1) (h : post 1) : wpX_isPlayer post x := by
  unfold wpX_isPlayer
  exact ⟨fun _ => h, fun z => ⟨fun _ => h, fun y => (a.elim (fun b => absurd b z) (fun b => absurd b y))⟩⟩
theorem ex_noP {x : Int32} {post : Int32 → Prop} (a : ¬ x = 0 ∧ ¬ x = 1) (h : post 0) : wpX_isPlayer post x := by
  unfold wpX_isPlayer
  exact br_f a.1 (br_f a.2 h)
theorem ez_pl1 {x : Int32} (a : x = 0 ∨ x = 1) : ¬ x < 0 ∧ x ≤ 1 := by
  rcases a with rfl | rfl
  · decide
  · decide

/-! the answer of a need -/
def eg_ans (x : Nat) : Int32 := if x = 31 then -2 else nI x
theorem ex_ans {n j : Nat} {N m : Int32} {ow fr tt ga ne no : Nat → Int32} {f : Nat → Nat} {post : Int32 → Prop} (hn : n ≤ 6) (F : eg_Fc n f ne no) (hj : j < n) (h : post (eg_ans (f j))) :
    wpX_needAnswer post (N, m, ow, fr, tt, ga, ne) (nI j) := by
  obtain ⟨a, b, c⟩ := F j hj
  unfold wpX_needAnswer
  dsimp only
  rw [nI_clamp (n := j) (by omega), a]
  unfold eg_ans at h
  refine ⟨vp_in_nI (by omega) (by omega), pk_eq (f j) 31 (fun q => ?_) (fun q => ⟨vp_in_nI (by omega) (by omega), ?_⟩) rfl rfl (by omega) (by omega)⟩
  · rw [if_pos q] at h; exact h
  · rw [if_neg q] at h; exact h
theorem ey_told {n j : Nat} {N m : Int32} {ow fr tt ga ne no la : Nat → Int32} {f : Nat → Nat} {post : Int32 → Prop} (hn : n ≤ 6) (F : eg_Fc n f ne no) (hj : j < n) (h : post (eg_ans (f j))) :
    wpY_told post (N, m, ow, fr, tt, ga, no, la) (nI j) := by
  obtain ⟨a, b, c⟩ := F j hj
  unfold wpY_told
  dsimp only
  rw [nI_clamp (n := j) (by omega), b]
  unfold eg_ans at h
  refine ⟨vp_in_nI (by omega) (by omega), ?_⟩
  rcases eg_up_c (f j) with ⟨q, e⟩ | ⟨q, e⟩
  · rw [if_pos q] at h
    rw [e]
    exact br_t rfl h
  · rw [if_neg q] at h
    rw [e]
    exact pk_eq (f j) 99 (fun z => absurd z (by omega)) (fun _ => ⟨vp_in_nI (by omega) (by omega), h⟩) rfl rfl (by omega) (by omega)

/-! loops that fold -/
def eg_it (F : Nat → Int32 → Int32) : Nat → Nat → Int32 → Int32
  | 0, _, x => x
  | d + 1, i, x => eg_it F d (i + 1) (F i x)
theorem eg_it_s {F : Nat → Int32 → Int32} {d i : Nat} {x y : Int32} (h : F i x = y) : eg_it F (d + 1) i x = eg_it F d (i + 1) y := by
  rw [← h]; rfl
def eg_sf (c : Int32) (f : Nat → Nat) (i : Nat) (x : Int32) : Int32 := if f i = 31 then x else if c < nI (f i) then x else x ||| ((1 : Int32) <<< (nI i &&& 31))
def eg_hp (f : Nat → Nat) (i : Nat) (x : Int32) : Int32 := if f i = 31 then x + 1 else x
def eg_gt (f : Nat → Nat) (i : Nat) (x : Int32) : Int32 := if f i = 31 then x else if nI (f i) ≤ x then x else nI (f i)
theorem ex_safe {n : Nat} {m c : Int32} {ow fr tt ga ne : Nat → Int32} {f : Nat → Nat} {post : Int32 → SX → Prop} (hn : n ≤ 6) (hf : ∀ v, v < n → ne v = nI (f v)) (hr : eg_Rg n 30 31 f) :
    ∀ (d i N : Nat) (x : Int32), i + d = n → d < N → post (eg_it (eg_sf c f) d i x) (nI n, m, ow, fr, tt, ga, ne) → wX_safe_9 post c (nI n) m ow fr tt ga ne N x (nI i) := by
  intro d
  induction d with
  | zero =>
    intro i N x hi hN h
    obtain ⟨N, rfl⟩ : ∃ k, N = k + 1 := ⟨N - 1, by omega⟩
    rw [wX_safe_9]
    exact br_t (nI_le (by omega) (by omega)) h
  | succ d ih =>
    intro i N x hi hN h
    obtain ⟨N, rfl⟩ : ∃ k, N = k + 1 := ⟨N - 1, by omega⟩
    have c0 := hr i (by omega)
    have nx : ∀ y, eg_sf c f i x = y → wX_safe_9 post c (nI n) m ow fr tt ga ne N y (nI (i + 1)) := fun y e => ih (i + 1) N y (by omega) (by omega) (by rw [← eg_it_s e]; exact h)
    rw [wX_safe_9]
    dsimp only
    rw [nI_clamp (n := i) (by omega), hf i (by omega)]
    unfold eg_sf at nx
    refine br_f (nI_ge (by omega) (by omega)) ⟨vp_in_nI (by omega) (by omega), ?_⟩
    exact pk_eq (f i) 31 (fun q => nm_r (nI_1 i) (nx _ (if_pos q))) (fun q => ⟨vp_in_nI (by omega) (by omega), fun z => nm_r (nI_1 i) (nx _ (by rw [if_neg q, if_pos z])), fun z => nm_e (nm_r (nI_1 i) (nx _ (by rw [if_neg q, if_neg z])))⟩) rfl rfl (by omega) (by omega)
theorem ey_safe {n : Nat} {m c : Int32} {ow fr tt ga ne no la : Nat → Int32} {f : Nat → Nat} {post : Int32 → SY → Prop} (hn : n ≤ 6) (F : eg_Fc n f ne no) :
    ∀ (d i N : Nat) (x : Int32), i + d = n → d < N → post (eg_it (eg_sf c f) d i x) (nI n, m, ow, fr, tt, ga, no, la) → wY_safe_11 post c (nI n) m ow fr tt ga no la N x (nI i) := by
  intro d
  induction d with
  | zero =>
    intro i N x hi hN h
    obtain ⟨N, rfl⟩ : ∃ k, N = k + 1 := ⟨N - 1, by omega⟩
    rw [wY_safe_11]
    exact br_t (nI_le (by omega) (by omega)) h
  | succ d ih =>
    intro i N x hi hN h
    obtain ⟨N, rfl⟩ : ∃ k, N = k + 1 := ⟨N - 1, by omega⟩
    obtain ⟨_, b, c0⟩ := F i (by omega)
    have nx : ∀ y, eg_sf c f i x = y → wY_safe_11 post c (nI n) m ow fr tt ga no la N y (nI (i + 1)) := fun y e => ih (i + 1) N y (by omega) (by omega) (by rw [← eg_it_s e]; exact h)
    rw [wY_safe_11]
    dsimp only
    rw [nI_clamp (n := i) (by omega), b]
    unfold eg_sf at nx
    refine br_f (nI_ge (by omega) (by omega)) ⟨vp_in_nI (by omega) (by omega), ?_⟩
    rcases eg_up_c (f i) with ⟨q, e⟩ | ⟨q, e⟩
    · rw [e]
      exact br_t rfl (nm_r (nI_1 i) (nx _ (if_pos q)))
    · rw [e]
      exact pk_eq (f i) 99 (fun z => absurd z (by omega)) (fun _ => ⟨vp_in_nI (by omega) (by omega), fun z => nm_r (nI_1 i) (nx _ (by rw [if_neg q, if_pos z])), fun z => nm_e (nm_r (nI_1 i) (nx _ (by rw [if_neg q, if_neg z])))⟩) rfl rfl (by omega) (by omega)
theorem ex_hopeless {n : Nat} {m : Int32} {ow fr tt ga ne : Nat → Int32} {f : Nat → Nat} {post : Int32 → SX → Prop} (hn : n ≤ 6) (hf : ∀ v, v < n → ne v = nI (f v)) (hr : eg_Rg n 30 31 f) :
    ∀ (d i N : Nat) (x : Int32), i + d = n → d < N → post (eg_it (eg_hp f) d i x) (nI n, m, ow, fr, tt, ga, ne) → wX_hopeless_9 post (nI n) m ow fr tt ga ne N x (nI i) := by
  intro d
  induction d with
  | zero =>
    intro i N x hi hN h
    obtain ⟨N, rfl⟩ : ∃ k, N = k + 1 := ⟨N - 1, by omega⟩
    rw [wX_hopeless_9]
    exact br_t (nI_le (by omega) (by omega)) h
  | succ d ih =>
    intro i N x hi hN h
    obtain ⟨N, rfl⟩ : ∃ k, N = k + 1 := ⟨N - 1, by omega⟩
    have c0 := hr i (by omega)
    have nx : ∀ y, eg_hp f i x = y → wX_hopeless_9 post (nI n) m ow fr tt ga ne N y (nI (i + 1)) := fun y e => ih (i + 1) N y (by omega) (by omega) (by rw [← eg_it_s e]; exact h)
    rw [wX_hopeless_9]
    dsimp only
    rw [nI_clamp (n := i) (by omega), hf i (by omega)]
    unfold eg_hp at nx
    refine br_f (nI_ge (by omega) (by omega)) ⟨vp_in_nI (by omega) (by omega), ?_⟩
    exact pk_eq (f i) 31 (fun q => nm_e (nm_r (nI_1 i) (nx _ (if_pos q)))) (fun q => nm_r (nI_1 i) (nx _ (if_neg q))) rfl rfl (by omega) (by omega)
theorem ey_hopeless {n : Nat} {m : Int32} {ow fr tt ga ne no la : Nat → Int32} {f : Nat → Nat} {post : Int32 → SY → Prop} (hn : n ≤ 6) (F : eg_Fc n f ne no) :
    ∀ (d i N : Nat) (x : Int32), i + d = n → d < N → post (eg_it (eg_hp f) d i x) (nI n, m, ow, fr, tt, ga, no, la) → wY_hopeless_11 post (nI n) m ow fr tt ga no la N x (nI i) := by
  intro d
  induction d with
  | zero =>
    intro i N x hi hN h
    obtain ⟨N, rfl⟩ : ∃ k, N = k + 1 := ⟨N - 1, by omega⟩
    rw [wY_hopeless_11]
    exact br_t (nI_le (by omega) (by omega)) h
  | succ d ih =>
    intro i N x hi hN h
    obtain ⟨N, rfl⟩ : ∃ k, N = k + 1 := ⟨N - 1, by omega⟩
    obtain ⟨_, b, c0⟩ := F i (by omega)
    have nx : ∀ y, eg_hp f i x = y → wY_hopeless_11 post (nI n) m ow fr tt ga no la N y (nI (i + 1)) := fun y e => ih (i + 1) N y (by omega) (by omega) (by rw [← eg_it_s e]; exact h)
    rw [wY_hopeless_11]
    dsimp only
    rw [nI_clamp (n := i) (by omega), b]
    unfold eg_hp at nx
    refine br_f (nI_ge (by omega) (by omega)) ⟨vp_in_nI (by omega) (by omega), ?_⟩
    rcases eg_up_c (f i) with ⟨q, e⟩ | ⟨q, e⟩
    · rw [e]
      exact br_t rfl (nm_e (nm_r (nI_1 i) (nx _ (if_pos q))))
    · rw [e]
      exact pk_eq (f i) 99 (fun z => absurd z (by omega)) (fun _ => nm_r (nI_1 i) (nx _ (if_neg q))) rfl rfl (by omega) (by omega)
theorem ex_greatest {n : Nat} {m : Int32} {ow fr tt ga ne : Nat → Int32} {f : Nat → Nat} {post : Int32 → SX → Prop} (hn : n ≤ 6) (hf : ∀ v, v < n → ne v = nI (f v)) (hr : eg_Rg n 30 31 f) :
    ∀ (d i N : Nat) (x : Int32), i + d = n → d < N → post (eg_it (eg_gt f) d i x) (nI n, m, ow, fr, tt, ga, ne) → wX_greatest_9 post (nI n) m ow fr tt ga ne N x (nI i) := by
  intro d
  induction d with
  | zero =>
    intro i N x hi hN h
    obtain ⟨N, rfl⟩ : ∃ k, N = k + 1 := ⟨N - 1, by omega⟩
    rw [wX_greatest_9]
    exact br_t (nI_le (by omega) (by omega)) h
  | succ d ih =>
    intro i N x hi hN h
    obtain ⟨N, rfl⟩ : ∃ k, N = k + 1 := ⟨N - 1, by omega⟩
    have c0 := hr i (by omega)
    have nx : ∀ y, eg_gt f i x = y → wX_greatest_9 post (nI n) m ow fr tt ga ne N y (nI (i + 1)) := fun y e => ih (i + 1) N y (by omega) (by omega) (by rw [← eg_it_s e]; exact h)
    rw [wX_greatest_9]
    dsimp only
    rw [nI_clamp (n := i) (by omega), hf i (by omega)]
    unfold eg_gt at nx
    refine br_f (nI_ge (by omega) (by omega)) ⟨vp_in_nI (by omega) (by omega), ?_⟩
    exact pk_eq (f i) 31 (fun q => nm_r (nI_1 i) (nx _ (if_pos q))) (fun q => ⟨vp_in_nI (by omega) (by omega), fun z => nm_r (nI_1 i) (nx _ (by rw [if_neg q, if_pos z])), fun z => ⟨vp_in_nI (by omega) (by omega), nm_e (nm_r (nI_1 i) (nx _ (by rw [if_neg q, if_neg z])))⟩⟩) rfl rfl (by omega) (by omega)
theorem ey_greatest {n : Nat} {m : Int32} {ow fr tt ga ne no la : Nat → Int32} {f : Nat → Nat} {post : Int32 → SY → Prop} (hn : n ≤ 6) (F : eg_Fc n f ne no) :
    ∀ (d i N : Nat) (x : Int32), i + d = n → d < N → post (eg_it (eg_gt f) d i x) (nI n, m, ow, fr, tt, ga, no, la) → wY_greatest_11 post (nI n) m ow fr tt ga no la N x (nI i) := by
  intro d
  induction d with
  | zero =>
    intro i N x hi hN h
    obtain ⟨N, rfl⟩ : ∃ k, N = k + 1 := ⟨N - 1, by omega⟩
    rw [wY_greatest_11]
    exact br_t (nI_le (by omega) (by omega)) h
  | succ d ih =>
    intro i N x hi hN h
    obtain ⟨N, rfl⟩ : ∃ k, N = k + 1 := ⟨N - 1, by omega⟩
    obtain ⟨_, b, c0⟩ := F i (by omega)
    have nx : ∀ y, eg_gt f i x = y → wY_greatest_11 post (nI n) m ow fr tt ga no la N y (nI (i + 1)) := fun y e => ih (i + 1) N y (by omega) (by omega) (by rw [← eg_it_s e]; exact h)
    rw [wY_greatest_11]
    dsimp only
    rw [nI_clamp (n := i) (by omega), b]
    unfold eg_gt at nx
    refine br_f (nI_ge (by omega) (by omega)) ⟨vp_in_nI (by omega) (by omega), ?_⟩
    rcases eg_up_c (f i) with ⟨q, e⟩ | ⟨q, e⟩
    · rw [e]
      exact br_t rfl (nm_r (nI_1 i) (nx _ (if_pos q)))
    · rw [e]
      exact pk_eq (f i) 99 (fun z => absurd z (by omega)) (fun _ => ⟨vp_in_nI (by omega) (by omega), fun z => nm_r (nI_1 i) (nx _ (by rw [if_neg q, if_pos z])), fun z => ⟨vp_in_nI (by omega) (by omega), nm_e (nm_r (nI_1 i) (nx _ (by rw [if_neg q, if_neg z])))⟩⟩) rfl rfl (by omega) (by omega)
