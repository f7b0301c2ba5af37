/-! the play; the count of link; the shift of cut -/
def eg_st (c : Int32 → Int32) (tt ga : Nat → Int32) : Nat → Int32 → Int32 → Int32
  | 0, x, _ => x
  | d + 1, x, a => if c a = -2 then x else eg_st c tt ga d (x + ga (c a).toNatClampNeg) (tt (c a).toNatClampNeg)
theorem eg_st_t {c : Int32 → Int32} {tt ga : Nat → Int32} {d : Nat} {x a : Int32} (h : c a = -2) : eg_st c tt ga (d + 1) x a = x := if_pos h
theorem eg_st_f {c : Int32 → Int32} {tt ga : Nat → Int32} {d : Nat} {x a : Int32} (h : ¬ c a = -2) :
    eg_st c tt ga (d + 1) x a = eg_st c tt ga d (x + ga (c a).toNatClampNeg) (tt (c a).toNatClampNeg) := if_neg h
def eg_ch (m : Nat) (ow fr tt ga : Nat → Int32) (f : Nat → Nat) (a : Int32) : Int32 := eg_fst (eg_b a ow fr tt ga f) m 0
theorem eg_ch_v {m : Nat} {ow fr tt ga : Nat → Int32} {f : Nat → Nat} {a : Int32} (h : ¬ eg_ch m ow fr tt ga f a = -2) : ∃ e, e < m ∧ eg_ch m ow fr tt ga f a = nI e := by
  rcases eg_fst_v (b := eg_b a ow fr tt ga f) (m := m) m 0 (by omega) with q | q
  · exact absurd q h
  · exact q
theorem ex_store {n m s : Nat} {ow fr tt ga ne : Nat → Int32} {f : Nat → Nat} {post : Int32 → SX → Prop} (G : eg_Gd n m fr tt ga) (hf : ∀ v, v < n → ne v = nI (f v)) (hr : eg_Rg n 30 31 f) (hs : s < 2 ^ 31) :
    ∀ (d i N : Nat) (x a : Int32), i + d = s → d < N → post (eg_st (eg_ch m ow fr tt ga f) tt ga d x a) (nI n, nI m, ow, fr, tt, ga, ne) →
      wX_store_47 post (nI s) (nI n) (nI m) ow fr tt ga ne N x a (nI i) := by
  have hb := G.1
  intro d
  induction d with
  | zero =>
    intro i N x a hi hN h
    obtain ⟨N, rfl⟩ : ∃ k, N = k + 1 := ⟨N - 1, by omega⟩
    rw [wX_store_47]
    exact br_t (nI_le (by omega) (by omega)) h
  | succ d ih =>
    intro i N x a hi hN h
    obtain ⟨N, rfl⟩ : ∃ k, N = k + 1 := ⟨N - 1, by omega⟩
    rw [wX_store_47]
    refine br_f (nI_ge (by omega) (by omega)) (ex_first G hf hr ?_)
    refine ⟨fun q => ?_, fun q => ?_⟩
    · rw [eg_st_t q] at h; exact h
    · obtain ⟨e, he, hc⟩ := eg_ch_v q
      have iv : vp_in (eg_ch m ow fr tt ga f a) 14 := by rw [hc]; exact vp_in_nI (by omega) (by omega)
      rw [eg_st_f q] at h
      exact ⟨iv, nm_e ⟨iv, nm_e (nm_r (nI_1 i) (ih (i + 1) N _ _ (by omega) (by omega) h))⟩⟩
theorem ey_store {n m s : Nat} {p : Int32} {ow fr tt ga ne no la : Nat → Int32} {f : Nat → Nat} {post : Int32 → SY → Prop} (G : eg_Gd n m fr tt ga) (F : eg_Fc n f ne no) (hs : s < 2 ^ 31) (hp : p / 128 = nI s) :
    ∀ (d i N : Nat) (x a : Int32), i + d = s → d < N → post (eg_st (eg_ch m ow fr tt ga f) tt ga d x a) (nI n, nI m, ow, fr, tt, ga, no, la) →
      wY_store_59 post p (nI n) (nI m) ow fr tt ga no la N x a (nI i) := by
  have hb := G.1
  intro d
  induction d with
  | zero =>
    intro i N x a hi hN h
    obtain ⟨N, rfl⟩ : ∃ k, N = k + 1 := ⟨N - 1, by omega⟩
    rw [wY_store_59]
    dsimp only
    rw [hp]
    exact ⟨by decide, br_t (nI_le (by omega) (by omega)) h⟩
  | succ d ih =>
    intro i N x a hi hN h
    obtain ⟨N, rfl⟩ : ∃ k, N = k + 1 := ⟨N - 1, by omega⟩
    rw [wY_store_59]
    dsimp only
    rw [hp]
    refine ⟨by decide, br_f (nI_ge (by omega) (by omega)) (ey_first G F ?_)⟩
    by_cases q : eg_ch m ow fr tt ga f a = -2
    · rw [eg_st_t q] at h
      have ng : ¬ 0 ≤ eg_ch m ow fr tt ga f a := by rw [q]; decide
      exact br_f ng h
    · obtain ⟨e, he, hc⟩ := eg_ch_v q
      have iv : vp_in (eg_ch m ow fr tt ga f a) 14 := by rw [hc]; exact vp_in_nI (by omega) (by omega)
      have ps : 0 ≤ eg_ch m ow fr tt ga f a := by rw [hc]; exact nI_pos' (by omega)
      rw [eg_st_f q] at h
      exact br_t ps ⟨iv, nm_e ⟨iv, nm_e (nm_r (nI_1 i) (ih (i + 1) N _ _ (by omega) (by omega) h))⟩⟩

def eg_ce (fr : Nat → Int32) (u : Int32) (i : Nat) (x : Int32) : Int32 := if fr i = u then x + 1 else x
theorem ex_from_l {m : Nat} {n u : Int32} {ow fr tt ga ne : Nat → Int32} {post : Int32 → Prop} (hm : m ≤ 14) :
    ∀ (d i N : Nat) (x : Int32), i + d = m → d < N → post (eg_it (eg_ce fr u) d i x) → wX_edgesFrom_4 post u n (nI m) ow fr tt ga ne N x (nI i) := by
  intro d
  induction d with
  | zero =>
    intro i N x hi hN h
    obtain ⟨N, rfl⟩ : ∃ k, N = k + 1 := ⟨N - 1, by omega⟩
    rw [wX_edgesFrom_4]
    exact br_t (nI_le (by omega) (by omega)) h
  | succ d ih =>
    intro i N x hi hN h
    obtain ⟨N, rfl⟩ : ∃ k, N = k + 1 := ⟨N - 1, by omega⟩
    have nx : ∀ y, eg_ce fr u i x = y → wX_edgesFrom_4 post u n (nI m) ow fr tt ga ne N y (nI (i + 1)) := fun y e => ih (i + 1) N y (by omega) (by omega) (by rw [← eg_it_s e]; exact h)
    rw [wX_edgesFrom_4]
    dsimp only
    rw [nI_clamp (n := i) (by omega)]
    exact br_f (nI_ge (by omega) (by omega)) ⟨vp_in_nI (by omega) (by omega), fun a => nm_e (nm_r (nI_1 i) (nx _ (if_pos a))), fun a => nm_r (nI_1 i) (nx _ (if_neg a))⟩
theorem ex_from {m : Nat} {n u : Int32} {ow fr tt ga ne : Nat → Int32} {post : Int32 → Prop} (hm : m ≤ 14) (h : post (eg_it (eg_ce fr u) m 0 0)) : wpX_edgesFrom post (n, nI m, ow, fr, tt, ga, ne) u := by
  unfold wpX_edgesFrom
  dsimp only
  exact ⟨m + 1, ex_from_l hm m 0 (m + 1) 0 (by omega) (by omega) h⟩
theorem ey_link_l {m : Nat} {n u v g : Int32} {ow fr tt ga no la : Nat → Int32} {post : Int32 → SY → Prop} (hm : m < 14) :
    ∀ (d i N : Nat) (x : Int32), i + d = m → d < N →
      (eg_it (eg_ce fr u) d i x < 3 → post (nI m) (n, nI (m + 1), ow, upd fr m u, upd tt m v, upd ga m g, no, la)) →
      (¬ eg_it (eg_ce fr u) d i x < 3 → post (-4) (n, nI m, ow, fr, tt, ga, no, la)) → wY_link_51 post u v g (nI m) n (nI m) ow fr tt ga no la N x (nI i) := by
  intro d
  induction d with
  | zero =>
    intro i N x hi hN h1 h0
    obtain ⟨N, rfl⟩ : ∃ k, N = k + 1 := ⟨N - 1, by omega⟩
    rw [wY_link_51]
    dsimp only
    rw [nI_clamp (n := m) (by omega)]
    have iv : vp_in (nI m) 14 := vp_in_nI (by omega) (by omega)
    exact br_t (nI_le (by omega) (by omega)) ⟨fun a => ⟨iv, nm_e ⟨iv, nm_e ⟨iv, nm_e (nm_r (nI_1 m) (h1 a))⟩⟩⟩, h0⟩
  | succ d ih =>
    intro i N x hi hN h1 h0
    obtain ⟨N, rfl⟩ : ∃ k, N = k + 1 := ⟨N - 1, by omega⟩
    have nx : ∀ y, eg_ce fr u i x = y → wY_link_51 post u v g (nI m) n (nI m) ow fr tt ga no la N y (nI (i + 1)) :=
      fun y e => ih (i + 1) N y (by omega) (by omega) (by rw [← eg_it_s e]; exact h1) (by rw [← eg_it_s e]; exact h0)
    rw [wY_link_51]
    dsimp only
    rw [nI_clamp (n := i) (by omega)]
    exact br_f (nI_ge (by omega) (by omega)) ⟨vp_in_nI (by omega) (by omega), fun a => nm_e (nm_r (nI_1 i) (nx _ (if_pos a))), fun a => nm_r (nI_1 i) (nx _ (if_neg a))⟩

/-! cut -/
def eg_sh : Nat → Nat → (Nat → Int32) → Nat → Int32
  | 0, _, a => a
  | d + 1, i, a => eg_sh d (i + 1) (upd a i (a (i + 1)))
theorem eg_sh_v {P : Int32 → Prop} : ∀ (d i : Nat) (a : Nat → Int32), (∀ j, j < i + d + 1 → P (a j)) → ∀ j, j < i + d + 1 → P (eg_sh d i a j) := by
  intro d
  induction d with
  | zero => intro i a h; exact h
  | succ d ih =>
    intro i a h j hj
    refine ih (i + 1) (upd a i (a (i + 1))) (fun k hk => ?_) j (by omega)
    by_cases c : k = i
    · rw [c, pk_us]; exact h (i + 1) (by omega)
    · rw [pk_un c]; exact h k (by omega)
theorem ex_cut {m : Nat} {n : Int32} {ow ne : Nat → Int32} {post : Int32 → SX → Prop} (hm : m < 14) :
    ∀ (d i N : Nat) (fr tt ga : Nat → Int32), i + d = m → d < N → post (nI m) (n, nI m, ow, eg_sh d i fr, eg_sh d i tt, eg_sh d i ga, ne) →
      wX_cut_14 post n (nI (m + 1)) N (nI (i + 1)) ow fr tt ga ne := by
  intro d
  induction d with
  | zero =>
    intro i N fr tt ga hi hN h
    obtain ⟨N, rfl⟩ : ∃ k, N = k + 1 := ⟨N - 1, by omega⟩
    rw [wX_cut_14]
    exact br_t (nI_le (by omega) (by omega)) (nm_r (nI_pred m) h)
  | succ d ih =>
    intro i N fr tt ga hi hN h
    obtain ⟨N, rfl⟩ : ∃ k, N = k + 1 := ⟨N - 1, by omega⟩
    rw [wX_cut_14]
    dsimp only
    rw [nI_pred i, nI_clamp (n := i) (by omega), nI_clamp (n := i + 1) (by omega)]
    have i0 : vp_in (nI i) 14 := vp_in_nI (by omega) (by omega)
    have i1 : vp_in (nI (i + 1)) 14 := vp_in_nI (by omega) (by omega)
    exact br_f (nI_ge (by omega) (by omega)) ⟨i1, i0, nm_e ⟨i1, i0, nm_e ⟨i1, i0, nm_e (nm_r (nI_1 (i + 1)) (ih (i + 1) N _ _ _ (by omega) (by omega) h))⟩⟩⟩
theorem ey_cut {m : Nat} {n : Int32} {ow no la : Nat → Int32} {post : Int32 → SY → Prop} (hm : m < 14) :
    ∀ (d i N : Nat) (fr tt ga : Nat → Int32), i + d = m → d < N → post (nI m) (n, nI m, ow, eg_sh d i fr, eg_sh d i tt, eg_sh d i ga, no, la) →
      wY_cut_12 post n (nI (m + 1)) N (nI i) ow fr tt ga no la := by
  intro d
  induction d with
  | zero =>
    intro i N fr tt ga hi hN h
    obtain ⟨N, rfl⟩ : ∃ k, N = k + 1 := ⟨N - 1, by omega⟩
    rw [wY_cut_12]
    dsimp only
    rw [nI_pred m]
    unfold wY_cut_76
    exact br_t (nI_le (by omega) (by omega)) (nm_r (nI_pred m) h)
  | succ d ih =>
    intro i N fr tt ga hi hN h
    obtain ⟨N, rfl⟩ : ∃ k, N = k + 1 := ⟨N - 1, by omega⟩
    rw [wY_cut_12]
    dsimp only
    rw [nI_pred m, nI_clamp (n := i) (by omega)]
    have e1 : nI i + 1 = nI (i + 1) := nI_1 i
    have i0 : vp_in (nI i) 14 := vp_in_nI (by omega) (by omega)
    have i1 : vp_in (nI (i + 1)) 14 := vp_in_nI (by omega) (by omega)
    refine br_f (nI_ge (by omega) (by omega)) (br_f (nI_ge (b := 13) (by omega) (by decide)) ?_)
    rw [e1, nI_clamp (n := i + 1) (by omega)]
    exact ⟨i1, i0, nm_e ⟨i1, i0, nm_e ⟨i1, i0, nm_e (nm_e (ih (i + 1) N _ _ _ (by omega) (by omega) h))⟩⟩⟩
