/-! what is owed -/
theorem ez_g0 {n : Nat} {a b c : Nat → Int32} (h2 : 2 ≤ n) (h6 : n ≤ 6) : eg_Gd n 0 a b c :=
  ⟨⟨h2, h6, by omega⟩, fun e he => by omega, fun e he => by omega, fun e he => by omega⟩
theorem ez_fx {n : Nat} {ne : Nat → Int32} {f : Nat → Nat} (hf : ∀ v, v < n → ne v = nI (f v)) (hr : eg_Rg n 30 31 f) : eg_Fc n f ne (fun v => nI (eg_up (f v))) :=
  fun v hv => ⟨hf v hv, rfl, hr v hv⟩
theorem ez_ix (x : Int32) {n : Nat} (hn : n ≤ 14) : (x < 0 ∨ nI n ≤ x) ∨ ∃ j : Nat, j < n ∧ x = nI j := by
  rcases pk_ix x (n := n) (by omega) with a | a | a
  · exact Or.inl (Or.inl a)
  · exact Or.inl (Or.inr a)
  · exact Or.inr a
theorem ez_link {n m i j : Nat} {fr tt ga : Nat → Int32} {g : Int32} (G : eg_Gd n m fr tt ga) (hm : m < 14) (hi : i < n) (hj : j < n) (hg : -6 ≤ g.toInt ∧ g.toInt ≤ 6) :
    eg_Gd n (m + 1) (upd fr m (nI i)) (upd tt m (nI j)) (upd ga m g) := by
  obtain ⟨⟨h2, h6, h14⟩, hs, ht, hgg⟩ := G
  refine ⟨⟨h2, h6, by omega⟩, fun e he => ?_, fun e he => ?_, fun e he => ?_⟩
  · by_cases c : e = m
    · rw [c, pk_us]; exact ⟨i, hi, rfl⟩
    · rw [pk_un c]; exact hs e (by omega)
  · by_cases c : e = m
    · rw [c, pk_us]; exact ⟨j, hj, rfl⟩
    · rw [pk_un c]; exact ht e (by omega)
  · by_cases c : e = m
    · rw [c, pk_us]; exact hg
    · rw [pk_un c]; exact hgg e (by omega)
theorem ez_set {n m i : Nat} {fr tt ga : Nat → Int32} {g : Int32} (G : eg_Gd n m fr tt ga) (hg : -6 ≤ g.toInt ∧ g.toInt ≤ 6) :
    eg_Gd n m fr tt (upd ga i g) := by
  obtain ⟨hb, hs, ht, hgg⟩ := G
  refine ⟨hb, hs, ht, fun e he => ?_⟩
  by_cases c : e = i
  · rw [c, pk_us]; exact hg
  · rw [pk_un c]; exact hgg e he
theorem ez_cut {n m j : Nat} {fr tt ga : Nat → Int32} (G : eg_Gd n (m + 1) fr tt ga) (hj : j ≤ m) : eg_Gd n m (eg_sh (m - j) j fr) (eg_sh (m - j) j tt) (eg_sh (m - j) j ga) := by
  obtain ⟨⟨h2, h6, h14⟩, hs, ht, hg⟩ := G
  refine ⟨⟨h2, h6, by omega⟩, fun e he => ?_, fun e he => ?_, fun e he => ?_⟩
  · exact eg_sh_v (P := fun x => ∃ j, j < n ∧ x = nI j) (m - j) j fr (fun k hk => hs k (by omega)) e (by omega)
  · exact eg_sh_v (P := fun x => ∃ j, j < n ∧ x = nI j) (m - j) j tt (fun k hk => ht k (by omega)) e (by omega)
  · exact eg_sh_v (P := fun x => -6 ≤ x.toInt ∧ x.toInt ≤ 6) (m - j) j ga (fun k hk => hg k (by omega)) e (by omega)
theorem ez_back {ow : Nat → Int32} {j : Nat} {p : Int32} : upd (upd ow j p) j (ow j) = ow := by
  funext k
  by_cases c : k = j
  · rw [c, pk_us]
  · rw [pk_un c, pk_un c]
theorem ex_isPl {x : Int32} {post : Int32 → Prop} (a0 : ¬ x < 0) (a1 : ¬ 30 < x / 128) (a2 : ¬ 100 < x - x / 128 * 128) (h : post 1) : wpX_isPlay post x := by
  unfold wpX_isPlay
  exact br_f a0 ⟨by decide, br_f a1 ⟨by decide, br_f a2 h⟩⟩
theorem ex_noPl {x : Int32} {post : Int32 → Prop} (a : x < 0 ∨ 30 < x / 128 ∨ 100 < x - x / 128 * 128) (h : post 0) : wpX_isPlay post x := by
  unfold wpX_isPlay
  refine ⟨fun _ => h, fun z => ⟨by decide, fun _ => h, fun y => ⟨by decide, fun _ => h, fun w => ?_⟩⟩⟩
  rcases a with a | a | a
  · exact absurd a z
  · exact absurd a y
  · exact absurd a w

theorem i_vc0 (k0 : Int32) : wpX_init (fun u => wpY_init (fun v => i_Rel 1 u v) k0) k0 := by
  unfold wpX_init wpY_init
  refine ⟨fun a => ⟨fun b => br_t a (br_t b ?_), fun b => br_t a (br_f b ?_)⟩, fun a => br_f a ?_⟩
  · have h0 : ¬ k0 < 0 := fun z => absurd (Int32.lt_of_le_of_lt a z) (by decide)
    obtain ⟨j, hj, rfl⟩ := nI_of2 (M := 6) (n := 6) (by decide) h0 b
    have h2 : 2 ≤ j := (nI_leI (a := 2) (by omega) (by omega)).mp a
    exact ez_rel (n := j) (m := 0) (ez_g0 h2 hj)
  · exact ez_rel (n := 6) (m := 0) (ez_g0 (by omega) (by omega))
  · exact ez_rel (n := 2) (m := 0) (ez_g0 (by omega) (by omega))
theorem i_vc_vertices {k : Nat} {u : SX} {v : SY} (I : i_Rel k u v) (hk : k + 4 ≤ 2049) : wpX_vertices (fun r => wpY_vertices (fun r' => r' = r ∧ i_Rel (k + 4) u v) v) u := by
  obtain ⟨n, m, ow, fr, tt, ga, ne, no, la, rfl, rfl, G⟩ := I
  unfold wpX_vertices wpY_vertices
  dsimp only
  exact ⟨rfl, ez_rel G⟩
theorem i_vc_give {k : Nat} {u : SX} {v : SY} (I : i_Rel k u v) (hk : k + 4 ≤ 2049) (v1 : Int32) (v2 : Int32) : wpX_give (fun r u' => wpY_give (fun r' v' => r' = r ∧ i_Rel (k + 4) u' v') v v1 v2) u v1 v2 := by
  obtain ⟨n, m, ow, fr, tt, ga, ne, no, la, rfl, rfl, G⟩ := I
  have hb := G.1
  unfold wpX_give wpY_give
  dsimp only
  rcases ez_ix v1 (n := n) (by omega) with a | ⟨j, hj, rfl⟩
  · exact ex_noV a (br_t rfl (ey_noV a (br_f (by decide) ⟨rfl, ez_rel G⟩)))
  · rcases ez_pl v2 with p | ⟨p0, p1, p2⟩
    · refine ex_isV hb.2.1 hj (br_f (by decide) (ex_isP p (br_f (by decide) ⟨vp_in_nI (by omega) (by omega), nm_e ⟨vp_in_nI (by omega) (by omega), nm_e ?_⟩⟩)))
      exact ey_isV hb.2.1 hj (br_t rfl (br_f (ez_pl1 p).1 (br_t (ez_pl1 p).2 ⟨vp_in_nI (by omega) (by omega), nm_e ⟨vp_in_nI (by omega) (by omega), nm_e ⟨rfl, ez_rel G⟩⟩⟩)))
    · refine ex_isV hb.2.1 hj (br_f (by decide) (ex_noP ⟨p0, p1⟩ (br_t rfl ?_)))
      exact ey_isV hb.2.1 hj (br_t rfl ⟨fun _ => ⟨rfl, ez_rel G⟩, fun z => ⟨fun y => p2.elim (fun c => absurd c z) (fun c => absurd y c), fun _ => ⟨rfl, ez_rel G⟩⟩⟩)
theorem i_vc_link {k : Nat} {u : SX} {v : SY} (I : i_Rel k u v) (hk : k + 4 ≤ 2049) (v1 : Int32) (v2 : Int32) (v3 : Int32) : wpX_link (fun r u' => wpY_link (fun r' v' => r' = r ∧ i_Rel (k + 4) u' v') v v1 v2 v3) u v1 v2 v3 := by
  obtain ⟨n, m, ow, fr, tt, ga, ne, no, la, rfl, rfl, G⟩ := I
  have hb := G.1
  unfold wpX_link wpY_link
  dsimp only
  rcases ez_ix v1 (n := n) (by omega) with a | ⟨i, hi, rfl⟩
  · exact ex_noV a (br_t rfl (ey_noV a (br_f (by decide) ⟨rfl, ez_rel G⟩)))
  · rcases ez_ix v2 (n := n) (by omega) with a | ⟨j, hj, rfl⟩
    · exact ex_isV hb.2.1 hi (br_f (by decide) (ex_noV a (br_t rfl (ey_isV hb.2.1 hi (br_t rfl (ey_noV a (br_f (by decide) ⟨rfl, ez_rel G⟩)))))))
    · rcases ez_gain v3 with g | g
      · exact ex_isV hb.2.1 hi (br_f (by decide) (ex_isV hb.2.1 hj (br_f (by decide) (ex_noG g (br_t rfl
          (ey_isV hb.2.1 hi (br_t rfl (ey_isV hb.2.1 hj (br_t rfl (ey_noG g (br_f (by decide) ⟨rfl, ez_rel G⟩)))))))))))
      · refine ex_isV hb.2.1 hi (br_f (by decide) (ex_isV hb.2.1 hj (br_f (by decide) (ex_isG g (br_f (by decide) ?_)))))
        refine pk_lt m 14 (fun h14 => ?_) (fun h14 => ?_) rfl rfl (by omega) (by omega)
        · have iv : vp_in (nI m) 14 := vp_in_nI (by omega) (by omega)
          refine ex_from hb.2.2 ?_
          rw [nI_clamp (n := m) (by omega)]
          refine ⟨fun c => ⟨iv, nm_e ⟨iv, nm_e ⟨iv, nm_e (nm_r (nI_1 m) ?_)⟩⟩⟩, fun c => ?_⟩
          · exact ey_isV hb.2.1 hi (br_t rfl (ey_isV hb.2.1 hj (br_t rfl (ey_isG g (br_t rfl (br_t (nI_lt (b := 14) h14 (by decide))
              ⟨m + 1, ey_link_l h14 m 0 (m + 1) 0 (by omega) (by omega) (fun _ => ⟨rfl, ez_rel (ez_link G h14 hi hj g)⟩) (fun z => absurd c z)⟩))))))
          · exact ey_isV hb.2.1 hi (br_t rfl (ey_isV hb.2.1 hj (br_t rfl (ey_isG g (br_t rfl (br_t (nI_lt (b := 14) h14 (by decide))
              ⟨m + 1, ey_link_l h14 m 0 (m + 1) 0 (by omega) (by omega) (fun z => absurd z c) (fun _ => ⟨rfl, ez_rel G⟩)⟩))))))
        · exact ey_isV hb.2.1 hi (br_t rfl (ey_isV hb.2.1 hj (br_t rfl (ey_isG g (br_t rfl (br_f (nI_nlt (b := 14) h14 (by omega)) ⟨rfl, ez_rel G⟩))))))
theorem i_vc_cut {k : Nat} {u : SX} {v : SY} (I : i_Rel k u v) (hk : k + 4 ≤ 2049) (v1 : Int32) : wpX_cut (fun r u' => wpY_cut (fun r' v' => r' = r ∧ i_Rel (k + 4) u' v') v v1) u v1 := by
  obtain ⟨n, m, ow, fr, tt, ga, ne, no, la, rfl, rfl, G⟩ := I
  have hb := G.1
  unfold wpX_cut wpY_cut
  dsimp only
  rcases ez_ix v1 (n := m) (by omega) with a | ⟨j, hj, rfl⟩
  · exact ex_noE a (br_t rfl (ey_noE a (br_f (by decide) ⟨rfl, ez_rel G⟩)))
  · obtain ⟨m, rfl⟩ : ∃ k, m = k + 1 := ⟨m - 1, by omega⟩
    refine ex_isE hb.2.2 hj (br_f (by decide) (nm_r (nI_1 j) ⟨m + 1, ex_cut (by omega) (m - j) j (m + 1) fr tt ga (by omega) (by omega) ?_⟩))
    exact ey_isE hb.2.2 hj (br_t rfl ⟨m + 1, ey_cut (by omega) (m - j) j (m + 1) fr tt ga (by omega) (by omega) ⟨rfl, ez_rel (ez_cut G (by omega))⟩⟩)
theorem i_vc_set {k : Nat} {u : SX} {v : SY} (I : i_Rel k u v) (hk : k + 4 ≤ 2049) (v1 : Int32) (v2 : Int32) : wpX_set (fun r u' => wpY_set (fun r' v' => r' = r ∧ i_Rel (k + 4) u' v') v v1 v2) u v1 v2 := by
  obtain ⟨n, m, ow, fr, tt, ga, ne, no, la, rfl, rfl, G⟩ := I
  have hb := G.1
  unfold wpX_set wpY_set
  dsimp only
  rcases ez_ix v1 (n := m) (by omega) with a | ⟨j, hj, rfl⟩
  · exact ex_noE a (br_t rfl (ey_noE a (br_f (by decide) ⟨rfl, ez_rel G⟩)))
  · rcases ez_gain v2 with g | g
    · exact ex_isE hb.2.2 hj (br_f (by decide) (ex_noG g (br_t rfl (ey_isE hb.2.2 hj (br_t rfl (ey_noG g (br_f (by decide) ⟨rfl, ez_rel G⟩)))))))
    · have iv : vp_in (nI j) 14 := vp_in_nI (by omega) (by omega)
      refine ex_isE hb.2.2 hj (br_f (by decide) (ex_isG g (br_f (by decide) ⟨iv, nm_e ⟨iv, nm_e ?_⟩⟩)))
      exact ey_isE hb.2.2 hj (br_t rfl (ey_isG g (br_t rfl ⟨iv, nm_e ⟨iv, nm_e ⟨rfl, ez_rel (ez_set G g)⟩⟩⟩)))
theorem i_vc_edges {k : Nat} {u : SX} {v : SY} (I : i_Rel k u v) (hk : k + 4 ≤ 2049) : wpX_edges (fun r => wpY_edges (fun r' => r' = r ∧ i_Rel (k + 4) u v) v) u := by
  obtain ⟨n, m, ow, fr, tt, ga, ne, no, la, rfl, rfl, G⟩ := I
  unfold wpX_edges wpY_edges
  dsimp only
  exact ⟨rfl, ez_rel G⟩
theorem i_vc_need {k : Nat} {u : SX} {v : SY} (I : i_Rel k u v) (hk : k + 4 ≤ 2049) (v1 : Int32) : wpX_need (fun r u' => wpY_need (fun r' v' => r' = r ∧ i_Rel (k + 4) u' v') v v1) u v1 := by
  obtain ⟨n, m, ow, fr, tt, ga, ne, no, la, rfl, rfl, G⟩ := I
  have hb := G.1
  unfold wpX_need wpY_need
  dsimp only
  rcases ez_ix v1 (n := n) (by omega) with a | ⟨j, hj, rfl⟩
  · exact ex_noV a (br_t rfl (ey_noV a (br_f (by decide) ⟨rfl, ez_rel G⟩)))
  · refine ex_isV hb.2.1 hj (br_f (by decide) (ex_find G (fun ne f hf L => ?_)))
    dsimp only
    refine ex_ans hb.2.1 (ez_fx hf L.1) hj ?_
    refine ey_isV hb.2.1 hj (br_t rfl (ey_work G (fun no la h hn L' => ?_)))
    dsimp only
    exact ey_told hb.2.1 (ez_fc G (ez_K hb.2.1) hf L hn L') hj ⟨rfl, ez_rel G⟩
theorem i_vc_safe {k : Nat} {u : SX} {v : SY} (I : i_Rel k u v) (hk : k + 4 ≤ 2049) (v1 : Int32) : wpX_safe (fun r u' => wpY_safe (fun r' v' => r' = r ∧ i_Rel (k + 4) u' v') v v1) u v1 := by
  obtain ⟨n, m, ow, fr, tt, ga, ne, no, la, rfl, rfl, G⟩ := I
  have hb := G.1
  unfold wpX_safe wpY_safe
  dsimp only
  refine ex_find G (fun ne f hf L => ?_)
  dsimp only
  refine ⟨n + 1, ex_safe hb.2.1 hf L.1 n 0 (n + 1) 0 (by omega) (by omega) ?_⟩
  refine ey_work G (fun no la h hn L' => ?_)
  dsimp only
  exact ⟨n + 1, ey_safe hb.2.1 (ez_fc G (ez_K hb.2.1) hf L hn L') n 0 (n + 1) 0 (by omega) (by omega) ⟨rfl, ez_rel G⟩⟩
theorem i_vc_hopeless {k : Nat} {u : SX} {v : SY} (I : i_Rel k u v) (hk : k + 4 ≤ 2049) : wpX_hopeless (fun r u' => wpY_hopeless (fun r' v' => r' = r ∧ i_Rel (k + 4) u' v') v) u := by
  obtain ⟨n, m, ow, fr, tt, ga, ne, no, la, rfl, rfl, G⟩ := I
  have hb := G.1
  unfold wpX_hopeless wpY_hopeless
  dsimp only
  refine ex_find G (fun ne f hf L => ?_)
  dsimp only
  refine ⟨n + 1, ex_hopeless hb.2.1 hf L.1 n 0 (n + 1) 0 (by omega) (by omega) ?_⟩
  refine ey_work G (fun no la h hn L' => ?_)
  dsimp only
  exact ⟨n + 1, ey_hopeless hb.2.1 (ez_fc G (ez_K hb.2.1) hf L hn L') n 0 (n + 1) 0 (by omega) (by omega) ⟨rfl, ez_rel G⟩⟩
theorem i_vc_choice {k : Nat} {u : SX} {v : SY} (I : i_Rel k u v) (hk : k + 4 ≤ 2049) (v1 : Int32) : wpX_choice (fun r u' => wpY_choice (fun r' v' => r' = r ∧ i_Rel (k + 4) u' v') v v1) u v1 := by
  obtain ⟨n, m, ow, fr, tt, ga, ne, no, la, rfl, rfl, G⟩ := I
  have hb := G.1
  unfold wpX_choice wpY_choice
  dsimp only
  rcases ez_ix v1 (n := n) (by omega) with a | ⟨j, hj, rfl⟩
  · exact ex_noV a (br_t rfl (ey_noV a (br_f (by decide) ⟨rfl, ez_rel G⟩)))
  · refine ex_isV hb.2.1 hj (br_f (by decide) (ex_find G (fun ne f hf L => ?_)))
    dsimp only
    refine ex_first G hf L.1 ?_
    refine ey_isV hb.2.1 hj (br_t rfl (ey_work G (fun no la h hn L' => ?_)))
    dsimp only
    exact ey_first G (ez_fc G (ez_K hb.2.1) hf L hn L') ⟨rfl, ez_rel G⟩
theorem i_vc_choices {k : Nat} {u : SX} {v : SY} (I : i_Rel k u v) (hk : k + 4 ≤ 2049) (v1 : Int32) : wpX_choices (fun r u' => wpY_choices (fun r' v' => r' = r ∧ i_Rel (k + 4) u' v') v v1) u v1 := by
  obtain ⟨n, m, ow, fr, tt, ga, ne, no, la, rfl, rfl, G⟩ := I
  have hb := G.1
  unfold wpX_choices wpY_choices
  dsimp only
  rcases ez_ix v1 (n := n) (by omega) with a | ⟨j, hj, rfl⟩
  · exact ex_noV a (br_t rfl (ey_noV a (br_f (by decide) ⟨rfl, ez_rel G⟩)))
  · refine ex_isV hb.2.1 hj (br_f (by decide) (ex_find G (fun ne f hf L => ?_)))
    dsimp only
    refine ⟨m + 1, ex_choices G hf L.1 m 0 (m + 1) 0 (by omega) (by omega) ?_⟩
    refine ey_isV hb.2.1 hj (br_t rfl (ey_work G (fun no la h hn L' => ?_)))
    dsimp only
    exact ⟨m + 1, ey_choices G (ez_fc G (ez_K hb.2.1) hf L hn L') m 0 (m + 1) 0 (by omega) (by omega) ⟨rfl, ez_rel G⟩⟩
theorem i_vc_needWithout {k : Nat} {u : SX} {v : SY} (I : i_Rel k u v) (hk : k + 4 ≤ 2049) (v1 : Int32) (v2 : Int32) : wpX_needWithout (fun r u' => wpY_needWithout (fun r' v' => r' = r ∧ i_Rel (k + 4) u' v') v v1 v2) u v1 v2 := by
  obtain ⟨n, m, ow, fr, tt, ga, ne, no, la, rfl, rfl, G⟩ := I
  have hb := G.1
  unfold wpX_needWithout wpY_needWithout
  dsimp only
  rcases ez_ix v1 (n := n) (by omega) with a | ⟨j, hj, rfl⟩
  · exact ex_noV a (br_t rfl (ey_noV a (br_f (by decide) ⟨rfl, ez_rel G⟩)))
  · rcases ez_ix v2 (n := m) (by omega) with a | ⟨e, he, rfl⟩
    · exact ex_isV hb.2.1 hj (br_f (by decide) (ex_noE a (br_t rfl (ey_isV hb.2.1 hj (br_t rfl (ey_noE a (br_f (by decide) ⟨rfl, ez_rel G⟩)))))))
    · refine ex_isV hb.2.1 hj (br_f (by decide) (ex_isE hb.2.2 he (br_f (by decide) (ex_find G (fun ne f hf L => ?_)))))
      dsimp only
      refine ex_ans hb.2.1 (ez_fx hf L.1) hj ?_
      refine ey_isV hb.2.1 hj (br_t rfl (ey_isE hb.2.2 he (br_t rfl (ey_work G (fun no la h hn L' => ?_)))))
      dsimp only
      exact ey_told hb.2.1 (ez_fc G (ez_K hb.2.1) hf L hn L') hj ⟨rfl, ez_rel G⟩
theorem i_vc_needOf {k : Nat} {u : SX} {v : SY} (I : i_Rel k u v) (hk : k + 4 ≤ 2049) (v1 : Int32) (v2 : Int32) : wpX_needOf (fun r u' => wpY_needOf (fun r' v' => r' = r ∧ i_Rel (k + 4) u' v') v v1 v2) u v1 v2 := by
  obtain ⟨n, m, ow, fr, tt, ga, ne, no, la, rfl, rfl, G⟩ := I
  have hb := G.1
  unfold wpX_needOf wpY_needOf
  dsimp only
  rcases ez_ix v1 (n := n) (by omega) with a | ⟨j, hj, rfl⟩
  · exact ex_noV a (br_t rfl (ey_noV a (br_f (by decide) ⟨rfl, ez_rel G⟩)))
  · rcases ez_pl v2 with p | ⟨p0, p1, p2⟩
    · have iv : vp_in (nI j) 6 := vp_in_nI (by omega) (by omega)
      have cj : (nI j).toNatClampNeg = j := nI_clamp (by omega)
      rw [cj]
      refine ex_isV hb.2.1 hj (br_f (by decide) (ex_isP p (br_f (by decide) ⟨iv, nm_e ⟨iv, nm_e (ex_find G (fun ne f hf L => ?_))⟩⟩)))
      dsimp only
      refine ⟨iv, nm_r ez_back (ex_ans hb.2.1 (ez_fx hf L.1) hj ?_)⟩
      refine ey_isV hb.2.1 hj (br_t rfl (br_f (ez_pl1 p).1 (br_t (ez_pl1 p).2 (ey_work G (fun no la h hn L' => ?_)))))
      dsimp only
      refine ey_told hb.2.1 (ez_fc G (fun v hv => ?_) hf L hn L') hj ⟨rfl, ez_rel G⟩
      unfold eg_K eg_KY
      by_cases c : v = j
      · rw [c, pk_us, if_pos rfl]
      · rw [pk_un c, if_neg (fun z => c ((nI_eq (by omega) (by omega)).mp z))]
    · refine ex_isV hb.2.1 hj (br_f (by decide) (ex_noP ⟨p0, p1⟩ (br_t rfl ?_)))
      exact ey_isV hb.2.1 hj (br_t rfl ⟨fun _ => ⟨rfl, ez_rel G⟩, fun z => ⟨fun y => p2.elim (fun c => absurd c z) (fun c => absurd y c), fun _ => ⟨rfl, ez_rel G⟩⟩⟩)
theorem i_vc_greatest {k : Nat} {u : SX} {v : SY} (I : i_Rel k u v) (hk : k + 4 ≤ 2049) : wpX_greatest (fun r u' => wpY_greatest (fun r' v' => r' = r ∧ i_Rel (k + 4) u' v') v) u := by
  obtain ⟨n, m, ow, fr, tt, ga, ne, no, la, rfl, rfl, G⟩ := I
  have hb := G.1
  unfold wpX_greatest wpY_greatest
  dsimp only
  refine ex_find G (fun ne f hf L => ?_)
  dsimp only
  refine ⟨n + 1, ex_greatest hb.2.1 hf L.1 n 0 (n + 1) 0 (by omega) (by omega) ?_⟩
  refine ey_work G (fun no la h hn L' => ?_)
  dsimp only
  exact ⟨n + 1, ey_greatest hb.2.1 (ez_fc G (ez_K hb.2.1) hf L hn L') n 0 (n + 1) 0 (by omega) (by omega) ⟨rfl, ez_rel G⟩⟩
theorem i_vc_store {k : Nat} {u : SX} {v : SY} (I : i_Rel k u v) (hk : k + 4 ≤ 2049) (v1 : Int32) (v2 : Int32) : wpX_store (fun r u' => wpY_store (fun r' v' => r' = r ∧ i_Rel (k + 4) u' v') v v1 v2) u v1 v2 := by
  obtain ⟨n, m, ow, fr, tt, ga, ne, no, la, rfl, rfl, G⟩ := I
  have hb := G.1
  unfold wpX_store wpY_store
  dsimp only
  rcases ez_ix v1 (n := n) (by omega) with a | ⟨j, hj, rfl⟩
  · exact ex_noV a (br_t rfl (ey_noV a (br_f (by decide) ⟨rfl, ez_rel G⟩)))
  · by_cases c0 : v2 < 0
    · exact ex_isV hb.2.1 hj (br_f (by decide) (ex_noPl (Or.inl c0) (br_t rfl (ey_isV hb.2.1 hj (br_t rfl (br_t c0 ⟨rfl, ez_rel G⟩))))))
    · by_cases c1 : 30 < v2 / 128
      · exact ex_isV hb.2.1 hj (br_f (by decide) (ex_noPl (Or.inr (Or.inl c1)) (br_t rfl (ey_isV hb.2.1 hj (br_t rfl (br_f c0 ⟨by decide, br_t c1 ⟨rfl, ez_rel G⟩⟩))))))
      · by_cases c2 : 100 < v2 - v2 / 128 * 128
        · exact ex_isV hb.2.1 hj (br_f (by decide) (ex_noPl (Or.inr (Or.inr c2)) (br_t rfl (ey_isV hb.2.1 hj (br_t rfl (br_f c0 ⟨by decide, br_f c1 ⟨by decide, br_f (Int32.not_le.mpr c2) ⟨rfl, ez_rel G⟩⟩⟩))))))
        · obtain ⟨s, hs, hp⟩ : ∃ s : Nat, s < 2 ^ 31 ∧ v2 / 128 = nI s := by
            obtain ⟨p, hp, rfl⟩ := nI_of c0
            exact ⟨p / 128, by omega, pk_div (d := 128) hp (by omega) (by omega)⟩
          refine ex_isV hb.2.1 hj (br_f (by decide) (ex_isPl c0 c1 c2 (br_f (by decide) (ex_find G (fun ne f hf L => ?_)))))
          dsimp only
          refine ⟨by decide, nm_r hp ⟨by decide, nm_e ⟨s + 1, ex_store G hf L.1 hs s 0 (s + 1) _ _ (by omega) (by omega) ?_⟩⟩⟩
          refine ey_isV hb.2.1 hj (br_t rfl (br_f c0 ⟨by decide, br_f c1 ⟨by decide, br_t (Int32.not_lt.mp c2) (ey_work G (fun no la h hn L' => ?_))⟩⟩))
          dsimp only
          exact ⟨by decide, nm_e ⟨s + 1, ey_store G (ez_fc G (ez_K hb.2.1) hf L hn L') hs hp s 0 (s + 1) _ _ (by omega) (by omega) ⟨rfl, ez_rel G⟩⟩⟩
