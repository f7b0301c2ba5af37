/-! the class's findNeeds ends in the least vector, by its own cap (30, endless 31) -/
theorem ex_along {n m : Nat} {ow fr tt ga ne : Nat → Int32} {f : Nat → Nat} (G : eg_Gd n m fr tt ga) (hf : ∀ v, v < n → ne v = nI (f v)) (hr : eg_Rg n 30 31 f)
    {e : Nat} (he : e < m) {post : Int32 → Prop} (h : post (nI (eg_A 30 31 tt ga f e))) :
    wpX_askedAlong post (nI n, nI m, ow, fr, tt, ga, ne) (nI e) := by
  obtain ⟨⟨h2, h6, h14⟩, _, ht, hg⟩ := G
  obtain ⟨j, hj, hj'⟩ := ht e he
  obtain ⟨g1, g2⟩ := hg e he
  have ce : (nI e).toNatClampNeg = e := nI_clamp (by omega)
  have ct : (tt e).toNatClampNeg = j := by rw [hj']; exact nI_clamp (by omega)
  have er := hr j hj
  have h' : post (nI (eg_ask 30 31 (f j) (ga e).toInt)) := by
    have q : eg_to tt e = j := ct
    unfold eg_A at h
    rw [q] at h
    exact h
  have i1 : vp_in (nI e) 14 := vp_in_nI (by omega) (by omega)
  have i2 : vp_in (tt e) 6 := by rw [hj']; exact vp_in_nI (by omega) (by omega)
  unfold wpX_askedAlong
  dsimp only
  rw [ce, ct, hf j hj]
  refine ⟨i1, i2, nm_e ?_⟩
  refine pk_eq (f j) 31 (fun q => ?_) (fun q => ⟨i1, nm_e ?_⟩) rfl rfl (by omega) (by omega)
  · rw [eg_ask_T q] at h'; exact h'
  · exact ex_step (C := 30) (T := 31) (by omega) (by omega) g1 g2 q h'

theorem ex_at_l {n m v : Nat} {ow fr tt ga ne : Nat → Int32} {f : Nat → Nat} {w k3 : Int32} {post : Int32 → Prop} {k : Prop} (G : eg_Gd n m fr tt ga)
    (hf : ∀ v, v < n → ne v = nI (f v)) (hr : eg_Rg n 30 31 f) (hk : k3 = 0 ↔ ¬ k)
    (h : ∀ r, eg_Is k (eg_M m fr w v) (eg_A 30 31 tt ga f) m r → post (nI r)) :
    ∀ (N i : Nat) (x4 x5 : Int32), i ≤ m → m < i + N →
      ((x4 = 0 ∧ x5 = 0 ∧ eg_No (eg_M m fr w v) i) ∨ (x4 = 1 ∧ ∃ r, x5 = nI r ∧ eg_Sm k (eg_M m fr w v) (eg_A 30 31 tt ga f) i r)) →
      wX_askedAt_24 post (nI v) w k3 (nI n) (nI m) ow fr tt ga ne N x4 x5 (nI i) := by
  have hb := G.1
  intro N
  induction N with
  | zero => intro i x4 x5 h1 h2; omega
  | succ N ih =>
    intro i x4 x5 h1 h2 I
    rw [wX_askedAt_24]
    refine pk_le m i (fun q => ?_) (fun q => ⟨vp_in_nI (by omega) (by omega), ?_⟩) rfl rfl (by omega) (by omega)
    · have e : i = m := by omega
      rw [e] at I
      rcases I with ⟨_, p5, hn⟩ | ⟨_, r, p5, hs⟩
      · rw [p5]; exact h 0 (Or.inl ⟨hn, rfl⟩)
      · rw [p5]; exact h r (Or.inr hs)
    · rw [nI_clamp (n := i) (by omega)]
      have sk : ¬ eg_M m fr w v i → wX_askedAt_24 post (nI v) w k3 (nI n) (nI m) ow fr tt ga ne N x4 x5 (nI (i + 1)) := by
        intro nd
        refine ih (i + 1) x4 x5 (by omega) (by omega) ?_
        rcases I with ⟨p4, p5, hn⟩ | ⟨p4, r, p5, hs⟩
        · exact Or.inl ⟨p4, p5, eg_No_s hn nd⟩
        · exact Or.inr ⟨p4, r, p5, eg_Sm_skip hs nd⟩
      refine ⟨fun a => ⟨fun b => nm_r (nI_1 i) (sk (fun d => d.2.2 b)), fun b => ?_⟩, fun a => nm_r (nI_1 i) (sk (fun d => a d.2.1))⟩
      have hd : eg_M m fr w v i := ⟨q, a, b⟩
      have ab : eg_A 30 31 tt ga f i ≤ 99 := eg_A_b (by omega) (by omega)
      have nx : ∀ r, eg_Sm k (eg_M m fr w v) (eg_A 30 31 tt ga f) (i + 1) r → wX_askedAt_24 post (nI v) w k3 (nI n) (nI m) ow fr tt ga ne N 1 (nI r) (nI (i + 1)) :=
        fun r hs => ih (i + 1) 1 (nI r) (by omega) (by omega) (Or.inr ⟨rfl, r, rfl, hs⟩)
      refine ex_along G hf hr q ?_
      rcases I with ⟨p4, p5, hn⟩ | ⟨p4, r, p5, hs⟩
      · exact br_t p4 (nm_r (nI_1 i) (nx _ (eg_Sm_first hn hd)))
      · have rb : r ≤ 99 := by
          obtain ⟨⟨e, _, _, hre⟩, _⟩ := hs
          rw [← hre]; exact eg_A_b (by omega) (by omega)
        refine br_f (by rw [p4]; decide) ?_
        rw [p5]
        refine ⟨fun z => ?_, fun z => ?_⟩
        · have nk : ¬ k := hk.mp z
          exact pk_le (eg_A 30 31 tt ga f i) r (fun y => nm_r (nI_1 i) (nx r (eg_Sm_keep hs (fun hk' => absurd hk' nk) (fun _ => y))))
            (fun y => nm_r (nI_1 i) (nx _ (eg_Sm_take hs hd (fun hk' => absurd hk' nk) (fun _ => by omega)))) rfl rfl (by omega) (by omega)
        · have kk : k := Classical.byContradiction fun c => z (hk.mpr c)
          exact pk_le r (eg_A 30 31 tt ga f i) (fun y => nm_r (nI_1 i) (nx r (eg_Sm_keep hs (fun _ => y) (fun nk => absurd kk nk))))
            (fun y => nm_r (nI_1 i) (nx _ (eg_Sm_take hs hd (fun _ => by omega) (fun nk => absurd kk nk)))) rfl rfl (by omega) (by omega)

theorem ex_at {n m v : Nat} {ow fr tt ga ne : Nat → Int32} {f : Nat → Nat} {w : Int32} {post : Int32 → Prop} (G : eg_Gd n m fr tt ga)
    (hf : ∀ v, v < n → ne v = nI (f v)) (hr : eg_Rg n 30 31 f) (hv : v < n)
    (h : ∀ r, eg_Is (eg_K ow v) (eg_M m fr w v) (eg_A 30 31 tt ga f) m r → post (nI r)) :
    wpX_askedAt post (nI n, nI m, ow, fr, tt, ga, ne) (nI v) w := by
  have hb := G.1
  unfold wpX_askedAt
  dsimp only
  rw [nI_clamp (n := v) (by omega)]
  refine ⟨vp_in_nI (by omega) (by omega), fun a => ⟨m + 1, ?_⟩, fun a => ⟨m + 1, ?_⟩⟩
  · exact ex_at_l (k := eg_K ow v) G hf hr ⟨fun z => absurd z (by decide), fun z => absurd a z⟩ h (m + 1) 0 0 0 (Nat.zero_le _) (by omega) (Or.inl ⟨rfl, rfl, eg_No_0⟩)
  · exact ex_at_l (k := eg_K ow v) G hf hr ⟨fun _ => a, fun _ => rfl⟩ h (m + 1) 0 0 0 (Nat.zero_le _) (by omega) (Or.inl ⟨rfl, rfl, eg_No_0⟩)

theorem ex_43 {n m : Nat} {ow fr tt ga : Nat → Int32} {f0 : Nat → Nat} {w x3 : Int32} {post : SX → Prop}
    {J : Int32 → Int32 → (Nat → Int32) → (Nat → Int32) → (Nat → Int32) → (Nat → Int32) → (Nat → Int32) → Prop} (G : eg_Gd n m fr tt ga)
    (hJ : ∀ (x2 : Int32) (ne : Nat → Int32) (f : Nat → Nat), (∀ v, v < n → ne v = nI (f v)) → eg_Rg n 30 31 f →
      eg_Lo n 30 31 (eg_K ow) (eg_M m fr w) (eg_to tt) (eg_g ga) f →
      ((x2 = 0 ∧ eg_Pre n 30 31 (eg_K ow) (eg_M m fr w) (eg_to tt) (eg_g ga) f) ∨ (x2 = 1 ∧ eg_sm f0 n + 1 ≤ eg_sm f n)) → J x2 (x3 + 1) ow fr tt ga ne) :
    ∀ (N i : Nat) (x2 : Int32) (ne : Nat → Int32) (f : Nat → Nat), i ≤ n → n < i + N → (∀ v, v < n → ne v = nI (f v)) → eg_Rg n 30 31 f →
      eg_Lo n 30 31 (eg_K ow) (eg_M m fr w) (eg_to tt) (eg_g ga) f →
      ((x2 = 0 ∧ f = f0 ∧ ∀ v, v < i → eg_Pt 30 31 (eg_K ow) (eg_M m fr w) (eg_to tt) (eg_g ga) f v) ∨ (x2 = 1 ∧ eg_sm f0 n + 1 ≤ eg_sm f n)) →
      wX_findNeeds_43 post J w x3 (nI n) (nI m) N x2 (nI i) ow fr tt ga ne := by
  have hb := G.1
  have ok := eg_Gd_ok (w := w) G
  intro N
  induction N with
  | zero => intro i x2 ne f h1 h2; omega
  | succ N ih =>
    intro i x2 ne f h1 h2 hf hr hl I
    rw [wX_findNeeds_43]
    refine pk_le n i (fun q => nm_e ?_) (fun q => ?_) rfl rfl (by omega) (by omega)
    · refine hJ x2 ne f hf hr hl ?_
      rcases I with ⟨p, _, hp⟩ | I
      · exact Or.inl ⟨p, fun v hv => hp v (by omega)⟩
      · exact Or.inr I
    · refine ex_at G hf hr q (fun r hI => ?_)
      have rb := eg_Is_r hI
      have fb := hr i q
      rw [nI_clamp (n := i) (by omega), hf i q]
      refine ⟨vp_in_nI (by omega) (by omega), ?_⟩
      refine pk_le r (f i) (fun y => nm_r (nI_1 i) (ih (i + 1) x2 ne f (by omega) (by omega) hf hr hl ?_))
        (fun y => ⟨vp_in_nI (by omega) (by omega), nm_e (nm_r (nI_1 i) (ih (i + 1) 1 (upd ne i (nI r)) (eg_pt f i r) (by omega) (by omega) ?_ ?_ ?_ (Or.inr ⟨rfl, ?_⟩)))⟩)
        rfl rfl (by omega) (by omega)
      · rcases I with ⟨p, e, hp⟩ | I
        · refine Or.inl ⟨p, e, fun v hv => ?_⟩
          by_cases c : v = i
          · rw [c]; exact eg_Pt_of (i := m) (r := r) (fun e he => he.1) hI y
          · exact hp v (by omega)
        · exact Or.inr I
      · intro v hv
        by_cases c : v = i
        · rw [c, pk_us, eg_pt_s]
        · rw [pk_un c, eg_pt_n c]; exact hf v hv
      · intro v hv
        by_cases c : v = i
        · rw [c, eg_pt_s]; exact rb
        · rw [eg_pt_n c]; exact hr v hv
      · intro P hR hP v hv
        by_cases c : v = i
        · rw [c, eg_pt_s]; exact eg_Is_le (i := m) ok (by omega) (fun e he => he.1) hR (hl P hR hP) hI (hP i q)
        · rw [eg_pt_n c]; exact hl P hR hP v hv
      · have s1 : eg_sm f n + 1 ≤ eg_sm (eg_pt f i r) n := by
          refine eg_sm_lt n (fun v hv => ?_) i q (by rw [eg_pt_s]; omega)
          by_cases c : v = i
          · rw [c, eg_pt_s]; omega
          · rw [eg_pt_n c]; exact Nat.le_refl _
        rcases I with ⟨p, e, hp⟩ | ⟨p, s⟩
        · rw [← e]; exact s1
        · omega

theorem ex_27 {n m : Nat} {ow fr tt ga : Nat → Int32} {w : Int32} {post : SX → Prop} (G : eg_Gd n m fr tt ga)
    (h : ∀ (ne : Nat → Int32) (f : Nat → Nat), (∀ v, v < n → ne v = nI (f v)) → eg_Lst n 30 31 (eg_K ow) (eg_M m fr w) (eg_to tt) (eg_g ga) f → post (nI n, nI m, ow, fr, tt, ga, ne)) :
    ∀ (N q : Nat) (x2 : Int32) (ne : Nat → Int32) (f : Nat → Nat), q ≤ 187 → 187 < q + N → (∀ v, v < n → ne v = nI (f v)) → eg_Rg n 30 31 f →
      eg_Lo n 30 31 (eg_K ow) (eg_M m fr w) (eg_to tt) (eg_g ga) f →
      ((x2 = 0 ∧ eg_Pre n 30 31 (eg_K ow) (eg_M m fr w) (eg_to tt) (eg_g ga) f) ∨ (x2 = 1 ∧ q ≤ eg_sm f n)) →
      wX_findNeeds_27 post w (nI n) (nI m) N x2 (nI q) ow fr tt ga ne := by
  have hb := G.1
  intro N
  induction N with
  | zero => intro q x2 ne f h1 h2; omega
  | succ N ih =>
    intro q x2 ne f h1 h2 hf hr hl I
    rw [wX_findNeeds_27]
    rcases I with ⟨p, P⟩ | ⟨p, s⟩
    · exact br_t p (h ne f hf ⟨hr, P, hl⟩)
    · have b := eg_sm_b (f := f) (T := 31) n (fun v hv => by have z := hr v hv; omega)
      refine br_f (by rw [p]; decide) (br_f (nI_ge (b := 187) (by omega) (by decide)) ⟨n + 1, ?_⟩)
      refine ex_43 (f0 := f) G (fun x2' ne' f' hf' hr' hl' I' => ?_) (n + 1) 0 0 ne f (Nat.zero_le _) (by omega) hf hr hl (Or.inl ⟨rfl, rfl, fun v hv => by omega⟩)
      rw [nI_1]
      refine ih (q + 1) x2' ne' f' (by omega) (by omega) hf' hr' hl' ?_
      rcases I' with I' | ⟨p', s'⟩
      · exact Or.inl I'
      · exact Or.inr ⟨p', by omega⟩

theorem ex_2 {n m : Nat} {ow fr tt ga : Nat → Int32} {w : Int32} {post : SX → Prop} (G : eg_Gd n m fr tt ga)
    (h : ∀ (ne : Nat → Int32) (f : Nat → Nat), (∀ v, v < n → ne v = nI (f v)) → eg_Lst n 30 31 (eg_K ow) (eg_M m fr w) (eg_to tt) (eg_g ga) f → post (nI n, nI m, ow, fr, tt, ga, ne)) :
    ∀ (N i : Nat) (ne : Nat → Int32), i ≤ n → n < i + N → (∀ v, v < i → ne v = nI 0) → wX_findNeeds_2 post w (nI n) (nI m) N (nI i) ow fr tt ga ne := by
  have hb := G.1
  intro N
  induction N with
  | zero => intro i ne h1 h2; omega
  | succ N ih =>
    intro i ne h1 h2 I
    rw [wX_findNeeds_2]
    refine pk_le n i (fun q => ⟨188, ?_⟩) (fun q => ⟨vp_in_nI (by omega) (by omega), ?_⟩) rfl rfl (by omega) (by omega)
    · exact ex_27 G h 188 0 1 ne (fun _ => 0) (by omega) (by omega) (fun v hv => I v (by omega)) (fun v hv => Or.inl (Nat.zero_le _)) (fun P _ _ v _ => Nat.zero_le _)
        (Or.inr ⟨rfl, Nat.zero_le _⟩)
    · rw [nI_clamp (n := i) (by omega)]
      refine nm_e (nm_r (nI_1 i) (ih (i + 1) (upd ne i 0) (by omega) (by omega) (fun v hv => ?_)))
      by_cases c : v = i
      · rw [c, pk_us]; rfl
      · rw [pk_un c]; exact I v (by omega)

theorem ex_find {n m : Nat} {ow fr tt ga ne : Nat → Int32} {w : Int32} {post : SX → Prop} (G : eg_Gd n m fr tt ga)
    (h : ∀ (ne : Nat → Int32) (f : Nat → Nat), (∀ v, v < n → ne v = nI (f v)) → eg_Lst n 30 31 (eg_K ow) (eg_M m fr w) (eg_to tt) (eg_g ga) f → post (nI n, nI m, ow, fr, tt, ga, ne)) :
    wpX_findNeeds post (nI n, nI m, ow, fr, tt, ga, ne) w := by
  unfold wpX_findNeeds
  dsimp only
  exact ⟨n + 1, ex_2 G h (n + 1) 0 ne (Nat.zero_le _) (by omega) (fun v hv => by omega)⟩
