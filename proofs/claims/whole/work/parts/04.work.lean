/-! the reference's work ends in the least vector, by its own cap (6 * (n - 1), endless 99) -/
theorem ey_asks {n m : Nat} {ow fr tt ga no la : Nat → Int32} {f : Nat → Nat} (G : eg_Gd n m fr tt ga) (hf : ∀ v, v < n → no v = nI (f v)) (hr : eg_Rg n (6 * (n - 1)) 99 f)
    {e : Nat} (he : e < m) {post : Int32 → Prop} (h : post (nI (eg_A (6 * (n - 1)) 99 tt ga f e))) :
    wpY_asks post (nI n, nI m, ow, fr, tt, ga, no, la) (nI e) := by
  obtain ⟨⟨h2, h6, h14⟩, _, ht, hg⟩ := G
  obtain ⟨j, hj, hj'⟩ := ht e he
  obtain ⟨g1, g2⟩ := hg e he
  have ce : (nI e).toNatClampNeg = e := nI_clamp (by omega)
  have ct : (tt e).toNatClampNeg = j := by rw [hj']; exact nI_clamp (by omega)
  have er := hr j hj
  have h' : post (nI (eg_ask (6 * (n - 1)) 99 (f j) (ga e).toInt)) := by
    have q : eg_to tt e = j := ct
    unfold eg_A at h
    rw [q] at h
    exact h
  have i1 : vp_in (nI e) 14 := vp_in_nI (by omega) (by omega)
  have i2 : vp_in (tt e) 8 := by rw [hj']; exact vp_in_nI (by omega) (by omega)
  have hc : (6 : Int32) * (nI n - 1) = nI (6 * (n - 1)) := by
    have a : nI n - nI 1 = nI (n - 1) := pk_sub (by omega)
    have b : nI 6 * nI (n - 1) = nI (6 * (n - 1)) := pk_mul 6 (n - 1)
    rw [← b, ← a]
    rfl
  unfold wpY_asks
  dsimp only
  rw [ce, ct, hf j hj, hc]
  refine ⟨i1, i2, ?_⟩
  refine pk_eq (f j) 99 (fun q => ?_) (fun q => ⟨i1, i2, i1, nm_e ?_⟩) rfl rfl (by omega) (by omega)
  · rw [eg_ask_T q] at h'; exact h'
  · exact ex_step (C := 6 * (n - 1)) (T := 99) (by omega) (by omega) g1 g2 q h'

theorem ey_next_l {n m v : Nat} {ow fr tt ga no la : Nat → Int32} {f : Nat → Nat} {w p : Int32} {post : Int32 → Prop} (G : eg_Gd n m fr tt ga)
    (hf : ∀ v, v < n → no v = nI (f v)) (hr : eg_Rg n (6 * (n - 1)) 99 f)
    (h : ∀ r, eg_Is (p = 0) (eg_M m fr w v) (eg_A (6 * (n - 1)) 99 tt ga f) m r → post (nI r)) :
    ∀ (N i : Nat) (x4 : Int32), i ≤ m → m < i + N →
      ((x4 = -1 ∧ eg_No (eg_M m fr w v) i) ∨ (∃ r, x4 = nI r ∧ eg_Sm (p = 0) (eg_M m fr w v) (eg_A (6 * (n - 1)) 99 tt ga f) i r)) →
      wY_next_6 post (nI v) p w (nI n) (nI m) ow fr tt ga no la N x4 (nI i) := by
  have hb := G.1
  have AB : ∀ e, eg_A (6 * (n - 1)) 99 tt ga f e ≤ 99 := fun e => eg_A_b (by omega) (by omega)
  have RB : ∀ i r, eg_Sm (p = 0) (eg_M m fr w v) (eg_A (6 * (n - 1)) 99 tt ga f) i r → r ≤ 99 := by
    intro i r hs
    obtain ⟨⟨e, _, _, hre⟩, _⟩ := hs
    rw [← hre]; exact AB e
  intro N
  induction N with
  | zero => intro i x4 h1 h2; omega
  | succ N ih =>
    intro i x4 h1 h2 I
    rw [wY_next_6]
    refine pk_le m i (fun q => ?_) (fun q => br_f (nI_ge (b := 14) (by omega) (by decide)) ⟨vp_in_nI (by omega) (by omega), ?_⟩) rfl rfl (by omega) (by omega)
    · have e : i = m := by omega
      rw [e] at I
      unfold wY_next_100
      rcases I with ⟨p4, hn⟩ | ⟨r, p4, hs⟩
      · rw [p4]; exact br_f (by decide) (h 0 (Or.inl ⟨hn, rfl⟩))
      · have rb := RB m r hs
        rw [p4]; exact br_t (nI_pos' (by omega)) (h r (Or.inr hs))
    · rw [nI_clamp (n := i) (by omega)]
      have sk : ¬ eg_M m fr w v i → wY_next_6 post (nI v) p w (nI n) (nI m) ow fr tt ga no la N x4 (nI (i + 1)) := by
        intro nd
        refine ih (i + 1) x4 (by omega) (by omega) ?_
        rcases I with ⟨p4, hn⟩ | ⟨r, p4, hs⟩
        · exact Or.inl ⟨p4, eg_No_s hn nd⟩
        · exact Or.inr ⟨r, p4, eg_Sm_skip hs nd⟩
      refine ⟨fun a => ⟨fun b => nm_r (nI_1 i) (sk (fun d => d.2.2 b)), fun b => ?_⟩, fun a => nm_r (nI_1 i) (sk (fun d => a d.2.1))⟩
      have hd : eg_M m fr w v i := ⟨q, a, b⟩
      have ab := AB i
      have nx : ∀ r, eg_Sm (p = 0) (eg_M m fr w v) (eg_A (6 * (n - 1)) 99 tt ga f) (i + 1) r → wY_next_6 post (nI v) p w (nI n) (nI m) ow fr tt ga no la N (nI r) (nI (i + 1)) :=
        fun r hs => ih (i + 1) (nI r) (by omega) (by omega) (Or.inr ⟨r, rfl, hs⟩)
      refine ey_asks G hf hr q ?_
      rcases I with ⟨p4, hn⟩ | ⟨r, p4, hs⟩
      · have B : ∀ z0 : Int32, wY_next_78 post (wY_next_6 post (nI v) p w (nI n) (nI m) ow fr tt ga no la N) (nI v) p w x4 (nI i) (nI (eg_A (6 * (n - 1)) 99 tt ga f i)) z0 (nI n) (nI m) ow fr tt ga no la := by
          intro z0
          unfold wY_next_78
          exact br_t (by rw [p4]; decide) (nm_r (nI_1 i) (nx _ (eg_Sm_first hn hd)))
        exact ⟨fun _ => ⟨fun _ => B 0, fun _ => B 1⟩, fun _ => ⟨fun _ => B 0, fun _ => B 1⟩⟩
      · have rb := RB i r hs
        rw [p4]
        have B0 : eg_Sm (p = 0) (eg_M m fr w v) (eg_A (6 * (n - 1)) 99 tt ga f) (i + 1) r →
            wY_next_78 post (wY_next_6 post (nI v) p w (nI n) (nI m) ow fr tt ga no la N) (nI v) p w (nI r) (nI i) (nI (eg_A (6 * (n - 1)) 99 tt ga f i)) 0 (nI n) (nI m) ow fr tt ga no la := by
          intro z
          unfold wY_next_78
          exact br_f (nI_pos (by omega)) (br_t rfl (nm_r (nI_1 i) (nx _ z)))
        have B1 : eg_Sm (p = 0) (eg_M m fr w v) (eg_A (6 * (n - 1)) 99 tt ga f) (i + 1) (eg_A (6 * (n - 1)) 99 tt ga f i) →
            wY_next_78 post (wY_next_6 post (nI v) p w (nI n) (nI m) ow fr tt ga no la N) (nI v) p w (nI r) (nI i) (nI (eg_A (6 * (n - 1)) 99 tt ga f i)) 1 (nI n) (nI m) ow fr tt ga no la := by
          intro z
          unfold wY_next_78
          exact br_f (nI_pos (by omega)) (br_f (by decide) (nm_r (nI_1 i) (nx _ z)))
        refine ⟨fun z => ?_, fun z => ?_⟩
        · exact pk_le r (eg_A (6 * (n - 1)) 99 tt ga f i) (fun y => B0 (eg_Sm_keep hs (fun _ => y) (fun nk => absurd z nk)))
            (fun y => B1 (eg_Sm_take hs hd (fun _ => by omega) (fun nk => absurd z nk))) rfl rfl (by omega) (by omega)
        · exact pk_le (eg_A (6 * (n - 1)) 99 tt ga f i) r (fun y => B0 (eg_Sm_keep hs (fun k => absurd k z) (fun _ => y)))
            (fun y => B1 (eg_Sm_take hs hd (fun k => absurd k z) (fun _ => by omega))) rfl rfl (by omega) (by omega)

theorem ey_next {n m v : Nat} {ow fr tt ga no la : Nat → Int32} {f : Nat → Nat} {w p : Int32} {post : Int32 → Prop} (G : eg_Gd n m fr tt ga)
    (hf : ∀ v, v < n → no v = nI (f v)) (hr : eg_Rg n (6 * (n - 1)) 99 f)
    (h : ∀ r, eg_Is (p = 0) (eg_M m fr w v) (eg_A (6 * (n - 1)) 99 tt ga f) m r → post (nI r)) :
    wpY_next post (nI n, nI m, ow, fr, tt, ga, no, la) (nI v) p w := by
  unfold wpY_next
  dsimp only
  exact ⟨m + 1, ey_next_l G hf hr h (m + 1) 0 (-1) (Nat.zero_le _) (by omega) (Or.inl ⟨rfl, eg_No_0⟩)⟩

theorem ey_129 {n m : Nat} {ow fr tt ga la : Nat → Int32} {x1 x2 x3 x4 x5 : Int32} {post : SY → Prop}
    {J : Int32 → Int32 → (Nat → Int32) → (Nat → Int32) → (Nat → Int32) → (Nat → Int32) → (Nat → Int32) → (Nat → Int32) → Prop}
    (hJ : ∀ no : Nat → Int32, (∀ v, v < 8 → no v = la v) → J x4 (x5 + 1) ow fr tt ga no la) :
    ∀ (N i : Nat) (no : Nat → Int32), i ≤ 8 → 8 < i + N → (∀ v, v < i → no v = la v) → wY_work_129 post J x1 x2 x3 x4 x5 (nI n) (nI m) N (nI i) ow fr tt ga no la := by
  intro N
  induction N with
  | zero => intro i no h1 h2; omega
  | succ N ih =>
    intro i no h1 h2 I
    rw [wY_work_129]
    refine pk_le 8 i (fun q => nm_e (hJ no (fun v hv => I v (by omega)))) (fun q => ⟨vp_in_nI (by omega) (by omega), vp_in_nI (by omega) (by omega), ?_⟩) rfl rfl (by omega) (by omega)
    rw [nI_clamp (n := i) (by omega)]
    refine nm_e (nm_r (nI_1 i) (ih (i + 1) (upd no i (la i)) (by omega) (by omega) (fun v hv => ?_)))
    by_cases c : v = i
    · rw [c, pk_us]
    · rw [pk_un c]; exact I v (by omega)

theorem ey_49 {n m : Nat} {ow fr tt ga no : Nat → Int32} {f : Nat → Nat} {sp pl w x5 : Int32} {post : SY → Prop}
    {J : Int32 → Int32 → (Nat → Int32) → (Nat → Int32) → (Nat → Int32) → (Nat → Int32) → (Nat → Int32) → (Nat → Int32) → Prop} (G : eg_Gd n m fr tt ga)
    (hf : ∀ v, v < n → no v = nI (f v)) (hr : eg_Rg n (6 * (n - 1)) 99 f)
    (hJ : ∀ (x4 : Int32) (no' la : Nat → Int32) (h : Nat → Nat), (∀ v, v < n → no' v = nI (h v)) →
      (∀ v, v < n → eg_Is (eg_KY ow sp pl v) (eg_M m fr w v) (eg_A (6 * (n - 1)) 99 tt ga f) m (h v)) →
      ((x4 = 0 ∧ ∀ v, v < n → h v = f v) ∨ (x4 = 1 ∧ ∃ v, v < n ∧ h v ≠ f v)) → J x4 (x5 + 1) ow fr tt ga no' la) :
    ∀ (N i : Nat) (x4 : Int32) (la : Nat → Int32) (h : Nat → Nat), i ≤ n → n < i + N → (∀ v, v < i → la v = nI (h v)) →
      (∀ v, v < i → eg_Is (eg_KY ow sp pl v) (eg_M m fr w v) (eg_A (6 * (n - 1)) 99 tt ga f) m (h v)) →
      ((x4 = 0 ∧ ∀ v, v < i → h v = f v) ∨ (x4 = 1 ∧ ∃ v, v < i ∧ h v ≠ f v)) →
      wY_work_49 post J sp pl w x5 (nI n) (nI m) N x4 (nI i) ow fr tt ga no la := by
  have hb := G.1
  intro N
  induction N with
  | zero => intro i x4 la h h1 h2; omega
  | succ N ih =>
    intro i x4 la h h1 h2 hl hI I
    rw [wY_work_49]
    refine pk_le n i (fun q => ⟨9, ?_⟩) (fun q => br_f (nI_ge (b := 6) (by omega) (by decide)) ?_) rfl rfl (by omega) (by omega)
    · have e : i = n := by omega
      rw [e] at hl hI I
      exact ey_129 (fun no' hno => hJ x4 no' la h (fun v hv => (hno v (by omega)).trans (hl v hv)) hI I) 9 0 no (by omega) (by omega) (fun v hv => by omega)
    · have key : ∀ z0 : Int32, (eg_KY ow sp pl i ↔ z0 = 0) →
          wY_work_82 post J (wY_work_49 post J sp pl w x5 (nI n) (nI m) N) sp pl w x4 x5 (nI i) z0 (nI n) (nI m) ow fr tt ga no la := by
        intro z0 hz
        unfold wY_work_82
        refine ey_next G hf hr (fun r hIs => ?_)
        have rb := eg_Is_r hIs
        have fb := hr i q
        have hIs' : eg_Is (eg_KY ow sp pl i) (eg_M m fr w i) (eg_A (6 * (n - 1)) 99 tt ga f) m r := by rw [propext hz]; exact hIs
        have nx : ∀ y4 : Int32, ((y4 = 0 ∧ ∀ v, v < i + 1 → eg_pt h i r v = f v) ∨ (y4 = 1 ∧ ∃ v, v < i + 1 ∧ eg_pt h i r v ≠ f v)) →
            wY_work_49 post J sp pl w x5 (nI n) (nI m) N y4 (nI (i + 1)) ow fr tt ga no (upd la i (nI r)) := by
          intro y4 I'
          refine ih (i + 1) y4 (upd la i (nI r)) (eg_pt h i r) (by omega) (by omega) (fun v hv => ?_) (fun v hv => ?_) I'
          · by_cases c : v = i
            · rw [c, pk_us, eg_pt_s]
            · rw [pk_un c, eg_pt_n c]; exact hl v (by omega)
          · by_cases c : v = i
            · rw [c, eg_pt_s]; exact hIs'
            · rw [eg_pt_n c]; exact hI v (by omega)
        rw [nI_clamp (n := i) (by omega)]
        refine ⟨vp_in_nI (by omega) (by omega), nm_e ⟨vp_in_nI (by omega) (by omega), vp_in_nI (by omega) (by omega), ?_⟩⟩
        rw [pk_us, hf i q]
        refine pk_eq r (f i) (fun y => nm_r (nI_1 i) (nx x4 ?_)) (fun y => nm_r (nI_1 i) (nx 1 (Or.inr ⟨rfl, i, by omega, by rw [eg_pt_s]; exact y⟩))) rfl rfl (by omega) (by omega)
        rcases I with ⟨p, a⟩ | ⟨p, v, hv, a⟩
        · refine Or.inl ⟨p, fun v hv => ?_⟩
          by_cases c : v = i
          · rw [c, eg_pt_s]; exact y
          · rw [eg_pt_n c]; exact a v (by omega)
        · exact Or.inr ⟨p, v, by omega, by rw [eg_pt_n (by omega)]; exact a⟩
      refine ⟨fun a => key pl ?_, fun a => ⟨vp_in_nI (by omega) (by omega), ?_⟩⟩
      · unfold eg_KY; rw [if_pos a]
      · rw [nI_clamp (n := i) (by omega)]
        refine key (ow i) ?_
        unfold eg_KY; rw [if_neg a]

theorem ey_30 {n m : Nat} {ow fr tt ga : Nat → Int32} {sp pl w : Int32} {post : SY → Prop} (G : eg_Gd n m fr tt ga)
    (h : ∀ (no la : Nat → Int32) (f : Nat → Nat), (∀ v, v < n → no v = nI (f v)) → eg_Lst n (6 * (n - 1)) 99 (eg_KY ow sp pl) (eg_M m fr w) (eg_to tt) (eg_g ga) f → post (nI n, nI m, ow, fr, tt, ga, no, la)) :
    ∀ (N q : Nat) (x4 : Int32) (no la : Nat → Int32) (f : Nat → Nat), q ≤ 700 → 700 < q + N → (∀ v, v < n → no v = nI (f v)) → eg_Rg n (6 * (n - 1)) 99 f →
      eg_Lo n (6 * (n - 1)) 99 (eg_KY ow sp pl) (eg_M m fr w) (eg_to tt) (eg_g ga) f →
      ((x4 = 0 ∧ eg_Pre n (6 * (n - 1)) 99 (eg_KY ow sp pl) (eg_M m fr w) (eg_to tt) (eg_g ga) f) ∨
       (x4 = 1 ∧ q ≤ eg_sm f n ∧ ∀ v, v < n → ∀ r, eg_Is (eg_KY ow sp pl v) (eg_M m fr w v) (eg_A (6 * (n - 1)) 99 tt ga f) m r → f v ≤ r)) →
      wY_work_30 post sp pl w (nI n) (nI m) N x4 (nI q) ow fr tt ga no la := by
  have hb := G.1
  have ok := eg_Gd_ok (w := w) G
  intro N
  induction N with
  | zero => intro q x4 no la f h1 h2; omega
  | succ N ih =>
    intro q x4 no la f h1 h2 hf hr hl I
    rw [wY_work_30]
    refine pk_le 700 q (fun c => ?_) (fun c => ?_) rfl rfl (by omega) (by omega)
    · rcases I with ⟨p, P⟩ | ⟨p, s, _⟩
      · exact h no la f hf ⟨hr, P, hl⟩
      · have b := eg_sm_b (f := f) (T := 99) n (fun v hv => by have z := hr v hv; omega)
        omega
    · rcases I with ⟨p, P⟩ | ⟨p, s, up⟩
      · exact br_t p (h no la f hf ⟨hr, P, hl⟩)
      · refine br_f (by rw [p]; decide) ⟨n + 1, ?_⟩
        refine ey_49 G hf hr (fun y4 no' la' h' hno hIs I' => ?_) (n + 1) 0 0 la (fun _ => 0) (Nat.zero_le _) (by omega) (fun v hv => by omega) (fun v hv => by omega) (Or.inl ⟨rfl, fun v hv => by omega⟩)
        rw [nI_1]
        have le : ∀ v, v < n → f v ≤ h' v := fun v hv => up v hv _ (hIs v hv)
        rcases I' with ⟨p', e⟩ | ⟨p', v, hv, hne⟩
        · refine ih (q + 1) y4 no' la' f (by omega) (by omega) (fun v hv => by rw [hno v hv, e v hv]) hr hl (Or.inl ⟨p', fun v hv => ?_⟩)
          exact eg_Pt_of (i := m) (r := h' v) (fun e he => he.1) (hIs v hv) (by rw [e v hv]; exact Nat.le_refl _)
        · have hr' : eg_Rg n (6 * (n - 1)) 99 h' := fun v hv => eg_Is_r (hIs v hv)
          refine ih (q + 1) y4 no' la' h' (by omega) (by omega) hno hr' ?_ (Or.inr ⟨p', ?_, ?_⟩)
          · intro P hR hP v hv
            exact eg_Is_le (i := m) ok (by omega) (fun e he => he.1) hR (hl P hR hP) (hIs v hv) (hP v hv)
          · have t := eg_sm_lt n le v hv (fun z => hne z.symm)
            omega
          · intro v hv r hIr
            refine eg_Is_mono (hIs v hv) hIr (fun e he => ?_)
            exact eg_ask_mono (by omega) (le _ (ok v e he).1) (hr' _ (ok v e he).1)

theorem ey_3 {n m : Nat} {ow fr tt ga la : Nat → Int32} {sp pl w : Int32} {post : SY → Prop} (G : eg_Gd n m fr tt ga)
    (h : ∀ (no la : Nat → Int32) (f : Nat → Nat), (∀ v, v < n → no v = nI (f v)) → eg_Lst n (6 * (n - 1)) 99 (eg_KY ow sp pl) (eg_M m fr w) (eg_to tt) (eg_g ga) f → post (nI n, nI m, ow, fr, tt, ga, no, la)) :
    ∀ (N i : Nat) (no : Nat → Int32), i ≤ 8 → 8 < i + N → (∀ v, v < i → no v = nI 0) → wY_work_3 post sp pl w (nI n) (nI m) N (nI i) ow fr tt ga no la := by
  have hb := G.1
  intro N
  induction N with
  | zero => intro i no h1 h2; omega
  | succ N ih =>
    intro i no h1 h2 I
    rw [wY_work_3]
    refine pk_le 8 i (fun q => ⟨701, ?_⟩) (fun q => ⟨vp_in_nI (by omega) (by omega), ?_⟩) rfl rfl (by omega) (by omega)
    · exact ey_30 G h 701 0 1 no la (fun _ => 0) (by omega) (by omega) (fun v hv => I v (by omega)) (fun v hv => Or.inl (Nat.zero_le _)) (fun P _ _ v _ => Nat.zero_le _)
        (Or.inr ⟨rfl, Nat.zero_le _, fun v hv r _ => Nat.zero_le _⟩)
    · rw [nI_clamp (n := i) (by omega)]
      refine nm_e (nm_r (nI_1 i) (ih (i + 1) (upd no i 0) (by omega) (by omega) (fun v hv => ?_)))
      by_cases c : v = i
      · rw [c, pk_us]; rfl
      · rw [pk_un c]; exact I v (by omega)

theorem ey_work {n m : Nat} {ow fr tt ga no la : Nat → Int32} {sp pl w : Int32} {post : SY → Prop} (G : eg_Gd n m fr tt ga)
    (h : ∀ (no la : Nat → Int32) (f : Nat → Nat), (∀ v, v < n → no v = nI (f v)) → eg_Lst n (6 * (n - 1)) 99 (eg_KY ow sp pl) (eg_M m fr w) (eg_to tt) (eg_g ga) f → post (nI n, nI m, ow, fr, tt, ga, no, la)) :
    wpY_work post (nI n, nI m, ow, fr, tt, ga, no, la) sp pl w := by
  unfold wpY_work
  dsimp only
  exact ⟨9, ey_3 G h 9 0 no (by omega) (by omega) (fun v hv => by omega)⟩
