/- X: onAfter, stoppedBy, the loop of moveOn -/
def vs_B (N : Nat) (par : Nat → Nat) (m c : Nat) : Bool := decide (c + 1 = N) || decide (m ≤ par c)
/-- the two sets when all from m on are done -/
def xI_W (N : Nat) (par d : Nat → Nat) (m : Nat) (S R : Int32) : Prop := ∀ c, c < N → bt S c = (vs_B N par m c && decide (d c = 1)) ∧ bt R c = (vs_B N par m c && decide (d c = 2))
theorem xI_s {N : Nat} {K P Q par : Nat → Nat} {w : Nat → Int32} {d : Nat → Nat} {i : Nat} {S R S' R' : Int32} (ht : tr_P N K P Q par w) (wf : wf_P N K P Q) (hi : i < N) (h : xI_W N par d (i + 1) S R) (hr : rs_W N K P Q d i S R S' R') : xI_W N par d i S' R' := by
  intro c hc
  obtain ⟨r1, r2⟩ := hr c hc
  obtain ⟨h1, h2⟩ := h c hc
  rw [r1, r2, h1, h2]
  have nP : 4 ≤ K i → P i + 1 ≠ N ∧ par (P i) = i := fun h4 => ⟨by have := (wf i hi h4).1; omega, ht.2.1 i hi h4⟩
  have nQ : 7 ≤ K i → Q i + 1 ≠ N ∧ par (Q i) = i := fun h7 => ⟨by have := (wf i hi (by omega)).2; omega, (ht.2.2.1 i hi h7).1⟩
  by_cases v : c + 1 = N ∨ i + 1 ≤ par c
  · have e1 : vs_B N par (i + 1) c = true := by unfold vs_B; simp only [Bool.or_eq_true, decide_eq_true_eq]; exact v
    have e2 : vs_B N par i c = true := by
      unfold vs_B; simp only [Bool.or_eq_true, decide_eq_true_eq]
      rcases v with v | v
      · exact Or.inl v
      · exact Or.inr (by omega)
    have n1 : (decide (4 ≤ K i) && decide (c = P i)) = false := by
      cases q : (decide (4 ≤ K i) && decide (c = P i))
      · rfl
      · simp only [Bool.and_eq_true, decide_eq_true_eq] at q
        have := nP q.1; rw [← q.2] at this; rcases v with v | v <;> omega
    have n2 : (decide (7 ≤ K i) && decide (c = Q i)) = false := by
      cases q : (decide (7 ≤ K i) && decide (c = Q i))
      · rfl
      · simp only [Bool.and_eq_true, decide_eq_true_eq] at q
        have := nQ q.1; rw [← q.2] at this; rcases v with v | v <;> omega
    rw [n1, n2, e1, e2]; simp
  · have e1 : vs_B N par (i + 1) c = false := by
      cases q : vs_B N par (i + 1) c
      · rfl
      · unfold vs_B at q; simp only [Bool.or_eq_true, decide_eq_true_eq] at q; exact absurd q v
    rw [e1]
    by_cases hp : par c = i
    · have e2 : vs_B N par i c = true := by unfold vs_B; simp [hp]
      rw [e2]
      obtain ⟨_, _, hcc⟩ := ht.1 c (by omega)
      rw [hp] at hcc
      rcases hcc with ⟨h4, e⟩ | ⟨h7, e⟩
      · rw [← e, decide_eq_true h4]
        by_cases q : 7 ≤ K i ∧ c = Q i
        · exact absurd (q.2 ▸ e) (ht.2.2.1 i hi q.1).2
        · have : (decide (7 ≤ K i) && decide (c = Q i)) = false := by
            cases qq : (decide (7 ≤ K i) && decide (c = Q i))
            · rfl
            · simp only [Bool.and_eq_true, decide_eq_true_eq] at qq; exact absurd qq q
          rw [this]; simp
      · have hne := (ht.2.2.1 i hi h7).2
        rw [← e, decide_eq_true h7, decide_eq_false (show ¬ c = P i by rw [e]; exact hne)]; simp
    · have e2 : vs_B N par i c = false := by
        cases q : vs_B N par i c
        · rfl
        · unfold vs_B at q; simp only [Bool.or_eq_true, decide_eq_true_eq] at q
          exfalso; rcases q with q | q
          · exact v (Or.inl q)
          · exact v (Or.inr (by omega))
      have n1 : (decide (4 ≤ K i) && decide (c = P i)) = false := by
        cases q : (decide (4 ≤ K i) && decide (c = P i))
        · rfl
        · simp only [Bool.and_eq_true, decide_eq_true_eq] at q
          have := nP q.1; rw [← q.2] at this; omega
      have n2 : (decide (7 ≤ K i) && decide (c = Q i)) = false := by
        cases q : (decide (7 ≤ K i) && decide (c = Q i))
        · rfl
        · simp only [Bool.and_eq_true, decide_eq_true_eq] at q
          have := nQ q.1; rw [← q.2] at this; omega
      rw [n1, n2, e2]; simp
def oa_B (K P d eS eR : Nat → Nat) (is o : Nat → Bool) (w : Nat → Int32) (k j : Nat) : Bool :=
  (decide (K k = 1) && decide (d k = 1) && decide (j = k)) || (decide (K k = 4) && decide (d k ≠ 0) && decide (cd_E eS eR (d (P k)) (P k) % 2 = 1) && decide (j = k)) || (fr_S K d is k && o j && bt (w k) j)
theorem xm_on {post : Int32 → Prop} {f_height f_made f_size f_on f_inFirst f_over f_instantsDone f_hadInstant f_lastPresent f_lastAbsent f_present f_absent f_startedNow f_resumedNow : Int32} {a_stack a_newKind a_newMark a_newP a_newQ a_newWithin a_kind a_mark a_partP a_partQ a_within a_mustStarted a_canStarted a_mustResumed a_canResumed : Nat → Int32} {N pr ab i : Nat} {K M P Q par d : Nat → Nat} {is : Nat → Bool} {fi : Bool} (hN : N ≤ 16) (hi : i < N) (hg : pg_X N K M P Q a_kind a_mark a_partP a_partQ)
    (ht : tb_X K M P Q pr ab (bt f_on) (ac_L f_on a_within) a_mustStarted a_canStarted a_mustResumed a_canResumed N) (hpr : f_present = nI pr) (hs : hs_W N K M is pr ab)
    (hd : dm_W N K P Q par a_within (bt f_on) (ac_L f_on a_within) is (eS_T K M P Q pr ab) (eR_T K M P Q pr ab (bt f_on) (ac_L f_on a_within)) d fi) (h0 : d i ≠ 0) (hx : xI_W N par d i f_startedNow f_resumedNow) (hv : vs_B N par i i = true)
    (h : ∀ r, (∀ j, j < 32 → bt r j = oa_B K P d (eS_T K M P Q pr ab) (eR_T K M P Q pr ab (bt f_on) (ac_L f_on a_within)) is (bt f_on) a_within i j) → post r) : wpX_onAfter post (f_height, f_made, f_size, f_on, f_inFirst, f_over, f_instantsDone, f_hadInstant, f_lastPresent, f_lastAbsent, f_present, f_absent, f_startedNow, f_resumedNow, a_stack, a_newKind, a_newMark, a_newP, a_newQ, a_newWithin, a_kind, a_mark, a_partP, a_partQ, a_within, a_mustStarted, a_canStarted, a_mustResumed, a_canResumed) (nI i) := by
  obtain ⟨g1, g2, g3, g4, g5, g6, g7, g8⟩ := hg i hi
  have hc : (nI i).toNatClampNeg = i := nI_clamp (by omega)
  have vi : vp_in (nI i) 16 := vp_in_nI (by omega) (by omega)
  obtain ⟨x1, x2⟩ := hx i hi
  rw [hv, Bool.true_and] at x1 x2
  unfold wpX_onAfter
  dsimp only
  rw [hc, g1]
  refine ⟨vi, nm_e ?_⟩
  refine pk_eq (K i) 1 (fun z => ?_) (fun z1 => ?_)
  · refine h _ (fun j hj => ?_)
    rw [b_and, bz_sh1 i (by omega) j hj]
    unfold oa_B fr_S
    rw [decide_eq_true z, decide_eq_false (show ¬ K i = 4 by omega), decide_eq_false (show ¬ K i = 6 by omega)]
    by_cases e : j = i
    · rw [e, x1]; simp
    · simp [e]
  refine pk_eq (K i) 4 (fun z => ⟨vi, ?_⟩) (fun z4 => ?_)
  · have g8' := g8 (by omega)
    have hPN : P i < N := by omega
    have xP := (hx (P i) hPN).1
    have vP : vs_B N par i (P i) = true := by unfold vs_B; rw [hd.2.1.2.1 i hi (by omega)]; simp
    rw [vP, Bool.true_and] at xP
    rw [g4]
    refine xm_codes hN hPN hg ht ?_
    have e : (if bt f_startedNow (P i) = true then eS_T K M P Q pr ab (P i) else eR_T K M P Q pr ab (bt f_on) (ac_L f_on a_within) (P i)) = cd_E (eS_T K M P Q pr ab) (eR_T K M P Q pr ab (bt f_on) (ac_L f_on a_within)) (d (P i)) (P i) := by
      unfold cd_E; rw [xP]; simp only [decide_eq_true_eq]
    have l : (if bt f_startedNow (P i) = true then eS_T K M P Q pr ab (P i) else eR_T K M P Q pr ab (bt f_on) (ac_L f_on a_within) (P i)) < 32 := by
      split
      · exact (tv_Sok hg pr ab true _ hPN).2
      · exact (tv_Rok hg pr ab _ _ true _ hPN).2
    rw [e] at l ⊢
    unfold oa_B fr_S at h
    generalize cd_E (eS_T K M P Q pr ab) (eR_T K M P Q pr ab (bt f_on) (ac_L f_on a_within)) (d (P i)) (P i) = x at l h ⊢
    refine br_c (fun y => ?_) (fun y => ?_)
    · have := (pz_64' l).mp y
      refine h _ (fun j hj => ?_)
      rw [b_0, decide_eq_false (show ¬ K i = 1 by omega), decide_eq_false (show ¬ K i = 6 by omega), decide_eq_false (show ¬ x % 2 = 1 by omega)]; simp
    · have : ¬ x % 2 = 0 := fun q => y ((pz_64' l).mpr q)
      refine h _ (fun j hj => ?_)
      rw [bz_sh1 i (by omega) j hj, decide_eq_false (show ¬ K i = 1 by omega), decide_eq_false (show ¬ K i = 6 by omega), decide_eq_true (show x % 2 = 1 by omega), decide_eq_true z, decide_eq_true h0]; simp
  refine pk_eq (K i) 6 (fun z => ?_) (fun z6 => ?_)
  · have hm6 := g3.1 (Or.inr (Or.inl z))
    have his := hs i hi (Or.inl z)
    unfold oa_B fr_S at h
    refine bz_hasb (n := i) (by omega) rfl (fun t => ⟨vi, bz_hasb (n := M i) (by omega) hm6.1 (fun t2 => ⟨vi, h _ (fun j hj => ?_)⟩) (fun t2 => h _ (fun j hj => ?_))⟩) (fun t => h _ (fun j hj => ?_))
    · rw [hpr, bz_nI (by omega), ← his.1] at t2
      rw [x2, decide_eq_true_eq] at t
      rw [b_and, t2, decide_eq_true t, decide_eq_true z, decide_eq_false (show ¬ K i = 1 by omega), decide_eq_false (show ¬ K i = 4 by omega)]; simp
    · rw [hpr, bz_nI (by omega), ← his.1] at t2
      rw [b_0, t2, decide_eq_false (show ¬ K i = 1 by omega), decide_eq_false (show ¬ K i = 4 by omega)]; simp
    · rw [x2] at t
      rw [b_0, t, decide_eq_false (show ¬ K i = 1 by omega), decide_eq_false (show ¬ K i = 4 by omega)]; simp
  · refine h _ (fun j hj => ?_)
    unfold oa_B fr_S
    rw [b_0, decide_eq_false z1, decide_eq_false z4, decide_eq_false z6]; simp
theorem xm_st {post : Int32 → Prop} {f_height f_made f_size f_on f_inFirst f_over f_instantsDone f_hadInstant f_lastPresent f_lastAbsent f_present f_absent f_startedNow f_resumedNow : Int32} {a_stack a_newKind a_newMark a_newP a_newQ a_newWithin a_kind a_mark a_partP a_partQ a_within a_mustStarted a_canStarted a_mustResumed a_canResumed : Nat → Int32} {N pr ab i : Nat} {K M P Q par d : Nat → Nat} {is : Nat → Bool} {fi : Bool} (hN : N ≤ 16) (hi : i < N) (hg : pg_X N K M P Q a_kind a_mark a_partP a_partQ)
    (ht : tb_X K M P Q pr ab (bt f_on) (ac_L f_on a_within) a_mustStarted a_canStarted a_mustResumed a_canResumed N)
    (hd : dm_W N K P Q par a_within (bt f_on) (ac_L f_on a_within) is (eS_T K M P Q pr ab) (eR_T K M P Q pr ab (bt f_on) (ac_L f_on a_within)) d fi) (h0 : d i ≠ 0) (hx : xI_W N par d i f_startedNow f_resumedNow) (hv : vs_B N par i i = true)
    (h : ∀ r, (∀ j, j < 32 → bt r j = (st_B K P d (eS_T K M P Q pr ab) (eR_T K M P Q pr ab (bt f_on) (ac_L f_on a_within)) i && bt (a_within i) j)) → post r) : wpX_stoppedBy post (f_height, f_made, f_size, f_on, f_inFirst, f_over, f_instantsDone, f_hadInstant, f_lastPresent, f_lastAbsent, f_present, f_absent, f_startedNow, f_resumedNow, a_stack, a_newKind, a_newMark, a_newP, a_newQ, a_newWithin, a_kind, a_mark, a_partP, a_partQ, a_within, a_mustStarted, a_canStarted, a_mustResumed, a_canResumed) (nI i) := by
  obtain ⟨g1, g2, g3, g4, g5, g6, g7, g8⟩ := hg i hi
  have hc : (nI i).toNatClampNeg = i := nI_clamp (by omega)
  have vi : vp_in (nI i) 16 := vp_in_nI (by omega) (by omega)
  have hno : K i ≠ 8 → K i ≠ 5 → ∀ j, j < 32 → bt 0 j = (st_B K P d (eS_T K M P Q pr ab) (eR_T K M P Q pr ab (bt f_on) (ac_L f_on a_within)) i && bt (a_within i) j) := fun a b j hj => by
    have : st_B K P d (eS_T K M P Q pr ab) (eR_T K M P Q pr ab (bt f_on) (ac_L f_on a_within)) i = false := by
      unfold st_B; rw [decide_eq_false a, decide_eq_false b]; simp
    rw [b_0, this]; rfl
  have key : ∀ c, c < N → vs_B N par i c = true → (if bt f_startedNow c = true then eS_T K M P Q pr ab c else eR_T K M P Q pr ab (bt f_on) (ac_L f_on a_within) c) = cd_E (eS_T K M P Q pr ab) (eR_T K M P Q pr ab (bt f_on) (ac_L f_on a_within)) (d c) c := by
    intro c hc hv
    have := (hx c hc).1
    rw [hv, Bool.true_and] at this
    unfold cd_E; rw [this]; simp only [decide_eq_true_eq]
  have kl : ∀ c, c < N → cd_E (eS_T K M P Q pr ab) (eR_T K M P Q pr ab (bt f_on) (ac_L f_on a_within)) (d c) c < 32 := by
    intro c hc
    unfold cd_E
    split
    · exact (tv_Sok hg pr ab true c hc).2
    · exact (tv_Rok hg pr ab _ _ true c hc).2
  have h30 : K i ≠ 8 → wX_stoppedBy_30 post (nI i) f_height f_made f_size f_on f_inFirst f_over f_instantsDone f_hadInstant f_lastPresent f_lastAbsent f_present f_absent f_startedNow f_resumedNow a_stack a_newKind a_newMark a_newP a_newQ a_newWithin a_kind a_mark a_partP a_partQ a_within a_mustStarted a_canStarted a_mustResumed a_canResumed := by
    intro z8
    unfold wX_stoppedBy_30
    rw [hc, g1]
    refine ⟨vi, pk_eq (K i) 5 (fun z => ⟨vi, ?_⟩) (fun z5 => h 0 (hno z8 z5))⟩
    have g8' := g8 (by omega)
    have hPN : P i < N := by omega
    have vP : vs_B N par i (P i) = true := by unfold vs_B; rw [hd.2.1.2.1 i hi (by omega)]; simp
    rw [g4]
    refine xm_codes hN hPN hg ht ?_
    rw [key (P i) hPN vP]
    have l := kl (P i) hPN
    unfold st_B at h
    generalize cd_E (eS_T K M P Q pr ab) (eR_T K M P Q pr ab (bt f_on) (ac_L f_on a_within)) (d (P i)) (P i) = x at l h ⊢
    refine br_c (fun y => ?_) (fun y => ⟨vi, ?_⟩)
    · have := (pz_256' l).mp y
      refine h _ (fun j hj => ?_)
      rw [b_0, decide_eq_false z8, decide_eq_false (show ¬ x / 4 % 2 = 1 by omega)]; simp
    · have : ¬ x / 4 % 2 = 0 := fun q => y ((pz_256' l).mpr q)
      refine h _ (fun j hj => ?_)
      rw [decide_eq_true z, decide_eq_true h0, decide_eq_true (show x / 4 % 2 = 1 by omega)]; simp
  unfold wpX_stoppedBy
  dsimp only
  rw [hc, g1]
  refine ⟨vi, pk_eq (K i) 8 (fun z => ?_) (fun z8 => h30 z8)⟩
  refine xm_codes hN hi hg ht ?_
  rw [key i hi hv]
  have l := kl i hi
  refine br_c (fun y => ?_) (fun y => ⟨vi, ?_⟩)
  · have y' := (pz_1792 _ l).mp y
    unfold wX_stoppedBy_30
    rw [hc, g1]
    refine ⟨vi, pk_eq (K i) 5 (fun z => absurd z (by omega)) (fun z5 => h 0 (fun j hj => ?_))⟩
    unfold st_B
    rw [b_0, decide_eq_false z5, y']; simp
  · have y' : ¬ _ := fun q => y ((pz_1792 _ l).mpr q)
    refine h _ (fun j hj => ?_)
    unfold st_B
    rw [decide_eq_true z, decide_eq_true h0, decide_eq_true y']; simp
def nx_W (N : Nat) (K P d eS eR : Nat → Nat) (is o : Nat → Bool) (w : Nat → Int32) (m : Nat) (x : Int32) : Prop := ∀ j, j < 32 → (bt x j = true ↔ ∃ k, m ≤ k ∧ k < N ∧ oa_B K P d eS eR is o w k j = true)
def sp_W (N : Nat) (K P d eS eR : Nat → Nat) (w : Nat → Int32) (m : Nat) (x : Int32) : Prop := ∀ j, j < 32 → (bt x j = true ↔ ∃ k, m ≤ k ∧ k < N ∧ st_B K P d eS eR k = true ∧ bt (w k) j = true)
theorem nx_s {N : Nat} {K P d eS eR : Nat → Nat} {is o : Nat → Bool} {w : Nat → Int32} {i : Nat} {x r : Int32} (hi : i < N) (h : nx_W N K P d eS eR is o w (i + 1) x) (hr : ∀ j, j < 32 → bt r j = oa_B K P d eS eR is o w i j) : nx_W N K P d eS eR is o w i (x ||| r) := by
  intro j hj
  rw [b_or, Bool.or_eq_true, h j hj, hr j hj]
  constructor
  · rintro (⟨k, a, b, c⟩ | c)
    · exact ⟨k, by omega, b, c⟩
    · exact ⟨i, by omega, hi, c⟩
  · rintro ⟨k, a, b, c⟩
    by_cases e : k = i
    · rw [e] at c; exact Or.inr c
    · exact Or.inl ⟨k, by omega, b, c⟩
theorem sp_s {N : Nat} {K P d eS eR : Nat → Nat} {w : Nat → Int32} {i : Nat} {x r : Int32} (hi : i < N) (h : sp_W N K P d eS eR w (i + 1) x) (hr : ∀ j, j < 32 → bt r j = (st_B K P d eS eR i && bt (w i) j)) : sp_W N K P d eS eR w i (x ||| r) := by
  intro j hj
  rw [b_or, Bool.or_eq_true, h j hj, hr j hj, Bool.and_eq_true]
  constructor
  · rintro (⟨k, a, b, c⟩ | c)
    · exact ⟨k, by omega, b, c⟩
    · exact ⟨i, by omega, hi, c⟩
  · rintro ⟨k, a, b, c⟩
    by_cases e : k = i
    · rw [e] at c; exact Or.inr c
    · exact Or.inl ⟨k, by omega, b, c⟩
theorem nx_f {N : Nat} {K P Q par : Nat → Nat} {w : Nat → Int32} {o al is fz kl : Nat → Bool} {eS eR d : Nat → Nat} {fi : Bool} (hN : N ≤ 16) (h : dm_W N K P Q par w o al is eS eR d fi) (hf : fk_W N K P par d eS eR is fz kl) {x y : Int32}
    (hx : nx_W N K P d eS eR is o w 0 x) (hy : sp_W N K P d eS eR w 0 y) : ∀ j, j < 32 → bt (x &&& (y ^^^ (-1))) j = (decide (j < N) && nw_B K P d eS eR o fz kl j) := by
  have ht := h.2.1
  have wf := h.2.2.1
  have hon := h.2.2.2.2.1
  intro j hj
  rw [b_and, b_xor, b_m1 j hj]
  by_cases hjN : j < N
  · rw [decide_eq_true hjN, Bool.true_and]
    have ex : bt x j = pr_B K P d eS eR o fz j := by
      rw [Bool.eq_iff_iff, hx j hj]
      unfold oa_B pr_B
      simp only [Bool.or_eq_true, Bool.and_eq_true, decide_eq_true_eq, fz_u ht wf hf hjN]
      constructor
      · rintro ⟨k, _, hk, (⟨⟨a, b⟩, c⟩ | ⟨⟨⟨a, b⟩, c⟩, e⟩) | ⟨⟨a, b⟩, c⟩⟩
        · rw [c]; exact Or.inl (Or.inr ⟨a, b⟩)
        · rw [e]; exact Or.inr ⟨⟨a, b⟩, c⟩
        · exact Or.inl (Or.inl ⟨b, k, hk, a, c⟩)
      · rintro ((⟨b, k, hk, a, c⟩ | ⟨a, b⟩) | ⟨⟨a, b⟩, c⟩)
        · exact ⟨k, by omega, hk, Or.inr ⟨⟨a, b⟩, c⟩⟩
        · exact ⟨j, by omega, hjN, Or.inl (Or.inl ⟨⟨a, b⟩, rfl⟩)⟩
        · exact ⟨j, by omega, hjN, Or.inl (Or.inr ⟨⟨⟨a, b⟩, c⟩, rfl⟩)⟩
    have ey : bt y j = (kl j || st_B K P d eS eR j) := by
      rw [Bool.eq_iff_iff, hy j hj, kl_u ht wf hf hjN]
      constructor
      · rintro ⟨k, _, hk⟩; exact ⟨k, hk⟩
      · rintro ⟨k, hk⟩; exact ⟨k, by omega, hk⟩
    rw [ex, ey]
    unfold nw_B
    cases q : pr_B K P d eS eR o fz j
    · rfl
    · have hk := pr_K hon q
      have : st_B K P d eS eR j = false := by
        cases q2 : st_B K P d eS eR j
        · rfl
        · have := (st_K q2).1; omega
      rw [this]; cases kl j <;> rfl
  · rw [decide_eq_false hjN, Bool.false_and]
    cases q : bt x j
    · rfl
    · exfalso
      obtain ⟨k, _, hk, hh⟩ := (hx j hj).mp q
      unfold oa_B at hh
      simp only [Bool.or_eq_true, Bool.and_eq_true, decide_eq_true_eq] at hh
      rcases hh with (⟨_, c⟩ | ⟨_, c⟩) | ⟨_, c⟩
      · omega
      · omega
      · have := tr_le ht wf k hk j c; omega
