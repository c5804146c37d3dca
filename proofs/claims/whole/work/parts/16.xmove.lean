/- X: moveOn -/
def ad_I (x : Int32) (p : Nat) : Int32 := x ||| ((1 : Int32) <<< (nI p &&& 31))
theorem ad_b {x : Int32} {p j : Nat} (hp : p < 32) (hj : j < 32) : bt (ad_I x p) j = (bt x j || decide (j = p)) := by
  unfold ad_I; rw [b_or, bz_sh1 p hp j hj]
theorem xm_start {post : SX → Prop} {f_height f_made f_size f_on f_inFirst f_over f_instantsDone f_hadInstant f_lastPresent f_lastAbsent f_present f_absent f_startedNow f_resumedNow : Int32} {a_stack a_newKind a_newMark a_newP a_newQ a_newWithin a_kind a_mark a_partP a_partQ a_within a_mustStarted a_canStarted a_mustResumed a_canResumed : Nat → Int32} {p : Nat} (h : post (f_height, f_made, f_size, f_on, f_inFirst, f_over, f_instantsDone, f_hadInstant, f_lastPresent, f_lastAbsent, f_present, f_absent, ad_I f_startedNow p, f_resumedNow, a_stack, a_newKind, a_newMark, a_newP, a_newQ, a_newWithin, a_kind, a_mark, a_partP, a_partQ, a_within, a_mustStarted, a_canStarted, a_mustResumed, a_canResumed)) : wpX_start post (f_height, f_made, f_size, f_on, f_inFirst, f_over, f_instantsDone, f_hadInstant, f_lastPresent, f_lastAbsent, f_present, f_absent, f_startedNow, f_resumedNow, a_stack, a_newKind, a_newMark, a_newP, a_newQ, a_newWithin, a_kind, a_mark, a_partP, a_partQ, a_within, a_mustStarted, a_canStarted, a_mustResumed, a_canResumed) (nI p) := nm_e h
theorem xm_res {post : SX → Prop} {f_height f_made f_size f_on f_inFirst f_over f_instantsDone f_hadInstant f_lastPresent f_lastAbsent f_present f_absent f_startedNow f_resumedNow : Int32} {a_stack a_newKind a_newMark a_newP a_newQ a_newWithin a_kind a_mark a_partP a_partQ a_within a_mustStarted a_canStarted a_mustResumed a_canResumed : Nat → Int32} {p : Nat} (hp : p < 16) (h : post (f_height, f_made, f_size, f_on, f_inFirst, f_over, f_instantsDone, f_hadInstant, f_lastPresent, f_lastAbsent, f_present, f_absent, f_startedNow, (if ac_L f_on a_within p = true then ad_I f_resumedNow p else f_resumedNow), a_stack, a_newKind, a_newMark, a_newP, a_newQ, a_newWithin, a_kind, a_mark, a_partP, a_partQ, a_within, a_mustStarted, a_canStarted, a_mustResumed, a_canResumed)) : wpX_resumeIfActive post (f_height, f_made, f_size, f_on, f_inFirst, f_over, f_instantsDone, f_hadInstant, f_lastPresent, f_lastAbsent, f_present, f_absent, f_startedNow, f_resumedNow, a_stack, a_newKind, a_newMark, a_newP, a_newQ, a_newWithin, a_kind, a_mark, a_partP, a_partQ, a_within, a_mustStarted, a_canStarted, a_mustResumed, a_canResumed) (nI p) := by
  unfold wpX_resumeIfActive
  dsimp only
  refine bz_actb hp rfl (fun t => ?_) (fun t => ?_)
  · rw [if_pos t] at h; exact nm_e h
  · rw [if_neg (by rw [t]; decide)] at h; exact h
theorem pz_1792 : ∀ c, c < 32 → ((nI (64 * c) &&& 1792) = 0 ↔ c / 4 = 0) := by decide +kernel
theorem pz_64' {c : Nat} (h : c < 32) : (nI (64 * c) &&& 64) = 0 ↔ c % 2 = 0 := pz_64 c h 0 (by decide)
theorem pz_256' {c : Nat} (h : c < 32) : (nI (64 * c) &&& 256) = 0 ↔ c / 4 % 2 = 0 := pz_256 c h 0 (by decide)
def eS_T (K M P Q : Nat → Nat) (pr ab : Nat) (j : Nat) : Nat := (tv_S K M P Q pr ab true j).2
def eR_T (K M P Q : Nat → Nat) (pr ab : Nat) (o al : Nat → Bool) (j : Nat) : Nat := (tv_R K M P Q pr ab o al true j).2
theorem xm_codes {post : Int32 → Prop} {f_height f_made f_size f_on f_inFirst f_over f_instantsDone f_hadInstant f_lastPresent f_lastAbsent f_present f_absent f_startedNow f_resumedNow : Int32} {a_stack a_newKind a_newMark a_newP a_newQ a_newWithin a_kind a_mark a_partP a_partQ a_within a_mustStarted a_canStarted a_mustResumed a_canResumed : Nat → Int32} {N pr ab c : Nat} {K M P Q : Nat → Nat} (hN : N ≤ 16) (hc : c < N) (hg : pg_X N K M P Q a_kind a_mark a_partP a_partQ) {o al : Nat → Bool} (ht : tb_X K M P Q pr ab o al a_mustStarted a_canStarted a_mustResumed a_canResumed N)
    (h : post (nI (64 * (if bt f_startedNow c = true then eS_T K M P Q pr ab c else eR_T K M P Q pr ab o al c)))) : wpX_codesNow post (f_height, f_made, f_size, f_on, f_inFirst, f_over, f_instantsDone, f_hadInstant, f_lastPresent, f_lastAbsent, f_present, f_absent, f_startedNow, f_resumedNow, a_stack, a_newKind, a_newMark, a_newP, a_newQ, a_newWithin, a_kind, a_mark, a_partP, a_partQ, a_within, a_mustStarted, a_canStarted, a_mustResumed, a_canResumed) (nI c) := by
  have cc : (nI c).toNatClampNeg = c := nI_clamp (by omega)
  have vc : vp_in (nI c) 16 := vp_in_nI (by omega) (by omega)
  obtain ⟨t1, t2, t3, t4⟩ := ht c hc
  have o1 := tv_Sok hg pr ab true c hc
  have o2 := tv_Rok hg pr ab o al true c hc
  unfold wpX_codesNow
  dsimp only
  rw [cc, t1, t3]
  refine bz_hasb (n := c) (by omega) rfl (fun t => ⟨vc, nm_e ?_⟩) (fun t => ⟨vc, nm_e ?_⟩)
  · rw [if_pos t] at h
    have := pz_1984 _ o1.2 _ o1.1
    unfold pv_k; rw [this]; exact h
  · rw [if_neg (by rw [t]; decide)] at h
    have := pz_1984 _ o2.2 _ o2.1
    unfold pv_k; rw [this]; exact h
theorem xm_sie {post : SX → Prop} {f_height f_made f_size f_on f_inFirst f_over f_instantsDone f_hadInstant f_lastPresent f_lastAbsent f_present f_absent f_startedNow f_resumedNow : Int32} {a_stack a_newKind a_newMark a_newP a_newQ a_newWithin a_kind a_mark a_partP a_partQ a_within a_mustStarted a_canStarted a_mustResumed a_canResumed : Nat → Int32} {N pr ab c q : Nat} {K M P Q : Nat → Nat} (hN : N ≤ 16) (hc : c < N) (hg : pg_X N K M P Q a_kind a_mark a_partP a_partQ) {o al : Nat → Bool} (ht : tb_X K M P Q pr ab o al a_mustStarted a_canStarted a_mustResumed a_canResumed N)
    (h : post (f_height, f_made, f_size, f_on, f_inFirst, f_over, f_instantsDone, f_hadInstant, f_lastPresent, f_lastAbsent, f_present, f_absent, (if (if bt f_startedNow c = true then eS_T K M P Q pr ab c else eR_T K M P Q pr ab o al c) % 2 = 1 then ad_I f_startedNow q else f_startedNow), f_resumedNow, a_stack, a_newKind, a_newMark, a_newP, a_newQ, a_newWithin, a_kind, a_mark, a_partP, a_partQ, a_within, a_mustStarted, a_canStarted, a_mustResumed, a_canResumed)) : wpX_startIfEnded post (f_height, f_made, f_size, f_on, f_inFirst, f_over, f_instantsDone, f_hadInstant, f_lastPresent, f_lastAbsent, f_present, f_absent, f_startedNow, f_resumedNow, a_stack, a_newKind, a_newMark, a_newP, a_newQ, a_newWithin, a_kind, a_mark, a_partP, a_partQ, a_within, a_mustStarted, a_canStarted, a_mustResumed, a_canResumed) (nI c) (nI q) := by
  have l : (if bt f_startedNow c = true then eS_T K M P Q pr ab c else eR_T K M P Q pr ab o al c) < 32 := by
    split
    · exact (tv_Sok hg pr ab true c hc).2
    · exact (tv_Rok hg pr ab o al true c hc).2
  unfold wpX_startIfEnded
  dsimp only
  refine xm_codes hN hc hg ht ?_
  generalize (if bt f_startedNow c = true then eS_T K M P Q pr ab c else eR_T K M P Q pr ab o al c) = x at l h ⊢
  refine br_c (fun z => ?_) (fun z => ?_)
  · have := (pz_64' l).mp z
    rw [if_neg (by omega)] at h; exact h
  · have : ¬ x % 2 = 0 := fun y => z ((pz_64' l).mpr y)
    rw [if_pos (by omega)] at h; exact nm_e h
/-- how the two sets grow at statement i -/
def rs_W (N : Nat) (K P Q d : Nat → Nat) (i : Nat) (S R S' R' : Int32) : Prop := ∀ c, c < N →
  bt S' c = (bt S c || (decide (4 ≤ K i) && decide (c = P i) && decide (d (P i) = 1)) || (decide (7 ≤ K i) && decide (c = Q i) && decide (d (Q i) = 1))) ∧
  bt R' c = (bt R c || (decide (4 ≤ K i) && decide (c = P i) && decide (d (P i) = 2)) || (decide (7 ≤ K i) && decide (c = Q i) && decide (d (Q i) = 2)))
def hs_W (N : Nat) (K M : Nat → Nat) (is : Nat → Bool) (pr ab : Nat) : Prop := ∀ i, i < N → K i = 6 ∨ K i = 9 → is i = pr.testBit (M i) ∧ ab.testBit (M i) = !(is i)
theorem xm_rS {post : SX → Prop} {f_height f_made f_size f_on f_inFirst f_over f_instantsDone f_hadInstant f_lastPresent f_lastAbsent f_present f_absent f_startedNow f_resumedNow : Int32} {a_stack a_newKind a_newMark a_newP a_newQ a_newWithin a_kind a_mark a_partP a_partQ a_within a_mustStarted a_canStarted a_mustResumed a_canResumed : Nat → Int32} {N pr ab i : Nat} {K M P Q par d : Nat → Nat} {is : Nat → Bool} {fi : Bool} (hN : N ≤ 16) (hi : i < N) (hg : pg_X N K M P Q a_kind a_mark a_partP a_partQ)
    (ht : tb_X K M P Q pr ab (bt f_on) (ac_L f_on a_within) a_mustStarted a_canStarted a_mustResumed a_canResumed N) (hpr : f_present = nI pr) (hs : hs_W N K M is pr ab)
    (hd : dm_W N K P Q par a_within (bt f_on) (ac_L f_on a_within) is (eS_T K M P Q pr ab) (eR_T K M P Q pr ab (bt f_on) (ac_L f_on a_within)) d fi) (h1 : d i = 1)
    (h : ∀ S', rs_W N K P Q d i f_startedNow f_resumedNow S' f_resumedNow → post (f_height, f_made, f_size, f_on, f_inFirst, f_over, f_instantsDone, f_hadInstant, f_lastPresent, f_lastAbsent, f_present, f_absent, S', f_resumedNow, a_stack, a_newKind, a_newMark, a_newP, a_newQ, a_newWithin, a_kind, a_mark, a_partP, a_partQ, a_within, a_mustStarted, a_canStarted, a_mustResumed, a_canResumed)) : wpX_runPartsOfStarted post (f_height, f_made, f_size, f_on, f_inFirst, f_over, f_instantsDone, f_hadInstant, f_lastPresent, f_lastAbsent, f_present, f_absent, f_startedNow, f_resumedNow, a_stack, a_newKind, a_newMark, a_newP, a_newQ, a_newWithin, a_kind, a_mark, a_partP, a_partQ, a_within, a_mustStarted, a_canStarted, a_mustResumed, a_canResumed) (nI i) := by
  obtain ⟨g1, g2, g3, g4, g5, g6, g7, g8⟩ := hg i hi
  have hc : (nI i).toNatClampNeg = i := nI_clamp (by omega)
  have vi : vp_in (nI i) 16 := vp_in_nI (by omega) (by omega)
  unfold wpX_runPartsOfStarted
  dsimp only
  rw [hc, g1, g4, g5]
  refine ⟨vi, nm_e ⟨vi, nm_e ⟨vi, nm_e ?_⟩⟩⟩
  refine pk_lt (K i) 4 (fun z => ?_) (fun k4 => ?_)
  · refine h _ (fun c _ => ?_)
    rw [decide_eq_false (show ¬ 4 ≤ K i by omega), decide_eq_false (show ¬ 7 ≤ K i by omega)]
    simp
  have g8' := g8 k4
  have hP := dm_P hd hi k4
  rw [h1] at hP
  refine pk_lt 9 (K i) (fun z => absurd z (by omega)) (fun _ => ?_)
  have one : d (P i) = 1 → K i < 7 → ∀ c, c < N → bt (ad_I f_startedNow (P i)) c = (bt f_startedNow c || (decide (4 ≤ K i) && decide (c = P i) && decide (d (P i) = 1)) || (decide (7 ≤ K i) && decide (c = Q i) && decide (d (Q i) = 1))) ∧ bt f_resumedNow c = (bt f_resumedNow c || (decide (4 ≤ K i) && decide (c = P i) && decide (d (P i) = 2)) || (decide (7 ≤ K i) && decide (c = Q i) && decide (d (Q i) = 2))) := by
    intro e k7 c hc
    rw [ad_b (by omega) (by omega), e, decide_eq_true k4, decide_eq_false (show ¬ 7 ≤ K i by omega)]
    simp
  refine pk_eq (K i) 4 (fun z => ?_) (fun z4 => ?_)
  · refine xm_start (h _ (one ?_ (by omega)))
    rw [hP]; unfold wy_P; rw [if_neg (by decide), if_pos z]; split <;> rfl
  refine pk_eq (K i) 5 (fun z => ?_) (fun z5 => ?_)
  · refine xm_start (h _ (one ?_ (by omega)))
    rw [hP]; unfold wy_P; rw [if_neg (by decide), if_neg (by omega), if_pos z]
  refine pk_eq (K i) 6 (fun z => ?_) (fun z6 => ?_)
  · refine xm_start (h _ (one ?_ (by omega)))
    rw [hP]; unfold wy_P; rw [if_neg (by decide), if_neg (by omega), if_neg (by omega), if_pos z, if_neg (by simp)]
  have k7 : 7 ≤ K i := by omega
  have hQ := dm_Q hd hi k7
  rw [h1] at hQ
  refine pk_eq (K i) 7 (fun z => ?_) (fun z7 => ?_)
  · have dP : d (P i) = 1 := by rw [hP]; unfold wy_P; rw [if_neg (by decide), if_neg (by omega), if_neg (by omega), if_neg (by omega), if_pos (Or.inl z), if_pos (Or.inl rfl)]
    rw [dP] at hQ
    have hs2 : bt (ad_I f_startedNow (P i)) (P i) = true := by rw [ad_b (by omega) (by omega)]; simp
    refine xm_start (xm_sie hN (show P i < N by omega) hg ht (h _ (fun c hc => ?_)))
    rw [if_pos hs2]
    unfold wy_Q at hQ
    rw [if_neg (by decide), if_pos z, if_neg (by simp)] at hQ
    have e : cd_E (eS_T K M P Q pr ab) (eR_T K M P Q pr ab (bt f_on) (ac_L f_on a_within)) 1 (P i) = eS_T K M P Q pr ab (P i) := rfl
    rw [e] at hQ
    by_cases y : eS_T K M P Q pr ab (P i) % 2 = 1
    · rw [decide_eq_true y, if_pos rfl] at hQ
      rw [if_pos y, ad_b (by omega) (by omega), ad_b (by omega) (by omega), dP, hQ, decide_eq_true k4, decide_eq_true k7]
      simp
    · rw [decide_eq_false y, if_neg (by decide)] at hQ
      rw [if_neg y, ad_b (by omega) (by omega), dP, hQ, decide_eq_true k4, decide_eq_true k7]
      simp
  refine pk_eq (K i) 8 (fun z => ?_) (fun z8 => ?_)
  · have dP : d (P i) = 1 := by rw [hP]; unfold wy_P; rw [if_neg (by decide), if_neg (by omega), if_neg (by omega), if_neg (by omega), if_pos (Or.inr z), if_pos (Or.inl rfl)]
    have dQ : d (Q i) = 1 := by rw [hQ]; unfold wy_Q; rw [if_neg (by decide), if_neg (by omega), if_pos z, if_pos (Or.inl rfl)]
    refine xm_start (xm_start (h _ (fun c hc => ?_)))
    rw [ad_b (by omega) (by omega), ad_b (by omega) (by omega), dP, dQ, decide_eq_true k4, decide_eq_true k7]
    simp
  refine pk_eq (K i) 9 (fun z => ⟨vi, ?_⟩) (fun z9 => trivial)
  have hm9 := g3.1 (Or.inr (Or.inr z))
  have his := hs i hi (Or.inr z)
  unfold wy_P at hP
  unfold wy_Q at hQ
  rw [if_neg (by decide), if_neg (by omega), if_neg (by omega), if_neg (by omega), if_neg (by omega), if_pos rfl] at hP
  rw [if_neg (by decide), if_neg (by omega), if_neg (by omega), if_pos rfl] at hQ
  refine bz_hasb (n := M i) (by omega) hm9.1 (fun t => ?_) (fun t => ?_)
  · rw [hpr, bz_nI (by omega), ← his.1] at t
    rw [t, if_pos rfl] at hP hQ
    refine xm_start (h _ (fun c hc => ?_))
    rw [ad_b (by omega) (by omega), hP, hQ, decide_eq_true k4, decide_eq_true k7]
    simp
  · rw [hpr, bz_nI (by omega), ← his.1] at t
    rw [t, if_neg (by decide)] at hP hQ
    refine xm_start (h _ (fun c hc => ?_))
    rw [ad_b (by omega) (by omega), hP, hQ, decide_eq_true k4, decide_eq_true k7]
    simp
theorem xm_rR {post : SX → Prop} {f_height f_made f_size f_on f_inFirst f_over f_instantsDone f_hadInstant f_lastPresent f_lastAbsent f_present f_absent f_startedNow f_resumedNow : Int32} {a_stack a_newKind a_newMark a_newP a_newQ a_newWithin a_kind a_mark a_partP a_partQ a_within a_mustStarted a_canStarted a_mustResumed a_canResumed : Nat → Int32} {N pr ab i : Nat} {K M P Q par d : Nat → Nat} {is : Nat → Bool} {fi : Bool} (hN : N ≤ 16) (hi : i < N) (hg : pg_X N K M P Q a_kind a_mark a_partP a_partQ)
    (ht : tb_X K M P Q pr ab (bt f_on) (ac_L f_on a_within) a_mustStarted a_canStarted a_mustResumed a_canResumed N) (hab : f_absent = nI ab) (hs : hs_W N K M is pr ab)
    (hd : dm_W N K P Q par a_within (bt f_on) (ac_L f_on a_within) is (eS_T K M P Q pr ab) (eR_T K M P Q pr ab (bt f_on) (ac_L f_on a_within)) d fi) (h2 : d i = 2) (hSP : 4 ≤ K i → bt f_startedNow (P i) = false)
    (h : ∀ S' R', rs_W N K P Q d i f_startedNow f_resumedNow S' R' → post (f_height, f_made, f_size, f_on, f_inFirst, f_over, f_instantsDone, f_hadInstant, f_lastPresent, f_lastAbsent, f_present, f_absent, S', R', a_stack, a_newKind, a_newMark, a_newP, a_newQ, a_newWithin, a_kind, a_mark, a_partP, a_partQ, a_within, a_mustStarted, a_canStarted, a_mustResumed, a_canResumed)) : wpX_runPartsOfResumed post (f_height, f_made, f_size, f_on, f_inFirst, f_over, f_instantsDone, f_hadInstant, f_lastPresent, f_lastAbsent, f_present, f_absent, f_startedNow, f_resumedNow, a_stack, a_newKind, a_newMark, a_newP, a_newQ, a_newWithin, a_kind, a_mark, a_partP, a_partQ, a_within, a_mustStarted, a_canStarted, a_mustResumed, a_canResumed) (nI i) := by
  obtain ⟨g1, g2, g3, g4, g5, g6, g7, g8⟩ := hg i hi
  have hc : (nI i).toNatClampNeg = i := nI_clamp (by omega)
  have vi : vp_in (nI i) 16 := vp_in_nI (by omega) (by omega)
  unfold wpX_runPartsOfResumed
  dsimp only
  rw [hc, g1, g4, g5]
  refine ⟨vi, nm_e ⟨vi, nm_e ⟨vi, nm_e ?_⟩⟩⟩
  refine pk_lt (K i) 4 (fun z => ?_) (fun k4 => ?_)
  · refine h _ _ (fun c _ => ?_)
    rw [decide_eq_false (show ¬ 4 ≤ K i by omega), decide_eq_false (show ¬ 7 ≤ K i by omega)]
    simp
  have g8' := g8 k4
  have hP := dm_P hd hi k4
  rw [h2] at hP
  have aP2 := dm_al hd _ (P i) rfl (show P i < N by omega)
  have aQ2 := dm_al hd _ (Q i) rfl (show Q i < N by omega)
  refine pk_lt 9 (K i) (fun z => absurd z (by omega)) (fun _ => ?_)
  have hQP := hd.2.1.2.2.2.2.2 i hi
  refine pk_eq (K i) 4 (fun z => ?_) (fun z4 => ?_)
  · unfold wy_P at hP
    rw [if_neg (by decide), if_pos z] at hP
    refine bz_hasb (n := i) (by omega) rfl (fun t => ?_) (fun t => ?_)
    · rw [if_pos t] at hP
      refine xm_start (h _ _ (fun c hc => ?_))
      rw [ad_b (by omega) (by omega), hP, decide_eq_true k4, decide_eq_false (show ¬ 7 ≤ K i by omega)]
      simp
    · rw [if_neg (by rw [t]; decide)] at hP
      refine xm_res g6 (h _ _ (fun c hc => ?_))
      rw [if_pos (aP2 hP), ad_b (by omega) (by omega), hP, decide_eq_true k4, decide_eq_false (show ¬ 7 ≤ K i by omega)]
      simp
  refine pk_eq (K i) 5 (fun z => ?_) (fun z5 => ?_)
  · unfold wy_P at hP
    rw [if_neg (by decide), if_neg (by omega), if_pos z] at hP
    rw [hQP (by omega)]
    refine xm_res g6 (xm_res g6 (h _ _ (fun c hc => ?_)))
    rw [if_pos (aP2 hP), if_pos (aP2 hP), ad_b (by omega) (by omega), ad_b (by omega) (by omega), hP, decide_eq_true k4, decide_eq_false (show ¬ 7 ≤ K i by omega)]
    simp [Bool.or_assoc]
  refine pk_eq (K i) 6 (fun z => ⟨vi, ?_⟩) (fun z6 => ?_)
  · have hm6 := g3.1 (Or.inr (Or.inl z))
    have his := hs i hi (Or.inl z)
    unfold wy_P at hP
    rw [if_neg (by decide), if_neg (by omega), if_neg (by omega), if_pos z] at hP
    refine bz_hasb (n := M i) (by omega) hm6.1 (fun t => ?_) (fun t => ?_)
    · rw [hab, bz_nI (by omega), his.2] at t
      have t' : is i = false := by cases hh : is i; rfl; rw [hh] at t; cases t
      rw [t', if_neg (by simp)] at hP
      refine xm_res g6 (h _ _ (fun c hc => ?_))
      rw [if_pos (aP2 hP), ad_b (by omega) (by omega), hP, decide_eq_true k4, decide_eq_false (show ¬ 7 ≤ K i by omega)]
      simp
    · rw [hab, bz_nI (by omega), his.2] at t
      have t' : is i = true := by cases hh : is i; rw [hh] at t; cases t; rfl
      rw [t', if_pos (by simp)] at hP
      refine h _ _ (fun c hc => ?_)
      rw [hP, decide_eq_true k4, decide_eq_false (show ¬ 7 ≤ K i by omega)]
      simp
  have k7 : 7 ≤ K i := by omega
  have hQ := dm_Q hd hi k7
  rw [h2] at hQ
  have hI2 := hd.2.2.2.2.2.2.1 i hi
  refine pk_eq (K i) 7 (fun z => ?_) (fun z7 => ?_)
  · unfold wy_P at hP
    unfold wy_Q at hQ
    rw [if_neg (by decide), if_neg (by omega), if_neg (by omega), if_neg (by omega), if_pos (Or.inl z)] at hP
    rw [if_neg (by decide), if_pos z] at hQ
    cases aP : ac_L f_on a_within (P i)
    · rw [aP, if_neg (by simp)] at hP
      rw [aP, if_pos (by simp)] at hQ
      refine xm_res g7 (bz_actb g6 rfl (fun t => absurd t (by rw [aP]; decide)) (fun t => h _ _ (fun c hc => ?_)))
      rw [if_pos (aQ2 hQ), ad_b (by omega) (by omega), hP, hQ, decide_eq_true k4, decide_eq_true k7]
      simp
    · rw [aP, if_pos (by simp)] at hP
      rw [aP, if_neg (by simp), hP] at hQ
      have aQ : ac_L f_on a_within (Q i) = false := by
        cases hh : ac_L f_on a_within (Q i)
        · rfl
        · exact absurd hh (fun hh => hI2 (Or.inl z) aP hh)
      have e : cd_E (eS_T K M P Q pr ab) (eR_T K M P Q pr ab (bt f_on) (ac_L f_on a_within)) 2 (P i) = eR_T K M P Q pr ab (bt f_on) (ac_L f_on a_within) (P i) := rfl
      rw [e] at hQ
      refine xm_res g7 (bz_actb g6 rfl (fun t => xm_res g6 (xm_sie hN (show P i < N by omega) hg ht (h _ _ (fun c hc => ?_)))) (fun t => absurd t (by rw [aP]; decide)))
      rw [aP, aQ, if_pos rfl, if_neg (show ¬ (false = true) by decide), if_neg (show ¬ bt f_startedNow (P i) = true by rw [hSP k4]; decide)]
      by_cases y : eR_T K M P Q pr ab (bt f_on) (ac_L f_on a_within) (P i) % 2 = 1
      · rw [decide_eq_true y, if_pos rfl] at hQ
        rw [if_pos y, ad_b (by omega) (by omega), ad_b (by omega) (by omega), hP, hQ, decide_eq_true k4, decide_eq_true k7]
        simp
      · rw [decide_eq_false y, if_neg (by decide)] at hQ
        rw [if_neg y, ad_b (by omega) (by omega), hP, hQ, decide_eq_true k4, decide_eq_true k7]
        simp
  have two : ∀ c, c < N → d (P i) ≠ 1 → d (Q i) ≠ 1 → (ac_L f_on a_within (P i) = true ↔ d (P i) = 2) → (ac_L f_on a_within (Q i) = true ↔ d (Q i) = 2) →
      bt f_startedNow c = (bt f_startedNow c || (decide (4 ≤ K i) && decide (c = P i) && decide (d (P i) = 1)) || (decide (7 ≤ K i) && decide (c = Q i) && decide (d (Q i) = 1))) ∧
      bt (if ac_L f_on a_within (Q i) = true then ad_I (if ac_L f_on a_within (P i) = true then ad_I f_resumedNow (P i) else f_resumedNow) (Q i) else (if ac_L f_on a_within (P i) = true then ad_I f_resumedNow (P i) else f_resumedNow)) c = (bt f_resumedNow c || (decide (4 ≤ K i) && decide (c = P i) && decide (d (P i) = 2)) || (decide (7 ≤ K i) && decide (c = Q i) && decide (d (Q i) = 2))) := by
    intro c hc n1 n2 e1 e2
    rw [decide_eq_true k4, decide_eq_true k7, decide_eq_false n1, decide_eq_false n2]
    refine ⟨by simp, ?_⟩
    by_cases y1 : ac_L f_on a_within (P i) = true <;> by_cases y2 : ac_L f_on a_within (Q i) = true
    · rw [if_pos y1, if_pos y2, ad_b (by omega) (by omega), ad_b (by omega) (by omega), decide_eq_true (e1.mp y1), decide_eq_true (e2.mp y2)]
      simp
    · rw [if_pos y1, if_neg y2, ad_b (by omega) (by omega), decide_eq_true (e1.mp y1), decide_eq_false (fun q => y2 (e2.mpr q))]
      simp
    · rw [if_neg y1, if_pos y2, ad_b (by omega) (by omega), decide_eq_true (e2.mp y2), decide_eq_false (fun q => y1 (e1.mpr q))]
      simp
    · rw [if_neg y1, if_neg y2, decide_eq_false (fun q => y1 (e1.mpr q)), decide_eq_false (fun q => y2 (e2.mpr q))]
      simp
  refine pk_eq (K i) 8 (fun z => ?_) (fun z8 => ?_)
  · refine xm_res g6 (xm_res g7 (h _ _ (fun c hc => ?_)))
    unfold wy_P at hP
    unfold wy_Q at hQ
    rw [if_neg (by decide), if_neg (by omega), if_neg (by omega), if_neg (by omega), if_pos (Or.inr z)] at hP
    rw [if_neg (by decide), if_neg (by omega), if_pos z] at hQ
    refine two c hc ?_ ?_ ?_ ?_
    · rw [hP]; split <;> decide
    · rw [hQ]; split <;> decide
    · rw [hP]; cases ac_L f_on a_within (P i) <;> simp
    · rw [hQ]; cases ac_L f_on a_within (Q i) <;> simp
  refine pk_eq (K i) 9 (fun z => ?_) (fun z9 => trivial)
  refine xm_res g6 (xm_res g7 (h _ _ (fun c hc => ?_)))
  unfold wy_P at hP
  unfold wy_Q at hQ
  rw [if_neg (by decide), if_neg (by omega), if_neg (by omega), if_neg (by omega), if_neg (by omega), if_neg (show ¬ 2 = 1 by decide)] at hP
  rw [if_neg (by decide), if_neg (by omega), if_neg (by omega), if_neg (show ¬ 2 = 1 by decide)] at hQ
  refine two c hc ?_ ?_ ?_ ⟨fun aQ => ?_, aQ2⟩
  · rw [hP]; split <;> decide
  · rw [hQ]; split <;> decide
  · rw [hP]; cases ac_L f_on a_within (P i) <;> simp
  · rw [hQ]
    rw [if_neg (fun aP => hI2 (Or.inr z) aP aQ)]
