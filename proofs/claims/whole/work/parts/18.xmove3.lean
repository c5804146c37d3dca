/- X: the loop of moveOn, moveOn -/
theorem xm_94 {post : SX → Prop} {J : Int32 → Int32 → Int32 → Int32 → Int32 → Int32 → Int32 → Int32 → Int32 → Int32 → Int32 → Int32 → Int32 → Int32 → Int32 → Int32 → Int32 → (Nat → Int32) → (Nat → Int32) → (Nat → Int32) → (Nat → Int32) → (Nat → Int32) → (Nat → Int32) → (Nat → Int32) → (Nat → Int32) → (Nat → Int32) → (Nat → Int32) → (Nat → Int32) → (Nat → Int32) → (Nat → Int32) → (Nat → Int32) → (Nat → Int32) → Prop}
    {f_height f_made f_size f_on f_inFirst f_over f_instantsDone f_hadInstant f_lastPresent f_lastAbsent f_present f_absent f_startedNow f_resumedNow : Int32} {a_stack a_newKind a_newMark a_newP a_newQ a_newWithin a_kind a_mark a_partP a_partQ a_within a_mustStarted a_canStarted a_mustResumed a_canResumed : Nat → Int32} {x2 x3 : Int32} {N pr ab i : Nat} {K M P Q par d : Nat → Nat} {is : Nat → Bool} {fi : Bool} (hN : N ≤ 16) (hi : i < N) (hg : pg_X N K M P Q a_kind a_mark a_partP a_partQ)
    (ht : tb_X K M P Q pr ab (bt f_on) (ac_L f_on a_within) a_mustStarted a_canStarted a_mustResumed a_canResumed N) (hpr : f_present = nI pr) (hs : hs_W N K M is pr ab)
    (hd : dm_W N K P Q par a_within (bt f_on) (ac_L f_on a_within) is (eS_T K M P Q pr ab) (eR_T K M P Q pr ab (bt f_on) (ac_L f_on a_within)) d fi) (hx : xI_W N par d i f_startedNow f_resumedNow) (hv : vs_B N par i i = true)
    (hnx : nx_W N K P d (eS_T K M P Q pr ab) (eR_T K M P Q pr ab (bt f_on) (ac_L f_on a_within)) is (bt f_on) a_within (i + 1) x2)
    (hsp : sp_W N K P d (eS_T K M P Q pr ab) (eR_T K M P Q pr ab (bt f_on) (ac_L f_on a_within)) a_within (i + 1) x3)
    (h : ∀ x2 x3, nx_W N K P d (eS_T K M P Q pr ab) (eR_T K M P Q pr ab (bt f_on) (ac_L f_on a_within)) is (bt f_on) a_within i x2 → sp_W N K P d (eS_T K M P Q pr ab) (eR_T K M P Q pr ab (bt f_on) (ac_L f_on a_within)) a_within i x3 → J x2 x3 (nI i + (-1)) f_height f_made f_size f_on f_inFirst f_over f_instantsDone f_hadInstant f_lastPresent f_lastAbsent f_present f_absent f_startedNow f_resumedNow a_stack a_newKind a_newMark a_newP a_newQ a_newWithin a_kind a_mark a_partP a_partQ a_within a_mustStarted a_canStarted a_mustResumed a_canResumed) :
    wX_moveOn_94 post J x2 x3 (nI i) f_height f_made f_size f_on f_inFirst f_over f_instantsDone f_hadInstant f_lastPresent f_lastAbsent f_present f_absent f_startedNow f_resumedNow a_stack a_newKind a_newMark a_newP a_newQ a_newWithin a_kind a_mark a_partP a_partQ a_within a_mustStarted a_canStarted a_mustResumed a_canResumed := by
  obtain ⟨y1, y2⟩ := hx i hi
  rw [hv, Bool.true_and] at y1 y2
  refine bz_hasb (n := i) (by omega) rfl (fun t => ?_) (fun t => nm_e (h _ _ ?_ ?_))
  · have h0 : d i ≠ 0 := by
      intro z
      rw [b_or, y1, y2, z] at t
      simp at t
    refine xm_on hN hi hg ht hpr hs hd h0 hx hv (fun r hr => nm_e ?_)
    refine xm_st hN hi hg ht hd h0 hx hv (fun r' hr' => nm_e (nm_e (h _ _ (nx_s hi hnx hr) (sp_s hi hsp hr'))))
  · have h0 : d i = 0 := by
      have := dm_012 hd _ i rfl hi
      rw [b_or, y1, y2, Bool.or_eq_false_iff, decide_eq_false_iff_not, decide_eq_false_iff_not] at t
      omega
    have e : oa_B K P d (eS_T K M P Q pr ab) (eR_T K M P Q pr ab (bt f_on) (ac_L f_on a_within)) is (bt f_on) a_within i = fun _ => false := by
      funext j
      unfold oa_B fr_S; rw [h0]; simp
    have := nx_s (r := 0) hi hnx (fun j hj => by rw [e, b_0])
    rw [Int32.or_zero] at this; exact this
  · have h0 : d i = 0 := by
      have := dm_012 hd _ i rfl hi
      rw [b_or, y1, y2, Bool.or_eq_false_iff, decide_eq_false_iff_not, decide_eq_false_iff_not] at t
      omega
    have e : st_B K P d (eS_T K M P Q pr ab) (eR_T K M P Q pr ab (bt f_on) (ac_L f_on a_within)) i = false := by
      unfold st_B; rw [h0]; simp
    have := sp_s (r := 0) hi hsp (fun j hj => by rw [e, b_0]; rfl)
    rw [Int32.or_zero] at this; exact this
theorem vs_i {N : Nat} {K P Q par : Nat → Nat} {w : Nat → Int32} (ht : tr_P N K P Q par w) {i m : Nat} (hi : i < N) (hm : m ≤ i + 1) : vs_B N par m i = true := by
  unfold vs_B
  simp only [Bool.or_eq_true, decide_eq_true_eq]
  by_cases e : i + 1 < N
  · have := (ht.1 i e).1; exact Or.inr (by omega)
  · exact Or.inl (by omega)
theorem vs_c {N : Nat} {K P Q par : Nat → Nat} {w : Nat → Int32} (ht : tr_P N K P Q par w) (wf : wf_P N K P Q) {i : Nat} (hi : i < N) (h4 : 4 ≤ K i) : vs_B N par (i + 1) (P i) = false := by
  have := (wf i hi h4).1
  unfold vs_B
  rw [ht.2.1 i hi h4, decide_eq_false (show ¬ P i + 1 = N by omega), decide_eq_false (show ¬ i + 1 ≤ i by omega)]; rfl
theorem xm_50 {post : SX → Prop} {f_height f_made f_size f_on f_inFirst f_over f_instantsDone f_hadInstant f_lastPresent f_lastAbsent f_present f_absent : Int32} {a_stack a_newKind a_newMark a_newP a_newQ a_newWithin a_kind a_mark a_partP a_partQ a_within a_mustStarted a_canStarted a_mustResumed a_canResumed : Nat → Int32} {N pr ab : Nat} {K M P Q par d : Nat → Nat} {is fz kl : Nat → Bool} {fi : Bool} (hN : N ≤ 16) (hg : pg_X N K M P Q a_kind a_mark a_partP a_partQ)
    (ht : tb_X K M P Q pr ab (bt f_on) (ac_L f_on a_within) a_mustStarted a_canStarted a_mustResumed a_canResumed N) (hpr : f_present = nI pr) (hab : f_absent = nI ab) (hs : hs_W N K M is pr ab)
    (hd : dm_W N K P Q par a_within (bt f_on) (ac_L f_on a_within) is (eS_T K M P Q pr ab) (eR_T K M P Q pr ab (bt f_on) (ac_L f_on a_within)) d fi)
    (hf : fk_W N K P par d (eS_T K M P Q pr ab) (eR_T K M P Q pr ab (bt f_on) (ac_L f_on a_within)) is fz kl)
    (h : ∀ x S R, (∀ j, j < 32 → bt x j = (decide (j < N) && nw_B K P d (eS_T K M P Q pr ab) (eR_T K M P Q pr ab (bt f_on) (ac_L f_on a_within)) (bt f_on) fz kl j)) → post (f_height, f_made, f_size, x, 0, f_over, f_instantsDone, f_hadInstant, f_lastPresent, f_lastAbsent, f_present, f_absent, S, R, a_stack, a_newKind, a_newMark, a_newP, a_newQ, a_newWithin, a_kind, a_mark, a_partP, a_partQ, a_within, a_mustStarted, a_canStarted, a_mustResumed, a_canResumed)) :
    ∀ m S R x2 x3, m ≤ N → xI_W N par d m S R → nx_W N K P d (eS_T K M P Q pr ab) (eR_T K M P Q pr ab (bt f_on) (ac_L f_on a_within)) is (bt f_on) a_within m x2 → sp_W N K P d (eS_T K M P Q pr ab) (eR_T K M P Q pr ab (bt f_on) (ac_L f_on a_within)) a_within m x3 →
    wX_moveOn_50 post (m + 1) x2 x3 (nI m + (-1)) f_height f_made f_size f_on f_inFirst f_over f_instantsDone f_hadInstant f_lastPresent f_lastAbsent f_present f_absent S R a_stack a_newKind a_newMark a_newP a_newQ a_newWithin a_kind a_mark a_partP a_partQ a_within a_mustStarted a_canStarted a_mustResumed a_canResumed := by
  have htr := hd.2.1
  have wf := hd.2.2.1
  intro m
  induction m with
  | zero =>
    intro S R x2 x3 _ hx hnx hsp
    exact br_t (by decide) (nm_e (h _ S R (nx_f hN hd hf hnx hsp)))
  | succ i ih =>
    intro S R x2 x3 hm hx hnx hsp
    have hi : i < N := by omega
    have hv1 := vs_i (m := i + 1) htr hi (by omega)
    have hv0 := vs_i (m := i) htr hi (by omega)
    obtain ⟨y1, y2⟩ := hx i hi
    rw [hv1, Bool.true_and] at y1 y2
    rw [pk_m1]
    refine br_f (nI_pos (by omega)) ?_
    have fin : ∀ S' R', xI_W N par d i S' R' → wX_moveOn_94 post (wX_moveOn_50 post (i + 1)) x2 x3 (nI i) f_height f_made f_size f_on f_inFirst f_over f_instantsDone f_hadInstant f_lastPresent f_lastAbsent f_present f_absent S' R' a_stack a_newKind a_newMark a_newP a_newQ a_newWithin a_kind a_mark a_partP a_partQ a_within a_mustStarted a_canStarted a_mustResumed a_canResumed := by
      intro S' R' hx'
      exact xm_94 hN hi hg ht hpr hs hd hx' hv0 hnx hsp (fun x2 x3 a b => ih S' R' x2 x3 (by omega) hx' a b)
    refine bz_hasb (n := i) (by omega) rfl (fun t => ?_) (fun t => ?_)
    · rw [y1, decide_eq_true_eq] at t
      exact xm_rS hN hi hg ht hpr hs hd t (fun S' hr => fin S' R (xI_s htr wf hi hx hr))
    · rw [y1, decide_eq_false_iff_not] at t
      refine bz_hasb (n := i) (by omega) rfl (fun t2 => ?_) (fun t2 => ?_)
      · rw [y2, decide_eq_true_eq] at t2
        refine xm_rR hN hi hg ht hab hs hd t2 (fun h4 => ?_) (fun S' R' hr => fin S' R' (xI_s htr wf hi hx hr))
        have := (hx (P i) (by have := (wf i hi h4).1; omega)).1
        rw [vs_c htr wf hi h4] at this
        rw [this]; rfl
      · rw [y2, decide_eq_false_iff_not] at t2
        have h0 : d i = 0 := by have := dm_012 hd _ i rfl hi; omega
        refine fin S R (xI_s htr wf hi hx (fun c hc => ?_))
        have eP : 4 ≤ K i → d (P i) = 0 := fun h4 => by rw [dm_P hd hi h4, h0]; rfl
        have eQ : 7 ≤ K i → d (Q i) = 0 := fun h7 => by rw [dm_Q hd hi h7, h0]; rfl
        by_cases h4 : 4 ≤ K i <;> by_cases h7 : 7 ≤ K i
        · rw [eP h4, eQ h7]; simp
        · rw [eP h4, decide_eq_false h7]; simp
        · omega
        · rw [decide_eq_false h4, decide_eq_false h7]; simp
theorem xm_p {post : SX → Prop} {f_height f_made f_size f_on f_inFirst f_over f_instantsDone f_hadInstant f_lastPresent f_lastAbsent f_present f_absent f_startedNow f_resumedNow : Int32} {a_stack a_newKind a_newMark a_newP a_newQ a_newWithin a_kind a_mark a_partP a_partQ a_within a_mustStarted a_canStarted a_mustResumed a_canResumed : Nat → Int32} {N pr ab : Nat} {K M P Q par d : Nat → Nat} {is fz kl : Nat → Bool} {fi : Bool} (hN : N ≤ 16) (hsz : f_size = nI N) (hfi : f_inFirst = bo_I fi) (hg : pg_X N K M P Q a_kind a_mark a_partP a_partQ)
    (ht : tb_X K M P Q pr ab (bt f_on) (ac_L f_on a_within) a_mustStarted a_canStarted a_mustResumed a_canResumed N) (hpr : f_present = nI pr) (hab : f_absent = nI ab) (hs : hs_W N K M is pr ab)
    (hd : dm_W N K P Q par a_within (bt f_on) (ac_L f_on a_within) is (eS_T K M P Q pr ab) (eR_T K M P Q pr ab (bt f_on) (ac_L f_on a_within)) d fi)
    (hf : fk_W N K P par d (eS_T K M P Q pr ab) (eR_T K M P Q pr ab (bt f_on) (ac_L f_on a_within)) is fz kl)
    (h : ∀ x S R, (∀ j, j < 32 → bt x j = (decide (j < N) && nw_B K P d (eS_T K M P Q pr ab) (eR_T K M P Q pr ab (bt f_on) (ac_L f_on a_within)) (bt f_on) fz kl j)) → post (f_height, f_made, f_size, x, 0, f_over, f_instantsDone, f_hadInstant, f_lastPresent, f_lastAbsent, f_present, f_absent, S, R, a_stack, a_newKind, a_newMark, a_newP, a_newQ, a_newWithin, a_kind, a_mark, a_partP, a_partQ, a_within, a_mustStarted, a_canStarted, a_mustResumed, a_canResumed)) : wpX_moveOn post (f_height, f_made, f_size, f_on, f_inFirst, f_over, f_instantsDone, f_hadInstant, f_lastPresent, f_lastAbsent, f_present, f_absent, f_startedNow, f_resumedNow, a_stack, a_newKind, a_newMark, a_newP, a_newQ, a_newWithin, a_kind, a_mark, a_partP, a_partQ, a_within, a_mustStarted, a_canStarted, a_mustResumed, a_canResumed) := by
  have hN1 := hd.1
  have htr := hd.2.1
  have hd0 := hd.2.2.2.2.2.2.2.2.1
  have hz : nI N - 1 = nI (N - 1) := pk_sub (a := N) (b := 1) hN1
  have hz2 : nI N + (-1) = nI (N - 1) := by
    have := pk_m1 (N - 1)
    rw [show N - 1 + 1 = N by omega] at this; exact this
  have n0 : nx_W N K P d (eS_T K M P Q pr ab) (eR_T K M P Q pr ab (bt f_on) (ac_L f_on a_within)) is (bt f_on) a_within N 0 := by
    intro j hj; rw [b_0]
    constructor
    · intro z; cases z
    · rintro ⟨k, a, b, _⟩; omega
  have s0 : sp_W N K P d (eS_T K M P Q pr ab) (eR_T K M P Q pr ab (bt f_on) (ac_L f_on a_within)) a_within N 0 := by
    intro j hj; rw [b_0]
    constructor
    · intro z; cases z
    · rintro ⟨k, a, b, _⟩; omega
  have hvN : ∀ c, c < N → vs_B N par N c = decide (c = N - 1) := by
    intro c hc
    unfold vs_B
    by_cases e : c + 1 < N
    · have := (htr.1 c e).2.1
      rw [decide_eq_false (show ¬ c + 1 = N by omega), decide_eq_false (show ¬ N ≤ par c by omega), decide_eq_false (show ¬ c = N - 1 by omega)]; rfl
    · rw [decide_eq_true (show c + 1 = N by omega), decide_eq_true (show c = N - 1 by omega)]; rfl
  have x1 : fi = true → xI_W N par d N ((1 : Int32) <<< (nI (N - 1) &&& 31)) 0 := by
    intro e c hc
    rw [e, if_pos rfl] at hd0
    rw [bz_sh1 (N - 1) (by omega) c (by omega), b_0, hvN c hc]
    by_cases z : c = N - 1
    · rw [z, hd0]; simp
    · simp [z]
  have x2 : fi = false → xI_W N par d N 0 ((1 : Int32) <<< (nI (N - 1) &&& 31)) := by
    intro e c hc
    rw [e, if_neg (by decide)] at hd0
    rw [bz_sh1 (N - 1) (by omega) c (by omega), b_0, hvN c hc]
    by_cases z : c = N - 1
    · rw [z, hd0]; simp
    · simp [z]
  unfold wpX_moveOn
  dsimp only
  rw [hsz]
  refine nm_r hz ?_
  rw [hfi]
  have hcase : ∀ S R, xI_W N par d N S R → wX_moveOn_50 post (N + 1) 0 0 (nI (N - 1)) f_height f_made (nI N) f_on (bo_I fi) f_over f_instantsDone f_hadInstant f_lastPresent f_lastAbsent f_present f_absent S R a_stack a_newKind a_newMark a_newP a_newQ a_newWithin a_kind a_mark a_partP a_partQ a_within a_mustStarted a_canStarted a_mustResumed a_canResumed := by
    intro S R hx
    have := xm_50 (f_inFirst := f_inFirst) hN hg ht hpr hab hs hd hf h N S R 0 0 (by omega) hx n0 s0
    rw [hz2, hsz, hfi] at this
    exact this
  refine bo_br fi (fun z => ?_) (fun z => ?_)
  · refine br_t (by rw [z]; rfl) (nm_e ⟨N + 1, ?_⟩)
    exact hcase _ _ (x2 z)
  · refine br_f (by rw [z]; decide) ⟨N + 1, ?_⟩
    exact hcase _ _ (x1 z)
