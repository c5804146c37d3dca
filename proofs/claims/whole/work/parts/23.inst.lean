/- one instant, on each side -/
def pr_W (N : Nat) (K M P Q par ar : Nat → Nat) (kX mX pX qX wX kY mY pY qY : Nat → Int32) : Prop := 1 ≤ N ∧ N ≤ 16 ∧ pg_X N K M P Q kX mX pX qX ∧ pg_Y N K M P Q kY mY pY qY ∧ tr_P N K P Q par wX ∧ ar_W N K M P Q ar
def on_R (N : Nat) (K P Q : Nat → Nat) (x : Int32) (w b : Nat → Int32) : Prop := (∀ j, j < 16 → b j = bo_I (bt x j)) ∧ (∀ i, bt x i = true → i < N ∧ (K i = 1 ∨ K i = 4)) ∧ (∀ i, i < N → K i = 7 ∨ K i = 9 → ac_L x w (P i) = true → ac_L x w (Q i) = true → False)
theorem on_RW {N : Nat} {K M P Q par ar : Nat → Nat} {kX mX pX qX wX kY mY pY qY b : Nat → Int32} {x : Int32} (h : pr_W N K M P Q par ar kX mX pX qX wX kY mY pY qY) (ho : on_R N K P Q x wX b) : on_W N K P Q (bt x) (ac_L x wX) :=
  ⟨fun _ hi => tr_al h.2.2.2.2.1 h.2.1 x hi, ho.2.1⟩
/-- the ghosts of an instant -/
theorem gh_x {N pr ab : Nat} {K M P Q par ar : Nat → Nat} {kX mX pX qX wX kY mY pY qY b : Nat → Int32} {x : Int32} {fi : Bool} (h : pr_W N K M P Q par ar kX mX pX qX wX kY mY pY qY) (ho : on_R N K P Q x wX b) (hr : fi = false → ac_L x wX (N - 1) = true) :
    ∃ d fz kl, dm_W N K P Q par wX (bt x) (ac_L x wX) (is_T M pr) (eS_T K M P Q pr ab) (eR_T K M P Q pr ab (bt x) (ac_L x wX)) d fi ∧ fk_W N K P par d (eS_T K M P Q pr ab) (eR_T K M P Q pr ab (bt x) (ac_L x wX)) (is_T M pr) fz kl := by
  have hon := on_RW h ho
  obtain ⟨h1, h16, hx, hy, ht, ha⟩ := h
  have hp : ∀ c, c + 1 < N → c < par c := fun c hc => (ht.1 c hc).1
  obtain ⟨d, d0, d1⟩ := dn_x (N := N) (par := par) (fun c w => if c = P (par c) then wy_P (K (par c)) (bt x (par c)) (ac_L x wX c) (is_T M pr (par c)) w else wy_Q (K (par c)) (ac_L x wX (P (par c))) (ac_L x wX c) (is_T M pr (par c)) (decide (cd_E (eS_T K M P Q pr ab) (eR_T K M P Q pr ab (bt x) (ac_L x wX)) (wy_P (K (par c)) (bt x (par c)) (ac_L x wX (P (par c))) (is_T M pr (par c)) w) (P (par c)) % 2 = 1)) w) (if fi = true then 1 else 2) h1 hp
  obtain ⟨fz, f0, f1⟩ := dn_x (N := N) (par := par) (fun c b => fr_S K d (is_T M pr) c || b) (fr_S K d (is_T M pr) (N - 1)) h1 hp
  obtain ⟨kl, k0, k1⟩ := dn_x (N := N) (par := par) (fun c b => b || st_B K P d (eS_T K M P Q pr ab) (eR_T K M P Q pr ab (bt x) (ac_L x wX)) (par c)) false h1 hp
  refine ⟨d, fz, kl, ⟨h1, ht, pg_wf hx, fun i hi => (hx i hi).2.1, hon, hr, ho.2.2, fun i hi => ?_, d0, d1⟩, f0, f1, k0, k1⟩
  rw [ac_ex]
  constructor
  · rintro ⟨j, _, a, b⟩; exact ⟨j, a, b⟩
  · rintro ⟨j, a, b⟩
    refine ⟨j, ?_, a, b⟩
    rcases Nat.lt_or_ge j 32 with q | q
    · exact q
    · rw [b_big q] at a; cases a
/-- what holds of the new set -/
theorem on_N {N pr ab : Nat} {K M P Q par ar : Nat → Nat} {kX mX pX qX wX kY mY pY qY B : Nat → Int32} {x x' : Int32} {fi : Bool} {d : Nat → Nat} {fz kl : Nat → Bool} (h : pr_W N K M P Q par ar kX mX pX qX wX kY mY pY qY) (hs : hs_W N K M (is_T M pr) pr ab)
    (hd : dm_W N K P Q par wX (bt x) (ac_L x wX) (is_T M pr) (eS_T K M P Q pr ab) (eR_T K M P Q pr ab (bt x) (ac_L x wX)) d fi) (hf : fk_W N K P par d (eS_T K M P Q pr ab) (eR_T K M P Q pr ab (bt x) (ac_L x wX)) (is_T M pr) fz kl)
    (hx : ∀ j, j < 32 → bt x' j = (decide (j < N) && nw_B K P d (eS_T K M P Q pr ab) (eR_T K M P Q pr ab (bt x) (ac_L x wX)) (bt x) fz kl j))
    (hB : ∀ j, j < 16 → B j = bo_I (decide (j < N) && nw_B K P d (eS_T K M P Q pr ab) (eR_T K M P Q pr ab (bt x) (ac_L x wX)) (bt x) fz kl j)) :
    on_R N K P Q x' wX B ∧ ((rt_v K M P Q N (bt x) (ac_L x wX) fi true pr ab).2 % 2 ≠ 1 → ac_L x' wX (N - 1) = true) := by
  obtain ⟨h1, h16, hgx, hy, ht, ha⟩ := h
  have hce := kn_ce hgx (bt x) (ac_L x wX) hs
  have lt32 : ∀ {y : Int32} {j : Nat}, bt y j = true → j < 32 := by
    intro y j q
    rcases Nat.lt_or_ge j 32 with q2 | q2
    · exact q2
    · rw [b_big q2] at q; cases q
  have hn : ∀ j, bt x' j = true → j < N ∧ nw_B K P d (eS_T K M P Q pr ab) (eR_T K M P Q pr ab (bt x) (ac_L x wX)) (bt x) fz kl j = true := by
    intro j q
    rw [hx j (lt32 q), Bool.and_eq_true, decide_eq_true_eq] at q
    exact q
  refine ⟨⟨fun j hj => by rw [hB j hj, hx j (by omega)], fun i q => ?_, fun i hi hk a b => ?_⟩, fun hne => ?_⟩
  · have := hn i q
    refine ⟨this.1, ?_⟩
    have h2 := this.2
    unfold nw_B at h2
    rw [Bool.and_eq_true] at h2
    exact pr_K hd.2.2.2.2.1 h2.1
  · rw [ac_ex] at a b
    obtain ⟨j, _, j1, j2⟩ := a
    obtain ⟨j', _, j3, j4⟩ := b
    exact i2_N hd hf hce ha hi hk (hn j j1).2 j2 (hn j' j3).2 j4
  · have hc1 : cd_E (eS_T K M P Q pr ab) (eR_T K M P Q pr ab (bt x) (ac_L x wX)) (d (N - 1)) (N - 1) ≠ 1 := by
      intro e
      apply hne
      have hd0 := hd.2.2.2.2.2.2.2.2.1
      rw [hd0] at e
      unfold rt_v
      cases fi
      · have : (tv_R K M P Q pr ab (bt x) (ac_L x wX) true (N - 1)).2 = 1 := e
        show (tv_R K M P Q pr ab (bt x) (ac_L x wX) true (N - 1)).2 % 2 = 1
        rw [this]
      · have : (tv_S K M P Q pr ab true (N - 1)).2 = 1 := e
        show (tv_S K M P Q pr ab true (N - 1)).2 % 2 = 1
        rw [this]
    obtain ⟨j, j1, j2⟩ := i3_N hd hf hce ha hc1
    have hjN : j < N := by have := tr_le ht (pg_wf hgx) (N - 1) (by omega) j j2; omega
    rw [ac_ex]
    exact ⟨j, by omega, by rw [hx j (by omega), j1, decide_eq_true hjN]; rfl, j2⟩
theorem rt_dj {N pr ab inp : Nat} {K M P Q : Nat → Nat} {kX mX pX qX : Nat → Int32} {o al : Nat → Bool} {fi : Bool} (hx : pg_X N K M P Q kX mX pX qX) (h1 : 1 ≤ N) (hi : inp < 64) (hpa : (pr, ab) = fx_r (rt_m K M P Q N o al fi) (rt_c K M P Q N o al fi) 7 inp 0) : pr < 64 ∧ ab < 64 ∧ dj_N pr ab := by
  have e1 := fx_64 (rt_m K M P Q N o al fi) (rt_c K M P Q N o al fi) 7 inp 0 hi (by decide)
  have e2 := fx_dj (rm := rt_m K M P Q N o al fi) (rc := rt_c K M P Q N o al fi) (fun pr ab => rt_S hx h1 o al fi pr ab) (fun pr ab => (rt_ok hx h1 o al fi false pr ab).1) 7 inp 0 hi (by decide) (fun i _ b => by rw [Nat.zero_testBit] at b; cases b)
  rw [← hpa] at e1 e2
  exact ⟨e1.1, e1.2, e2⟩
theorem xt_tick {post : Int32 → SX → Prop} {f_height f_made f_size f_on f_inFirst f_over f_instantsDone f_hadInstant f_lastPresent f_lastAbsent f_present f_absent f_startedNow f_resumedNow : Int32} {a_stack a_newKind a_newMark a_newP a_newQ a_newWithin a_kind a_mark a_partP a_partQ a_within a_mustStarted a_canStarted a_mustResumed a_canResumed : Nat → Int32} {N pr ab inp : Nat} {K M P Q par d : Nat → Nat} {fz kl : Nat → Bool} {fi : Bool} {e : Int32} (hi : inp < 64) (he : e &&& 63 = nI inp) (hN : N ≤ 16) (hN1 : 1 ≤ N) (hs : f_size = nI N) (hfi : f_inFirst = bo_I fi) (hov : f_over = 0) (hg : pg_X N K M P Q a_kind a_mark a_partP a_partQ)
    (hpa : (pr, ab) = fx_r (rt_m K M P Q N (bt f_on) (ac_L f_on a_within) fi) (rt_c K M P Q N (bt f_on) (ac_L f_on a_within) fi) 7 inp 0)
    (hgh : (pr ||| ab) = 63 → dm_W N K P Q par a_within (bt f_on) (ac_L f_on a_within) (is_T M pr) (eS_T K M P Q pr ab) (eR_T K M P Q pr ab (bt f_on) (ac_L f_on a_within)) d fi ∧ fk_W N K P par d (eS_T K M P Q pr ab) (eR_T K M P Q pr ab (bt f_on) (ac_L f_on a_within)) (is_T M pr) fz kl)
    (h2 : oc_V K M P Q N (bt f_on) (ac_L f_on a_within) fi pr ab = 2 → ∀ ms cs mr cr, post 2 (f_height, f_made, f_size, f_on, f_inFirst, f_over, f_instantsDone, 1, nI pr, nI ab, nI pr, nI ab, f_startedNow, f_resumedNow, a_stack, a_newKind, a_newMark, a_newP, a_newQ, a_newWithin, a_kind, a_mark, a_partP, a_partQ, a_within, ms, cs, mr, cr))
    (h : (pr ||| ab) = 63 → ∀ x S R ms cs mr cr, (∀ j, j < 32 → bt x j = (decide (j < N) && nw_B K P d (eS_T K M P Q pr ab) (eR_T K M P Q pr ab (bt f_on) (ac_L f_on a_within)) (bt f_on) fz kl j)) → post (nI (oc_V K M P Q N (bt f_on) (ac_L f_on a_within) fi pr ab)) (f_height, f_made, f_size, x, 0, bo_I (decide (oc_V K M P Q N (bt f_on) (ac_L f_on a_within) fi pr ab = 0)), f_instantsDone + 1, 1, nI pr, nI ab, nI pr, nI ab, S, R, a_stack, a_newKind, a_newMark, a_newP, a_newQ, a_newWithin, a_kind, a_mark, a_partP, a_partQ, a_within, ms, cs, mr, cr)) :
    wpX_tick post (f_height, f_made, f_size, f_on, f_inFirst, f_over, f_instantsDone, f_hadInstant, f_lastPresent, f_lastAbsent, f_present, f_absent, f_startedNow, f_resumedNow, a_stack, a_newKind, a_newMark, a_newP, a_newQ, a_newWithin, a_kind, a_mark, a_partP, a_partQ, a_within, a_mustStarted, a_canStarted, a_mustResumed, a_canResumed) e := by
  obtain ⟨l1, l2, l3⟩ := rt_dj hg hN1 hi hpa
  unfold wpX_tick
  dsimp only
  refine br_t hov ?_
  refine xf_p hi he hN hN1 hs hfi hg rfl rfl (fun pr' ab' ms cs mr cr hpa' ht => ?_)
  rw [← hpa, Prod.mk.injEq] at hpa'
  obtain ⟨rfl, rfl⟩ := hpa'
  refine xo_out hN hN1 hs hfi l1 l2 hg ht ?_
  have loc : oc_V K M P Q N (bt f_on) (ac_L f_on a_within) fi pr' ab' ≤ 2 := by unfold oc_V; split <;> (try split) <;> omega
  refine pk_eq (oc_V K M P Q N (bt f_on) (ac_L f_on a_within) fi pr' ab') 2 (fun z => ?_) (fun z => ?_)
  · have := h2 z ms cs mr cr
    rw [z]; exact this
  · have hk : (pr' ||| ab') = 63 := by
      apply Classical.byContradiction
      intro q
      apply z
      unfold oc_V; rw [if_neg q]
    obtain ⟨hd, hf⟩ := hgh hk
    refine xm_p hN hs hfi hg ht rfl rfl (kn_hs hg l3 hk) hd hf (fun x S R hx => ?_)
    have hh := h hk x S R ms cs mr cr hx
    refine pk_eq (oc_V K M P Q N (bt f_on) (ac_L f_on a_within) fi pr' ab') 0 (fun y => ?_) (fun y => ?_)
    · rw [decide_eq_true y] at hh
      exact ⟨rfl, rfl, nm_e hh⟩
    · rw [decide_eq_false y] at hh
      exact ⟨rfl, rfl, nm_e hh⟩
theorem yt_tick {post : Int32 → SY → Prop} {g_made g_depth g_size g_begun g_over g_ticks g_present g_absent g_any g_lastPresent g_lastAbsent : Int32} {b_sorts b_numbers b_firsts b_seconds b_stack b_around b_on b_alive b_mustEmit b_canEmit b_mustEnd b_canEnd b_done b_frozen b_killed b_after : Nat → Int32} {N pr ab inp : Nat} {K M P Q par d : Nat → Nat} {w : Nat → Int32} {o al fz kl : Nat → Bool} {fi : Bool} {e : Int32} {kX mX pX qX : Nat → Int32} (hgx : pg_X N K M P Q kX mX pX qX) (hi : inp < 64) (he : e &&& 63 = nI inp) (hN : N ≤ 16) (hN1 : 1 ≤ N) (hs : g_size = nI N) (hb : g_begun = bo_I (!fi)) (hov : g_over = 0) (hg : pg_Y N K M P Q b_sorts b_numbers b_firsts b_seconds)
    (hon : on_W N K P Q o al) (ho : ∀ j, j < 16 → b_on j = bo_I (o j)) (hra : fi = false → al (N - 1) = true)
    (hpa : (pr, ab) = fx_r (rt_m K M P Q N o al fi) (rt_c K M P Q N o al fi) 7 inp 0)
    (hgh : (pr ||| ab) = 63 → dm_W N K P Q par w o al (is_T M pr) (eS_T K M P Q pr ab) (eR_T K M P Q pr ab o al) d fi ∧ fk_W N K P par d (eS_T K M P Q pr ab) (eR_T K M P Q pr ab o al) (is_T M pr) fz kl)
    (h2 : oc_V K M P Q N o al fi pr ab = 2 → ∀ A me ce mn cn, post 2 (g_made, g_depth, g_size, g_begun, g_over, g_ticks, nI pr, nI ab, 1, nI pr, nI ab, b_sorts, b_numbers, b_firsts, b_seconds, b_stack, b_around, b_on, A, me, ce, mn, cn, b_done, b_frozen, b_killed, b_after))
    (h : oc_V K M P Q N o al fi pr ab ≠ 2 → ∀ A me ce mn cn D F L A' B, (∀ j, j < 16 → B j = bo_I (decide (j < N) && nw_B K P d (eS_T K M P Q pr ab) (eR_T K M P Q pr ab o al) o fz kl j)) → post (nI (oc_V K M P Q N o al fi pr ab)) (g_made, g_depth, g_size, 1, bo_I (decide (oc_V K M P Q N o al fi pr ab = 0)), g_ticks + 1, nI pr, nI ab, 1, nI pr, nI ab, b_sorts, b_numbers, b_firsts, b_seconds, b_stack, b_around, B, A, me, ce, mn, cn, D, F, L, A')) :
    wpY_tick post (g_made, g_depth, g_size, g_begun, g_over, g_ticks, g_present, g_absent, g_any, g_lastPresent, g_lastAbsent, b_sorts, b_numbers, b_firsts, b_seconds, b_stack, b_around, b_on, b_alive, b_mustEmit, b_canEmit, b_mustEnd, b_canEnd, b_done, b_frozen, b_killed, b_after) e := by
  obtain ⟨l1, l2, l3⟩ := rt_dj hgx hN1 hi hpa
  unfold wpY_tick
  dsimp only
  refine br_t hov ?_
  refine yf_p hi he hN hN1 hs hb hg hon ho hra rfl rfl (fun pr' ab' A me ce mn cn hpa' hA ht => ?_)
  rw [← hpa, Prod.mk.injEq] at hpa'
  obtain ⟨rfl, rfl⟩ := hpa'
  refine yo_out hN hN1 l1 l2 ht hra ?_
  have loc : oc_V K M P Q N o al fi pr' ab' ≤ 2 := by unfold oc_V; split <;> (try split) <;> omega
  refine pk_eq (oc_V K M P Q N o al fi pr' ab') 2 (fun z => ?_) (fun z => ?_)
  · have := h2 z A me ce mn cn
    rw [z]; exact this
  · have hk : (pr' ||| ab') = 63 := by
      apply Classical.byContradiction
      intro q
      apply z
      unfold oc_V; rw [if_neg q]
    obtain ⟨hd, hf⟩ := hgh hk
    refine yn_p hN hs hb hg ht ho hA (kn_hs hgx l3 hk) hd hf (fun D F L A' B hB => ?_)
    have hh := h z A me ce mn cn D F L A' B hB
    refine pk_eq (oc_V K M P Q N o al fi pr' ab') 0 (fun y => ?_) (fun y => ?_)
    · rw [decide_eq_true y] at hh
      exact hh
    · rw [decide_eq_false y] at hh
      exact hh
