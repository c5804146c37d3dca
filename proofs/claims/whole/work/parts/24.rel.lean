/- the relation -/
def ch_W (K P Q : Nat → Nat) (i c : Nat) : Prop := (4 ≤ K i ∧ c = P i) ∨ (7 ≤ K i ∧ c = Q i)
def bu_W (m h : Nat) (K M P Q sk : Nat → Nat) (nk nm np nq nw bs bn bf bc xs ys : Nat → Int32) : Prop :=
  m ≤ 16 ∧ h ≤ m ∧ (h = 0 → m = 0) ∧ pg_X m K M P Q nk nm np nq ∧ pg_Y m K M P Q (fun i => bs (16 + i)) (fun i => bn (16 + i)) (fun i => bf (16 + i)) (fun i => bc (16 + i)) ∧
  (∀ j, j < h → xs j = nI (sk j) ∧ ys j = nI (sk j) ∧ sk j < m) ∧ (∀ i j, i < h → j < h → sk i = sk j → i = j) ∧ (0 < h → sk (h - 1) + 1 = m) ∧
  (∀ i, i < m → ∀ j, bt (nw i) j = (decide (j = i) || (decide (4 ≤ K i) && bt (nw (P i)) j) || (decide (7 ≤ K i) && bt (nw (Q i)) j))) ∧
  (∀ i, i < m → K i < 7 → Q i = P i) ∧ (∀ i, i < m → 7 ≤ K i → Q i ≠ P i) ∧
  (∀ j, j < h → ∀ k, k < m → bt (nw k) (sk j) = true → k = sk j) ∧
  (∀ c, c < m → (∃ j, j < h ∧ sk j = c) ∨ ∃ i, i < m ∧ ch_W K P Q i c) ∧
  (∀ i, i < m → ∀ c, ch_W K P Q i c → ∀ k, k < m → k ≠ c → bt (nw k) c = bt (nw k) i)
def rb_W (f_height f_made : Int32) (a_stack a_newKind a_newMark a_newP a_newQ a_newWithin : Nat → Int32) (g_made g_depth : Int32) (b_sorts b_numbers b_firsts b_seconds b_stack : Nat → Int32) : Prop :=
  ∃ m h K M P Q sk, f_made = nI m ∧ g_made = nI m ∧ f_height = nI h ∧ g_depth = nI h ∧ bu_W m h K M P Q sk a_newKind a_newMark a_newP a_newQ a_newWithin b_sorts b_numbers b_firsts b_seconds a_stack b_stack
def rp_W (f_size f_on f_inFirst f_over : Int32) (a_kind a_mark a_partP a_partQ a_within : Nat → Int32) (g_size g_begun g_over : Int32) (b_sorts b_numbers b_firsts b_seconds b_on : Nat → Int32) : Prop :=
  ∃ N K M P Q par ar fi ov, f_size = nI N ∧ g_size = nI N ∧ f_inFirst = bo_I fi ∧ g_begun = bo_I (!fi) ∧ f_over = bo_I ov ∧ g_over = bo_I ov ∧ pr_W N K M P Q par ar a_kind a_mark a_partP a_partQ a_within b_sorts b_numbers b_firsts b_seconds ∧ on_R N K P Q f_on a_within b_on ∧ (fi = false → ov = false → ac_L f_on a_within (N - 1) = true)
def rh_W (f_hadInstant f_lastPresent f_lastAbsent g_any g_lastPresent g_lastAbsent : Int32) : Prop := (∃ hb, f_hadInstant = bo_I hb ∧ g_any = bo_I hb) ∧ f_lastPresent = g_lastPresent ∧ f_lastAbsent = g_lastAbsent
/-- the relation at the head of a turn -/
def i_Rel (_ : Nat) (u : SX) (v : SY) : Prop := match u, v with
  | (f_height, f_made, f_size, f_on, f_inFirst, f_over, f_instantsDone, f_hadInstant, f_lastPresent, f_lastAbsent, f_present, f_absent, f_startedNow, f_resumedNow, a_stack, a_newKind, a_newMark, a_newP, a_newQ, a_newWithin, a_kind, a_mark, a_partP, a_partQ, a_within, a_mustStarted, a_canStarted, a_mustResumed, a_canResumed), (g_made, g_depth, g_size, g_begun, g_over, g_ticks, g_present, g_absent, g_any, g_lastPresent, g_lastAbsent, b_sorts, b_numbers, b_firsts, b_seconds, b_stack, b_around, b_on, b_alive, b_mustEmit, b_canEmit, b_mustEnd, b_canEnd, b_done, b_frozen, b_killed, b_after) =>
    rp_W f_size f_on f_inFirst f_over a_kind a_mark a_partP a_partQ a_within g_size g_begun g_over b_sorts b_numbers b_firsts b_seconds b_on ∧
    rb_W f_height f_made a_stack a_newKind a_newMark a_newP a_newQ a_newWithin g_made g_depth b_sorts b_numbers b_firsts b_seconds b_stack ∧
    f_instantsDone = g_ticks ∧ rh_W f_hadInstant f_lastPresent f_lastAbsent g_any g_lastPresent g_lastAbsent
theorem i_up {k : Nat} {u : SX} {v : SY} (h : i_Rel k u v) : i_Rel (k + 3) u v := h
theorem bu_0 {nk nm np nq nw bs bn bf bc xs ys : Nat → Int32} : bu_W 0 0 (fun _ => 0) (fun _ => 0) (fun _ => 0) (fun _ => 0) (fun _ => 0) nk nm np nq nw bs bn bf bc xs ys :=
  ⟨by omega, by omega, fun _ => rfl, fun i hi => absurd hi (by omega), fun i hi => absurd hi (by omega), fun j hj => absurd hj (by omega), fun i j hi => absurd hi (by omega), fun h => absurd h (by omega), fun i hi => absurd hi (by omega), fun i hi => absurd hi (by omega), fun i hi => absurd hi (by omega), fun j hj => absurd hj (by omega), fun c hc => absurd hc (by omega), fun i hi => absurd hi (by omega)⟩
theorem rb_0 {a_stack a_newKind a_newMark a_newP a_newQ a_newWithin b_sorts b_numbers b_firsts b_seconds b_stack : Nat → Int32} : rb_W 0 0 a_stack a_newKind a_newMark a_newP a_newQ a_newWithin 0 0 b_sorts b_numbers b_firsts b_seconds b_stack :=
  ⟨0, 0, _, _, _, _, _, nI_0.symm, nI_0.symm, nI_0.symm, nI_0.symm, bu_0⟩
theorem on_0 {N : Nat} {K P Q : Nat → Nat} {w b : Nat → Int32} (h : ∀ j, j < 16 → b j = 0) : on_R N K P Q 0 w b := by
  refine ⟨fun j hj => ?_, fun i q => ?_, fun i _ _ q => ?_⟩
  · rw [h j hj, b_0]; rfl
  · rw [b_0] at q; cases q
  · rw [ac_ex] at q
    obtain ⟨j, _, q, _⟩ := q
    rw [b_0] at q; cases q
theorem i_vc0 : wpX_init (fun u => wpY_init (fun v => i_Rel 0 u v)) := by
  refine nm_e (nm_e ?_)
  refine ⟨⟨1, fun _ => 0, fun _ => 0, fun _ => 0, fun _ => 0, fun _ => 0, fun _ => 0, true, false, by decide, by decide, rfl, rfl, rfl, rfl, ⟨by omega, by omega, ?_, ?_, ?_, ?_⟩, on_0 (fun _ _ => rfl), fun h => by cases h⟩, rb_0, rfl, ⟨false, rfl, rfl⟩, rfl, rfl⟩
  · intro i hi
    have : i = 0 := by omega
    subst this
    exact ⟨by decide, by decide, ⟨fun h => absurd h (by decide), fun h => absurd h (by decide)⟩, by decide, by decide, by decide, by decide, fun h => absurd h (by decide)⟩
  · intro i hi
    have : i = 0 := by omega
    subst this
    exact ⟨by decide, by decide, ⟨fun h => absurd h (by decide), fun h => absurd h (by decide)⟩, by decide, by decide, by decide, by decide, fun h => absurd h (by decide)⟩
  · refine ⟨fun c hc => by omega, fun i hi h4 => absurd (show 4 ≤ 0 from h4) (by decide), fun i hi h7 => absurd (show 7 ≤ 0 from h7) (by decide), fun c hc => by omega, fun i hi j => ?_, fun i hi h => rfl⟩
    have : i = 0 := by omega
    subst this
    show bt (upd (fun _ => 0) 0 1 0) j = _
    rw [pk_us]
    rcases Nat.lt_or_ge j 32 with q | q
    · rw [bz_one j q]; simp
    · rw [b_big q, decide_eq_false (show ¬ j = 0 by omega)]; simp
  · exact ⟨rfl, fun i hi h => absurd (show 4 ≤ 0 from h) (by decide), fun i hi h => rfl, fun i hi h => absurd (show 0 = 3 from h) (by decide)⟩
theorem i_vc_depth {k : Nat} {u : SX} {v : SY} (I : i_Rel k u v) (hk : k + 3 ≤ 1536) : wpX_depth (fun r => wpY_depth (fun r' => r' = r ∧ i_Rel (k + 3) u v) v) u := by
  obtain ⟨f_height, f_made, f_size, f_on, f_inFirst, f_over, f_instantsDone, f_hadInstant, f_lastPresent, f_lastAbsent, f_present, f_absent, f_startedNow, f_resumedNow, a_stack, a_newKind, a_newMark, a_newP, a_newQ, a_newWithin, a_kind, a_mark, a_partP, a_partQ, a_within, a_mustStarted, a_canStarted, a_mustResumed, a_canResumed⟩ := u
  obtain ⟨g_made, g_depth, g_size, g_begun, g_over, g_ticks, g_present, g_absent, g_any, g_lastPresent, g_lastAbsent, b_sorts, b_numbers, b_firsts, b_seconds, b_stack, b_around, b_on, b_alive, b_mustEmit, b_canEmit, b_mustEnd, b_canEnd, b_done, b_frozen, b_killed, b_after⟩ := v
  obtain ⟨hp, ⟨m, h, K, M, P, Q, sk, e1, e2, e3, e4, hb⟩, ht, hh⟩ := I
  exact ⟨e4.trans e3.symm, hp, ⟨m, h, K, M, P, Q, sk, e1, e2, e3, e4, hb⟩, ht, hh⟩
theorem i_vc_discard {k : Nat} {u : SX} {v : SY} (I : i_Rel k u v) (hk : k + 3 ≤ 1536) : wpX_discard (fun r u' => wpY_discard (fun r' v' => r' = r ∧ i_Rel (k + 3) u' v') v) u := by
  obtain ⟨f_height, f_made, f_size, f_on, f_inFirst, f_over, f_instantsDone, f_hadInstant, f_lastPresent, f_lastAbsent, f_present, f_absent, f_startedNow, f_resumedNow, a_stack, a_newKind, a_newMark, a_newP, a_newQ, a_newWithin, a_kind, a_mark, a_partP, a_partQ, a_within, a_mustStarted, a_canStarted, a_mustResumed, a_canResumed⟩ := u
  obtain ⟨g_made, g_depth, g_size, g_begun, g_over, g_ticks, g_present, g_absent, g_any, g_lastPresent, g_lastAbsent, b_sorts, b_numbers, b_firsts, b_seconds, b_stack, b_around, b_on, b_alive, b_mustEmit, b_canEmit, b_mustEnd, b_canEnd, b_done, b_frozen, b_killed, b_after⟩ := v
  obtain ⟨hp, ⟨m, h, K, M, P, Q, sk, e1, e2, e3, e4, hb⟩, ht, hh⟩ := I
  exact ⟨e4.trans e3.symm, hp, rb_0, ht, hh⟩
theorem i_vc_ended {k : Nat} {u : SX} {v : SY} (I : i_Rel k u v) (hk : k + 3 ≤ 1536) : wpX_ended (fun r => wpY_ended (fun r' => r' = r ∧ i_Rel (k + 3) u v) v) u := by
  obtain ⟨f_height, f_made, f_size, f_on, f_inFirst, f_over, f_instantsDone, f_hadInstant, f_lastPresent, f_lastAbsent, f_present, f_absent, f_startedNow, f_resumedNow, a_stack, a_newKind, a_newMark, a_newP, a_newQ, a_newWithin, a_kind, a_mark, a_partP, a_partQ, a_within, a_mustStarted, a_canStarted, a_mustResumed, a_canResumed⟩ := u
  obtain ⟨g_made, g_depth, g_size, g_begun, g_over, g_ticks, g_present, g_absent, g_any, g_lastPresent, g_lastAbsent, b_sorts, b_numbers, b_firsts, b_seconds, b_stack, b_around, b_on, b_alive, b_mustEmit, b_canEmit, b_mustEnd, b_canEnd, b_done, b_frozen, b_killed, b_after⟩ := v
  have I' := I
  obtain ⟨⟨N, K, M, P, Q, par, ar, fi, ov, e1, e2, e3, e4, e5, e6, _⟩, _⟩ := I
  subst e5 e6
  exact bo_br ov (fun z => br_t (by rw [z]; rfl) ⟨rfl, I'⟩) (fun z => br_f (by rw [z]; decide) ⟨rfl, I'⟩)
theorem i_vc_instants {k : Nat} {u : SX} {v : SY} (I : i_Rel k u v) (hk : k + 3 ≤ 1536) : wpX_instants (fun r => wpY_instants (fun r' => r' = r ∧ i_Rel (k + 3) u v) v) u := by
  obtain ⟨f_height, f_made, f_size, f_on, f_inFirst, f_over, f_instantsDone, f_hadInstant, f_lastPresent, f_lastAbsent, f_present, f_absent, f_startedNow, f_resumedNow, a_stack, a_newKind, a_newMark, a_newP, a_newQ, a_newWithin, a_kind, a_mark, a_partP, a_partQ, a_within, a_mustStarted, a_canStarted, a_mustResumed, a_canResumed⟩ := u
  obtain ⟨g_made, g_depth, g_size, g_begun, g_over, g_ticks, g_present, g_absent, g_any, g_lastPresent, g_lastAbsent, b_sorts, b_numbers, b_firsts, b_seconds, b_stack, b_around, b_on, b_alive, b_mustEmit, b_canEmit, b_mustEnd, b_canEnd, b_done, b_frozen, b_killed, b_after⟩ := v
  exact ⟨I.2.2.1.symm, I⟩
theorem i_vc_status {k : Nat} {u : SX} {v : SY} (I : i_Rel k u v) (hk : k + 3 ≤ 1536) (v1 : Int32) : wpX_status (fun r => wpY_status (fun r' => r' = r ∧ i_Rel (k + 3) u v) v v1) u v1 := by
  obtain ⟨f_height, f_made, f_size, f_on, f_inFirst, f_over, f_instantsDone, f_hadInstant, f_lastPresent, f_lastAbsent, f_present, f_absent, f_startedNow, f_resumedNow, a_stack, a_newKind, a_newMark, a_newP, a_newQ, a_newWithin, a_kind, a_mark, a_partP, a_partQ, a_within, a_mustStarted, a_canStarted, a_mustResumed, a_canResumed⟩ := u
  obtain ⟨g_made, g_depth, g_size, g_begun, g_over, g_ticks, g_present, g_absent, g_any, g_lastPresent, g_lastAbsent, b_sorts, b_numbers, b_firsts, b_seconds, b_stack, b_around, b_on, b_alive, b_mustEmit, b_canEmit, b_mustEnd, b_canEnd, b_done, b_frozen, b_killed, b_after⟩ := v
  have I' := I
  obtain ⟨_, _, _, ⟨hb, e1, e2⟩, e3, e4⟩ := I
  subst e1 e2 e3 e4
  refine bo_br hb (fun z => br_t (by rw [z]; rfl) ⟨rfl, I'⟩) (fun z => ?_)
  have hne : ¬ bo_I hb = 0 := by rw [z]; decide
  rcases pk_ix v1 (n := 6) (by decide) with q | q | ⟨j, hj, rfl⟩
  · exact br_t q (br_t rfl (br_f hne (br_t q (br_f (by decide) ⟨rfl, I'⟩))))
  · have q0 : ¬ v1 < 0 := by
      intro h0
      rw [Int32.lt_iff_toInt_lt] at h0
      rw [Int32.le_iff_toInt_le, nI_toInt (by decide)] at q
      have : (0 : Int32).toInt = 0 := by decide
      omega
    have q5 : ¬ v1 ≤ 5 := by
      intro h0
      rw [Int32.le_iff_toInt_le] at h0 q
      rw [nI_toInt (by decide)] at q
      have : (5 : Int32).toInt = 5 := by decide
      omega
    exact br_f q0 (br_t q (br_t rfl (br_f hne (br_f q0 (br_f q5 (br_f (by decide) ⟨rfl, I'⟩))))))
  · have q0 : ¬ nI j < 0 := nI_pos (by omega)
    have q6 : ¬ (6 : Int32) ≤ nI j := nI_ge (b := 6) (by omega) (by decide)
    have q5 : nI j ≤ 5 := nI_le (b := 5) (by omega) (by decide)
    refine br_f q0 (br_f q6 (br_f (by decide) ?_))
    refine bz_hasb (n := j) (by omega) rfl (fun t => ?_) (fun t => bz_hasb (n := j) (by omega) rfl (fun t2 => ?_) (fun t2 => ?_))
    · exact br_f hne (br_f q0 (br_t q5 (br_t rfl (bz_yb (n := j) (by omega) rfl (fun _ => ⟨rfl, I'⟩) (fun q => absurd q (by rw [t]; decide))))))
    · exact br_f hne (br_f q0 (br_t q5 (br_t rfl (bz_yb (n := j) (by omega) rfl (fun q => absurd q (by rw [t]; decide)) (fun _ => bz_yb (n := j) (by omega) rfl (fun _ => ⟨rfl, I'⟩) (fun q => absurd q (by rw [t2]; decide)))))))
    · exact br_f hne (br_f q0 (br_t q5 (br_t rfl (bz_yb (n := j) (by omega) rfl (fun q => absurd q (by rw [t]; decide)) (fun _ => bz_yb (n := j) (by omega) rfl (fun q => absurd q (by rw [t2]; decide)) (fun _ => ⟨rfl, I'⟩))))))
theorem i_vc_active {k : Nat} {u : SX} {v : SY} (I : i_Rel k u v) (hk : k + 3 ≤ 1536) (v1 : Int32) : wpX_active (fun r => wpY_active (fun r' => r' = r ∧ i_Rel (k + 3) u v) v v1) u v1 := by
  obtain ⟨f_height, f_made, f_size, f_on, f_inFirst, f_over, f_instantsDone, f_hadInstant, f_lastPresent, f_lastAbsent, f_present, f_absent, f_startedNow, f_resumedNow, a_stack, a_newKind, a_newMark, a_newP, a_newQ, a_newWithin, a_kind, a_mark, a_partP, a_partQ, a_within, a_mustStarted, a_canStarted, a_mustResumed, a_canResumed⟩ := u
  obtain ⟨g_made, g_depth, g_size, g_begun, g_over, g_ticks, g_present, g_absent, g_any, g_lastPresent, g_lastAbsent, b_sorts, b_numbers, b_firsts, b_seconds, b_stack, b_around, b_on, b_alive, b_mustEmit, b_canEmit, b_mustEnd, b_canEnd, b_done, b_frozen, b_killed, b_after⟩ := v
  have I' := I
  obtain ⟨⟨N, K, M, P, Q, par, ar, fi, ov, e1, e2, e3, e4, e5, e6, hp, ho, _⟩, _⟩ := I
  subst e1 e2
  have h16 := hp.2.1
  rcases pk_ix v1 (n := N) (by omega) with q | q | ⟨j, hj, rfl⟩
  · exact br_t q (br_t q ⟨rfl, I'⟩)
  · have q0 : ¬ v1 < 0 := by
      intro h0
      rw [Int32.lt_iff_toInt_lt] at h0
      rw [Int32.le_iff_toInt_le, nI_toInt (by omega)] at q
      have : (0 : Int32).toInt = 0 := by decide
      omega
    have q1 : ¬ v1 < nI N := Int32.not_lt.mpr q
    exact br_f q0 (br_f q1 (br_f q0 (br_f q1 ⟨rfl, I'⟩)))
  · have q0 : ¬ nI j < 0 := nI_pos (by omega)
    have q1 : nI j < nI N := nI_lt hj (by omega)
    have hc : (nI j).toNatClampNeg = j := nI_clamp (by omega)
    have vj : vp_in (nI j) 16 := vp_in_nI (by omega) (by omega)
    have hy : ∀ r, r = bo_I (bt f_on j) → wpY_active (fun r' => r' = r ∧ i_Rel (k + 3) (f_height, f_made, nI N, f_on, f_inFirst, f_over, f_instantsDone, f_hadInstant, f_lastPresent, f_lastAbsent, f_present, f_absent, f_startedNow, f_resumedNow, a_stack, a_newKind, a_newMark, a_newP, a_newQ, a_newWithin, a_kind, a_mark, a_partP, a_partQ, a_within, a_mustStarted, a_canStarted, a_mustResumed, a_canResumed) (g_made, g_depth, nI N, g_begun, g_over, g_ticks, g_present, g_absent, g_any, g_lastPresent, g_lastAbsent, b_sorts, b_numbers, b_firsts, b_seconds, b_stack, b_around, b_on, b_alive, b_mustEmit, b_canEmit, b_mustEnd, b_canEnd, b_done, b_frozen, b_killed, b_after)) (g_made, g_depth, nI N, g_begun, g_over, g_ticks, g_present, g_absent, g_any, g_lastPresent, g_lastAbsent, b_sorts, b_numbers, b_firsts, b_seconds, b_stack, b_around, b_on, b_alive, b_mustEmit, b_canEmit, b_mustEnd, b_canEnd, b_done, b_frozen, b_killed, b_after) (nI j) := by
      intro r hr
      unfold wpY_active
      dsimp only
      rw [hc, ho.1 j (by omega)]
      refine br_f q0 (br_t q1 ⟨vj, bo_br _ (fun t => ⟨?_, I'⟩) (fun t => ⟨?_, I'⟩)⟩)
      · rw [hr, t]; rfl
      · rw [hr, t]; rfl
    refine br_f q0 (br_t q1 (bz_hasb (n := j) (by omega) rfl (fun t => ?_) (fun t => ?_)))
    · exact hy 1 (by rw [t]; rfl)
    · exact hy 0 (by rw [t]; rfl)
theorem yr_17 {post : SY → Prop} {g_made g_depth g_size g_begun g_over g_ticks g_present g_absent g_any g_lastPresent g_lastAbsent : Int32} {b_sorts b_numbers b_firsts b_seconds b_stack b_around b_alive b_mustEmit b_canEmit b_mustEnd b_canEnd b_done b_frozen b_killed b_after : Nat → Int32} (h : ∀ B, (∀ j, j < 16 → B j = 0) → post (g_made, g_depth, g_size, g_begun, g_over, g_ticks, g_present, g_absent, g_any, g_lastPresent, g_lastAbsent, b_sorts, b_numbers, b_firsts, b_seconds, b_stack, b_around, B, b_alive, b_mustEmit, b_canEmit, b_mustEnd, b_canEnd, b_done, b_frozen, b_killed, b_after)) : ∀ t i B, i + t = 16 → (∀ j, j < i → B j = 0) → wY_restart_17 post g_made g_depth g_size g_begun g_over g_ticks g_present g_absent g_any g_lastPresent g_lastAbsent (t + 1) (nI i) b_sorts b_numbers b_firsts b_seconds b_stack b_around B b_alive b_mustEmit b_canEmit b_mustEnd b_canEnd b_done b_frozen b_killed b_after := by
  intro t
  induction t with
  | zero =>
    intro i B hi hB
    exact br_t (nI_le (a := 16) (by omega) (by omega)) (h B (fun j hj => hB j (by omega)))
  | succ t ih =>
    intro i B hi hB
    have hc : (nI i).toNatClampNeg = i := nI_clamp (by omega)
    refine br_f (nI_ge (b := 16) (by omega) (by decide)) ⟨vp_in_nI (by omega) (by omega), ?_⟩
    rw [hc]
    refine nm_e (nm_r (nI_1 i) (ih (i + 1) _ (by omega) (lt_s (fun j hj => ?_) pk_us)))
    rw [pk_un (by omega)]; exact hB j hj
theorem yr_p {post : SY → Prop} {g_made g_depth g_size g_begun g_over g_ticks g_present g_absent g_any g_lastPresent g_lastAbsent : Int32} {b_sorts b_numbers b_firsts b_seconds b_stack b_around b_on b_alive b_mustEmit b_canEmit b_mustEnd b_canEnd b_done b_frozen b_killed b_after : Nat → Int32} (h : ∀ B, (∀ j, j < 16 → B j = 0) → post (g_made, g_depth, g_size, 0, 0, 0, g_present, g_absent, g_any, g_lastPresent, g_lastAbsent, b_sorts, b_numbers, b_firsts, b_seconds, b_stack, b_around, B, b_alive, b_mustEmit, b_canEmit, b_mustEnd, b_canEnd, b_done, b_frozen, b_killed, b_after)) : wpY_restart post (g_made, g_depth, g_size, g_begun, g_over, g_ticks, g_present, g_absent, g_any, g_lastPresent, g_lastAbsent, b_sorts, b_numbers, b_firsts, b_seconds, b_stack, b_around, b_on, b_alive, b_mustEmit, b_canEmit, b_mustEnd, b_canEnd, b_done, b_frozen, b_killed, b_after) :=
  ⟨17, yr_17 h 16 0 b_on (by omega) (fun j hj => absurd hj (by omega))⟩
theorem i_vc_restart {k : Nat} {u : SX} {v : SY} (I : i_Rel k u v) (hk : k + 3 ≤ 1536) : wpX_restart (fun u' => wpY_restart (fun v' => i_Rel (k + 3) u' v') v) u := by
  obtain ⟨f_height, f_made, f_size, f_on, f_inFirst, f_over, f_instantsDone, f_hadInstant, f_lastPresent, f_lastAbsent, f_present, f_absent, f_startedNow, f_resumedNow, a_stack, a_newKind, a_newMark, a_newP, a_newQ, a_newWithin, a_kind, a_mark, a_partP, a_partQ, a_within, a_mustStarted, a_canStarted, a_mustResumed, a_canResumed⟩ := u
  obtain ⟨g_made, g_depth, g_size, g_begun, g_over, g_ticks, g_present, g_absent, g_any, g_lastPresent, g_lastAbsent, b_sorts, b_numbers, b_firsts, b_seconds, b_stack, b_around, b_on, b_alive, b_mustEmit, b_canEmit, b_mustEnd, b_canEnd, b_done, b_frozen, b_killed, b_after⟩ := v
  obtain ⟨⟨N, K, M, P, Q, par, ar, fi, ov, e1, e2, e3, e4, e5, e6, hp, ho, hr⟩, hb, ht, hh⟩ := I
  have : wpY_restart (fun v' => i_Rel (k + 3) (f_height, f_made, f_size, 0, 1, 0, 0, f_hadInstant, f_lastPresent, f_lastAbsent, f_present, f_absent, f_startedNow, f_resumedNow, a_stack, a_newKind, a_newMark, a_newP, a_newQ, a_newWithin, a_kind, a_mark, a_partP, a_partQ, a_within, a_mustStarted, a_canStarted, a_mustResumed, a_canResumed) v') (g_made, g_depth, g_size, g_begun, g_over, g_ticks, g_present, g_absent, g_any, g_lastPresent, g_lastAbsent, b_sorts, b_numbers, b_firsts, b_seconds, b_stack, b_around, b_on, b_alive, b_mustEmit, b_canEmit, b_mustEnd, b_canEnd, b_done, b_frozen, b_killed, b_after) :=
    yr_p (fun B hB => ⟨⟨N, K, M, P, Q, par, ar, true, false, e1, e2, rfl, rfl, rfl, rfl, hp, on_0 hB, fun h => by cases h⟩, hb, rfl, hh⟩)
  exact this
theorem in_63 (e : Int32) : ∃ n, n < 64 ∧ e &&& 63 = nI n := by
  have h := b_and e 63
  refine ⟨(e &&& 63).toBitVec.toNat, ?_, ?_⟩
  · rw [Int32.toBitVec_and, BitVec.toNat_and]
    exact Nat.lt_of_le_of_lt Nat.and_le_right (by decide)
  · apply Int32.toBitVec_inj.1
    show (e &&& 63).toBitVec = BitVec.ofNat 32 _
    rw [BitVec.ofNat_toNat]; simp
theorem i_vc_tick {k : Nat} {u : SX} {v : SY} (I : i_Rel k u v) (hk : k + 3 ≤ 1536) (v1 : Int32) : wpX_tick (fun r u' => wpY_tick (fun r' v' => r' = r ∧ i_Rel (k + 3) u' v') v v1) u v1 := by
  obtain ⟨f_height, f_made, f_size, f_on, f_inFirst, f_over, f_instantsDone, f_hadInstant, f_lastPresent, f_lastAbsent, f_present, f_absent, f_startedNow, f_resumedNow, a_stack, a_newKind, a_newMark, a_newP, a_newQ, a_newWithin, a_kind, a_mark, a_partP, a_partQ, a_within, a_mustStarted, a_canStarted, a_mustResumed, a_canResumed⟩ := u
  obtain ⟨g_made, g_depth, g_size, g_begun, g_over, g_ticks, g_present, g_absent, g_any, g_lastPresent, g_lastAbsent, b_sorts, b_numbers, b_firsts, b_seconds, b_stack, b_around, b_on, b_alive, b_mustEmit, b_canEmit, b_mustEnd, b_canEnd, b_done, b_frozen, b_killed, b_after⟩ := v
  have I' := I
  obtain ⟨⟨N, K, M, P, Q, par, ar, fi, ov, e1, e2, e3, e4, e5, e6, hp, ho, hr⟩, hb, htk, hh⟩ := I
  cases ov
  · obtain ⟨inp, hi, he⟩ := in_63 v1
    have hN1 := hp.1
    have hN := hp.2.1
    have hgx := hp.2.2.1
    have hgy := hp.2.2.2.1
    have hon := on_RW hp ho
    have hr' : fi = false → ac_L f_on a_within (N - 1) = true := fun h => hr h rfl
    generalize hpa : fx_r (rt_m K M P Q N (bt f_on) (ac_L f_on a_within) fi) (rt_c K M P Q N (bt f_on) (ac_L f_on a_within) fi) 7 inp 0 = pa
    obtain ⟨pr, ab⟩ := pa
    obtain ⟨l1, l2, l3⟩ := rt_dj hgx hN1 hi hpa.symm
    obtain ⟨d, fz, kl, hd, hf⟩ := gh_x (pr := pr) (ab := ab) hp ho hr'
    refine xt_tick hi he hN hN1 e1 e3 e5 hgx hpa.symm (fun _ => ⟨hd, hf⟩) (fun hoc ms cs mr cr => ?_) (fun h63 x S R ms cs mr cr hx => ?_)
    · refine yt_tick hgx hi he hN hN1 e2 e4 e6 hgy hon ho.1 hr' hpa.symm (fun _ => ⟨hd, hf⟩) (fun _ A me ce mn cn => ⟨rfl, ?_⟩) (fun q => absurd hoc q)
      exact ⟨⟨N, K, M, P, Q, par, ar, fi, false, e1, e2, e3, e4, e5, e6, hp, ho, hr⟩, hb, htk, ⟨true, rfl, rfl⟩, rfl, rfl⟩
    · refine yt_tick hgx hi he hN hN1 e2 e4 e6 hgy hon ho.1 hr' hpa.symm (fun _ => ⟨hd, hf⟩) (fun hoc A me ce mn cn => ?_) (fun _ A me ce mn cn D F L A' B hB => ⟨rfl, ?_⟩)
      · unfold oc_V at hoc
        rw [if_pos h63] at hoc
        split at hoc <;> omega
      · have hn := on_N hp (kn_hs hgx l3 h63) hd hf hx hB
        refine ⟨⟨N, K, M, P, Q, par, ar, false, decide (oc_V K M P Q N (bt f_on) (ac_L f_on a_within) fi pr ab = 0), e1, e2, rfl, rfl, rfl, rfl, hp, hn.1, fun _ q => hn.2 ?_⟩, hb, ?_, ⟨true, rfl, rfl⟩, rfl, rfl⟩
        · rw [decide_eq_false_iff_not] at q
          intro z
          apply q
          unfold oc_V
          rw [if_pos h63, if_pos z]
        · rw [htk]
  · have hne : ¬ f_over = 0 := by rw [e5]; decide
    have hne' : ¬ g_over = 0 := by rw [e6]; decide
    exact br_f hne (br_f hne' ⟨rfl, I'⟩)
theorem i_vc_look {k : Nat} {u : SX} {v : SY} (I : i_Rel k u v) (hk : k + 3 ≤ 1536) (v1 : Int32) : wpX_look (fun r u' => wpY_look (fun r' v' => r' = r ∧ i_Rel (k + 3) u' v') v v1) u v1 := by
  obtain ⟨f_height, f_made, f_size, f_on, f_inFirst, f_over, f_instantsDone, f_hadInstant, f_lastPresent, f_lastAbsent, f_present, f_absent, f_startedNow, f_resumedNow, a_stack, a_newKind, a_newMark, a_newP, a_newQ, a_newWithin, a_kind, a_mark, a_partP, a_partQ, a_within, a_mustStarted, a_canStarted, a_mustResumed, a_canResumed⟩ := u
  obtain ⟨g_made, g_depth, g_size, g_begun, g_over, g_ticks, g_present, g_absent, g_any, g_lastPresent, g_lastAbsent, b_sorts, b_numbers, b_firsts, b_seconds, b_stack, b_around, b_on, b_alive, b_mustEmit, b_canEmit, b_mustEnd, b_canEnd, b_done, b_frozen, b_killed, b_after⟩ := v
  have I' := I
  obtain ⟨⟨N, K, M, P, Q, par, ar, fi, ov, e1, e2, e3, e4, e5, e6, hp, ho, hr⟩, hb, htk, hh⟩ := I
  cases ov
  · obtain ⟨inp, hi, he⟩ := in_63 v1
    have hN1 := hp.1
    have hN := hp.2.1
    have hgx := hp.2.2.1
    have hgy := hp.2.2.2.1
    have hon := on_RW hp ho
    have hr' : fi = false → ac_L f_on a_within (N - 1) = true := fun h => hr h rfl
    unfold wpX_look
    dsimp only
    refine br_t e5 ?_
    refine xf_p hi he hN hN1 e1 e3 hgx rfl rfl (fun pr ab ms cs mr cr hpa ht => ?_)
    obtain ⟨l1, l2, l3⟩ := rt_dj hgx hN1 hi hpa
    refine xo_out hN hN1 e1 e3 l1 l2 hgx ht ?_
    unfold wpY_look
    dsimp only
    refine br_t e6 ?_
    refine yf_p hi he hN hN1 e2 e4 hgy hon ho.1 hr' rfl rfl (fun pr' ab' A me ce mn cn hpa' hA hty => ?_)
    rw [← hpa, Prod.mk.injEq] at hpa'
    obtain ⟨rfl, rfl⟩ := hpa'
    refine yo_out hN hN1 l1 l2 hty hr' ⟨rfl, ?_⟩
    exact ⟨⟨N, K, M, P, Q, par, ar, fi, false, e1, e2, e3, e4, e5, e6, hp, ho, hr⟩, hb, htk, hh⟩
  · have hne : ¬ f_over = 0 := by rw [e5]; decide
    have hne' : ¬ g_over = 0 := by rw [e6]; decide
    exact br_f hne (br_f hne' ⟨rfl, I'⟩)
theorem i_vc_emitted {k : Nat} {u : SX} {v : SY} (I : i_Rel k u v) (hk : k + 3 ≤ 1536) (v1 : Int32) : wpX_emitted (fun r u' => wpY_emitted (fun r' v' => r' = r ∧ i_Rel (k + 3) u' v') v v1) u v1 := by
  obtain ⟨f_height, f_made, f_size, f_on, f_inFirst, f_over, f_instantsDone, f_hadInstant, f_lastPresent, f_lastAbsent, f_present, f_absent, f_startedNow, f_resumedNow, a_stack, a_newKind, a_newMark, a_newP, a_newQ, a_newWithin, a_kind, a_mark, a_partP, a_partQ, a_within, a_mustStarted, a_canStarted, a_mustResumed, a_canResumed⟩ := u
  obtain ⟨g_made, g_depth, g_size, g_begun, g_over, g_ticks, g_present, g_absent, g_any, g_lastPresent, g_lastAbsent, b_sorts, b_numbers, b_firsts, b_seconds, b_stack, b_around, b_on, b_alive, b_mustEmit, b_canEmit, b_mustEnd, b_canEnd, b_done, b_frozen, b_killed, b_after⟩ := v
  have I' := I
  obtain ⟨⟨N, K, M, P, Q, par, ar, fi, ov, e1, e2, e3, e4, e5, e6, hp, ho, hr⟩, hb, htk, hh⟩ := I
  cases ov
  · obtain ⟨inp, hi, he⟩ := in_63 v1
    have hN1 := hp.1
    have hN := hp.2.1
    have hgx := hp.2.2.1
    have hgy := hp.2.2.2.1
    have hon := on_RW hp ho
    have hr' : fi = false → ac_L f_on a_within (N - 1) = true := fun h => hr h rfl
    unfold wpX_emitted
    dsimp only
    refine br_t e5 ?_
    refine xf_p hi he hN hN1 e1 e3 hgx rfl rfl (fun pr ab ms cs mr cr hpa ht => ?_)
    unfold wpY_emitted
    dsimp only
    refine br_t e6 ?_
    refine yf_p hi he hN hN1 e2 e4 hgy hon ho.1 hr' rfl rfl (fun pr' ab' A me ce mn cn hpa' hA hty => ?_)
    rw [← hpa, Prod.mk.injEq] at hpa'
    obtain ⟨rfl, rfl⟩ := hpa'
    exact ⟨rfl, ⟨N, K, M, P, Q, par, ar, fi, false, e1, e2, e3, e4, e5, e6, hp, ho, hr⟩, hb, htk, hh⟩
  · have hne : ¬ f_over = 0 := by rw [e5]; decide
    have hne' : ¬ g_over = 0 := by rw [e6]; decide
    exact br_f hne (br_f hne' ⟨rfl, I'⟩)
