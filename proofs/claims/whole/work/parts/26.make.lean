/- simple, one, two -/
theorem xb_push {post : Int32 → SX → Prop} {f_height f_made f_size f_on f_inFirst f_over f_instantsDone f_hadInstant f_lastPresent f_lastAbsent f_present f_absent f_startedNow f_resumedNow : Int32} {a_stack a_newKind a_newMark a_newP a_newQ a_newWithin a_kind a_mark a_partP a_partQ a_within a_mustStarted a_canStarted a_mustResumed a_canResumed : Nat → Int32} {m h0 : Nat} {k mk p q ip : Int32} (hm : m < 16) (hh : h0 < 16) (e1 : f_made = nI m) (e2 : f_height = nI h0)
    (h : post (nI m) (nI (h0 + 1), nI (m + 1), f_size, f_on, f_inFirst, f_over, f_instantsDone, f_hadInstant, f_lastPresent, f_lastAbsent, f_present, f_absent, f_startedNow, f_resumedNow, upd a_stack h0 (nI m), upd a_newKind m k, upd a_newMark m mk, upd a_newP m p, upd a_newQ m q, upd a_newWithin m (ip ||| ((1 : Int32) <<< (nI m &&& 31))), a_kind, a_mark, a_partP, a_partQ, a_within, a_mustStarted, a_canStarted, a_mustResumed, a_canResumed)) : wpX_push post (f_height, f_made, f_size, f_on, f_inFirst, f_over, f_instantsDone, f_hadInstant, f_lastPresent, f_lastAbsent, f_present, f_absent, f_startedNow, f_resumedNow, a_stack, a_newKind, a_newMark, a_newP, a_newQ, a_newWithin, a_kind, a_mark, a_partP, a_partQ, a_within, a_mustStarted, a_canStarted, a_mustResumed, a_canResumed) k mk p q ip := by
  subst e1 e2
  have cm : (nI m).toNatClampNeg = m := nI_clamp (by omega)
  have ch : (nI h0).toNatClampNeg = h0 := nI_clamp (by omega)
  have vm : vp_in (nI m) 16 := vp_in_nI hm (by omega)
  have vh : vp_in (nI h0) 16 := vp_in_nI hh (by omega)
  unfold wpX_push
  dsimp only
  rw [cm, ch]
  exact ⟨vm, nm_e ⟨vm, nm_e ⟨vm, nm_e ⟨vm, nm_e ⟨vm, nm_e (nm_r (nI_1 m) ⟨vh, nm_e (nm_r (nI_1 h0) h)⟩)⟩⟩⟩⟩⟩
theorem yb_make {post : Int32 → SY → Prop} {g_made g_depth g_size g_begun g_over g_ticks g_present g_absent g_any g_lastPresent g_lastAbsent : Int32} {b_sorts b_numbers b_firsts b_seconds b_stack b_around b_on b_alive b_mustEmit b_canEmit b_mustEnd b_canEnd b_done b_frozen b_killed b_after : Nat → Int32} {m h0 : Nat} {k mk p q : Int32} (hm : m < 16) (hh : h0 < 16) (e1 : g_made = nI m) (e2 : g_depth = nI h0)
    (h : post (nI m) (nI (m + 1), nI (h0 + 1), g_size, g_begun, g_over, g_ticks, g_present, g_absent, g_any, g_lastPresent, g_lastAbsent, upd b_sorts (16 + m) k, upd b_numbers (16 + m) mk, upd b_firsts (16 + m) p, upd b_seconds (16 + m) q, upd b_stack h0 (nI m), b_around, b_on, b_alive, b_mustEmit, b_canEmit, b_mustEnd, b_canEnd, b_done, b_frozen, b_killed, b_after)) : wpY_make post (g_made, g_depth, g_size, g_begun, g_over, g_ticks, g_present, g_absent, g_any, g_lastPresent, g_lastAbsent, b_sorts, b_numbers, b_firsts, b_seconds, b_stack, b_around, b_on, b_alive, b_mustEmit, b_canEmit, b_mustEnd, b_canEnd, b_done, b_frozen, b_killed, b_after) k mk p q := by
  subst e1 e2
  have cm : (nI (16 + m)).toNatClampNeg = 16 + m := nI_clamp (by omega)
  have ch : (nI h0).toNatClampNeg = h0 := nI_clamp (by omega)
  have vm : vp_in (nI (16 + m)) 32 := vp_in_nI (by omega) (by omega)
  have vh : vp_in (nI h0) 16 := vp_in_nI hh (by omega)
  unfold wpY_make
  dsimp only
  rw [e16, cm, ch]
  exact ⟨vm, nm_e ⟨vm, nm_e ⟨vm, nm_e ⟨vm, nm_e ⟨vh, nm_e (nm_r (nI_1 h0) (nm_r (nI_1 m) h))⟩⟩⟩⟩⟩
theorem rp_u {f_size f_on f_inFirst f_over : Int32} {a_kind a_mark a_partP a_partQ a_within : Nat → Int32} {g_size g_begun g_over : Int32} {b_sorts b_numbers b_firsts b_seconds b_on : Nat → Int32} {m : Nat} {a b c d : Int32}
    (h : rp_W f_size f_on f_inFirst f_over a_kind a_mark a_partP a_partQ a_within g_size g_begun g_over b_sorts b_numbers b_firsts b_seconds b_on) :
    rp_W f_size f_on f_inFirst f_over a_kind a_mark a_partP a_partQ a_within g_size g_begun g_over (upd b_sorts (16 + m) a) (upd b_numbers (16 + m) b) (upd b_firsts (16 + m) c) (upd b_seconds (16 + m) d) b_on := by
  obtain ⟨N, K, M, P, Q, par, ar, fi, ov, e1, e2, e3, e4, e5, e6, ⟨p1, p2, p3, p4, p5, p6⟩, ho, hr⟩ := h
  refine ⟨N, K, M, P, Q, par, ar, fi, ov, e1, e2, e3, e4, e5, e6, ⟨p1, p2, p3, fun i hi => ?_, p5, p6⟩, ho, hr⟩
  have n : i ≠ 16 + m := by omega
  rw [pk_un n, pk_un n, pk_un n, pk_un n]; exact p4 i hi
theorem bw_0 {m : Nat} (hm : m < 16) {x : Int32} {k : Nat} {u v : Int32} (h4 : 4 ≤ k → x = u ∧ (7 ≤ k → False)) (h0 : ¬ 4 ≤ k → x = 0) : ∀ j, bt (x ||| ((1 : Int32) <<< (nI m &&& 31))) j = (decide (j = m) || (decide (4 ≤ k) && bt u j) || (decide (7 ≤ k) && bt v j)) := by
  intro j
  rcases Nat.lt_or_ge j 32 with q | q
  · rw [b_or, bz_sh1 m (by omega) j q]
    by_cases z : 4 ≤ k
    · have := h4 z
      rw [this.1, decide_eq_true z, decide_eq_false this.2]
      cases bt u j <;> simp
    · rw [h0 z, b_0, decide_eq_false z, decide_eq_false (show ¬ 7 ≤ k by omega)]; simp
  · rw [b_big q, b_big q, b_big q, decide_eq_false (show ¬ j = m by omega)]; simp
theorem bw_2 {m : Nat} (hm : m < 16) {k : Nat} {u v : Int32} (h7 : 7 ≤ k) : ∀ j, bt ((u ||| v) ||| ((1 : Int32) <<< (nI m &&& 31))) j = (decide (j = m) || (decide (4 ≤ k) && bt u j) || (decide (7 ≤ k) && bt v j)) := by
  intro j
  rcases Nat.lt_or_ge j 32 with q | q
  · rw [b_or, b_or, bz_sh1 m (by omega) j q, decide_eq_true h7, decide_eq_true (show 4 ≤ k by omega)]
    cases bt u j <;> cases bt v j <;> simp
  · rw [b_big q, b_big q, b_big q, decide_eq_false (show ¬ j = m by omega)]; simp
theorem ge_0 {x : Int32} {n : Nat} (hn : n < 2 ^ 31) (h : nI n ≤ x) : ¬ x < 0 := by
  intro h0
  rw [Int32.lt_iff_toInt_lt] at h0
  rw [Int32.le_iff_toInt_le, nI_toInt hn] at h
  have : (0 : Int32).toInt = 0 := by decide
  omega
theorem ge_n {x : Int32} {a b : Nat} (hn : b < 2 ^ 31) (hab : a < b) (h : nI b ≤ x) : ¬ x ≤ nI a := by
  intro h0
  rw [Int32.le_iff_toInt_le, nI_toInt (by omega)] at h0
  rw [Int32.le_iff_toInt_le, nI_toInt hn] at h
  omega
theorem ge_l {x : Int32} {a b : Nat} (hn : b < 2 ^ 31) (hab : a < b) (h : nI b ≤ x) : nI a < x := by
  rw [Int32.lt_iff_toInt_lt, nI_toInt (by omega)]
  rw [Int32.le_iff_toInt_le, nI_toInt hn] at h
  omega
/-- a signal, or not: both sides' tests -/
theorem sg_x (x : Int32) : (∃ m, m < 6 ∧ x = nI m) ∨ ((∀ A B : Prop, A → wpX_isSignal (fun r => (r = 0 → A) ∧ (¬ r = 0 → B)) x) ∧ (∀ (u : SY) (A B : Prop), B → wpY_noSignal (fun r => (r = 0 → A) ∧ (¬ r = 0 → B)) u x)) := by
  rcases pk_ix x (n := 6) (by decide) with q | q | ⟨j, hj, rfl⟩
  · refine Or.inr ⟨fun A B a => br_t q (br_t rfl a), fun u A B b => ?_⟩
    obtain ⟨g_made, g_depth, g_size, g_begun, g_over, g_ticks, g_present, g_absent, g_any, g_lastPresent, g_lastAbsent, b_sorts, b_numbers, b_firsts, b_seconds, b_stack, b_around, b_on, b_alive, b_mustEmit, b_canEmit, b_mustEnd, b_canEnd, b_done, b_frozen, b_killed, b_after⟩ := u
    exact br_t q (br_f (by decide) b)
  · have q0 := ge_0 (by decide) q
    have q5 : ¬ x ≤ 5 := ge_n (a := 5) (by decide) (by decide) q
    refine Or.inr ⟨fun A B a => br_f q0 (br_t q (br_t rfl a)), fun u A B b => ?_⟩
    obtain ⟨g_made, g_depth, g_size, g_begun, g_over, g_ticks, g_present, g_absent, g_any, g_lastPresent, g_lastAbsent, b_sorts, b_numbers, b_firsts, b_seconds, b_stack, b_around, b_on, b_alive, b_mustEmit, b_canEmit, b_mustEnd, b_canEnd, b_done, b_frozen, b_killed, b_after⟩ := u
    exact br_f q0 (br_f q5 (br_f (by decide) b))
  · exact Or.inl ⟨j, hj, rfl⟩
theorem sg_X {m : Nat} (hm : m < 6) {A B : Prop} (b : B) : wpX_isSignal (fun r => (r = 0 → A) ∧ (¬ r = 0 → B)) (nI m) :=
  br_f (nI_pos (by omega)) (br_f (nI_ge (b := 6) (by omega) (by decide)) (br_f (by decide) b))
theorem sg_Y {m : Nat} (hm : m < 6) {u : SY} {A B : Prop} (a : A) : wpY_noSignal (fun r => (r = 0 → A) ∧ (¬ r = 0 → B)) u (nI m) := by
  obtain ⟨g_made, g_depth, g_size, g_begun, g_over, g_ticks, g_present, g_absent, g_any, g_lastPresent, g_lastAbsent, b_sorts, b_numbers, b_firsts, b_seconds, b_stack, b_around, b_on, b_alive, b_mustEmit, b_canEmit, b_mustEnd, b_canEnd, b_done, b_frozen, b_killed, b_after⟩ := u
  exact br_f (nI_pos (by omega)) (br_t (nI_le (b := 5) (by omega) (by decide)) (br_t rfl a))
theorem fi_simple {k : Nat} {f_height f_made f_size f_on f_inFirst f_over f_instantsDone f_hadInstant f_lastPresent f_lastAbsent f_present f_absent f_startedNow f_resumedNow : Int32} {a_stack a_newKind a_newMark a_newP a_newQ a_newWithin a_kind a_mark a_partP a_partQ a_within a_mustStarted a_canStarted a_mustResumed a_canResumed : Nat → Int32} {g_made g_depth g_size g_begun g_over g_ticks g_present g_absent g_any g_lastPresent g_lastAbsent : Int32} {b_sorts b_numbers b_firsts b_seconds b_stack b_around b_on b_alive b_mustEmit b_canEmit b_mustEnd b_canEnd b_done b_frozen b_killed b_after : Nat → Int32} (I : i_Rel k (f_height, f_made, f_size, f_on, f_inFirst, f_over, f_instantsDone, f_hadInstant, f_lastPresent, f_lastAbsent, f_present, f_absent, f_startedNow, f_resumedNow, a_stack, a_newKind, a_newMark, a_newP, a_newQ, a_newWithin, a_kind, a_mark, a_partP, a_partQ, a_within, a_mustStarted, a_canStarted, a_mustResumed, a_canResumed) (g_made, g_depth, g_size, g_begun, g_over, g_ticks, g_present, g_absent, g_any, g_lastPresent, g_lastAbsent, b_sorts, b_numbers, b_firsts, b_seconds, b_stack, b_around, b_on, b_alive, b_mustEmit, b_canEmit, b_mustEnd, b_canEnd, b_done, b_frozen, b_killed, b_after)) {j mm : Nat} {v2 : Int32} (hj : j < 4) (hmk : mk_W j mm v2)
    (HY : ∀ post, wY_simple_38 post (nI j) v2 g_made g_depth g_size g_begun g_over g_ticks g_present g_absent g_any g_lastPresent g_lastAbsent b_sorts b_numbers b_firsts b_seconds b_stack b_around b_on b_alive b_mustEmit b_canEmit b_mustEnd b_canEnd b_done b_frozen b_killed b_after → wpY_simple post (g_made, g_depth, g_size, g_begun, g_over, g_ticks, g_present, g_absent, g_any, g_lastPresent, g_lastAbsent, b_sorts, b_numbers, b_firsts, b_seconds, b_stack, b_around, b_on, b_alive, b_mustEmit, b_canEmit, b_mustEnd, b_canEnd, b_done, b_frozen, b_killed, b_after) (nI j) v2) :
    wX_simple_41 (fun r u' => wpY_simple (fun r' v' => r' = r ∧ i_Rel (k + 3) u' v') (g_made, g_depth, g_size, g_begun, g_over, g_ticks, g_present, g_absent, g_any, g_lastPresent, g_lastAbsent, b_sorts, b_numbers, b_firsts, b_seconds, b_stack, b_around, b_on, b_alive, b_mustEmit, b_canEmit, b_mustEnd, b_canEnd, b_done, b_frozen, b_killed, b_after) (nI j) v2) (nI j) v2 f_height f_made f_size f_on f_inFirst f_over f_instantsDone f_hadInstant f_lastPresent f_lastAbsent f_present f_absent f_startedNow f_resumedNow a_stack a_newKind a_newMark a_newP a_newQ a_newWithin a_kind a_mark a_partP a_partQ a_within a_mustStarted a_canStarted a_mustResumed a_canResumed := by
  have I' := I
  obtain ⟨hp, ⟨m, h, K, M, P, Q, sk, e1, e2, e3, e4, hb⟩, ht, hh⟩ := I
  have b1 := hb.1
  have b2 := hb.2.1
  unfold wX_simple_41
  refine pk_eq m 16 (fun z => ?_) (fun z => ?_) e1
  · exact HY _ (br_t (by rw [e2, z]; rfl) ⟨rfl, I'⟩)
  · have hm : m < 16 := by omega
    refine xb_push hm (show h < 16 by omega) e1 e3 (HY _ (br_f (fun q => z ?_) ?_))
    · rw [e2] at q; exact (nI_eq (b := 16) (by omega) (by decide)).mp q
    · have key := bu_push (h0 := h) (k := j) (mm := mm) (p := 0) (q := 0) (mx := v2) (wm := 0 ||| ((1 : Int32) <<< (nI m &&& 31))) hb hm (by omega) (by omega) hmk (by omega) (by omega) (fun _ => rfl) (fun q => by omega)
        (fun c => ⟨fun q => by omega, fun ⟨j', q1, q2, _⟩ => by omega⟩) (bw_0 hm (fun q => by omega) (fun _ => rfl))
      rw [if_neg (show ¬ 7 ≤ j by omega)] at key
      have e0 : (0 : Int32) + nI j = nI j := Int32.zero_add _
      refine yb_make hm (show h < 16 by omega) e2 e4 ⟨rfl, rp_u hp, ?_, ht, hh⟩
      rw [e0]
      exact ⟨m + 1, h + 1, _, _, _, _, _, rfl, rfl, rfl, rfl, key⟩
theorem i_vc_simple {k : Nat} {u : SX} {v : SY} (I : i_Rel k u v) (hk : k + 3 ≤ 1536) (v1 : Int32) (v2 : Int32) : wpX_simple (fun r u' => wpY_simple (fun r' v' => r' = r ∧ i_Rel (k + 3) u' v') v v1 v2) u v1 v2 := by
  obtain ⟨f_height, f_made, f_size, f_on, f_inFirst, f_over, f_instantsDone, f_hadInstant, f_lastPresent, f_lastAbsent, f_present, f_absent, f_startedNow, f_resumedNow, a_stack, a_newKind, a_newMark, a_newP, a_newQ, a_newWithin, a_kind, a_mark, a_partP, a_partQ, a_within, a_mustStarted, a_canStarted, a_mustResumed, a_canResumed⟩ := u
  obtain ⟨g_made, g_depth, g_size, g_begun, g_over, g_ticks, g_present, g_absent, g_any, g_lastPresent, g_lastAbsent, b_sorts, b_numbers, b_firsts, b_seconds, b_stack, b_around, b_on, b_alive, b_mustEmit, b_canEmit, b_mustEnd, b_canEnd, b_done, b_frozen, b_killed, b_after⟩ := v
  rcases pk_ix v1 (n := 4) (by decide) with q | q | ⟨j, hj, rfl⟩
  · exact br_t q (br_t q ⟨rfl, I⟩)
  · have q0 := ge_0 (by decide) q
    exact br_f q0 (br_f (ge_n (a := 3) (by decide) (by decide) q) (br_f q0 (br_t (ge_l (a := 3) (by decide) (by decide) q) ⟨rfl, I⟩)))
  · have q0 : ¬ nI j < 0 := nI_pos (by omega)
    have q3 : nI j ≤ 3 := nI_le (b := 3) (by omega) (by decide)
    have q3' : ¬ 3 < nI j := nI_nlt (a := 3) (by omega) (by decide)
    by_cases z2 : j = 2
    · have c2 : nI j = 2 := by rw [z2]; rfl
      have c3 : ¬ nI j = 3 := by rw [z2]; decide
      rcases sg_x v2 with ⟨m, hm, rfl⟩ | ⟨sx, sy⟩
      · refine br_f q0 (br_t q3 (br_t c2 (sg_X hm (br_f c3 ?_))))
        exact fi_simple I (mm := m) hj ⟨fun _ => ⟨rfl, hm⟩, fun q => by omega⟩ (fun post hp => br_f q0 (br_f q3' (br_t c2 (sg_Y hm (br_f c3 hp)))))
      · refine br_f q0 (br_t q3 (br_t c2 (sx _ _ ?_)))
        exact br_f q0 (br_f q3' (br_t c2 (sy _ _ _ ⟨rfl, I⟩)))
    · have c2 : ¬ nI j = 2 := fun q => z2 ((nI_eq (b := 2) (by omega) (by decide)).mp q)
      by_cases z3 : j = 3
      · have c3 : nI j = 3 := by rw [z3]; rfl
        rcases pk_ix v2 (n := 3) (by decide) with r | r | ⟨m, hm, rfl⟩
        · exact br_f q0 (br_t q3 (br_f c2 (br_t c3 (br_t r (br_f q0 (br_f q3' (br_f c2 (br_t c3 (br_t r ⟨rfl, I⟩)))))))))
        · have r0 := ge_0 (by decide) r
          have r2 : ¬ v2 ≤ 2 := ge_n (a := 2) (by decide) (by decide) r
          exact br_f q0 (br_t q3 (br_f c2 (br_t c3 (br_f r0 (br_f r2 (br_f q0 (br_f q3' (br_f c2 (br_t c3 (br_f r0 (br_f r2 ⟨rfl, I⟩)))))))))))
        · have r0 : ¬ nI m < 0 := nI_pos (by omega)
          have r2 : nI m ≤ 2 := nI_le (b := 2) (by omega) (by decide)
          refine br_f q0 (br_t q3 (br_f c2 (br_t c3 (br_f r0 (br_t r2 ?_)))))
          exact fi_simple I (mm := m) hj ⟨fun q => by omega, fun _ => ⟨rfl, hm⟩⟩ (fun post hp => br_f q0 (br_f q3' (br_f c2 (br_t c3 (br_f r0 (br_t r2 hp))))))
      · have c3 : ¬ nI j = 3 := fun q => z3 ((nI_eq (b := 3) (by omega) (by decide)).mp q)
        refine br_f q0 (br_t q3 (br_f c2 (br_f c3 ?_)))
        exact fi_simple I (mm := 0) hj ⟨fun q => by omega, fun q => by omega⟩ (fun post hp => br_f q0 (br_f q3' (br_f c2 (br_f c3 hp))))
theorem fi_one {k : Nat} {f_height f_made f_size f_on f_inFirst f_over f_instantsDone f_hadInstant f_lastPresent f_lastAbsent f_present f_absent f_startedNow f_resumedNow : Int32} {a_stack a_newKind a_newMark a_newP a_newQ a_newWithin a_kind a_mark a_partP a_partQ a_within a_mustStarted a_canStarted a_mustResumed a_canResumed : Nat → Int32} {g_made g_depth g_size g_begun g_over g_ticks g_present g_absent g_any g_lastPresent g_lastAbsent : Int32} {b_sorts b_numbers b_firsts b_seconds b_stack b_around b_on b_alive b_mustEmit b_canEmit b_mustEnd b_canEnd b_done b_frozen b_killed b_after : Nat → Int32} (I : i_Rel k (f_height, f_made, f_size, f_on, f_inFirst, f_over, f_instantsDone, f_hadInstant, f_lastPresent, f_lastAbsent, f_present, f_absent, f_startedNow, f_resumedNow, a_stack, a_newKind, a_newMark, a_newP, a_newQ, a_newWithin, a_kind, a_mark, a_partP, a_partQ, a_within, a_mustStarted, a_canStarted, a_mustResumed, a_canResumed) (g_made, g_depth, g_size, g_begun, g_over, g_ticks, g_present, g_absent, g_any, g_lastPresent, g_lastAbsent, b_sorts, b_numbers, b_firsts, b_seconds, b_stack, b_around, b_on, b_alive, b_mustEmit, b_canEmit, b_mustEnd, b_canEnd, b_done, b_frozen, b_killed, b_after)) {j mm : Nat} {v2 : Int32} (hj : j < 3) (hmk : mk_W (4 + j) mm v2)
    (HY : ∀ post, wY_one_24 post (nI j) v2 g_made g_depth g_size g_begun g_over g_ticks g_present g_absent g_any g_lastPresent g_lastAbsent b_sorts b_numbers b_firsts b_seconds b_stack b_around b_on b_alive b_mustEmit b_canEmit b_mustEnd b_canEnd b_done b_frozen b_killed b_after → wpY_one post (g_made, g_depth, g_size, g_begun, g_over, g_ticks, g_present, g_absent, g_any, g_lastPresent, g_lastAbsent, b_sorts, b_numbers, b_firsts, b_seconds, b_stack, b_around, b_on, b_alive, b_mustEmit, b_canEmit, b_mustEnd, b_canEnd, b_done, b_frozen, b_killed, b_after) (nI j) v2) :
    wX_one_28 (fun r u' => wpY_one (fun r' v' => r' = r ∧ i_Rel (k + 3) u' v') (g_made, g_depth, g_size, g_begun, g_over, g_ticks, g_present, g_absent, g_any, g_lastPresent, g_lastAbsent, b_sorts, b_numbers, b_firsts, b_seconds, b_stack, b_around, b_on, b_alive, b_mustEmit, b_canEmit, b_mustEnd, b_canEnd, b_done, b_frozen, b_killed, b_after) (nI j) v2) (nI j) v2 f_height f_made f_size f_on f_inFirst f_over f_instantsDone f_hadInstant f_lastPresent f_lastAbsent f_present f_absent f_startedNow f_resumedNow a_stack a_newKind a_newMark a_newP a_newQ a_newWithin a_kind a_mark a_partP a_partQ a_within a_mustStarted a_canStarted a_mustResumed a_canResumed := by
  have I' := I
  obtain ⟨hp, ⟨m, h, K, M, P, Q, sk, e1, e2, e3, e4, hb⟩, ht, hh⟩ := I
  have b1 := hb.1
  have b2 := hb.2.1
  unfold wX_one_28
  refine pk_eq m 16 (fun z => ?_) (fun z => ?_) e1
  · exact HY _ (br_t (by rw [e2, z]; rfl) ⟨rfl, I'⟩)
  · have hm : m < 16 := by omega
    have ny : ¬ g_made = 16 := fun q => z (by rw [e2] at q; exact (nI_eq (b := 16) (by omega) (by decide)).mp q)
    refine pk_le 1 h (fun l => ?_) (fun l => ?_) rfl e3
    · have hz : nI h - 1 = nI (h - 1) := pk_sub (a := h) (b := 1) l
      have ch : (nI (h - 1)).toNatClampNeg = h - 1 := nI_clamp (by omega)
      have vh : vp_in (nI (h - 1)) 16 := vp_in_nI (by omega) (by omega)
      obtain ⟨s1, s2, s3⟩ := hb.2.2.2.2.2.1 (h - 1) (by omega)
      have hxs : f_height - 1 = nI (h - 1) := by rw [e3, hz]
      have hys : g_depth - 1 = nI (h - 1) := by rw [e4, hz]
      have cs : (nI (sk (h - 1))).toNatClampNeg = sk (h - 1) := nI_clamp (by omega)
      rw [hxs, ch, s1]
      refine ⟨vh, nm_e (nm_e ⟨vp_in_nI (by omega) (by omega), ?_⟩)⟩
      rw [cs]
      refine xb_push hm (show h - 1 < 16 by omega) e1 rfl (HY _ (br_f ny (br_t ?_ ?_)))
      · rw [e4]; exact nI_le (a := 1) l (by omega)
      · rw [hys]
        have key := bu_push (h0 := h - 1) (k := 4 + j) (mm := mm) (p := sk (h - 1)) (q := sk (h - 1)) (mx := v2) (wm := a_newWithin (sk (h - 1)) ||| ((1 : Int32) <<< (nI m &&& 31))) hb hm (by omega) (by omega) hmk (by omega) (by omega) (fun _ => rfl) (fun q => by omega)
          (fun c => ⟨fun q => ⟨h - 1, by omega, by omega, by rcases q with q | q; exact q.2.symm; omega⟩, fun ⟨j', q1, q2, q3⟩ => Or.inl ⟨by omega, by rw [← q3, show j' = h - 1 by omega]⟩⟩) (bw_0 hm (fun _ => ⟨rfl, fun q => by omega⟩) (fun q => by omega))
        rw [if_neg (show ¬ 7 ≤ 4 + j by omega)] at key
        have e0 : (4 : Int32) + nI j = nI (4 + j) := nI_add 4 j
        refine nm_e ⟨vh, ?_⟩
        rw [ch, s2]
        refine yb_make hm (show h - 1 < 16 by omega) e2 rfl ⟨rfl, rp_u hp, ?_, ht, hh⟩
        rw [e0]
        exact ⟨m + 1, h - 1 + 1, _, _, _, _, _, rfl, rfl, rfl, rfl, key⟩
    · refine HY _ (br_f ny (br_f ?_ ⟨rfl, I'⟩))
      rw [e4]; exact nI_ge (b := 1) l (by decide)
theorem i_vc_one {k : Nat} {u : SX} {v : SY} (I : i_Rel k u v) (hk : k + 3 ≤ 1536) (v1 : Int32) (v2 : Int32) : wpX_one (fun r u' => wpY_one (fun r' v' => r' = r ∧ i_Rel (k + 3) u' v') v v1 v2) u v1 v2 := by
  obtain ⟨f_height, f_made, f_size, f_on, f_inFirst, f_over, f_instantsDone, f_hadInstant, f_lastPresent, f_lastAbsent, f_present, f_absent, f_startedNow, f_resumedNow, a_stack, a_newKind, a_newMark, a_newP, a_newQ, a_newWithin, a_kind, a_mark, a_partP, a_partQ, a_within, a_mustStarted, a_canStarted, a_mustResumed, a_canResumed⟩ := u
  obtain ⟨g_made, g_depth, g_size, g_begun, g_over, g_ticks, g_present, g_absent, g_any, g_lastPresent, g_lastAbsent, b_sorts, b_numbers, b_firsts, b_seconds, b_stack, b_around, b_on, b_alive, b_mustEmit, b_canEmit, b_mustEnd, b_canEnd, b_done, b_frozen, b_killed, b_after⟩ := v
  rcases pk_ix v1 (n := 3) (by decide) with q | q | ⟨j, hj, rfl⟩
  · exact br_t q (br_t q ⟨rfl, I⟩)
  · have q0 := ge_0 (by decide) q
    exact br_f q0 (br_f (ge_n (a := 2) (by decide) (by decide) q) (br_f q0 (br_t (ge_l (a := 2) (by decide) (by decide) q) ⟨rfl, I⟩)))
  · have q0 : ¬ nI j < 0 := nI_pos (by omega)
    have q3 : nI j ≤ 2 := nI_le (b := 2) (by omega) (by decide)
    have q3' : ¬ 2 < nI j := nI_nlt (a := 2) (by omega) (by decide)
    have e0 : (4 : Int32) + nI j = nI (4 + j) := nI_add 4 j
    by_cases z2 : j = 2
    · have c2 : nI j = 2 := by rw [z2]; rfl
      have c6 : (4 : Int32) + nI j = 6 := by rw [z2]; decide
      rcases sg_x v2 with ⟨m, hm, rfl⟩ | ⟨sx, sy⟩
      · refine br_f q0 (br_t q3 (br_t c6 (sg_X hm ?_)))
        exact fi_one I (mm := m) hj ⟨fun _ => ⟨rfl, hm⟩, fun q => by omega⟩ (fun post hp => br_f q0 (br_f q3' (br_t c2 (sg_Y hm hp))))
      · refine br_f q0 (br_t q3 (br_t c6 (sx _ _ ?_)))
        exact br_f q0 (br_f q3' (br_t c2 (sy _ _ _ ⟨rfl, I⟩)))
    · have c2 : ¬ nI j = 2 := fun q => z2 ((nI_eq (b := 2) (by omega) (by decide)).mp q)
      have c6 : ¬ (4 : Int32) + nI j = 6 := fun q => by
        rw [e0] at q
        have := (nI_eq (b := 6) (by omega) (by decide)).mp q; omega
      refine br_f q0 (br_t q3 (br_f c6 ?_))
      exact fi_one I (mm := 0) hj ⟨fun q => by omega, fun q => by omega⟩ (fun post hp => br_f q0 (br_f q3' (br_f c2 hp)))
theorem fi_two {k : Nat} {f_height f_made f_size f_on f_inFirst f_over f_instantsDone f_hadInstant f_lastPresent f_lastAbsent f_present f_absent f_startedNow f_resumedNow : Int32} {a_stack a_newKind a_newMark a_newP a_newQ a_newWithin a_kind a_mark a_partP a_partQ a_within a_mustStarted a_canStarted a_mustResumed a_canResumed : Nat → Int32} {g_made g_depth g_size g_begun g_over g_ticks g_present g_absent g_any g_lastPresent g_lastAbsent : Int32} {b_sorts b_numbers b_firsts b_seconds b_stack b_around b_on b_alive b_mustEmit b_canEmit b_mustEnd b_canEnd b_done b_frozen b_killed b_after : Nat → Int32} (I : i_Rel k (f_height, f_made, f_size, f_on, f_inFirst, f_over, f_instantsDone, f_hadInstant, f_lastPresent, f_lastAbsent, f_present, f_absent, f_startedNow, f_resumedNow, a_stack, a_newKind, a_newMark, a_newP, a_newQ, a_newWithin, a_kind, a_mark, a_partP, a_partQ, a_within, a_mustStarted, a_canStarted, a_mustResumed, a_canResumed) (g_made, g_depth, g_size, g_begun, g_over, g_ticks, g_present, g_absent, g_any, g_lastPresent, g_lastAbsent, b_sorts, b_numbers, b_firsts, b_seconds, b_stack, b_around, b_on, b_alive, b_mustEmit, b_canEmit, b_mustEnd, b_canEnd, b_done, b_frozen, b_killed, b_after)) {j mm : Nat} {v2 : Int32} (hj : j < 3) (hmk : mk_W (7 + j) mm v2)
    (HY : ∀ post, wY_two_24 post (nI j) v2 g_made g_depth g_size g_begun g_over g_ticks g_present g_absent g_any g_lastPresent g_lastAbsent b_sorts b_numbers b_firsts b_seconds b_stack b_around b_on b_alive b_mustEmit b_canEmit b_mustEnd b_canEnd b_done b_frozen b_killed b_after → wpY_two post (g_made, g_depth, g_size, g_begun, g_over, g_ticks, g_present, g_absent, g_any, g_lastPresent, g_lastAbsent, b_sorts, b_numbers, b_firsts, b_seconds, b_stack, b_around, b_on, b_alive, b_mustEmit, b_canEmit, b_mustEnd, b_canEnd, b_done, b_frozen, b_killed, b_after) (nI j) v2) :
    wX_two_29 (fun r u' => wpY_two (fun r' v' => r' = r ∧ i_Rel (k + 3) u' v') (g_made, g_depth, g_size, g_begun, g_over, g_ticks, g_present, g_absent, g_any, g_lastPresent, g_lastAbsent, b_sorts, b_numbers, b_firsts, b_seconds, b_stack, b_around, b_on, b_alive, b_mustEmit, b_canEmit, b_mustEnd, b_canEnd, b_done, b_frozen, b_killed, b_after) (nI j) v2) (nI j) v2 f_height f_made f_size f_on f_inFirst f_over f_instantsDone f_hadInstant f_lastPresent f_lastAbsent f_present f_absent f_startedNow f_resumedNow a_stack a_newKind a_newMark a_newP a_newQ a_newWithin a_kind a_mark a_partP a_partQ a_within a_mustStarted a_canStarted a_mustResumed a_canResumed := by
  have I' := I
  obtain ⟨hp, ⟨m, h, K, M, P, Q, sk, e1, e2, e3, e4, hb⟩, ht, hh⟩ := I
  have b1 := hb.1
  have b2 := hb.2.1
  unfold wX_two_29
  refine pk_eq m 16 (fun z => ?_) (fun z => ?_) e1
  · exact HY _ (br_t (by rw [e2, z]; rfl) ⟨rfl, I'⟩)
  · have hm : m < 16 := by omega
    have ny : ¬ g_made = 16 := fun q => z (by rw [e2] at q; exact (nI_eq (b := 16) (by omega) (by decide)).mp q)
    refine pk_le 2 h (fun l => ?_) (fun l => ?_) rfl e3
    · have hz : nI h - 1 = nI (h - 1) := pk_sub (a := h) (b := 1) (by omega)
      have hz2 : nI h - 2 = nI (h - 2) := pk_sub (a := h) (b := 2) l
      have ch : (nI (h - 1)).toNatClampNeg = h - 1 := nI_clamp (by omega)
      have vh : vp_in (nI (h - 1)) 16 := vp_in_nI (by omega) (by omega)
      have ch2 : (nI (h - 2)).toNatClampNeg = h - 2 := nI_clamp (by omega)
      have vh2 : vp_in (nI (h - 2)) 16 := vp_in_nI (by omega) (by omega)
      obtain ⟨s1, s2, s3⟩ := hb.2.2.2.2.2.1 (h - 1) (by omega)
      obtain ⟨t1, t2, t3⟩ := hb.2.2.2.2.2.1 (h - 2) (by omega)
      have hinj := hb.2.2.2.2.2.2.1 (h - 1) (h - 2) (by omega) (by omega)
      have hxs : f_height - 1 = nI (h - 1) := by rw [e3, hz]
      have hxs2 : f_height - 2 = nI (h - 2) := by rw [e3, hz2]
      have hys : g_depth - 2 = nI (h - 2) := by rw [e4, hz2]
      have hys1 : nI (h - 2) + 1 = nI (h - 1) := by rw [nI_1, show h - 2 + 1 = h - 1 by omega]
      have cs : (nI (sk (h - 1))).toNatClampNeg = sk (h - 1) := nI_clamp (by omega)
      have ct : (nI (sk (h - 2))).toNatClampNeg = sk (h - 2) := nI_clamp (by omega)
      rw [hxs, hxs2, ch, ch2, s1, t1]
      refine ⟨vh2, nm_e ⟨vh, nm_e (nm_e ⟨vp_in_nI (by omega) (by omega), vp_in_nI (by omega) (by omega), ?_⟩)⟩⟩
      rw [cs, ct]
      refine xb_push hm (show h - 2 < 16 by omega) e1 rfl (HY _ (br_f ny (br_t ?_ ?_)))
      · rw [e4]; exact nI_le (a := 2) l (by omega)
      · rw [hys]
        have key := bu_push (h0 := h - 2) (k := 7 + j) (mm := mm) (p := sk (h - 2)) (q := sk (h - 1)) (mx := v2) (wm := (a_newWithin (sk (h - 2)) ||| a_newWithin (sk (h - 1))) ||| ((1 : Int32) <<< (nI m &&& 31))) hb hm (by omega) (by omega) hmk (by omega) (by omega) (fun q => by omega) (fun q e => by have := hinj e; omega)
          (fun c => ⟨fun q => by
            rcases q with q | q
            · exact ⟨h - 2, by omega, by omega, q.2.symm⟩
            · exact ⟨h - 1, by omega, by omega, q.2.symm⟩, fun ⟨j', q1, q2, q3⟩ => by
            by_cases e : j' = h - 2
            · exact Or.inl ⟨by omega, by rw [← q3, e]⟩
            · exact Or.inr ⟨by omega, by rw [← q3, show j' = h - 1 by omega]⟩⟩) (bw_2 hm (by omega))
        rw [if_pos (show 7 ≤ 7 + j by omega)] at key
        have e0 : (7 : Int32) + nI j = nI (7 + j) := nI_add 7 j
        refine nm_e ⟨vh2, ?_⟩
        rw [hys1]
        refine ⟨vh, ?_⟩
        rw [ch, ch2, s2, t2]
        refine yb_make hm (show h - 2 < 16 by omega) e2 rfl ⟨rfl, rp_u hp, ?_, ht, hh⟩
        rw [e0]
        exact ⟨m + 1, h - 2 + 1, _, _, _, _, _, rfl, rfl, rfl, rfl, key⟩
    · refine HY _ (br_f ny (br_f ?_ ⟨rfl, I'⟩))
      rw [e4]; exact nI_ge (b := 2) l (by decide)
theorem i_vc_two {k : Nat} {u : SX} {v : SY} (I : i_Rel k u v) (hk : k + 3 ≤ 1536) (v1 : Int32) (v2 : Int32) : wpX_two (fun r u' => wpY_two (fun r' v' => r' = r ∧ i_Rel (k + 3) u' v') v v1 v2) u v1 v2 := by
  obtain ⟨f_height, f_made, f_size, f_on, f_inFirst, f_over, f_instantsDone, f_hadInstant, f_lastPresent, f_lastAbsent, f_present, f_absent, f_startedNow, f_resumedNow, a_stack, a_newKind, a_newMark, a_newP, a_newQ, a_newWithin, a_kind, a_mark, a_partP, a_partQ, a_within, a_mustStarted, a_canStarted, a_mustResumed, a_canResumed⟩ := u
  obtain ⟨g_made, g_depth, g_size, g_begun, g_over, g_ticks, g_present, g_absent, g_any, g_lastPresent, g_lastAbsent, b_sorts, b_numbers, b_firsts, b_seconds, b_stack, b_around, b_on, b_alive, b_mustEmit, b_canEmit, b_mustEnd, b_canEnd, b_done, b_frozen, b_killed, b_after⟩ := v
  rcases pk_ix v1 (n := 3) (by decide) with q | q | ⟨j, hj, rfl⟩
  · exact br_t q (br_t q ⟨rfl, I⟩)
  · have q0 := ge_0 (by decide) q
    exact br_f q0 (br_f (ge_n (a := 2) (by decide) (by decide) q) (br_f q0 (br_t (ge_l (a := 2) (by decide) (by decide) q) ⟨rfl, I⟩)))
  · have q0 : ¬ nI j < 0 := nI_pos (by omega)
    have q3 : nI j ≤ 2 := nI_le (b := 2) (by omega) (by decide)
    have q3' : ¬ 2 < nI j := nI_nlt (a := 2) (by omega) (by decide)
    have e0 : (7 : Int32) + nI j = nI (7 + j) := nI_add 7 j
    by_cases z2 : j = 2
    · have c2 : nI j = 2 := by rw [z2]; rfl
      have c6 : (7 : Int32) + nI j = 9 := by rw [z2]; decide
      rcases sg_x v2 with ⟨m, hm, rfl⟩ | ⟨sx, sy⟩
      · refine br_f q0 (br_t q3 (br_t c6 (sg_X hm ?_)))
        exact fi_two I (mm := m) hj ⟨fun _ => ⟨rfl, hm⟩, fun q => by omega⟩ (fun post hp => br_f q0 (br_f q3' (br_t c2 (sg_Y hm hp))))
      · refine br_f q0 (br_t q3 (br_t c6 (sx _ _ ?_)))
        exact br_f q0 (br_f q3' (br_t c2 (sy _ _ _ ⟨rfl, I⟩)))
    · have c2 : ¬ nI j = 2 := fun q => z2 ((nI_eq (b := 2) (by omega) (by decide)).mp q)
      have c6 : ¬ (7 : Int32) + nI j = 9 := fun q => by
        rw [e0] at q
        have := (nI_eq (b := 9) (by omega) (by decide)).mp q; omega
      refine br_f q0 (br_t q3 (br_f c6 ?_))
      exact fi_two I (mm := 0) hj ⟨fun q => by omega, fun q => by omega⟩ (fun post hp => br_f q0 (br_f q3' (br_f c2 hp)))
