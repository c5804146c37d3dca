/- Y: the loops of finish -/
theorem yn_216 {post : SY → Prop} {g_made g_depth g_size g_begun g_over g_ticks g_present g_absent g_any g_lastPresent g_lastAbsent : Int32} {b_sorts b_numbers b_firsts b_seconds b_stack b_around b_alive b_mustEmit b_canEmit b_mustEnd b_canEnd b_done b_frozen b_killed b_after : Nat → Int32} {N : Nat} {nw o : Nat → Bool} (hN : N ≤ 16) (hs : g_size = nI N) (hA : ∀ j, j < N → b_after j = bo_I (nw j)) (hoN : ∀ j, o j = true → j < N)
    (hp : ∀ B, (∀ j, j < 16 → B j = bo_I (decide (j < N) && nw j)) → post (g_made, g_depth, g_size, 1, g_over, g_ticks + 1, g_present, g_absent, g_any, g_lastPresent, g_lastAbsent, b_sorts, b_numbers, b_firsts, b_seconds, b_stack, b_around, B, b_alive, b_mustEmit, b_canEmit, b_mustEnd, b_canEnd, b_done, b_frozen, b_killed, b_after)) :
    ∀ t i B, i + t = N → (∀ j, j < i → B j = bo_I (nw j)) → (∀ j, i ≤ j → j < 16 → B j = bo_I (o j)) → wY_finish_216 post g_made g_depth g_size g_begun g_over g_ticks g_present g_absent g_any g_lastPresent g_lastAbsent (t + 1) (nI i) b_sorts b_numbers b_firsts b_seconds b_stack b_around B b_alive b_mustEmit b_canEmit b_mustEnd b_canEnd b_done b_frozen b_killed b_after := by
  intro t
  induction t with
  | zero =>
    intro i B hi h1 h2
    refine br_t ?_ (nm_e (hp B (fun j hj => ?_)))
    · rw [hs]; exact nI_le (by omega) (by omega)
    · by_cases e : j < N
      · rw [h1 j (by omega), decide_eq_true e, Bool.true_and]
      · rw [h2 j (by omega) hj, decide_eq_false e, Bool.false_and]
        cases q : o j
        · rfl
        · exact absurd (hoN j q) e
  | succ t ih =>
    intro i B hi h1 h2
    have hc : (nI i).toNatClampNeg = i := nI_clamp (by omega)
    have vi : vp_in (nI i) 16 := vp_in_nI (by omega) (by omega)
    refine br_f ?_ ⟨vi, vi, ?_⟩
    · rw [hs]; exact nI_ge (by omega) (by omega)
    rw [hc, hA i (by omega), bo_nar]
    refine nm_e (nm_r (nI_1 i) (ih (i + 1) _ (by omega) (lt_s (fun j hj => ?_) pk_us) (fun j hj h16 => ?_)))
    · rw [pk_un (by omega)]; exact h1 j hj
    · rw [pk_un (by omega)]; exact h2 j (by omega) h16
theorem yn_192 {post : SY → Prop} {J : Int32 → (Nat → Int32) → (Nat → Int32) → (Nat → Int32) → (Nat → Int32) → (Nat → Int32) → (Nat → Int32) → (Nat → Int32) → (Nat → Int32) → (Nat → Int32) → (Nat → Int32) → (Nat → Int32) → (Nat → Int32) → (Nat → Int32) → (Nat → Int32) → (Nat → Int32) → (Nat → Int32) → Prop} {g_made g_depth g_size g_begun g_over g_ticks g_present g_absent g_any g_lastPresent g_lastAbsent : Int32} {b_sorts b_numbers b_firsts b_seconds b_stack b_around b_on b_alive b_mustEmit b_canEmit b_mustEnd b_canEnd b_done b_frozen b_killed : Nat → Int32} {A : Nat → Int32} {i : Nat} {nw : Nat → Bool} {b k : Bool} (hi : i < 16) (hL : b_killed i = bo_I k) (hA : ∀ j, j < i → A j = bo_I (nw j)) (hb : A i = bo_I b) (hn : nw i = (b && !k))
    (h : ∀ A', (∀ j, j < i + 1 → A' j = bo_I (nw j)) → J (nI (i + 1)) b_sorts b_numbers b_firsts b_seconds b_stack b_around b_on b_alive b_mustEmit b_canEmit b_mustEnd b_canEnd b_done b_frozen b_killed A') : wY_finish_192 post J (nI i) g_made g_depth g_size g_begun g_over g_ticks g_present g_absent g_any g_lastPresent g_lastAbsent b_sorts b_numbers b_firsts b_seconds b_stack b_around b_on b_alive b_mustEmit b_canEmit b_mustEnd b_canEnd b_done b_frozen b_killed A := by
  have hc : (nI i).toNatClampNeg = i := nI_clamp (by omega)
  have vi : vp_in (nI i) 16 := vp_in_nI (by omega) (by omega)
  unfold wY_finish_192
  rw [hc, hL]
  refine ⟨vi, bo_br k (fun t => nm_r (nI_1 i) (h _ (lt_s hA ?_))) (fun t => ⟨vi, nm_e (nm_r (nI_1 i) (h _ (lt_s (fun j hj => ?_) ?_)))⟩)⟩
  · rw [hb, hn, t]; simp
  · rw [pk_un (by omega)]; exact hA j hj
  · rw [pk_us, hn, t]; simp; rfl
theorem yn_153 {post : SY → Prop} {J : Int32 → (Nat → Int32) → (Nat → Int32) → (Nat → Int32) → (Nat → Int32) → (Nat → Int32) → (Nat → Int32) → (Nat → Int32) → (Nat → Int32) → (Nat → Int32) → (Nat → Int32) → (Nat → Int32) → (Nat → Int32) → (Nat → Int32) → (Nat → Int32) → (Nat → Int32) → (Nat → Int32) → Prop} {g_made g_depth g_size g_begun g_over g_ticks g_present g_absent g_any g_lastPresent g_lastAbsent : Int32} {b_sorts b_numbers b_firsts b_seconds b_stack b_around b_on b_alive b_mustEmit b_canEmit b_mustEnd b_canEnd b_done b_frozen b_killed : Nat → Int32} {A : Nat → Int32} {N pr ab i : Nat} {K M P Q par d : Nat → Nat} {w : Nat → Int32} {o al is nw : Nat → Bool} {fi b k : Bool} (hN : N ≤ 16) (hi : i < N) (hg : pg_Y N K M P Q b_sorts b_numbers b_firsts b_seconds)
    (ht : tb_Y K M P Q pr ab o al b_mustEmit b_canEmit b_mustEnd b_canEnd N)
    (hd : dm_W N K P Q par w o al is (eS_T K M P Q pr ab) (eR_T K M P Q pr ab o al) d fi) (hD : ∀ c, c < N → b_done c = nI (d c))
    (hL : b_killed i = bo_I k) (hA : ∀ j, j < i → A j = bo_I (nw j)) (hb : A i = bo_I b)
    (hn : nw i = ((b || (decide (K i = 4) && decide (d i ≠ 0) && decide (cd_E (eS_T K M P Q pr ab) (eR_T K M P Q pr ab o al) (d (P i)) (P i) % 2 = 1))) && !k))
    (h : ∀ A', (∀ j, j < i + 1 → A' j = bo_I (nw j)) → J (nI (i + 1)) b_sorts b_numbers b_firsts b_seconds b_stack b_around b_on b_alive b_mustEmit b_canEmit b_mustEnd b_canEnd b_done b_frozen b_killed A') : wY_finish_153 post J (nI i) g_made g_depth g_size g_begun g_over g_ticks g_present g_absent g_any g_lastPresent g_lastAbsent b_sorts b_numbers b_firsts b_seconds b_stack b_around b_on b_alive b_mustEmit b_canEmit b_mustEnd b_canEnd b_done b_frozen b_killed A := by
  obtain ⟨g1, g2, g3, g4, g5, g6, g7, g8⟩ := hg i hi
  have hc : (nI i).toNatClampNeg = i := nI_clamp (by omega)
  have vi : vp_in (nI i) 16 := vp_in_nI (by omega) (by omega)
  have vi32 : vp_in (nI i) 32 := vp_in_nI (by omega) (by omega)
  have l2 := dm_012 hd _ i rfl hi
  unfold wY_finish_153
  rw [hc, g1, hD i hi, g4]
  refine ⟨vi32, pk_eq (K i) 4 (fun z => ⟨vi, ?_⟩) (fun z => ?_)⟩
  · refine pk_le (d i) 0 (fun y => ?_) (fun y => ⟨vi32, ?_⟩)
    · refine yn_192 (by omega) hL hA hb ?_ h
      rw [hn, show d i = 0 by omega]; simp
    · have g8' := g8 (by omega)
      have hPN : P i < N := by omega
      have lP2 := dm_012 hd _ (P i) rfl hPN
      have aP2 := dm_al hd _ (P i) rfl hPN
      have dP : d (P i) ≠ 0 := by
        rw [dm_P hd hi (by omega)]; unfold wy_P
        rw [if_neg (by omega), if_pos z]; split <;> omega
      have hmv := yc_mv hPN ht dP lP2 aP2
      refine yc_code (dc := d (P i)) hN hPN ht (hD _ hPN) lP2 aP2 ?_
      rw [if_neg dP, yz_01 hmv]
      rw [decide_eq_true z, decide_eq_true (show d i ≠ 0 by omega)] at hn
      generalize cd_E (eS_T K M P Q pr ab) (eR_T K M P Q pr ab o al) (d (P i)) (P i) = x at hn hmv ⊢
      refine br_c (fun q => ⟨vi, nm_e ?_⟩) (fun q => ?_)
      · rw [decide_eq_true q] at hn
        refine yn_192 (b := true) (by omega) hL (fun j hj => ?_) pk_us ?_ h
        · rw [pk_un (by omega)]; exact hA j hj
        · rw [hn]; simp
      · rw [decide_eq_false q] at hn
        refine yn_192 (by omega) hL hA hb ?_ h
        rw [hn]; simp
  · refine yn_192 (by omega) hL hA hb ?_ h
    rw [hn, decide_eq_false z]; simp
theorem yn_89 {post : SY → Prop} {g_made g_depth g_size g_begun g_over g_ticks g_present g_absent g_any g_lastPresent g_lastAbsent : Int32} {b_sorts b_numbers b_firsts b_seconds b_stack b_around b_on b_alive b_mustEmit b_canEmit b_mustEnd b_canEnd b_done b_frozen b_killed : Nat → Int32} {N pr ab : Nat} {K M P Q par d : Nat → Nat} {w : Nat → Int32} {o al is fz kl : Nat → Bool} {fi : Bool} (hN : N ≤ 16) (hs : g_size = nI N) (hg : pg_Y N K M P Q b_sorts b_numbers b_firsts b_seconds)
    (ht : tb_Y K M P Q pr ab o al b_mustEmit b_canEmit b_mustEnd b_canEnd N) (ho : ∀ j, j < 16 → b_on j = bo_I (o j))
    (hd : dm_W N K P Q par w o al is (eS_T K M P Q pr ab) (eR_T K M P Q pr ab o al) d fi) (hD : ∀ c, c < N → b_done c = nI (d c)) (hF : ∀ c, c < N → b_frozen c = bo_I (fz c)) (hL : ∀ c, c < N → b_killed c = bo_I (kl c))
    (hp : ∀ A B, (∀ j, j < 16 → B j = bo_I (decide (j < N) && nw_B K P d (eS_T K M P Q pr ab) (eR_T K M P Q pr ab o al) o fz kl j)) → post (g_made, g_depth, g_size, 1, g_over, g_ticks + 1, g_present, g_absent, g_any, g_lastPresent, g_lastAbsent, b_sorts, b_numbers, b_firsts, b_seconds, b_stack, b_around, B, b_alive, b_mustEmit, b_canEmit, b_mustEnd, b_canEnd, b_done, b_frozen, b_killed, A)) :
    ∀ t i A, i + t = N → (∀ j, j < i → A j = bo_I (nw_B K P d (eS_T K M P Q pr ab) (eR_T K M P Q pr ab o al) o fz kl j)) → wY_finish_89 post g_made g_depth g_size g_begun g_over g_ticks g_present g_absent g_any g_lastPresent g_lastAbsent (t + 1) (nI i) b_sorts b_numbers b_firsts b_seconds b_stack b_around b_on b_alive b_mustEmit b_canEmit b_mustEnd b_canEnd b_done b_frozen b_killed A := by
  intro t
  induction t with
  | zero =>
    intro i A hi hA
    refine br_t ?_ ⟨N + 1, yn_216 (o := o) hN hs ((show i = N by omega) ▸ hA) (fun j q => (hd.2.2.2.2.1.2 j q).1) (fun B hB => hp A B hB) N 0 b_on (by omega) (fun j hj => absurd hj (by omega)) (fun j _ hj => ho j hj)⟩
    rw [hs]; exact nI_le (by omega) (by omega)
  | succ t ih =>
    intro i A hi hA
    have hiN : i < N := by omega
    obtain ⟨g1, g2, g3, g4, g5, g6, g7, g8⟩ := hg i hiN
    have hc : (nI i).toNatClampNeg = i := nI_clamp (by omega)
    have vi : vp_in (nI i) 16 := vp_in_nI (by omega) (by omega)
    have vi32 : vp_in (nI i) 32 := vp_in_nI (by omega) (by omega)
    have l2 := dm_012 hd _ i rfl hiN
    have h2 : ∀ A', (∀ j, j < i + 1 → A' j = bo_I (nw_B K P d (eS_T K M P Q pr ab) (eR_T K M P Q pr ab o al) o fz kl j)) → wY_finish_89 post g_made g_depth g_size g_begun g_over g_ticks g_present g_absent g_any g_lastPresent g_lastAbsent (t + 1) (nI (i + 1)) b_sorts b_numbers b_firsts b_seconds b_stack b_around b_on b_alive b_mustEmit b_canEmit b_mustEnd b_canEnd b_done b_frozen b_killed A' := fun A' h => ih (i + 1) A' (by omega) h
    have k153 : ∀ A' b, (∀ j, j < i → A' j = A j) → A' i = bo_I b → ((o i && fz i) || (decide (K i = 1) && decide (d i = 1))) = b → wY_finish_153 post (wY_finish_89 post g_made g_depth g_size g_begun g_over g_ticks g_present g_absent g_any g_lastPresent g_lastAbsent (t + 1)) (nI i) g_made g_depth g_size g_begun g_over g_ticks g_present g_absent g_any g_lastPresent g_lastAbsent b_sorts b_numbers b_firsts b_seconds b_stack b_around b_on b_alive b_mustEmit b_canEmit b_mustEnd b_canEnd b_done b_frozen b_killed A' := by
      intro A' b e1 e2 e3
      refine yn_153 (b := b) (k := kl i) hN hiN hg ht hd hD (hL i hiN) (fun j hj => by rw [e1 j hj]; exact hA j hj) e2 ?_ h2
      unfold nw_B pr_B; rw [e3]
    have k125 : ∀ b, (o i && fz i) = b → wY_finish_125 post (wY_finish_89 post g_made g_depth g_size g_begun g_over g_ticks g_present g_absent g_any g_lastPresent g_lastAbsent (t + 1)) (nI i) (bo_I b) (nI i) g_made g_depth g_size g_begun g_over g_ticks g_present g_absent g_any g_lastPresent g_lastAbsent b_sorts b_numbers b_firsts b_seconds b_stack b_around b_on b_alive b_mustEmit b_canEmit b_mustEnd b_canEnd b_done b_frozen b_killed A := by
      intro b hb
      unfold wY_finish_125
      rw [hc, bo_nar, g1, hD i hiN]
      refine ⟨vi, nm_e ⟨vi32, pk_eq (K i) 1 (fun z => ⟨vi, pk_eq (d i) 1 (fun y => ⟨vi, nm_e ?_⟩) (fun y => ?_)⟩) (fun z => ?_)⟩⟩
      · refine k153 _ true (fun j hj => ?_) pk_us ?_
        · rw [pk_un (by omega), pk_un (by omega)]
        · rw [decide_eq_true z, decide_eq_true y]; simp
      · refine k153 _ b (fun j hj => pk_un (by omega)) pk_us ?_
        rw [decide_eq_false y, hb]; simp
      · refine k153 _ b (fun j hj => pk_un (by omega)) pk_us ?_
        rw [decide_eq_false z, hb]; simp
    refine br_f ?_ ⟨vi, ?_⟩
    · rw [hs]; exact nI_ge (by omega) (by omega)
    rw [hc, ho i (by omega), hF i hiN]
    refine bo_br (o i) (fun z => ?_) (fun z => ⟨vi, bo_br (fz i) (fun y => ?_) (fun y => ?_)⟩)
    · have := k125 false (by rw [z]; rfl)
      exact this
    · have := k125 false (by rw [z, y]; rfl)
      exact this
    · have := k125 true (by rw [z, y]; rfl)
      exact this
theorem yn_67 {post : SY → Prop} {g_made g_depth g_size g_begun g_over g_ticks g_absent g_any g_lastPresent g_lastAbsent : Int32} {b_sorts b_numbers b_firsts b_seconds b_stack b_around b_on b_alive b_mustEmit b_canEmit b_mustEnd b_canEnd : Nat → Int32} {N pr ab : Nat} {K M P Q par d : Nat → Nat} {w : Nat → Int32} {o al is fz kl : Nat → Bool} {fi : Bool} (hN : N ≤ 16) (hsz : g_size = nI N) (hg : pg_Y N K M P Q b_sorts b_numbers b_firsts b_seconds)
    (ht : tb_Y K M P Q pr ab o al b_mustEmit b_canEmit b_mustEnd b_canEnd N) (ho : ∀ j, j < 16 → b_on j = bo_I (o j)) (hal : ∀ j, j < N → b_alive j = bo_I (al j)) (hs : hs_W N K M is pr ab)
    (hd : dm_W N K P Q par w o al is (eS_T K M P Q pr ab) (eR_T K M P Q pr ab o al) d fi) (hf : fk_W N K P par d (eS_T K M P Q pr ab) (eR_T K M P Q pr ab o al) is fz kl)
    (hp : ∀ D F L A B, (∀ j, j < 16 → B j = bo_I (decide (j < N) && nw_B K P d (eS_T K M P Q pr ab) (eR_T K M P Q pr ab o al) o fz kl j)) → post (g_made, g_depth, g_size, 1, g_over, g_ticks + 1, nI pr, g_absent, g_any, g_lastPresent, g_lastAbsent, b_sorts, b_numbers, b_firsts, b_seconds, b_stack, b_around, B, b_alive, b_mustEmit, b_canEmit, b_mustEnd, b_canEnd, D, F, L, A)) :
    ∀ m D F L A, m ≤ N → yI_W N par d fz kl m D F L → wY_finish_67 post (m + 1) (nI m + (-1)) g_made g_depth g_size g_begun g_over g_ticks (nI pr) g_absent g_any g_lastPresent g_lastAbsent b_sorts b_numbers b_firsts b_seconds b_stack b_around b_on b_alive b_mustEmit b_canEmit b_mustEnd b_canEnd D F L A := by
  have htr := hd.2.1
  have wf := hd.2.2.1
  intro m
  induction m with
  | zero =>
    intro D F L A _ h
    refine br_t (by decide) ⟨N + 1, ?_⟩
    have v0 : ∀ c, c < N → vs_B N par 0 c = true := fun c hc => by unfold vs_B; simp
    refine yn_89 hN hsz hg ht ho hd (fun c hc => ?_) (fun c hc => ?_) (fun c hc => ?_) (fun A B hB => hp D F L A B hB) N 0 A (by omega) (fun j hj => absurd hj (by omega))
    · have := (h c hc).1; rw [v0 c hc, if_pos rfl] at this; exact this
    · have := (h c hc).2.2; rw [if_pos (by omega)] at this; exact this
    · have := (h c hc).2.1; rw [v0 c hc, Bool.true_and] at this; exact this
  | succ i ih =>
    intro D F L A hm h
    have hi : i < N := by omega
    have hv1 := vs_i (m := i + 1) htr hi (by omega)
    rw [pk_m1]
    refine br_f (nI_pos (by omega)) ?_
    obtain ⟨d1, d2, d3⟩ := h i hi
    rw [hv1, if_pos rfl] at d1
    rw [hv1, Bool.true_and] at d2
    rw [if_neg (by omega)] at d3
    have vQ : 7 ≤ K i → vs_B N par (i + 1) (Q i) = false := fun h7 => by
      have := (wf i hi (by omega)).2
      unfold vs_B
      rw [(htr.2.2.1 i hi h7).1, decide_eq_false (show ¬ Q i + 1 = N by omega), decide_eq_false (show ¬ i + 1 ≤ i by omega)]; rfl
    have zP : 4 ≤ K i → D (P i) = nI 0 ∧ L (P i) = 0 ∧ F (P i) = 0 := fun h4 => by
      have hp := (wf i hi h4).1
      obtain ⟨e1, e2, e3⟩ := h (P i) (by omega)
      rw [vs_c htr wf hi h4] at e1 e2
      rw [if_neg (by omega), htr.2.1 i hi h4, decide_eq_false (show ¬ i + 1 ≤ i by omega)] at e3
      exact ⟨e1, e2, by rw [e3]; simp; rfl⟩
    have zQ : 7 ≤ K i → D (Q i) = nI 0 ∧ L (Q i) = 0 ∧ F (Q i) = 0 := fun h7 => by
      have hp := (wf i hi (by omega)).2
      obtain ⟨e1, e2, e3⟩ := h (Q i) (by omega)
      rw [vQ h7] at e1 e2
      rw [if_neg (by omega), (htr.2.2.1 i hi h7).1, decide_eq_false (show ¬ i + 1 ≤ i by omega)] at e3
      exact ⟨e1, e2, by rw [e3]; simp; rfl⟩
    refine yp_p hN hi hg ht (ho i (by omega)) hal hd hs d1 (fun h4 => (zP h4).1) (fun h7 => (zQ h7).1) (fun D' hD' => ?_)
    have hfz : fz i = (fr_S K d is i || (decide (i + 1 < N) && fz (par i))) := by
      by_cases e : i + 1 < N
      · rw [hf.2.1 i e, decide_eq_true e, Bool.true_and]
      · have hi1 : i = N - 1 := by omega
        rw [decide_eq_false e, Bool.false_and, Bool.or_false, hi1]; exact hf.1
    have hF1 : (if fr_S K d is i = true then upd F i 1 else F) i = bo_I (fz i) := by
      rw [hfz]
      split
      · rename_i q; rw [pk_us, q]; rfl
      · rename_i q
        have : fr_S K d is i = false := by cases hh : fr_S K d is i; rfl; exact absurd hh q
        rw [this, Bool.false_or, d3]
        by_cases e : i + 1 < N
        · have := (htr.1 i e).1
          rw [decide_eq_true (show i + 1 ≤ par i by omega), Bool.and_true]
        · rw [decide_eq_false e]; rfl
    have hF2 : ∀ c, c ≠ i → (if fr_S K d is i = true then upd F i 1 else F) c = F c := by
      intro c hc
      split
      · exact pk_un hc
      · rfl
    have nPi : 4 ≤ K i → P i ≠ i := fun h4 => by have := (wf i hi h4).1; omega
    have nQi : 7 ≤ K i → Q i ≠ i := fun h7 => by have := (wf i hi (by omega)).2; omega
    refine ys_p (f := fz i) (k := kl i) hN hi hg ht hd ?_ (fun h4 => ?_) hF1 d2 (fun h4 => (zP h4).2.1) (fun h7 => (zQ h7).2.1) (fun h4 => ?_) (fun h7 => ?_) (fun L' F' hL' hF' => nm_e ?_)
    · rw [hD' i hi, if_neg (fun q => nPi q.1 q.2.symm), if_neg (fun q => nQi q.1 q.2.symm)]; exact d1
    · rw [hD' (P i) (by have := (wf i hi h4).1; omega), if_pos ⟨h4, rfl⟩]
    · rw [hF2 _ (nPi h4)]; exact (zP h4).2.2
    · rw [hF2 _ (nQi h7)]; exact (zQ h7).2.2
    · exact ih D' F' L' A (by omega) (yI_s htr wf hf hi h hD' hF1 hF2 hL' hF')
theorem yn_2 {post : SY → Prop} {g_made g_depth g_size g_begun g_over g_ticks g_absent g_any g_lastPresent g_lastAbsent : Int32} {b_sorts b_numbers b_firsts b_seconds b_stack b_around b_on b_alive b_mustEmit b_canEmit b_mustEnd b_canEnd b_after : Nat → Int32} {N pr ab : Nat} {K M P Q par d : Nat → Nat} {w : Nat → Int32} {o al is fz kl : Nat → Bool} {fi : Bool} (hN : N ≤ 16) (hsz : g_size = nI N) (hb : g_begun = bo_I (!fi)) (hg : pg_Y N K M P Q b_sorts b_numbers b_firsts b_seconds)
    (ht : tb_Y K M P Q pr ab o al b_mustEmit b_canEmit b_mustEnd b_canEnd N) (ho : ∀ j, j < 16 → b_on j = bo_I (o j)) (hal : ∀ j, j < N → b_alive j = bo_I (al j)) (hs : hs_W N K M is pr ab)
    (hd : dm_W N K P Q par w o al is (eS_T K M P Q pr ab) (eR_T K M P Q pr ab o al) d fi) (hf : fk_W N K P par d (eS_T K M P Q pr ab) (eR_T K M P Q pr ab o al) is fz kl)
    (hp : ∀ D F L A B, (∀ j, j < 16 → B j = bo_I (decide (j < N) && nw_B K P d (eS_T K M P Q pr ab) (eR_T K M P Q pr ab o al) o fz kl j)) → post (g_made, g_depth, g_size, 1, g_over, g_ticks + 1, nI pr, g_absent, g_any, g_lastPresent, g_lastAbsent, b_sorts, b_numbers, b_firsts, b_seconds, b_stack, b_around, B, b_alive, b_mustEmit, b_canEmit, b_mustEnd, b_canEnd, D, F, L, A)) :
    ∀ t i D F L, i + t = N → (∀ c, c < i → D c = 0 ∧ F c = 0 ∧ L c = 0) → wY_finish_2 post g_made g_depth g_size g_begun g_over g_ticks (nI pr) g_absent g_any g_lastPresent g_lastAbsent (t + 1) (nI i) b_sorts b_numbers b_firsts b_seconds b_stack b_around b_on b_alive b_mustEmit b_canEmit b_mustEnd b_canEnd D F L b_after := by
  have hN1 := hd.1
  have htr := hd.2.1
  have hd0 := hd.2.2.2.2.2.2.2.2.1
  intro t
  induction t with
  | zero =>
    intro i D F L hi h
    have hz : g_size - 1 = nI (N - 1) := by rw [hsz]; exact pk_sub (a := N) (b := 1) hN1
    have hz2 : nI (N - 1) = nI N + (-1) := by
      have := pk_m1 (N - 1)
      rw [show N - 1 + 1 = N by omega] at this; exact this.symm
    have vN : vp_in (nI (N - 1)) 16 := vp_in_nI (by omega) (by omega)
    have cN : (nI (N - 1)).toNatClampNeg = N - 1 := nI_clamp (by omega)
    have hinv : ∀ v, v = nI (d (N - 1)) → yI_W N par d fz kl N (upd D (N - 1) v) F L := by
      intro v hv c hc
      obtain ⟨z1, z2, z3⟩ := h c (by omega)
      by_cases e : c + 1 < N
      · have hv0 : vs_B N par N c = false := by
          have := (htr.1 c e).2.1
          unfold vs_B
          rw [decide_eq_false (show ¬ c + 1 = N by omega), decide_eq_false (show ¬ N ≤ par c by omega)]; rfl
        have := (htr.1 c e).2.1
        rw [hv0, pk_un (by omega), z1, z2, z3, if_neg (show ¬ false = true by decide), if_neg (show ¬ N ≤ c by omega), decide_eq_false (show ¬ N ≤ par c by omega), Bool.and_false, Bool.false_and, Bool.false_and]
        exact ⟨rfl, rfl, rfl⟩
      · have hc1 : c = N - 1 := by omega
        have hv1 : vs_B N par N c = true := by unfold vs_B; rw [decide_eq_true (show c + 1 = N by omega)]; rfl
        rw [hv1, z2, z3, hc1, pk_us, hv, if_pos rfl, if_neg (by omega), hf.2.2.1, decide_eq_false (show ¬ N - 1 + 1 < N by omega)]
        exact ⟨rfl, rfl, rfl⟩
    have fin : ∀ v, v = nI (d (N - 1)) → wY_finish_67 post (N + 1) (nI (N - 1)) g_made g_depth g_size g_begun g_over g_ticks (nI pr) g_absent g_any g_lastPresent g_lastAbsent b_sorts b_numbers b_firsts b_seconds b_stack b_around b_on b_alive b_mustEmit b_canEmit b_mustEnd b_canEnd (upd D (N - 1) v) F L b_after := by
      intro v hv
      have := yn_67 (g_begun := g_begun) hN hsz hg ht ho hal hs hd hf hp N _ _ _ b_after (by omega) (hinv v hv)
      rw [← hz2] at this
      exact this
    refine br_t ?_ ?_
    · rw [hsz]; exact nI_le (by omega) (by omega)
    rw [hb, hz, cN]
    rw [hb] at fin
    refine bo_br (!fi) (fun z => ⟨vN, nm_e (nm_e ⟨N + 1, ?_⟩)⟩) (fun z => ⟨vN, nm_e (nm_e ⟨N + 1, ?_⟩)⟩)
    · refine fin _ ?_
      rw [hd0, show fi = true by cases fi; exact absurd z (by decide); rfl]; rfl
    · refine fin _ ?_
      rw [hd0, show fi = false by cases fi; rfl; exact absurd z (by decide)]; rfl
  | succ t ih =>
    intro i D F L hi h
    have hc : (nI i).toNatClampNeg = i := nI_clamp (by omega)
    have vi : vp_in (nI i) 16 := vp_in_nI (by omega) (by omega)
    refine br_f ?_ ⟨vi, ?_⟩
    · rw [hsz]; exact nI_ge (by omega) (by omega)
    rw [hc]
    refine nm_e ⟨vi, nm_e ⟨vi, nm_e (nm_r (nI_1 i) (ih (i + 1) _ _ _ (by omega) (lt_s (fun c hc => ?_) ⟨pk_us, pk_us, pk_us⟩)))⟩⟩
    rw [pk_un (by omega), pk_un (by omega), pk_un (by omega)]; exact h c hc
theorem yn_p {post : SY → Prop} {g_made g_depth g_size g_begun g_over g_ticks g_absent g_any g_lastPresent g_lastAbsent : Int32} {b_sorts b_numbers b_firsts b_seconds b_stack b_around b_on b_alive b_mustEmit b_canEmit b_mustEnd b_canEnd b_done b_frozen b_killed b_after : Nat → Int32} {N pr ab : Nat} {K M P Q par d : Nat → Nat} {w : Nat → Int32} {o al is fz kl : Nat → Bool} {fi : Bool} (hN : N ≤ 16) (hsz : g_size = nI N) (hb : g_begun = bo_I (!fi)) (hg : pg_Y N K M P Q b_sorts b_numbers b_firsts b_seconds)
    (ht : tb_Y K M P Q pr ab o al b_mustEmit b_canEmit b_mustEnd b_canEnd N) (ho : ∀ j, j < 16 → b_on j = bo_I (o j)) (hal : ∀ j, j < N → b_alive j = bo_I (al j)) (hs : hs_W N K M is pr ab)
    (hd : dm_W N K P Q par w o al is (eS_T K M P Q pr ab) (eR_T K M P Q pr ab o al) d fi) (hf : fk_W N K P par d (eS_T K M P Q pr ab) (eR_T K M P Q pr ab o al) is fz kl)
    (hp : ∀ D F L A B, (∀ j, j < 16 → B j = bo_I (decide (j < N) && nw_B K P d (eS_T K M P Q pr ab) (eR_T K M P Q pr ab o al) o fz kl j)) → post (g_made, g_depth, g_size, 1, g_over, g_ticks + 1, nI pr, g_absent, g_any, g_lastPresent, g_lastAbsent, b_sorts, b_numbers, b_firsts, b_seconds, b_stack, b_around, B, b_alive, b_mustEmit, b_canEmit, b_mustEnd, b_canEnd, D, F, L, A)) : wpY_finish post (g_made, g_depth, g_size, g_begun, g_over, g_ticks, nI pr, g_absent, g_any, g_lastPresent, g_lastAbsent, b_sorts, b_numbers, b_firsts, b_seconds, b_stack, b_around, b_on, b_alive, b_mustEmit, b_canEmit, b_mustEnd, b_canEnd, b_done, b_frozen, b_killed, b_after) :=
  ⟨N + 1, yn_2 hN hsz hb hg ht ho hal hs hd hf hp N 0 _ _ _ (by omega) (fun c hc => absurd hc (by omega))⟩
