/- Y: alive, the rounds, find -/
theorem yl_66 {post : SY → Prop} {J : Int32 → (Nat → Int32) → (Nat → Int32) → (Nat → Int32) → (Nat → Int32) → (Nat → Int32) → (Nat → Int32) → (Nat → Int32) → (Nat → Int32) → (Nat → Int32) → (Nat → Int32) → (Nat → Int32) → (Nat → Int32) → (Nat → Int32) → (Nat → Int32) → (Nat → Int32) → (Nat → Int32) → Prop} {g_made g_depth g_size g_begun g_over g_ticks g_present g_absent g_any g_lastPresent g_lastAbsent : Int32} {b_sorts b_numbers b_firsts b_seconds b_stack b_around b_on b_mustEmit b_canEmit b_mustEnd b_canEnd b_done b_frozen b_killed b_after : Nat → Int32} {A : Nat → Int32} {N i : Nat} {K M P Q : Nat → Nat} {al : Nat → Bool} {b : Bool} (hN : N ≤ 16) (hi : i < N) (hg : pg_Y N K M P Q b_sorts b_numbers b_firsts b_seconds)
    (hA : ∀ j, j < i → A j = bo_I (al j)) (hb : A i = bo_I b) (he : al i = (b || (decide (7 ≤ K i) && al (Q i))))
    (h : ∀ A', (∀ j, j < i + 1 → A' j = bo_I (al j)) → J (nI (i + 1)) b_sorts b_numbers b_firsts b_seconds b_stack b_around b_on A' b_mustEmit b_canEmit b_mustEnd b_canEnd b_done b_frozen b_killed b_after) : wY_findAlive_66 post J (nI i) g_made g_depth g_size g_begun g_over g_ticks g_present g_absent g_any g_lastPresent g_lastAbsent b_sorts b_numbers b_firsts b_seconds b_stack b_around b_on A b_mustEmit b_canEmit b_mustEnd b_canEnd b_done b_frozen b_killed b_after := by
  obtain ⟨g1, g2, g3, g4, g5, g6, g7, g8⟩ := hg i hi
  have hc : (nI i).toNatClampNeg = i := nI_clamp (by omega)
  have vi : vp_in (nI i) 32 := vp_in_nI (by omega) (by omega)
  have vi16 : vp_in (nI i) 16 := vp_in_nI (by omega) (by omega)
  unfold wY_findAlive_66
  rw [hc, g1, g5]
  refine ⟨vi, pk_le (K i) 6 (fun z => nm_r (nI_1 i) ?_) (fun z => ⟨vi16, ?_⟩)⟩
  · refine h A (lt_s hA ?_)
    rw [hb, he, decide_eq_false (by omega)]; simp
  · rw [if_pos (show 7 ≤ K i by omega), nI_clamp (show Q i < 2 ^ 31 by omega), hb]
    rw [decide_eq_true (show 7 ≤ K i by omega), Bool.true_and] at he
    have hq := (g8 (by omega)).2
    refine bo_br b (fun t => ⟨vi, vp_in_nI g7 (by omega), ?_⟩) (fun t => ⟨vi16, nm_e (nm_r (nI_1 i) ?_)⟩)
    · rw [hA _ hq]
      rw [t, Bool.false_or] at he
      refine bo_br _ (fun t2 => ⟨vi16, nm_e (nm_r (nI_1 i) ?_)⟩) (fun t2 => ⟨vi16, nm_e (nm_r (nI_1 i) ?_)⟩)
      · refine h _ (lt_s (fun j hj => ?_) ?_)
        · rw [pk_un (by omega)]; exact hA j hj
        · rw [pk_us, he, t2]; rfl
      · refine h _ (lt_s (fun j hj => ?_) ?_)
        · rw [pk_un (by omega)]; exact hA j hj
        · rw [pk_us, he, t2]; rfl
    · refine h _ (lt_s (fun j hj => ?_) ?_)
      · rw [pk_un (by omega)]; exact hA j hj
      · rw [pk_us, he, t]; rfl
theorem yl_2 {post : SY → Prop} {g_made g_depth g_size g_begun g_over g_ticks g_present g_absent g_any g_lastPresent g_lastAbsent : Int32} {b_sorts b_numbers b_firsts b_seconds b_stack b_around b_on b_mustEmit b_canEmit b_mustEnd b_canEnd b_done b_frozen b_killed b_after : Nat → Int32} {N : Nat} {K M P Q : Nat → Nat} {o al : Nat → Bool} (hN : N ≤ 16) (hs : g_size = nI N) (hg : pg_Y N K M P Q b_sorts b_numbers b_firsts b_seconds)
    (ho : ∀ j, j < 16 → b_on j = bo_I (o j)) (he : ∀ i, i < N → al i = (o i || (decide (4 ≤ K i) && al (P i)) || (decide (7 ≤ K i) && al (Q i))))
    (h : ∀ A', (∀ j, j < N → A' j = bo_I (al j)) → post (g_made, g_depth, g_size, g_begun, g_over, g_ticks, g_present, g_absent, g_any, g_lastPresent, g_lastAbsent, b_sorts, b_numbers, b_firsts, b_seconds, b_stack, b_around, b_on, A', b_mustEmit, b_canEmit, b_mustEnd, b_canEnd, b_done, b_frozen, b_killed, b_after)) :
    ∀ d i A, i + d = N → (∀ j, j < i → A j = bo_I (al j)) → wY_findAlive_2 post g_made g_depth g_size g_begun g_over g_ticks g_present g_absent g_any g_lastPresent g_lastAbsent (d + 1) (nI i) b_sorts b_numbers b_firsts b_seconds b_stack b_around b_on A b_mustEmit b_canEmit b_mustEnd b_canEnd b_done b_frozen b_killed b_after := by
  intro d
  induction d with
  | zero =>
    intro i A hi hA
    refine br_t ?_ (h A ((show i = N by omega) ▸ hA))
    rw [hs]; exact nI_le (by omega) (by omega)
  | succ d ih =>
    intro i A hi hA
    have hiN : i < N := by omega
    obtain ⟨g1, g2, g3, g4, g5, g6, g7, g8⟩ := hg i hiN
    have hc : (nI i).toNatClampNeg = i := nI_clamp (by omega)
    have vi : vp_in (nI i) 32 := vp_in_nI (by omega) (by omega)
    have vi16 : vp_in (nI i) 16 := vp_in_nI (by omega) (by omega)
    have h2 : ∀ A', (∀ j, j < i + 1 → A' j = bo_I (al j)) → wY_findAlive_2 post g_made g_depth g_size g_begun g_over g_ticks g_present g_absent g_any g_lastPresent g_lastAbsent (d + 1) (nI (i + 1)) b_sorts b_numbers b_firsts b_seconds b_stack b_around b_on A' b_mustEmit b_canEmit b_mustEnd b_canEnd b_done b_frozen b_killed b_after := fun A' hA' => ih (i + 1) A' (by omega) hA'
    have he' := he i hiN
    refine br_f ?_ ⟨vi16, vi16, ?_⟩
    · rw [hs]; exact nI_ge (by omega) (by omega)
    rw [hc, ho i (by omega), bo_nar]
    refine nm_e ⟨vi, ?_⟩
    rw [g1, pk_us]
    refine pk_le (K i) 3 (fun z => ?_) (fun z => ⟨vi16, ?_⟩)
    · refine yl_66 (b := o i) hN hiN hg (fun j hj => ?_) pk_us ?_ h2
      · rw [pk_un (by omega)]; exact hA j hj
      · rw [he', decide_eq_false (show ¬ 4 ≤ K i by omega)]; simp
    · have hp := (g8 (by omega)).1
      rw [decide_eq_true (show 4 ≤ K i by omega), Bool.true_and] at he'
      have k1 : ∀ (b : Bool), (o i || al (P i)) = b → wY_findAlive_66 post (wY_findAlive_2 post g_made g_depth g_size g_begun g_over g_ticks g_present g_absent g_any g_lastPresent g_lastAbsent (d + 1)) (nI i) g_made g_depth g_size g_begun g_over g_ticks g_present g_absent g_any g_lastPresent g_lastAbsent b_sorts b_numbers b_firsts b_seconds b_stack b_around b_on (upd (upd A i (bo_I (o i))) i (bo_I b)) b_mustEmit b_canEmit b_mustEnd b_canEnd b_done b_frozen b_killed b_after := by
        intro b hb
        refine yl_66 (b := b) hN hiN hg (fun j hj => ?_) pk_us ?_ h2
        · rw [pk_un (by omega), pk_un (by omega)]; exact hA j hj
        · rw [he', hb]
      have k2 : ∀ (b : Bool), (o i || al (P i)) = b → wY_findAlive_65 post (wY_findAlive_2 post g_made g_depth g_size g_begun g_over g_ticks g_present g_absent g_any g_lastPresent g_lastAbsent (d + 1)) (nI i) (bo_I b) (nI i) g_made g_depth g_size g_begun g_over g_ticks g_present g_absent g_any g_lastPresent g_lastAbsent b_sorts b_numbers b_firsts b_seconds b_stack b_around b_on (upd A i (bo_I (o i))) b_mustEmit b_canEmit b_mustEnd b_canEnd b_done b_frozen b_killed b_after := by
        intro b hb
        unfold wY_findAlive_65
        rw [hc, bo_nar]
        exact ⟨vi16, nm_e (k1 b hb)⟩
      refine bo_br (o i) (fun t => ⟨vi, ?_⟩) (fun t => ?_)
      · rw [g4, nI_clamp (show P i < 2 ^ 31 by omega)]
        refine ⟨vp_in_nI g6 (by omega), ?_⟩
        rw [pk_un (by omega), hA _ hp]
        refine bo_br _ (fun t2 => ?_) (fun t2 => ?_)
        · have := k2 false (by rw [t, t2]; rfl)
          exact this
        · have := k2 true (by rw [t, t2]; rfl)
          exact this
      · have := k2 true (by rw [t]; rfl)
        exact this
theorem yl_p {post : SY → Prop} {g_made g_depth g_size g_begun g_over g_ticks g_present g_absent g_any g_lastPresent g_lastAbsent : Int32} {b_sorts b_numbers b_firsts b_seconds b_stack b_around b_on b_alive b_mustEmit b_canEmit b_mustEnd b_canEnd b_done b_frozen b_killed b_after : Nat → Int32} {N : Nat} {K M P Q : Nat → Nat} {o al : Nat → Bool} (hN : N ≤ 16) (hs : g_size = nI N) (hg : pg_Y N K M P Q b_sorts b_numbers b_firsts b_seconds)
    (ho : ∀ j, j < 16 → b_on j = bo_I (o j)) (he : ∀ i, i < N → al i = (o i || (decide (4 ≤ K i) && al (P i)) || (decide (7 ≤ K i) && al (Q i))))
    (h : ∀ A', (∀ j, j < N → A' j = bo_I (al j)) → post (g_made, g_depth, g_size, g_begun, g_over, g_ticks, g_present, g_absent, g_any, g_lastPresent, g_lastAbsent, b_sorts, b_numbers, b_firsts, b_seconds, b_stack, b_around, b_on, A', b_mustEmit, b_canEmit, b_mustEnd, b_canEnd, b_done, b_frozen, b_killed, b_after)) : wpY_findAlive post (g_made, g_depth, g_size, g_begun, g_over, g_ticks, g_present, g_absent, g_any, g_lastPresent, g_lastAbsent, b_sorts, b_numbers, b_firsts, b_seconds, b_stack, b_around, b_on, b_alive, b_mustEmit, b_canEmit, b_mustEnd, b_canEnd, b_done, b_frozen, b_killed, b_after) :=
  ⟨N + 1, yl_2 hN hs hg ho he h N 0 b_alive (by omega) (fun j hj => absurd hj (by omega))⟩
theorem qa_s {me ce mn cn : Nat → Int32} {a : Nat} {x : Int32 × Int32 × Int32 × Int32} : qu_at (upd me a x.1) (upd ce a x.2.1) (upd mn a x.2.2.1) (upd cn a x.2.2.2) a = x := by
  unfold qu_at; rw [pk_us, pk_us, pk_us, pk_us]
theorem qa_n {me ce mn cn : Nat → Int32} {a j : Nat} {x : Int32 × Int32 × Int32 × Int32} (h : j ≠ a) : qu_at (upd me a x.1) (upd ce a x.2.1) (upd mn a x.2.2.1) (upd cn a x.2.2.2) j = qu_at me ce mn cn j := by
  unfold qu_at; rw [pk_un h, pk_un h, pk_un h, pk_un h]
def tb_Y (K M P Q : Nat → Nat) (pr ab : Nat) (o al : Nat → Bool) (me ce mn cn : Nat → Int32) (i : Nat) : Prop :=
  ∀ j, j < i → yq_R (qu_at me ce mn cn j) (tv_S K M P Q pr ab true j) (tv_S K M P Q pr ab false j) ∧ (al j = true → yq_R (qu_at me ce mn cn (16 + j)) (tv_R K M P Q pr ab o al true j) (tv_R K M P Q pr ab o al false j))
/-- what the pauses and loops that are on keep to -/
def on_W (N : Nat) (K P Q : Nat → Nat) (o al : Nat → Bool) : Prop :=
  (∀ i, i < N → al i = (o i || (decide (4 ≤ K i) && al (P i)) || (decide (7 ≤ K i) && al (Q i)))) ∧ (∀ i, o i = true → i < N ∧ (K i = 1 ∨ K i = 4))
theorem tv_R0 {N : Nat} {K M P Q : Nat → Nat} (wf : wf_P N K P Q) (pr ab : Nat) (o al : Nat → Bool) (mu : Bool) {i : Nat} (hi : i < N) (h : al i = false) : tv_R K M P Q pr ab o al mu i = (0, 1) := by
  rw [tv_Re wf pr ab o al mu hi]
  unfold sv_R
  rw [if_pos h]
theorem pg_wfY {N : Nat} {K M P Q : Nat → Nat} {kY mY pY qY : Nat → Int32} (h : pg_Y N K M P Q kY mY pY qY) : wf_P N K P Q := fun i hi => (h i hi).2.2.2.2.2.2.2
theorem tb_Ys {N i pr ab : Nat} {K M P Q : Nat → Nat} {o al : Nat → Bool} {kY mY pY qY me ce mn cn : Nat → Int32} (hN : N ≤ 16) (hi : i < N) (hg : pg_Y N K M P Q kY mY pY qY) (ho : on_W N K P Q o al) (ht : tb_Y K M P Q pr ab o al me ce mn cn i)
    {x y : Int32 × Int32 × Int32 × Int32} (hx : x = qu_S (K i) (M i) (mY i) (nI pr) (nI ab) (qu_at me ce mn cn (P i)) (qu_at me ce mn cn (Q i)))
    (hy : y = qu_R (K i) (M i) (nI pr) (nI ab) (o i) (al (P i)) (al (Q i)) (qu_at (upd me i x.1) (upd ce i x.2.1) (upd mn i x.2.2.1) (upd cn i x.2.2.2) (P i)) (qu_at (upd me i x.1) (upd ce i x.2.1) (upd mn i x.2.2.1) (upd cn i x.2.2.2) (Q i)) (qu_at (upd me i x.1) (upd ce i x.2.1) (upd mn i x.2.2.1) (upd cn i x.2.2.2) (16 + P i)) (qu_at (upd me i x.1) (upd ce i x.2.1) (upd mn i x.2.2.1) (upd cn i x.2.2.2) (16 + Q i))) :
    tb_Y K M P Q pr ab o al (upd (upd me i x.1) (16 + i) y.1) (upd (upd ce i x.2.1) (16 + i) y.2.1) (upd (upd mn i x.2.2.1) (16 + i) y.2.2.1) (upd (upd cn i x.2.2.2) (16 + i) y.2.2.2) (i + 1) := by
  obtain ⟨g1, g2, g3, g4, g5, g6, g7, g8⟩ := hg i hi
  refine lt_s (fun j hj => ?_) ?_
  · have := ht j hj
    rw [qa_n (show j ≠ 16 + i by omega), qa_n (show j ≠ i by omega), qa_n (show 16 + j ≠ 16 + i by omega), qa_n (show 16 + j ≠ i by omega)]
    exact this
  · rw [qa_n (show i ≠ 16 + i by omega), qa_s, qa_s]
    have hS : 4 ≤ K i → yq_R (qu_at me ce mn cn (P i)) (tv_S K M P Q pr ab true (P i)) (tv_S K M P Q pr ab false (P i)) := fun h4 => (ht _ (g8 h4).1).1
    have hT : 4 ≤ K i → yq_R (qu_at me ce mn cn (Q i)) (tv_S K M P Q pr ab true (Q i)) (tv_S K M P Q pr ab false (Q i)) := fun h4 => (ht _ (g8 h4).2).1
    refine ⟨?_, fun ha => ?_⟩
    · rw [hx, tv_Se (pg_wfY hg) pr ab true hi, tv_Se (pg_wfY hg) pr ab false hi]
      exact yq_S g2 g3 hS hT
    · rw [hy, tv_Re (pg_wfY hg) pr ab o al true hi, tv_Re (pg_wfY hg) pr ab o al false hi, ha]
      have hal := ho.1 i hi
      rw [ha] at hal
      have hon := ho.2 i
      refine yq_Re g2 g3 (fun h4 => ?_) (fun h4 => ?_) (fun h4 z => ?_) (fun h7 z => ?_) (fun h4 z => ?_) (fun h7 z => ?_) (fun h4 z => ?_) (fun h5 => ?_) (fun h7 z => ?_)
      · rw [qa_n (show P i ≠ i by have := (g8 h4).1; omega)]; exact hS h4
      · rw [qa_n (show Q i ≠ i by have := (g8 h4).2; omega)]; exact hT h4
      · rw [qa_n (show 16 + P i ≠ i by omega)]; exact (ht _ (g8 h4).1).2 z
      · rw [qa_n (show 16 + Q i ≠ i by omega)]; exact (ht _ (g8 (by omega)).2).2 z
      · have : P i < N := by have := (g8 h4).1; omega
        exact ⟨tv_R0 (pg_wfY hg) pr ab o al true this z, tv_R0 (pg_wfY hg) pr ab o al false this z⟩
      · have : Q i < N := by have := (g8 (by omega)).2; omega
        exact ⟨tv_R0 (pg_wfY hg) pr ab o al true this z, tv_R0 (pg_wfY hg) pr ab o al false this z⟩
      · rw [z, decide_eq_true (show 4 ≤ K i by omega), decide_eq_false (show ¬ 7 ≤ K i by omega)] at hal
        simpa using hal.symm
      · have oi : o i = false := by
          cases hz : o i
          · rfl
          · have := (hon hz).2; omega
        rw [oi, decide_eq_true (show 4 ≤ K i by omega), decide_eq_false (show ¬ 7 ≤ K i by omega)] at hal
        simpa using hal.symm
      · have oi : o i = false := by
          cases hz : o i
          · rfl
          · have := (hon hz).2; omega
        rw [oi, z, decide_eq_true (show 4 ≤ K i by omega), decide_eq_true (show 7 ≤ K i by omega)] at hal
        simpa using hal.symm
