/- beside, either, suspended, the two judges -/
def be_A (me ce mn cn : Nat → Int32) (e : Int32) (x : Int32 × Int32 × Int32 × Int32) : Prop := (∃ p, p < 32 ∧ e = nI p ∧ x = qu_at me ce mn cn p) ∨ (e = -1 ∧ x = (0, 0, 0, 1))
theorem be_me {me ce mn cn : Nat → Int32} {e : Int32} {x : Int32 × Int32 × Int32 × Int32} (F : Int32 → Prop) (h : be_A me ce mn cn e x) (hF : F x.1) : (0 ≤ e → (vp_in e 32 ∧ F (me e.toNatClampNeg))) ∧ (¬ 0 ≤ e → F 0) := by
  rcases h with ⟨p, hp, rfl, rfl⟩ | ⟨rfl, rfl⟩
  · rw [nI_clamp (show p < 2 ^ 31 by omega)]; exact br_t (nI_pos' (by omega)) ⟨vp_in_nI hp (by omega), hF⟩
  · exact br_f (by decide) hF
theorem be_ce {me ce mn cn : Nat → Int32} {e : Int32} {x : Int32 × Int32 × Int32 × Int32} (F : Int32 → Prop) (h : be_A me ce mn cn e x) (hF : F x.2.1) : (0 ≤ e → (vp_in e 32 ∧ F (ce e.toNatClampNeg))) ∧ (¬ 0 ≤ e → F 0) := by
  rcases h with ⟨p, hp, rfl, rfl⟩ | ⟨rfl, rfl⟩
  · rw [nI_clamp (show p < 2 ^ 31 by omega)]; exact br_t (nI_pos' (by omega)) ⟨vp_in_nI hp (by omega), hF⟩
  · exact br_f (by decide) hF
theorem be_mn {me ce mn cn : Nat → Int32} {e : Int32} {x : Int32 × Int32 × Int32 × Int32} (F : Int32 → Prop) (h : be_A me ce mn cn e x) (hF : F x.2.2.1) : (0 ≤ e → (vp_in e 32 ∧ F (mn e.toNatClampNeg))) ∧ (¬ 0 ≤ e → F 0) := by
  rcases h with ⟨p, hp, rfl, rfl⟩ | ⟨rfl, rfl⟩
  · rw [nI_clamp (show p < 2 ^ 31 by omega)]; exact br_t (nI_pos' (by omega)) ⟨vp_in_nI hp (by omega), hF⟩
  · exact br_f (by decide) hF
theorem be_cn {me ce mn cn : Nat → Int32} {e : Int32} {x : Int32 × Int32 × Int32 × Int32} (F : Int32 → Prop) (h : be_A me ce mn cn e x) (hF : F x.2.2.2) : (0 ≤ e → (vp_in e 32 ∧ F (cn e.toNatClampNeg))) ∧ (¬ 0 ≤ e → F 1) := by
  rcases h with ⟨p, hp, rfl, rfl⟩ | ⟨rfl, rfl⟩
  · rw [nI_clamp (show p < 2 ^ 31 by omega)]; exact br_t (nI_pos' (by omega)) ⟨vp_in_nI hp (by omega), hF⟩
  · exact br_f (by decide) hF
theorem be_30 {post : SY → Prop} {g_made g_depth g_size g_begun g_over g_ticks g_present g_absent g_any g_lastPresent g_lastAbsent : Int32} {b_sorts b_numbers b_firsts b_seconds b_stack b_around b_on b_alive b_mustEmit b_canEmit b_mustEnd b_canEnd b_done b_frozen b_killed b_after : Nat → Int32} {x1 x2 x3 x4 z0 : Int32} (h : wY_beside_60 post x1 x2 x3 (qu_end x4 z0) g_made g_depth g_size g_begun g_over g_ticks g_present g_absent g_any g_lastPresent g_lastAbsent b_sorts b_numbers b_firsts b_seconds b_stack b_around b_on b_alive b_mustEmit b_canEmit b_mustEnd b_canEnd b_done b_frozen b_killed b_after) : wY_beside_30 post x1 x2 x3 x4 z0 g_made g_depth g_size g_begun g_over g_ticks g_present g_absent g_any g_lastPresent g_lastAbsent b_sorts b_numbers b_firsts b_seconds b_stack b_around b_on b_alive b_mustEmit b_canEmit b_mustEnd b_canEnd b_done b_frozen b_killed b_after := by
  unfold qu_end at h
  refine br_c (fun z => ?_) (fun z => br_c (fun y => br_c (fun w => ?_) (fun w => ?_)) (fun y => ?_))
  · rw [if_pos z] at h; exact h
  · rw [if_neg z, if_pos y, if_pos w] at h; exact h
  · rw [if_neg z, if_pos y, if_neg w] at h; exact h
  · rw [if_neg z, if_neg y] at h; exact h
theorem yo_beside {post : SY → Prop} {g_made g_depth g_size g_begun g_over g_ticks g_present g_absent g_any g_lastPresent g_lastAbsent : Int32} {b_sorts b_numbers b_firsts b_seconds b_stack b_around b_on b_alive b_mustEmit b_canEmit b_mustEnd b_canEnd b_done b_frozen b_killed b_after : Nat → Int32} {a : Nat} {e1 e2 : Int32} {x y : Int32 × Int32 × Int32 × Int32} (ha : a < 32) (hx : be_A b_mustEmit b_canEmit b_mustEnd b_canEnd e1 x) (hy : be_A b_mustEmit b_canEmit b_mustEnd b_canEnd e2 y)
    (h : post (g_made, g_depth, g_size, g_begun, g_over, g_ticks, g_present, g_absent, g_any, g_lastPresent, g_lastAbsent, b_sorts, b_numbers, b_firsts, b_seconds, b_stack, b_around, b_on, b_alive, upd b_mustEmit (a) (qu_beside x y).1, upd b_canEmit (a) (qu_beside x y).2.1, upd b_mustEnd (a) (qu_beside x y).2.2.1, upd b_canEnd (a) (qu_beside x y).2.2.2, b_done, b_frozen, b_killed, b_after)) : wpY_beside post (g_made, g_depth, g_size, g_begun, g_over, g_ticks, g_present, g_absent, g_any, g_lastPresent, g_lastAbsent, b_sorts, b_numbers, b_firsts, b_seconds, b_stack, b_around, b_on, b_alive, b_mustEmit, b_canEmit, b_mustEnd, b_canEnd, b_done, b_frozen, b_killed, b_after) (nI a) e1 e2 := by
  refine be_mn (fun z => wY_beside_14 post (nI a) e1 e2 z g_made g_depth g_size g_begun g_over g_ticks g_present g_absent g_any g_lastPresent g_lastAbsent b_sorts b_numbers b_firsts b_seconds b_stack b_around b_on b_alive b_mustEmit b_canEmit b_mustEnd b_canEnd b_done b_frozen b_killed b_after) hx ?_
  refine be_mn (fun z => wY_beside_30 post (nI a) e1 e2 x.2.2.1 z g_made g_depth g_size g_begun g_over g_ticks g_present g_absent g_any g_lastPresent g_lastAbsent b_sorts b_numbers b_firsts b_seconds b_stack b_around b_on b_alive b_mustEmit b_canEmit b_mustEnd b_canEnd b_done b_frozen b_killed b_after) hy ?_
  refine be_30 ?_
  refine be_cn (fun z => wY_beside_77 post (nI a) e1 e2 (qu_end x.2.2.1 y.2.2.1) z g_made g_depth g_size g_begun g_over g_ticks g_present g_absent g_any g_lastPresent g_lastAbsent b_sorts b_numbers b_firsts b_seconds b_stack b_around b_on b_alive b_mustEmit b_canEmit b_mustEnd b_canEnd b_done b_frozen b_killed b_after) hx ?_
  refine be_cn (fun z => wY_beside_91 post (nI a) e1 e2 (qu_end x.2.2.1 y.2.2.1) z x.2.2.2 g_made g_depth g_size g_begun g_over g_ticks g_present g_absent g_any g_lastPresent g_lastAbsent b_sorts b_numbers b_firsts b_seconds b_stack b_around b_on b_alive b_mustEmit b_canEmit b_mustEnd b_canEnd b_done b_frozen b_killed b_after) hy ?_
  refine yo_greater ?_
  refine be_me (fun z => wY_beside_110 post (nI a) e1 e2 (qu_end x.2.2.1 y.2.2.1) (gr_a (bt x.2.2.2) (bt y.2.2.2) 5 0) z g_made g_depth g_size g_begun g_over g_ticks g_present g_absent g_any g_lastPresent g_lastAbsent b_sorts b_numbers b_firsts b_seconds b_stack b_around b_on b_alive b_mustEmit b_canEmit b_mustEnd b_canEnd b_done b_frozen b_killed b_after) hx ?_
  refine be_me (fun z => wY_beside_124 post (nI a) e1 e2 (qu_end x.2.2.1 y.2.2.1) (gr_a (bt x.2.2.2) (bt y.2.2.2) 5 0) z x.1 g_made g_depth g_size g_begun g_over g_ticks g_present g_absent g_any g_lastPresent g_lastAbsent b_sorts b_numbers b_firsts b_seconds b_stack b_around b_on b_alive b_mustEmit b_canEmit b_mustEnd b_canEnd b_done b_frozen b_killed b_after) hy ?_
  refine nm_e ?_
  refine be_ce (fun z => wY_beside_141 post (nI a) e2 (qu_end x.2.2.1 y.2.2.1) (gr_a (bt x.2.2.2) (bt y.2.2.2) 5 0) (x.1 ||| y.1) z g_made g_depth g_size g_begun g_over g_ticks g_present g_absent g_any g_lastPresent g_lastAbsent b_sorts b_numbers b_firsts b_seconds b_stack b_around b_on b_alive b_mustEmit b_canEmit b_mustEnd b_canEnd b_done b_frozen b_killed b_after) hx ?_
  refine be_ce (fun z => wY_beside_155 post (nI a) (qu_end x.2.2.1 y.2.2.1) (gr_a (bt x.2.2.2) (bt y.2.2.2) 5 0) (x.1 ||| y.1) z x.2.1 g_made g_depth g_size g_begun g_over g_ticks g_present g_absent g_any g_lastPresent g_lastAbsent b_sorts b_numbers b_firsts b_seconds b_stack b_around b_on b_alive b_mustEmit b_canEmit b_mustEnd b_canEnd b_done b_frozen b_killed b_after) hy ?_
  exact nm_e (yo_set ha h)
theorem yo_either {post : SY → Prop} {g_made g_depth g_size g_begun g_over g_ticks g_present g_absent g_any g_lastPresent g_lastAbsent : Int32} {b_sorts b_numbers b_firsts b_seconds b_stack b_around b_on b_alive b_mustEmit b_canEmit b_mustEnd b_canEnd b_done b_frozen b_killed b_after : Nat → Int32} {a m p q : Nat} {e : Int32} (ha : a < 32) (hm : m < 32) (he : e = nI m) (hp : p < 32) (hq : q < 32)
    (h : post (g_made, g_depth, g_size, g_begun, g_over, g_ticks, g_present, g_absent, g_any, g_lastPresent, g_lastAbsent, b_sorts, b_numbers, b_firsts, b_seconds, b_stack, b_around, b_on, b_alive, upd b_mustEmit (a) (qu_either m g_present g_absent (qu_at b_mustEmit b_canEmit b_mustEnd b_canEnd p) (qu_at b_mustEmit b_canEmit b_mustEnd b_canEnd q)).1, upd b_canEmit (a) (qu_either m g_present g_absent (qu_at b_mustEmit b_canEmit b_mustEnd b_canEnd p) (qu_at b_mustEmit b_canEmit b_mustEnd b_canEnd q)).2.1, upd b_mustEnd (a) (qu_either m g_present g_absent (qu_at b_mustEmit b_canEmit b_mustEnd b_canEnd p) (qu_at b_mustEmit b_canEmit b_mustEnd b_canEnd q)).2.2.1, upd b_canEnd (a) (qu_either m g_present g_absent (qu_at b_mustEmit b_canEmit b_mustEnd b_canEnd p) (qu_at b_mustEmit b_canEmit b_mustEnd b_canEnd q)).2.2.2, b_done, b_frozen, b_killed, b_after)) : wpY_either post (g_made, g_depth, g_size, g_begun, g_over, g_ticks, g_present, g_absent, g_any, g_lastPresent, g_lastAbsent, b_sorts, b_numbers, b_firsts, b_seconds, b_stack, b_around, b_on, b_alive, b_mustEmit, b_canEmit, b_mustEnd, b_canEnd, b_done, b_frozen, b_killed, b_after) (nI a) e (nI p) (nI q) := by
  have vp : vp_in (nI p) 32 := vp_in_nI hp (by omega)
  have vq : vp_in (nI q) 32 := vp_in_nI hq (by omega)
  unfold qu_either at h
  refine bz_yb hm he (fun t => ?_) (fun t => bz_yb hm he (fun t2 => ?_) (fun t2 => ⟨vp, vq, vp, vq, ?_⟩))
  · rw [if_pos t] at h; exact yo_copy ha hp h
  · rw [if_neg (by rw [t]; decide), if_pos t2] at h; exact yo_copy ha hq h
  · rw [if_neg (by rw [t]; decide), if_neg (by rw [t2]; decide)] at h
    rw [nI_clamp (show p < 2 ^ 31 by omega), nI_clamp (show q < 2 ^ 31 by omega)]
    exact yo_set ha h
theorem yo_susp {post : SY → Prop} {g_made g_depth g_size g_begun g_over g_ticks g_present g_absent g_any g_lastPresent g_lastAbsent : Int32} {b_sorts b_numbers b_firsts b_seconds b_stack b_around b_on b_alive b_mustEmit b_canEmit b_mustEnd b_canEnd b_done b_frozen b_killed b_after : Nat → Int32} {a m p : Nat} {e : Int32} (ha : a < 32) (hm : m < 32) (he : e = nI m) (hp : p < 32)
    (h : post (g_made, g_depth, g_size, g_begun, g_over, g_ticks, g_present, g_absent, g_any, g_lastPresent, g_lastAbsent, b_sorts, b_numbers, b_firsts, b_seconds, b_stack, b_around, b_on, b_alive, upd b_mustEmit (a) (qu_susp m g_present g_absent (qu_at b_mustEmit b_canEmit b_mustEnd b_canEnd p)).1, upd b_canEmit (a) (qu_susp m g_present g_absent (qu_at b_mustEmit b_canEmit b_mustEnd b_canEnd p)).2.1, upd b_mustEnd (a) (qu_susp m g_present g_absent (qu_at b_mustEmit b_canEmit b_mustEnd b_canEnd p)).2.2.1, upd b_canEnd (a) (qu_susp m g_present g_absent (qu_at b_mustEmit b_canEmit b_mustEnd b_canEnd p)).2.2.2, b_done, b_frozen, b_killed, b_after)) : wpY_suspended post (g_made, g_depth, g_size, g_begun, g_over, g_ticks, g_present, g_absent, g_any, g_lastPresent, g_lastAbsent, b_sorts, b_numbers, b_firsts, b_seconds, b_stack, b_around, b_on, b_alive, b_mustEmit, b_canEmit, b_mustEnd, b_canEnd, b_done, b_frozen, b_killed, b_after) (nI a) e (nI p) := by
  have vp : vp_in (nI p) 32 := vp_in_nI hp (by omega)
  unfold qu_susp at h
  refine bz_yb hm he (fun t => ?_) (fun t => bz_yb hm he (fun t2 => ?_) (fun t2 => ⟨vp, vp, ?_⟩))
  · rw [if_pos t] at h; exact yo_set ha h
  · rw [if_neg (by rw [t]; decide), if_pos t2] at h; exact yo_copy ha hp h
  · rw [if_neg (by rw [t]; decide), if_neg (by rw [t2]; decide)] at h
    rw [nI_clamp (show p < 2 ^ 31 by omega)]
    exact yo_set ha h
def qu_S (k m : Nat) (mk pr ab : Int32) (x y : Int32 × Int32 × Int32 × Int32) : Int32 × Int32 × Int32 × Int32 :=
  if k = 0 then (0, 0, 0, 1) else if k = 1 then (0, 0, 1, 2) else if k = 2 then ((1 : Int32) <<< (mk &&& 31), (1 : Int32) <<< (mk &&& 31), 0, 1) else if k = 3 then (0, 0, mk + 2, (4 : Int32) <<< (mk &&& 31)) else if k = 4 then qu_again x else if k = 5 then qu_trap x else if k = 6 then x else if k = 7 then qu_follow x y else if k = 8 then qu_beside x y else qu_either m pr ab x y
def qu_D : Int32 × Int32 × Int32 × Int32 := (0, 0, 0, 1)
def qu_R (k m : Nat) (pr ab : Int32) (oi aP aQ : Bool) (sp sq rp rq : Int32 × Int32 × Int32 × Int32) : Int32 × Int32 × Int32 × Int32 :=
  if k < 4 then (0, 0, 0, 1) else if k = 4 then (if oi = true then qu_again sp else qu_again rp) else if k = 5 then qu_trap rp else if k = 6 then qu_susp m pr ab rp else if k = 8 then qu_beside (if aP = true then rp else qu_D) (if aQ = true then rq else qu_D) else if k = 7 then (if aP = true then qu_follow rp sq else rq) else (if aP = true then rp else rq)
/-- the program as Y holds it -/
def pg_Y (N : Nat) (K M P Q : Nat → Nat) (kY mY pY qY : Nat → Int32) : Prop :=
  ∀ i, i < N → kY i = nI (K i) ∧ K i ≤ 9 ∧ mk_W (K i) (M i) (mY i) ∧ pY i = nI (P i) ∧ qY i = nI (if 7 ≤ K i then Q i else 0) ∧ P i < 16 ∧ Q i < 16 ∧ (4 ≤ K i → P i < i ∧ Q i < i)
theorem yj_S {post : SY → Prop} {g_made g_depth g_size g_begun g_over g_ticks g_present g_absent g_any g_lastPresent g_lastAbsent : Int32} {b_sorts b_numbers b_firsts b_seconds b_stack b_around b_on b_alive b_mustEmit b_canEmit b_mustEnd b_canEnd b_done b_frozen b_killed b_after : Nat → Int32} {N i : Nat} {K M P Q : Nat → Nat} (hN : N ≤ 16) (hi : i < N) (hg : pg_Y N K M P Q b_sorts b_numbers b_firsts b_seconds)
    (h : post (g_made, g_depth, g_size, g_begun, g_over, g_ticks, g_present, g_absent, g_any, g_lastPresent, g_lastAbsent, b_sorts, b_numbers, b_firsts, b_seconds, b_stack, b_around, b_on, b_alive, upd b_mustEmit (i) (qu_S (K i) (M i) (b_numbers i) g_present g_absent (qu_at b_mustEmit b_canEmit b_mustEnd b_canEnd (P i)) (qu_at b_mustEmit b_canEmit b_mustEnd b_canEnd (Q i))).1, upd b_canEmit (i) (qu_S (K i) (M i) (b_numbers i) g_present g_absent (qu_at b_mustEmit b_canEmit b_mustEnd b_canEnd (P i)) (qu_at b_mustEmit b_canEmit b_mustEnd b_canEnd (Q i))).2.1, upd b_mustEnd (i) (qu_S (K i) (M i) (b_numbers i) g_present g_absent (qu_at b_mustEmit b_canEmit b_mustEnd b_canEnd (P i)) (qu_at b_mustEmit b_canEmit b_mustEnd b_canEnd (Q i))).2.2.1, upd b_canEnd (i) (qu_S (K i) (M i) (b_numbers i) g_present g_absent (qu_at b_mustEmit b_canEmit b_mustEnd b_canEnd (P i)) (qu_at b_mustEmit b_canEmit b_mustEnd b_canEnd (Q i))).2.2.2, b_done, b_frozen, b_killed, b_after)) : wpY_judgeStarted post (g_made, g_depth, g_size, g_begun, g_over, g_ticks, g_present, g_absent, g_any, g_lastPresent, g_lastAbsent, b_sorts, b_numbers, b_firsts, b_seconds, b_stack, b_around, b_on, b_alive, b_mustEmit, b_canEmit, b_mustEnd, b_canEnd, b_done, b_frozen, b_killed, b_after) (nI i) := by
  obtain ⟨g1, g2, g3, g4, g5, g6, g7, g8⟩ := hg i hi
  have hc : (nI i).toNatClampNeg = i := nI_clamp (by omega)
  have vi : vp_in (nI i) 32 := vp_in_nI (by omega) (by omega)
  have i32 : i < 32 := by omega
  have p32 : P i < 32 := by omega
  have q32 : Q i < 32 := by omega
  unfold wpY_judgeStarted
  dsimp only
  rw [hc, g1, g4, g5]
  refine ⟨vi, nm_e ⟨vi, nm_e ⟨vi, nm_e ⟨vi, nm_e ?_⟩⟩⟩⟩
  unfold qu_S at h
  refine pk_eq (K i) 0 (fun z => ?_) (fun z0 => ?_)
  · rw [if_pos z] at h; exact yo_set i32 h
  rw [if_neg z0] at h
  refine pk_eq (K i) 1 (fun z => ?_) (fun z1 => ?_)
  · rw [if_pos z] at h; exact yo_set i32 h
  rw [if_neg z1] at h
  refine pk_eq (K i) 2 (fun z => ?_) (fun z2 => ?_)
  · rw [if_pos z] at h; exact yo_set i32 h
  rw [if_neg z2] at h
  refine pk_eq (K i) 3 (fun z => ?_) (fun z3 => ?_)
  · rw [if_pos z] at h; exact yo_set i32 h
  rw [if_neg z3] at h
  refine pk_eq (K i) 4 (fun z => ?_) (fun z4 => ?_)
  · rw [if_pos z] at h; exact yo_again i32 p32 h
  rw [if_neg z4] at h
  refine pk_eq (K i) 5 (fun z => ?_) (fun z5 => ?_)
  · rw [if_pos z] at h; exact yo_trap i32 p32 h
  rw [if_neg z5] at h
  refine pk_eq (K i) 6 (fun z => ?_) (fun z6 => ?_)
  · rw [if_pos z] at h; exact yo_copy i32 p32 h
  rw [if_neg z6] at h
  have k7 : 7 ≤ K i := by omega
  rw [if_pos k7]
  refine pk_eq (K i) 7 (fun z => ?_) (fun z7 => ?_)
  · rw [if_pos z] at h; exact yo_follow i32 p32 q32 h
  rw [if_neg z7] at h
  refine pk_eq (K i) 8 (fun z => ?_) (fun z8 => ?_)
  · rw [if_pos z] at h; exact yo_beside i32 (Or.inl ⟨_, p32, rfl, rfl⟩) (Or.inl ⟨_, q32, rfl, rfl⟩) h
  rw [if_neg z8] at h
  have hm9 := g3.1 (Or.inr (Or.inr (by omega)))
  exact yo_either i32 (show M i < 32 by omega) hm9.1 p32 q32 h
theorem e16 (p : Nat) : (16 : Int32) + nI p = nI (16 + p) := nI_add 16 p
theorem yj_203 {post : SY → Prop} {g_made g_depth g_size g_begun g_over g_ticks g_present g_absent g_any g_lastPresent g_lastAbsent : Int32} {b_sorts b_numbers b_firsts b_seconds b_stack b_around b_on b_alive b_mustEmit b_canEmit b_mustEnd b_canEnd b_done b_frozen b_killed b_after : Nat → Int32} {a p q : Nat} {al : Nat → Bool} (ha : a < 32) (hp : p < 16) (hq : q < 16) (hal : b_alive p = bo_I (al p))
    (h : post (g_made, g_depth, g_size, g_begun, g_over, g_ticks, g_present, g_absent, g_any, g_lastPresent, g_lastAbsent, b_sorts, b_numbers, b_firsts, b_seconds, b_stack, b_around, b_on, b_alive, upd b_mustEmit (a) (if al p = true then qu_at b_mustEmit b_canEmit b_mustEnd b_canEnd (16 + p) else qu_at b_mustEmit b_canEmit b_mustEnd b_canEnd (16 + q)).1, upd b_canEmit (a) (if al p = true then qu_at b_mustEmit b_canEmit b_mustEnd b_canEnd (16 + p) else qu_at b_mustEmit b_canEmit b_mustEnd b_canEnd (16 + q)).2.1, upd b_mustEnd (a) (if al p = true then qu_at b_mustEmit b_canEmit b_mustEnd b_canEnd (16 + p) else qu_at b_mustEmit b_canEmit b_mustEnd b_canEnd (16 + q)).2.2.1, upd b_canEnd (a) (if al p = true then qu_at b_mustEmit b_canEmit b_mustEnd b_canEnd (16 + p) else qu_at b_mustEmit b_canEmit b_mustEnd b_canEnd (16 + q)).2.2.2, b_done, b_frozen, b_killed, b_after)) : wY_judgeResumed_203 post (nI a) (nI p) (nI q) g_made g_depth g_size g_begun g_over g_ticks g_present g_absent g_any g_lastPresent g_lastAbsent b_sorts b_numbers b_firsts b_seconds b_stack b_around b_on b_alive b_mustEmit b_canEmit b_mustEnd b_canEnd b_done b_frozen b_killed b_after := by
  unfold wY_judgeResumed_203
  rw [nI_clamp (show p < 2 ^ 31 by omega), hal, e16, e16]
  refine ⟨vp_in_nI hp (by omega), bo_br _ (fun z => ?_) (fun z => ?_)⟩
  · rw [z, if_neg (by decide)] at h; exact yo_copy ha (show 16 + q < 32 by omega) h
  · rw [z, if_pos rfl] at h; exact yo_copy ha (show 16 + p < 32 by omega) h
theorem yj_R {post : SY → Prop} {g_made g_depth g_size g_begun g_over g_ticks g_present g_absent g_any g_lastPresent g_lastAbsent : Int32} {b_sorts b_numbers b_firsts b_seconds b_stack b_around b_on b_alive b_mustEmit b_canEmit b_mustEnd b_canEnd b_done b_frozen b_killed b_after : Nat → Int32} {N i : Nat} {K M P Q : Nat → Nat} {o al : Nat → Bool} (hN : N ≤ 16) (hi : i < N) (hg : pg_Y N K M P Q b_sorts b_numbers b_firsts b_seconds) (ho : b_on i = bo_I (o i)) (hal : ∀ j, j < N → b_alive j = bo_I (al j))
    (h : post (g_made, g_depth, g_size, g_begun, g_over, g_ticks, g_present, g_absent, g_any, g_lastPresent, g_lastAbsent, b_sorts, b_numbers, b_firsts, b_seconds, b_stack, b_around, b_on, b_alive, upd b_mustEmit (16 + i) (qu_R (K i) (M i) g_present g_absent (o i) (al (P i)) (al (Q i)) (qu_at b_mustEmit b_canEmit b_mustEnd b_canEnd (P i)) (qu_at b_mustEmit b_canEmit b_mustEnd b_canEnd (Q i)) (qu_at b_mustEmit b_canEmit b_mustEnd b_canEnd (16 + P i)) (qu_at b_mustEmit b_canEmit b_mustEnd b_canEnd (16 + Q i))).1, upd b_canEmit (16 + i) (qu_R (K i) (M i) g_present g_absent (o i) (al (P i)) (al (Q i)) (qu_at b_mustEmit b_canEmit b_mustEnd b_canEnd (P i)) (qu_at b_mustEmit b_canEmit b_mustEnd b_canEnd (Q i)) (qu_at b_mustEmit b_canEmit b_mustEnd b_canEnd (16 + P i)) (qu_at b_mustEmit b_canEmit b_mustEnd b_canEnd (16 + Q i))).2.1, upd b_mustEnd (16 + i) (qu_R (K i) (M i) g_present g_absent (o i) (al (P i)) (al (Q i)) (qu_at b_mustEmit b_canEmit b_mustEnd b_canEnd (P i)) (qu_at b_mustEmit b_canEmit b_mustEnd b_canEnd (Q i)) (qu_at b_mustEmit b_canEmit b_mustEnd b_canEnd (16 + P i)) (qu_at b_mustEmit b_canEmit b_mustEnd b_canEnd (16 + Q i))).2.2.1, upd b_canEnd (16 + i) (qu_R (K i) (M i) g_present g_absent (o i) (al (P i)) (al (Q i)) (qu_at b_mustEmit b_canEmit b_mustEnd b_canEnd (P i)) (qu_at b_mustEmit b_canEmit b_mustEnd b_canEnd (Q i)) (qu_at b_mustEmit b_canEmit b_mustEnd b_canEnd (16 + P i)) (qu_at b_mustEmit b_canEmit b_mustEnd b_canEnd (16 + Q i))).2.2.2, b_done, b_frozen, b_killed, b_after)) : wpY_judgeResumed post (g_made, g_depth, g_size, g_begun, g_over, g_ticks, g_present, g_absent, g_any, g_lastPresent, g_lastAbsent, b_sorts, b_numbers, b_firsts, b_seconds, b_stack, b_around, b_on, b_alive, b_mustEmit, b_canEmit, b_mustEnd, b_canEnd, b_done, b_frozen, b_killed, b_after) (nI i) := by
  obtain ⟨g1, g2, g3, g4, g5, g6, g7, g8⟩ := hg i hi
  have hc : (nI i).toNatClampNeg = i := nI_clamp (by omega)
  have vi : vp_in (nI i) 32 := vp_in_nI (by omega) (by omega)
  have vi16 : vp_in (nI i) 16 := vp_in_nI (by omega) (by omega)
  have i32 : 16 + i < 32 := by omega
  have p32 : P i < 32 := by omega
  have q32 : Q i < 32 := by omega
  have P32 : 16 + P i < 32 := by omega
  have Q32 : 16 + Q i < 32 := by omega
  unfold wpY_judgeResumed
  dsimp only
  rw [hc, g1, g4, g5, e16]
  refine nm_e ⟨vi, nm_e ⟨vi, nm_e ⟨vi, nm_e ?_⟩⟩⟩
  unfold qu_R at h
  rw [nI_clamp (show P i < 2 ^ 31 by omega), e16]
  refine pk_le 4 (K i) (fun k4 => ?_) (fun z => ?_)
  · have g8' := g8 k4
    rw [if_neg (by omega)] at h
    have aP := hal (P i) (by omega)
    have aQ := hal (Q i) (by omega)
    have vP : vp_in (nI (P i)) 16 := vp_in_nI g6 (by omega)
    have vQ : vp_in (nI (Q i)) 16 := vp_in_nI g7 (by omega)
    refine pk_eq (K i) 4 (fun z => ⟨vi16, ?_⟩) (fun z4 => ?_)
    · rw [if_pos z] at h
      rw [ho]
      refine bo_br _ (fun t => ?_) (fun t => ?_)
      · rw [t, if_neg (by decide)] at h; exact yo_again i32 P32 h
      · rw [t, if_pos rfl] at h; exact yo_again i32 p32 h
    rw [if_neg z4] at h
    refine pk_eq (K i) 5 (fun z => ?_) (fun z5 => ?_)
    · rw [if_pos z] at h; exact yo_trap i32 P32 h
    rw [if_neg z5] at h
    refine pk_eq (K i) 6 (fun z => ⟨vi, ?_⟩) (fun z6 => ?_)
    · rw [if_pos z] at h
      have hm6 := g3.1 (Or.inr (Or.inl z))
      exact yo_susp i32 (show M i < 32 by omega) hm6.1 P32 h
    rw [if_neg z6] at h
    have k7 : 7 ≤ K i := by omega
    rw [if_pos k7]
    refine pk_eq (K i) 8 (fun z => ⟨vP, ?_⟩) (fun z8 => ?_)
    · rw [if_pos z] at h
      rw [aP]
      have hq : ∀ e x, be_A b_mustEmit b_canEmit b_mustEnd b_canEnd e x → post (g_made, g_depth, g_size, g_begun, g_over, g_ticks, g_present, g_absent, g_any, g_lastPresent, g_lastAbsent, b_sorts, b_numbers, b_firsts, b_seconds, b_stack, b_around, b_on, b_alive, upd b_mustEmit (16 + i) (qu_beside x (if al (Q i) = true then qu_at b_mustEmit b_canEmit b_mustEnd b_canEnd (16 + Q i) else qu_D)).1, upd b_canEmit (16 + i) (qu_beside x (if al (Q i) = true then qu_at b_mustEmit b_canEmit b_mustEnd b_canEnd (16 + Q i) else qu_D)).2.1, upd b_mustEnd (16 + i) (qu_beside x (if al (Q i) = true then qu_at b_mustEmit b_canEmit b_mustEnd b_canEnd (16 + Q i) else qu_D)).2.2.1, upd b_canEnd (16 + i) (qu_beside x (if al (Q i) = true then qu_at b_mustEmit b_canEmit b_mustEnd b_canEnd (16 + Q i) else qu_D)).2.2.2, b_done, b_frozen, b_killed, b_after) → wY_judgeResumed_147 post (nI (Q i)) e (nI (16 + i)) g_made g_depth g_size g_begun g_over g_ticks g_present g_absent g_any g_lastPresent g_lastAbsent b_sorts b_numbers b_firsts b_seconds b_stack b_around b_on b_alive b_mustEmit b_canEmit b_mustEnd b_canEnd b_done b_frozen b_killed b_after := by
        intro e x hx hh
        unfold wY_judgeResumed_147
        rw [nI_clamp (show Q i < 2 ^ 31 by omega), aQ, e16]
        refine ⟨vQ, bo_br _ (fun t => ?_) (fun t => ?_)⟩
        · rw [t, if_neg (by decide)] at hh; exact yo_beside i32 hx (Or.inr ⟨rfl, rfl⟩) hh
        · rw [t, if_pos rfl] at hh; exact yo_beside i32 hx (Or.inl ⟨_, Q32, rfl, rfl⟩) hh
      refine bo_br _ (fun t => ?_) (fun t => ?_)
      · rw [t, if_neg (by decide)] at h; exact hq _ _ (Or.inr ⟨rfl, rfl⟩) h
      · rw [t, if_pos rfl] at h; exact hq _ _ (Or.inl ⟨_, P32, rfl, rfl⟩) h
    rw [if_neg z8] at h
    refine pk_eq (K i) 7 (fun z => ⟨vP, ?_⟩) (fun z7 => ?_)
    · rw [if_pos z] at h
      rw [aP]
      refine bo_br _ (fun t => ?_) (fun t => ?_)
      · refine yj_203 (al := al) i32 g6 g7 aP ?_
        rw [t, if_neg (by decide)] at h ⊢; exact h
      · rw [t, if_pos rfl] at h; exact yo_follow i32 P32 q32 h
    · rw [if_neg z7] at h; exact yj_203 (al := al) i32 g6 g7 aP h
  · rw [if_pos z] at h; exact yo_set i32 h
