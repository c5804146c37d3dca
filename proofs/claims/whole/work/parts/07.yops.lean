/- Y's operations on quadruples (must emit, can emit, must end, can end) -/
def qu_T : Type := Int32 × Int32 × Int32 × Int32
def qu_at (me ce mn cn : Nat → Int32) (j : Nat) : Int32 × Int32 × Int32 × Int32 := (me j, ce j, mn j, cn j)
def qu_again (x : Int32 × Int32 × Int32 × Int32) : Int32 × Int32 × Int32 × Int32 := (x.1, x.2.1, if x.2.2.1 = 0 then 1 else x.2.2.1, if (x.2.2.2 &&& 1) = 1 then (x.2.2.2 &&& (-2)) ||| 2 else x.2.2.2)
def qu_trap (x : Int32 × Int32 × Int32 × Int32) : Int32 × Int32 × Int32 × Int32 := (x.1, x.2.1, if x.2.2.1 = 2 then 0 else if x.2.2.1 ≤ 2 then x.2.2.1 else x.2.2.1 - 1, if (x.2.2.2 &&& 4) = 0 then (x.2.2.2 &&& 3) ||| ((x.2.2.2 >>> ((1 : Int32) &&& 31)) &&& 12) else ((x.2.2.2 &&& 3) ||| ((x.2.2.2 >>> ((1 : Int32) &&& 31)) &&& 12)) ||| 1)
def qu_follow (x y : Int32 × Int32 × Int32 × Int32) : Int32 × Int32 × Int32 × Int32 := (if x.2.2.1 = 0 then x.1 ||| y.1 else x.1, if (x.2.2.2 &&& 1) = 1 then x.2.1 ||| y.2.1 else x.2.1, if x.2.2.1 = 0 then y.2.2.1 else x.2.2.1, if (x.2.2.2 &&& 1) = 1 then (x.2.2.2 &&& (-2)) ||| y.2.2.2 else x.2.2.2)
def gr_b (bb : Nat → Bool) (a : Nat) : Nat → Int32 → Int32
  | 0, acc => acc
  | n + 1, acc => gr_b bb a n (if bb (4 - n) = true then acc ||| ((1 : Int32) <<< (nI (if a ≤ 4 - n then 4 - n else a) &&& 31)) else acc)
def gr_a (aa bb : Nat → Bool) : Nat → Int32 → Int32
  | 0, acc => acc
  | n + 1, acc => gr_a aa bb n (if aa (4 - n) = true then gr_b bb (4 - n) 5 acc else acc)
def qu_end (a b : Int32) : Int32 := if a < 0 then -1 else if 0 ≤ b then (if a ≤ b then b else a) else -1
def qu_beside (x y : Int32 × Int32 × Int32 × Int32) : Int32 × Int32 × Int32 × Int32 := (x.1 ||| y.1, x.2.1 ||| y.2.1, qu_end x.2.2.1 y.2.2.1, gr_a (bt x.2.2.2) (bt y.2.2.2) 5 0)
def qu_either (m : Nat) (pr ab : Int32) (x y : Int32 × Int32 × Int32 × Int32) : Int32 × Int32 × Int32 × Int32 := if bt pr m = true then x else if bt ab m = true then y else (0, x.2.1 ||| y.2.1, -1, x.2.2.2 ||| y.2.2.2)
def qu_susp (m : Nat) (pr ab : Int32) (x : Int32 × Int32 × Int32 × Int32) : Int32 × Int32 × Int32 × Int32 := if bt pr m = true then (0, 0, 1, 2) else if bt ab m = true then x else (0, x.2.1, -1, x.2.2.2 ||| 2)
theorem yo_set {post : SY → Prop} {g_made g_depth g_size g_begun g_over g_ticks g_present g_absent g_any g_lastPresent g_lastAbsent : Int32} {b_sorts b_numbers b_firsts b_seconds b_stack b_around b_on b_alive b_mustEmit b_canEmit b_mustEnd b_canEnd b_done b_frozen b_killed b_after : Nat → Int32} {a : Nat} {p1 p2 p3 p4 : Int32} (ha : a < 32) (h : post (g_made, g_depth, g_size, g_begun, g_over, g_ticks, g_present, g_absent, g_any, g_lastPresent, g_lastAbsent, b_sorts, b_numbers, b_firsts, b_seconds, b_stack, b_around, b_on, b_alive, upd b_mustEmit a p1, upd b_canEmit a p2, upd b_mustEnd a p3, upd b_canEnd a p4, b_done, b_frozen, b_killed, b_after)) : wpY_set post (g_made, g_depth, g_size, g_begun, g_over, g_ticks, g_present, g_absent, g_any, g_lastPresent, g_lastAbsent, b_sorts, b_numbers, b_firsts, b_seconds, b_stack, b_around, b_on, b_alive, b_mustEmit, b_canEmit, b_mustEnd, b_canEnd, b_done, b_frozen, b_killed, b_after) (nI a) p1 p2 p3 p4 := by
  have ca : (nI a).toNatClampNeg = a := nI_clamp (by omega)
  have va : vp_in (nI a) 32 := vp_in_nI ha (by omega)
  unfold wpY_set
  dsimp only
  rw [ca]
  exact ⟨va, nm_e ⟨va, nm_e ⟨va, nm_e ⟨va, nm_e h⟩⟩⟩⟩
theorem yo_copy {post : SY → Prop} {g_made g_depth g_size g_begun g_over g_ticks g_present g_absent g_any g_lastPresent g_lastAbsent : Int32} {b_sorts b_numbers b_firsts b_seconds b_stack b_around b_on b_alive b_mustEmit b_canEmit b_mustEnd b_canEnd b_done b_frozen b_killed b_after : Nat → Int32} {a p : Nat} (ha : a < 32) (hp : p < 32) (h : post (g_made, g_depth, g_size, g_begun, g_over, g_ticks, g_present, g_absent, g_any, g_lastPresent, g_lastAbsent, b_sorts, b_numbers, b_firsts, b_seconds, b_stack, b_around, b_on, b_alive, upd b_mustEmit (a) (qu_at b_mustEmit b_canEmit b_mustEnd b_canEnd p).1, upd b_canEmit (a) (qu_at b_mustEmit b_canEmit b_mustEnd b_canEnd p).2.1, upd b_mustEnd (a) (qu_at b_mustEmit b_canEmit b_mustEnd b_canEnd p).2.2.1, upd b_canEnd (a) (qu_at b_mustEmit b_canEmit b_mustEnd b_canEnd p).2.2.2, b_done, b_frozen, b_killed, b_after)) : wpY_copy post (g_made, g_depth, g_size, g_begun, g_over, g_ticks, g_present, g_absent, g_any, g_lastPresent, g_lastAbsent, b_sorts, b_numbers, b_firsts, b_seconds, b_stack, b_around, b_on, b_alive, b_mustEmit, b_canEmit, b_mustEnd, b_canEnd, b_done, b_frozen, b_killed, b_after) (nI a) (nI p) := by
  have cp : (nI p).toNatClampNeg = p := nI_clamp (by omega)
  have vp : vp_in (nI p) 32 := vp_in_nI hp (by omega)
  unfold wpY_copy
  dsimp only
  rw [cp]
  exact ⟨vp, vp, vp, vp, yo_set ha h⟩
theorem yo_again {post : SY → Prop} {g_made g_depth g_size g_begun g_over g_ticks g_present g_absent g_any g_lastPresent g_lastAbsent : Int32} {b_sorts b_numbers b_firsts b_seconds b_stack b_around b_on b_alive b_mustEmit b_canEmit b_mustEnd b_canEnd b_done b_frozen b_killed b_after : Nat → Int32} {a p : Nat} (ha : a < 32) (hp : p < 32) (h : post (g_made, g_depth, g_size, g_begun, g_over, g_ticks, g_present, g_absent, g_any, g_lastPresent, g_lastAbsent, b_sorts, b_numbers, b_firsts, b_seconds, b_stack, b_around, b_on, b_alive, upd b_mustEmit (a) (qu_again (qu_at b_mustEmit b_canEmit b_mustEnd b_canEnd p)).1, upd b_canEmit (a) (qu_again (qu_at b_mustEmit b_canEmit b_mustEnd b_canEnd p)).2.1, upd b_mustEnd (a) (qu_again (qu_at b_mustEmit b_canEmit b_mustEnd b_canEnd p)).2.2.1, upd b_canEnd (a) (qu_again (qu_at b_mustEmit b_canEmit b_mustEnd b_canEnd p)).2.2.2, b_done, b_frozen, b_killed, b_after)) : wpY_again post (g_made, g_depth, g_size, g_begun, g_over, g_ticks, g_present, g_absent, g_any, g_lastPresent, g_lastAbsent, b_sorts, b_numbers, b_firsts, b_seconds, b_stack, b_around, b_on, b_alive, b_mustEmit, b_canEmit, b_mustEnd, b_canEnd, b_done, b_frozen, b_killed, b_after) (nI a) (nI p) := by
  have cp : (nI p).toNatClampNeg = p := nI_clamp (by omega)
  have vp : vp_in (nI p) 32 := vp_in_nI hp (by omega)
  unfold wpY_again
  dsimp only
  rw [cp]
  unfold qu_again qu_at at h
  dsimp only at h
  refine ⟨vp, nm_e ⟨vp, vp, vp, ?_⟩⟩
  refine br_c (fun z => ?_) (fun z => ⟨vp, ?_⟩)
  · rw [if_pos z] at h
    exact br_c (fun y => by rw [if_pos y] at h; exact yo_set ha h) (fun y => by rw [if_neg y] at h; exact yo_set ha h)
  · rw [if_neg z] at h
    exact br_c (fun y => by rw [if_pos y] at h; exact yo_set ha h) (fun y => by rw [if_neg y] at h; exact yo_set ha h)
theorem yo_trap {post : SY → Prop} {g_made g_depth g_size g_begun g_over g_ticks g_present g_absent g_any g_lastPresent g_lastAbsent : Int32} {b_sorts b_numbers b_firsts b_seconds b_stack b_around b_on b_alive b_mustEmit b_canEmit b_mustEnd b_canEnd b_done b_frozen b_killed b_after : Nat → Int32} {a p : Nat} (ha : a < 32) (hp : p < 32) (h : post (g_made, g_depth, g_size, g_begun, g_over, g_ticks, g_present, g_absent, g_any, g_lastPresent, g_lastAbsent, b_sorts, b_numbers, b_firsts, b_seconds, b_stack, b_around, b_on, b_alive, upd b_mustEmit (a) (qu_trap (qu_at b_mustEmit b_canEmit b_mustEnd b_canEnd p)).1, upd b_canEmit (a) (qu_trap (qu_at b_mustEmit b_canEmit b_mustEnd b_canEnd p)).2.1, upd b_mustEnd (a) (qu_trap (qu_at b_mustEmit b_canEmit b_mustEnd b_canEnd p)).2.2.1, upd b_canEnd (a) (qu_trap (qu_at b_mustEmit b_canEmit b_mustEnd b_canEnd p)).2.2.2, b_done, b_frozen, b_killed, b_after)) : wpY_trapped post (g_made, g_depth, g_size, g_begun, g_over, g_ticks, g_present, g_absent, g_any, g_lastPresent, g_lastAbsent, b_sorts, b_numbers, b_firsts, b_seconds, b_stack, b_around, b_on, b_alive, b_mustEmit, b_canEmit, b_mustEnd, b_canEnd, b_done, b_frozen, b_killed, b_after) (nI a) (nI p) := by
  have cp : (nI p).toNatClampNeg = p := nI_clamp (by omega)
  have vp : vp_in (nI p) 32 := vp_in_nI hp (by omega)
  unfold wpY_trapped
  dsimp only
  rw [cp]
  unfold qu_trap qu_at at h
  dsimp only at h
  refine ⟨vp, nm_e ⟨vp, nm_e (nm_e ?_)⟩⟩
  refine br_c (fun z => ?_) (fun z => nm_e ?_)
  · rw [if_pos z] at h
    unfold wY_trapped_42
    rw [cp]
    refine ⟨vp, vp, br_c (fun y => ?_) (fun y => br_c (fun w => ?_) (fun w => ?_))⟩
    · rw [if_pos y] at h; exact yo_set ha h
    · rw [if_neg y, if_pos w] at h; exact yo_set ha h
    · rw [if_neg y, if_neg w] at h; exact yo_set ha h
  · rw [if_neg z] at h
    unfold wY_trapped_42
    rw [cp]
    refine ⟨vp, vp, br_c (fun y => ?_) (fun y => br_c (fun w => ?_) (fun w => ?_))⟩
    · rw [if_pos y] at h; exact yo_set ha h
    · rw [if_neg y, if_pos w] at h; exact yo_set ha h
    · rw [if_neg y, if_neg w] at h; exact yo_set ha h
theorem yo_follow {post : SY → Prop} {g_made g_depth g_size g_begun g_over g_ticks g_present g_absent g_any g_lastPresent g_lastAbsent : Int32} {b_sorts b_numbers b_firsts b_seconds b_stack b_around b_on b_alive b_mustEmit b_canEmit b_mustEnd b_canEnd b_done b_frozen b_killed b_after : Nat → Int32} {a p q : Nat} (ha : a < 32) (hp : p < 32) (hq : q < 32) (h : post (g_made, g_depth, g_size, g_begun, g_over, g_ticks, g_present, g_absent, g_any, g_lastPresent, g_lastAbsent, b_sorts, b_numbers, b_firsts, b_seconds, b_stack, b_around, b_on, b_alive, upd b_mustEmit (a) (qu_follow (qu_at b_mustEmit b_canEmit b_mustEnd b_canEnd p) (qu_at b_mustEmit b_canEmit b_mustEnd b_canEnd q)).1, upd b_canEmit (a) (qu_follow (qu_at b_mustEmit b_canEmit b_mustEnd b_canEnd p) (qu_at b_mustEmit b_canEmit b_mustEnd b_canEnd q)).2.1, upd b_mustEnd (a) (qu_follow (qu_at b_mustEmit b_canEmit b_mustEnd b_canEnd p) (qu_at b_mustEmit b_canEmit b_mustEnd b_canEnd q)).2.2.1, upd b_canEnd (a) (qu_follow (qu_at b_mustEmit b_canEmit b_mustEnd b_canEnd p) (qu_at b_mustEmit b_canEmit b_mustEnd b_canEnd q)).2.2.2, b_done, b_frozen, b_killed, b_after)) : wpY_follow post (g_made, g_depth, g_size, g_begun, g_over, g_ticks, g_present, g_absent, g_any, g_lastPresent, g_lastAbsent, b_sorts, b_numbers, b_firsts, b_seconds, b_stack, b_around, b_on, b_alive, b_mustEmit, b_canEmit, b_mustEnd, b_canEnd, b_done, b_frozen, b_killed, b_after) (nI a) (nI p) (nI q) := by
  have cp : (nI p).toNatClampNeg = p := nI_clamp (by omega)
  have vp : vp_in (nI p) 32 := vp_in_nI hp (by omega)
  have cq : (nI q).toNatClampNeg = q := nI_clamp (by omega)
  have vq : vp_in (nI q) 32 := vp_in_nI hq (by omega)
  unfold wpY_follow
  dsimp only
  rw [cp]
  unfold qu_follow qu_at at h
  dsimp only at h
  refine ⟨vp, br_c (fun z => ?_) (fun z => ?_)⟩
  · rw [if_pos z, if_pos z] at h
    unfold wY_follow_14; rw [cp]
    refine ⟨vp, br_c (fun y => ?_) (fun y => ?_)⟩
    · rw [if_pos y, if_pos y] at h
      unfold wY_follow_33; rw [cp, cq]
      refine br_f (by decide) ⟨vp, vq, ?_⟩
      unfold wY_follow_62; rw [cp, cq]
      refine br_f (by decide) ⟨vp, vq, ?_⟩
      unfold wY_follow_91; rw [cp, cq]
      refine br_f (by decide) ⟨vq, ?_⟩
      unfold wY_follow_119; rw [cp, cq]
      exact br_f (by decide) ⟨vp, vq, yo_set ha h⟩
    · rw [if_neg y, if_neg y] at h
      unfold wY_follow_33; rw [cp, cq]
      refine br_f (by decide) ⟨vp, vq, ?_⟩
      unfold wY_follow_62; rw [cp, cq]
      refine br_t rfl ⟨vp, ?_⟩
      unfold wY_follow_91; rw [cp, cq]
      refine br_f (by decide) ⟨vq, ?_⟩
      unfold wY_follow_119; rw [cp, cq]
      exact br_t rfl ⟨vp, yo_set ha h⟩
  · rw [if_neg z, if_neg z] at h
    unfold wY_follow_14; rw [cp]
    refine ⟨vp, br_c (fun y => ?_) (fun y => ?_)⟩
    · rw [if_pos y, if_pos y] at h
      unfold wY_follow_33; rw [cp, cq]
      refine br_t rfl ⟨vp, ?_⟩
      unfold wY_follow_62; rw [cp, cq]
      refine br_f (by decide) ⟨vp, vq, ?_⟩
      unfold wY_follow_91; rw [cp, cq]
      refine br_t rfl ⟨vp, ?_⟩
      unfold wY_follow_119; rw [cp, cq]
      exact br_f (by decide) ⟨vp, vq, yo_set ha h⟩
    · rw [if_neg y, if_neg y] at h
      unfold wY_follow_33; rw [cp, cq]
      refine br_t rfl ⟨vp, ?_⟩
      unfold wY_follow_62; rw [cp, cq]
      refine br_t rfl ⟨vp, ?_⟩
      unfold wY_follow_91; rw [cp, cq]
      refine br_t rfl ⟨vp, ?_⟩
      unfold wY_follow_119; rw [cp, cq]
      exact br_t rfl ⟨vp, yo_set ha h⟩
theorem yo_g14 {post : Int32 → Prop} {J : Int32 → Int32 → Prop} {x1 x2 : Int32} {g_made g_depth g_size g_begun g_over g_ticks g_present g_absent g_any g_lastPresent g_lastAbsent : Int32} {b_sorts b_numbers b_firsts b_seconds b_stack b_around b_on b_alive b_mustEmit b_canEmit b_mustEnd b_canEnd b_done b_frozen b_killed b_after : Nat → Int32} {a : Nat} (ha : a < 5) : ∀ n acc, n ≤ 5 → J (if bt x1 a = true then gr_b (bt x2) a n acc else acc) (nI (a + 1)) → wY_greater_14 post J x1 x2 (nI a) g_made g_depth g_size g_begun g_over g_ticks g_present g_absent g_any g_lastPresent g_lastAbsent b_sorts b_numbers b_firsts b_seconds b_stack b_around b_on b_alive b_mustEmit b_canEmit b_mustEnd b_canEnd b_done b_frozen b_killed b_after (n + 1) acc (nI (5 - n)) := by
  intro n
  induction n with
  | zero =>
    intro acc _ h
    have e : (if bt x1 a = true then gr_b (bt x2) a 0 acc else acc) = acc := by split <;> rfl
    rw [e] at h
    exact br_t (nI_le (a := 5) (by omega) (by omega)) (nm_r (nI_1 a) h)
  | succ n ih =>
    intro acc hn h
    have hb : 5 - (n + 1) + 1 = 5 - n := by omega
    have hx : 5 - (n + 1) = 4 - n := by omega
    refine br_f (nI_ge (b := 5) (by omega) (by omega)) ?_
    refine bz_yb (n := a) (by omega) rfl (fun t => ?_) (fun t => ?_)
    · rw [if_pos t] at h
      refine bz_yb (n := 5 - (n + 1)) (by omega) rfl (fun t2 => ?_) (fun t2 => ?_)
      · refine pk_le a (5 - (n + 1)) (fun l => nm_e (nm_r (nI_1 _) ?_)) (fun l => nm_e (nm_r (nI_1 _) ?_))
        · rw [hb]
          refine ih _ (by omega) ?_
          rw [if_pos t]
          unfold gr_b at h
          rw [hx] at t2 l
          rw [if_pos t2, if_pos l] at h
          rw [hx]; exact h
        · rw [hb]
          refine ih _ (by omega) ?_
          rw [if_pos t]
          unfold gr_b at h
          rw [hx] at t2 l
          rw [if_pos t2, if_neg (by omega)] at h
          exact h
      · refine nm_r (nI_1 _) ?_
        rw [hb]
        refine ih _ (by omega) ?_
        rw [if_pos t]
        unfold gr_b at h
        rw [hx] at t2
        rw [if_neg (by rw [t2]; decide)] at h
        exact h
    · refine nm_r (nI_1 _) ?_
      rw [hb]
      refine ih _ (by omega) ?_
      rw [if_neg (by rw [t]; decide)] at h ⊢
      exact h
theorem yo_g5 {post : Int32 → Prop} {x1 x2 : Int32} {g_made g_depth g_size g_begun g_over g_ticks g_present g_absent g_any g_lastPresent g_lastAbsent : Int32} {b_sorts b_numbers b_firsts b_seconds b_stack b_around b_on b_alive b_mustEmit b_canEmit b_mustEnd b_canEnd b_done b_frozen b_killed b_after : Nat → Int32} : ∀ n acc, n ≤ 5 → post (gr_a (bt x1) (bt x2) n acc) → wY_greater_5 post x1 x2 g_made g_depth g_size g_begun g_over g_ticks g_present g_absent g_any g_lastPresent g_lastAbsent b_sorts b_numbers b_firsts b_seconds b_stack b_around b_on b_alive b_mustEmit b_canEmit b_mustEnd b_canEnd b_done b_frozen b_killed b_after (n + 1) acc (nI (5 - n)) := by
  intro n
  induction n with
  | zero =>
    intro acc _ h
    exact br_t (nI_le (a := 5) (by omega) (by omega)) h
  | succ n ih =>
    intro acc hn h
    have hb : 5 - (n + 1) + 1 = 5 - n := by omega
    have hx : 5 - (n + 1) = 4 - n := by omega
    refine br_f (nI_ge (b := 5) (by omega) (by omega)) ⟨6, ?_⟩
    refine yo_g14 (a := 5 - (n + 1)) (by omega) 5 acc (by omega) ?_
    rw [hb]
    refine ih _ (by omega) ?_
    unfold gr_a at h
    rw [hx]; exact h
theorem yo_greater {post : Int32 → Prop} {x1 x2 : Int32} {g_made g_depth g_size g_begun g_over g_ticks g_present g_absent g_any g_lastPresent g_lastAbsent : Int32} {b_sorts b_numbers b_firsts b_seconds b_stack b_around b_on b_alive b_mustEmit b_canEmit b_mustEnd b_canEnd b_done b_frozen b_killed b_after : Nat → Int32} (h : post (gr_a (bt x1) (bt x2) 5 0)) : wpY_greater post (g_made, g_depth, g_size, g_begun, g_over, g_ticks, g_present, g_absent, g_any, g_lastPresent, g_lastAbsent, b_sorts, b_numbers, b_firsts, b_seconds, b_stack, b_around, b_on, b_alive, b_mustEmit, b_canEmit, b_mustEnd, b_canEnd, b_done, b_frozen, b_killed, b_after) x1 x2 := ⟨6, yo_g5 5 0 (by omega) h⟩
