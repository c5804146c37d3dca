/- Y: the rounds of find; both outcomes -/
theorem yf_77 {post : Int32 → SY → Prop} {J : Int32 → Int32 → Int32 → Int32 → Int32 → Int32 → Int32 → Int32 → Int32 → Int32 → Int32 → Int32 → (Nat → Int32) → (Nat → Int32) → (Nat → Int32) → (Nat → Int32) → (Nat → Int32) → (Nat → Int32) → (Nat → Int32) → (Nat → Int32) → (Nat → Int32) → (Nat → Int32) → (Nat → Int32) → (Nat → Int32) → (Nat → Int32) → (Nat → Int32) → (Nat → Int32) → (Nat → Int32) → Prop}
    {g_made g_depth g_size g_begun g_over g_ticks g_any g_lastPresent g_lastAbsent : Int32} {b_sorts b_numbers b_firsts b_seconds b_stack b_around b_on b_alive b_done b_frozen b_killed b_after : Nat → Int32} {N pr ab r : Nat} {K M P Q : Nat → Nat} {o al : Nat → Bool} {fi : Bool} {x3 : Int32} (hN : N ≤ 16) (hN1 : 1 ≤ N) (hs : g_size = nI N) (h1 : pr < 64) (h2 : ab < 64) (hg : pg_Y N K M P Q b_sorts b_numbers b_firsts b_seconds)
    (hon : on_W N K P Q o al) (ho : ∀ j, j < 16 → b_on j = bo_I (o j)) (hal : ∀ j, j < N → b_alive j = bo_I (al j)) (hr : r = if fi = true then N - 1 else 16 + (N - 1)) (hra : fi = false → al (N - 1) = true)
    {rm rc : Nat → Nat → Nat} (hrm : rm = rt_m K M P Q N o al fi) (hrc : rc = rt_c K M P Q N o al fi)
    (h : ∀ me ce mn cn, tb_Y K M P Q pr ab o al me ce mn cn N → J x3 g_made g_depth g_size g_begun g_over g_ticks (nI (fx_s rm rc pr ab).1) (nI (fx_s rm rc pr ab).2) g_any g_lastPresent g_lastAbsent b_sorts b_numbers b_firsts b_seconds b_stack b_around b_on b_alive me ce mn cn b_done b_frozen b_killed b_after) :
    ∀ d i me ce mn cn, i + d = N → tb_Y K M P Q pr ab o al me ce mn cn i → wY_find_77 post J (nI r) x3 (d + 1) (nI i) g_made g_depth g_size g_begun g_over g_ticks (nI pr) (nI ab) g_any g_lastPresent g_lastAbsent b_sorts b_numbers b_firsts b_seconds b_stack b_around b_on b_alive me ce mn cn b_done b_frozen b_killed b_after := by
  intro d
  induction d with
  | zero =>
    intro i me ce mn cn hi ht
    have hiN : i = N := by omega
    subst hiN
    have r32 : r < 32 := by rw [hr]; split <;> omega
    have cr : (nI r).toNatClampNeg = r := nI_clamp (by omega)
    have vr : vp_in (nI r) 32 := vp_in_nI r32 (by omega)
    have hv : me r = nI (rm pr ab) ∧ ce r = nI (rc pr ab) ∧ rm pr ab < 64 ∧ rc pr ab < 64 := by
      rw [hrm, hrc, hr]
      unfold rt_m rt_c rt_v
      have ht' := ht (i - 1) (by omega)
      cases fi
      · obtain ⟨e, v1, v2, v3⟩ := ht'.2 (hra rfl)
        unfold qu_at at e
        simp only [Prod.mk.injEq] at e
        exact ⟨e.1, e.2.1, v1.1, v2.1⟩
      · obtain ⟨e, v1, v2, v3⟩ := ht'.1
        unfold qu_at at e
        simp only [Prod.mk.injEq] at e
        exact ⟨e.1, e.2.1, v1.1, v2.1⟩
    obtain ⟨hv1, hv2, hv3, hv4⟩ := hv
    have hu := fx_u64 pr ab
    refine br_t ?_ ?_
    · rw [hs]; exact nI_le (by omega) (by omega)
    have e1 : nI (fx_u pr ab) &&& nI (rm pr ab) = nI (fx_u pr ab &&& rm pr ab) := nx_and _ _
    have e2 : nI (fx_u pr ab) &&& (nI (rc pr ab) ^^^ (-1)) = nI (fx_u pr ab &&& (63 - rc pr ab)) := by
      have := fx_nn (u := fx_u pr ab) (s := rc pr ab) 0 hu hv4
      rw [show 64 * 0 + rc pr ab = rc pr ab from by omega] at this
      exact this
    refine nm_r (fx_ui pr h1 ab h2) ⟨vr, ?_⟩
    rw [cr, hv1, hv2, e1, e2, bz_or, bz_or]
    exact nm_e ⟨vr, nm_e (h me ce mn cn ht)⟩
  | succ d ih =>
    intro i me ce mn cn hi ht
    have hiN : i < N := by omega
    refine br_f ?_ ?_
    · rw [hs]; exact nI_ge (by omega) (by omega)
    refine yj_S hN hiN hg ?_
    refine yj_R (o := o) (al := al) hN hiN hg (ho i (by omega)) hal ?_
    refine nm_r (nI_1 i) ?_
    exact ih (i + 1) _ _ _ _ (by omega) (tb_Ys hN hiN hg hon ht rfl rfl)
theorem yf_neg : ∀ n, n < 64 → ¬ (-1 : Int32) = nI n := by decide +kernel
theorem yf_pa (pr ab : Nat) : nI pr + (64 * nI ab) = nI (pr + 64 * ab) := by
  have : (64 : Int32) * nI ab = nI (64 * ab) := pk_mul 64 ab
  rw [this, nI_add]
theorem yf_45 {post : Int32 → SY → Prop}
    {g_made g_depth g_size g_begun g_over g_ticks g_any g_lastPresent g_lastAbsent : Int32} {b_sorts b_numbers b_firsts b_seconds b_stack b_around b_on b_alive b_done b_frozen b_killed b_after : Nat → Int32} {N r : Nat} {K M P Q : Nat → Nat} {o al : Nat → Bool} {fi : Bool} (hN : N ≤ 16) (hN1 : 1 ≤ N) (hs : g_size = nI N) (hg : pg_Y N K M P Q b_sorts b_numbers b_firsts b_seconds)
    (hon : on_W N K P Q o al) (ho : ∀ j, j < 16 → b_on j = bo_I (o j)) (hal : ∀ j, j < N → b_alive j = bo_I (al j)) (hr : r = if fi = true then N - 1 else 16 + (N - 1)) (hra : fi = false → al (N - 1) = true)
    {rm rc : Nat → Nat → Nat} (hrm : rm = rt_m K M P Q N o al fi) (hrc : rc = rt_c K M P Q N o al fi) :
    ∀ n k pr ab x3 me ce mn cn, n + k = 7 → pr < 64 → ab < 64 → k ≤ fx_pc (pr ||| ab) → ¬ x3 = nI (pr + 64 * ab) →
    (∀ me ce mn cn, tb_Y K M P Q (fx_r rm rc n pr ab).1 (fx_r rm rc n pr ab).2 o al me ce mn cn N → post (nI r) (g_made, g_depth, g_size, g_begun, g_over, g_ticks, nI (fx_r rm rc n pr ab).1, nI (fx_r rm rc n pr ab).2, g_any, g_lastPresent, g_lastAbsent, b_sorts, b_numbers, b_firsts, b_seconds, b_stack, b_around, b_on, b_alive, me, ce, mn, cn, b_done, b_frozen, b_killed, b_after)) →
    wY_find_45 post (nI r) (n + 1) x3 g_made g_depth g_size g_begun g_over g_ticks (nI pr) (nI ab) g_any g_lastPresent g_lastAbsent b_sorts b_numbers b_firsts b_seconds b_stack b_around b_on b_alive me ce mn cn b_done b_frozen b_killed b_after := by
  intro n
  induction n with
  | zero =>
    intro k pr ab x3 me ce mn cn hnk h1 h2 hpc
    have := fx_pc6 _ (Nat.or_lt_two_pow (n := 6) h1 h2)
    omega
  | succ n ih =>
    intro k pr ab x3 me ce mn cn hnk h1 h2 hpc hx hp
    refine br_f (by rw [yf_pa]; exact hx) (nm_r (yf_pa pr ab) ⟨N + 1, ?_⟩)
    refine yf_77 (fi := fi) hN hN1 hs h1 h2 hg hon ho hal hr hra hrm hrc (fun me ce mn cn ht => ?_) N 0 me ce mn cn (by omega) (fun j hj => absurd hj (by omega))
    by_cases z : fx_s rm rc pr ab = (pr, ab)
    · have hxr : fx_r rm rc (n + 1) pr ab = (pr, ab) := by unfold fx_r; rw [if_pos z]
      have hp' := hp me ce mn cn
      rw [hxr] at hp'
      rw [z]
      exact br_t (yf_pa pr ab).symm (hp' ht)
    · have hxr : fx_r rm rc (n + 1) pr ab = fx_r rm rc n (fx_s rm rc pr ab).1 (fx_s rm rc pr ab).2 := by rw [fx_r, if_neg z]
      rw [hxr] at hp
      have hgr := fx_gr rm rc h1 h2 z
      have hb := fx_ss rm rc h1 h2
      refine ih (k + 1) _ _ _ me ce mn cn (by omega) hb.1 hb.2 (by omega) (fun e => z ?_) hp
      rw [nI_eq (by omega) (by omega)] at e
      have e1 : (fx_s rm rc pr ab).1 = pr := by omega
      have e2 : (fx_s rm rc pr ab).2 = ab := by omega
      exact Prod.ext e1 e2
theorem yf_p {post : Int32 → SY → Prop} {g_made g_depth g_size g_begun g_over g_ticks g_present g_absent g_any g_lastPresent g_lastAbsent : Int32} {b_sorts b_numbers b_firsts b_seconds b_stack b_around b_on b_alive b_mustEmit b_canEmit b_mustEnd b_canEnd b_done b_frozen b_killed b_after : Nat → Int32} {N : Nat} {K M P Q : Nat → Nat} {o al : Nat → Bool} {fi : Bool} {e : Int32} {inp : Nat} (hi : inp < 64) (hin : e &&& 63 = nI inp) (hN : N ≤ 16) (hN1 : 1 ≤ N) (hs : g_size = nI N) (hb : g_begun = bo_I (!fi)) (hg : pg_Y N K M P Q b_sorts b_numbers b_firsts b_seconds)
    (hon : on_W N K P Q o al) (ho : ∀ j, j < 16 → b_on j = bo_I (o j)) (hra : fi = false → al (N - 1) = true)
    {rm rc : Nat → Nat → Nat} (hrm : rm = rt_m K M P Q N o al fi) (hrc : rc = rt_c K M P Q N o al fi)
    (hp : ∀ pr ab A me ce mn cn, (pr, ab) = fx_r rm rc 7 inp 0 → (∀ j, j < N → A j = bo_I (al j)) → tb_Y K M P Q pr ab o al me ce mn cn N → post (nI (if fi = true then N - 1 else 16 + (N - 1))) (g_made, g_depth, g_size, g_begun, g_over, g_ticks, nI pr, nI ab, g_any, g_lastPresent, g_lastAbsent, b_sorts, b_numbers, b_firsts, b_seconds, b_stack, b_around, b_on, A, me, ce, mn, cn, b_done, b_frozen, b_killed, b_after)) : wpY_find post (g_made, g_depth, g_size, g_begun, g_over, g_ticks, g_present, g_absent, g_any, g_lastPresent, g_lastAbsent, b_sorts, b_numbers, b_firsts, b_seconds, b_stack, b_around, b_on, b_alive, b_mustEmit, b_canEmit, b_mustEnd, b_canEnd, b_done, b_frozen, b_killed, b_after) e := by
  have hz : nI N - 1 = nI (N - 1) := pk_sub (a := N) (b := 1) hN1
  have hz2 : (16 + nI N) - 1 = nI (16 + (N - 1)) := by
    rw [e16]
    have := pk_sub (a := 16 + N) (b := 1) (by omega)
    rw [show 16 + N - 1 = 16 + (N - 1) from by omega] at this
    exact this
  refine yl_p hN hs hg ho hon.1 (fun A hA => ?_)
  refine nm_r hin ?_
  rw [hb, hs]
  refine bo_br (!fi) (fun z => nm_r hz ⟨8, ?_⟩) (fun z => nm_r hz2 ⟨8, ?_⟩)
  · have hf : fi = true := by cases fi; exact absurd z (by decide); rfl
    subst hf
    exact yf_45 (fi := true) hN hN1 rfl hg hon ho hA rfl hra hrm hrc 7 0 inp 0 _ _ _ _ _ rfl hi (by decide) (Nat.zero_le _) (yf_neg _ (by omega)) (fun me ce mn cn ht => by have := hp _ _ A me ce mn cn rfl hA ht; rw [hb, hs] at this; exact this)
  · have hf : fi = false := by cases fi; rfl; exact absurd z (by decide)
    subst hf
    exact yf_45 (fi := false) hN hN1 rfl hg hon ho hA rfl hra hrm hrc 7 0 inp 0 _ _ _ _ _ rfl hi (by decide) (Nat.zero_le _) (yf_neg _ (by omega)) (fun me ce mn cn ht => by have := hp _ _ A me ce mn cn rfl hA ht; rw [hb, hs] at this; exact this)
/-- the outcome, as a pure number -/
def oc_V (K M P Q : Nat → Nat) (N : Nat) (o al : Nat → Bool) (fi : Bool) (pr ab : Nat) : Nat := if (pr ||| ab) = 63 then (if (rt_v K M P Q N o al fi true pr ab).2 % 2 = 1 then 0 else 1) else 2
theorem oc_63 {pr ab : Nat} (h1 : pr < 64) (h2 : ab < 64) : (nI pr ||| nI ab) = 63 ↔ (pr ||| ab) = 63 := by
  rw [bz_or]
  have := nI_eq (a := pr ||| ab) (b := 63) (by have := Nat.or_lt_two_pow (n := 6) h1 h2; omega) (by decide)
  exact this
theorem xo_out {post : Int32 → Prop} {f_height f_made f_size f_on f_inFirst f_over f_instantsDone f_hadInstant f_lastPresent f_lastAbsent f_startedNow f_resumedNow : Int32} {a_stack a_newKind a_newMark a_newP a_newQ a_newWithin a_kind a_mark a_partP a_partQ a_within a_mustStarted a_canStarted a_mustResumed a_canResumed : Nat → Int32} {N pr ab : Nat} {K M P Q : Nat → Nat} {fi : Bool} (hN : N ≤ 16) (hN1 : 1 ≤ N) (hs : f_size = nI N) (hfi : f_inFirst = bo_I fi) (h1 : pr < 64) (h2 : ab < 64) (hg : pg_X N K M P Q a_kind a_mark a_partP a_partQ)
    {o al : Nat → Bool} (ht : tb_X K M P Q pr ab o al a_mustStarted a_canStarted a_mustResumed a_canResumed N)
    (hp : post (nI (oc_V K M P Q N o al fi pr ab))) : wpX_outcomeFound post (f_height, f_made, f_size, f_on, f_inFirst, f_over, f_instantsDone, f_hadInstant, f_lastPresent, f_lastAbsent, nI pr, nI ab, f_startedNow, f_resumedNow, a_stack, a_newKind, a_newMark, a_newP, a_newQ, a_newWithin, a_kind, a_mark, a_partP, a_partQ, a_within, a_mustStarted, a_canStarted, a_mustResumed, a_canResumed) := by
  have hz : nI N - 1 = nI (N - 1) := pk_sub (a := N) (b := 1) hN1
  have vN : vp_in (nI (N - 1)) 16 := vp_in_nI (by omega) (by omega)
  have cN : (nI (N - 1)).toNatClampNeg = N - 1 := nI_clamp (by omega)
  obtain ⟨t1, t2, t3, t4⟩ := ht (N - 1) (by omega)
  unfold oc_V at hp
  unfold wpX_outcomeFound
  dsimp only
  rw [oc_63 h1 h2]
  refine br_c (fun z => ?_) (fun z => by rw [if_neg z] at hp; exact hp)
  rw [if_pos z] at hp
  rw [hs]
  refine nm_r hz ?_
  rw [hfi, cN, t1, t3]
  have ok := rt_ok hg hN1 o al fi true pr ab
  have key : wX_outcomeFound_45 post (pv_k (rt_v K M P Q N o al fi true pr ab)) f_height f_made (nI N) f_on (bo_I fi) f_over f_instantsDone f_hadInstant f_lastPresent f_lastAbsent (nI pr) (nI ab) f_startedNow f_resumedNow a_stack a_newKind a_newMark a_newP a_newQ a_newWithin a_kind a_mark a_partP a_partQ a_within a_mustStarted a_canStarted a_mustResumed a_canResumed := by
    have e := pz_64 _ ok.2 _ ok.1
    refine br_c (fun y => ?_) (fun y => ?_)
    · have := e.mp y; rw [if_neg (by omega)] at hp; exact hp
    · rw [if_pos (by have : ¬ _ := fun w => y (e.mpr w); omega)] at hp; exact hp
  unfold rt_v at key
  refine bo_br fi (fun z => ⟨vN, ?_⟩) (fun z => ⟨vN, ?_⟩)
  · rw [z, if_neg (by decide)] at key; rw [z]; exact key
  · rw [z, if_pos rfl] at key; rw [z]; exact key
theorem yo_out {post : Int32 → Prop} {g_made g_depth g_size g_begun g_over g_ticks g_any g_lastPresent g_lastAbsent : Int32} {b_sorts b_numbers b_firsts b_seconds b_stack b_around b_on b_alive b_mustEmit b_canEmit b_mustEnd b_canEnd b_done b_frozen b_killed b_after : Nat → Int32} {N pr ab : Nat} {K M P Q : Nat → Nat} {fi : Bool} (hN : N ≤ 16) (hN1 : 1 ≤ N) (h1 : pr < 64) (h2 : ab < 64)
    {o al : Nat → Bool} (ht : tb_Y K M P Q pr ab o al b_mustEmit b_canEmit b_mustEnd b_canEnd N) (hra : fi = false → al (N - 1) = true)
    (hp : post (nI (oc_V K M P Q N o al fi pr ab))) : wpY_outcome post (g_made, g_depth, g_size, g_begun, g_over, g_ticks, nI pr, nI ab, g_any, g_lastPresent, g_lastAbsent, b_sorts, b_numbers, b_firsts, b_seconds, b_stack, b_around, b_on, b_alive, b_mustEmit, b_canEmit, b_mustEnd, b_canEnd, b_done, b_frozen, b_killed, b_after) (nI (if fi = true then N - 1 else 16 + (N - 1))) := by
  have hr : (if fi = true then N - 1 else 16 + (N - 1)) < 32 := by split <;> omega
  have hv : b_mustEnd (if fi = true then N - 1 else 16 + (N - 1)) = de_I (rt_v K M P Q N o al fi true pr ab).2 ∧ mv_C (rt_v K M P Q N o al fi true pr ab).2 := by
    unfold rt_v
    have ht' := ht (N - 1) (by omega)
    cases fi
    · obtain ⟨e, v1, v2, v3⟩ := ht'.2 (hra rfl)
      unfold qu_at at e
      simp only [Prod.mk.injEq] at e
      exact ⟨e.2.2.1, v3⟩
    · obtain ⟨e, v1, v2, v3⟩ := ht'.1
      unfold qu_at at e
      simp only [Prod.mk.injEq] at e
      exact ⟨e.2.2.1, v3⟩
  generalize (if fi = true then N - 1 else 16 + (N - 1)) = r at hr hv ⊢
  unfold oc_V at hp
  unfold wpY_outcome
  dsimp only
  rw [oc_63 h1 h2, nI_clamp (show r < 2 ^ 31 by omega), hv.1]
  refine br_c (fun z => ⟨vp_in_nI hr (by omega), ?_⟩) (fun z => by rw [if_neg z] at hp; exact hp)
  rw [if_pos z] at hp
  rw [yz_01 hv.2]
  exact br_c (fun y => by rw [if_pos y] at hp; exact hp) (fun y => by rw [if_neg y] at hp; exact hp)
