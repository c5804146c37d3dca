/- Y: code, pass, spread -/
theorem yc_code {post : Int32 → Prop} {g_made g_depth g_size g_begun g_over g_ticks g_present g_absent g_any g_lastPresent g_lastAbsent : Int32} {b_sorts b_numbers b_firsts b_seconds b_stack b_around b_on b_alive b_mustEmit b_canEmit b_mustEnd b_canEnd b_done b_frozen b_killed b_after : Nat → Int32} {N pr ab c dc : Nat} {K M P Q : Nat → Nat} {o al : Nat → Bool} (hN : N ≤ 16) (hc : c < N) (ht : tb_Y K M P Q pr ab o al b_mustEmit b_canEmit b_mustEnd b_canEnd N) (hD : b_done c = nI dc) (h2 : dc ≤ 2) (ha : dc = 2 → al c = true)
    (h : post (if dc = 0 then -1 else de_I (cd_E (eS_T K M P Q pr ab) (eR_T K M P Q pr ab o al) dc c))) : wpY_code post (g_made, g_depth, g_size, g_begun, g_over, g_ticks, g_present, g_absent, g_any, g_lastPresent, g_lastAbsent, b_sorts, b_numbers, b_firsts, b_seconds, b_stack, b_around, b_on, b_alive, b_mustEmit, b_canEmit, b_mustEnd, b_canEnd, b_done, b_frozen, b_killed, b_after) (nI c) := by
  have cc : (nI c).toNatClampNeg = c := nI_clamp (by omega)
  have c16 : (nI (16 + c)).toNatClampNeg = 16 + c := nI_clamp (by omega)
  have vc : vp_in (nI c) 16 := vp_in_nI (by omega) (by omega)
  unfold wpY_code
  dsimp only
  rw [cc, hD, e16, c16]
  obtain ⟨t1, t2⟩ := ht c hc
  refine ⟨vc, pk_eq dc 0 (fun z => ?_) (fun z => ⟨vc, pk_eq dc 1 (fun y => ⟨vp_in_nI (by omega) (by omega), ?_⟩) (fun y => ⟨vp_in_nI (by omega) (by omega), ?_⟩)⟩)⟩
  · rw [if_pos z] at h; exact h
  · rw [if_neg z, y] at h
    have e := t1.1
    unfold qu_at at e
    simp only [Prod.mk.injEq] at e
    rw [e.2.2.1]; exact h
  · rw [if_neg z] at h
    have e2 : dc = 2 := by omega
    rw [e2] at h
    have e := (t2 (ha e2)).1
    unfold qu_at at e
    simp only [Prod.mk.injEq] at e
    rw [e.2.2.1]; exact h
theorem yc_mv {N pr ab c dc : Nat} {K M P Q : Nat → Nat} {o al : Nat → Bool} {me ce mn cn : Nat → Int32} (hc : c < N) (ht : tb_Y K M P Q pr ab o al me ce mn cn N) (h0 : dc ≠ 0) (h2 : dc ≤ 2) (ha : dc = 2 → al c = true) : mv_C (cd_E (eS_T K M P Q pr ab) (eR_T K M P Q pr ab o al) dc c) := by
  obtain ⟨t1, t2⟩ := ht c hc
  unfold cd_E
  split
  · exact t1.2.2.2
  · exact (t2 (ha (by omega))).2.2.2
def pd_W (N : Nat) (K P Q d : Nat → Nat) (i : Nat) (D D' : Nat → Int32) : Prop := ∀ c, c < N → D' c = if 4 ≤ K i ∧ c = P i then nI (d (P i)) else if 7 ≤ K i ∧ c = Q i then nI (d (Q i)) else D c
theorem pd_00 {N : Nat} {K P Q d : Nat → Nat} {i : Nat} {D : Nat → Int32} (zP : 4 ≤ K i → D (P i) = nI 0) (zQ : 7 ≤ K i → D (Q i) = nI 0) (hP : 4 ≤ K i → d (P i) = 0) (hQ : 7 ≤ K i → d (Q i) = 0) : pd_W N K P Q d i D D := by
  intro c hc
  split
  · rename_i h; rw [h.2, zP h.1, hP h.1]
  · split
    · rename_i h; rw [h.2, zQ h.1, hQ h.1]
    · rfl
theorem pd_10 {N : Nat} {K P Q d : Nat → Nat} {i : Nat} {D : Nat → Int32} {v : Int32} (zQ : 7 ≤ K i → D (Q i) = nI 0) (h4 : 4 ≤ K i) (hQ : 7 ≤ K i → d (Q i) = 0) (hv : v = nI (d (P i))) : pd_W N K P Q d i D (upd D (P i) v) := by
  intro c hc
  split
  · rename_i h; rw [h.2, pk_us, hv]
  · rename_i h
    rw [pk_un (fun e => h ⟨h4, e⟩)]
    split
    · rename_i h; rw [h.2, zQ h.1, hQ h.1]
    · rfl
theorem pd_01 {N : Nat} {K P Q d : Nat → Nat} {i : Nat} {D : Nat → Int32} {v : Int32} (zP : 4 ≤ K i → D (P i) = nI 0) (hne : Q i ≠ P i) (h7 : 7 ≤ K i) (hP : d (P i) = 0) (hv : v = nI (d (Q i))) : pd_W N K P Q d i D (upd D (Q i) v) := by
  intro c hc
  split
  · rename_i h; rw [h.2, pk_un (Ne.symm hne), zP h.1, hP]
  · split
    · rename_i h; rw [h.2, pk_us, hv]
    · rename_i h; rw [pk_un (fun e => h ⟨h7, e⟩)]
theorem pd_11 {N : Nat} {K P Q d : Nat → Nat} {i : Nat} {D : Nat → Int32} {v v' : Int32} (hne : Q i ≠ P i) (h7 : 7 ≤ K i) (hv : v = nI (d (P i))) (hv' : v' = nI (d (Q i))) : pd_W N K P Q d i D (upd (upd D (P i) v) (Q i) v') := by
  intro c hc
  split
  · rename_i h; rw [h.2, pk_un (Ne.symm hne), pk_us, hv]
  · rename_i hp
    split
    · rename_i h; rw [h.2, pk_us, hv']
    · rename_i h; rw [pk_un (fun e => h ⟨h7, e⟩), pk_un (fun e => hp ⟨by omega, e⟩)]
theorem yp_52 {post : SY → Prop} {g_made g_depth g_size g_begun g_over g_ticks g_present g_absent g_any g_lastPresent g_lastAbsent : Int32} {b_sorts b_numbers b_firsts b_seconds b_stack b_around b_on b_alive b_mustEmit b_canEmit b_mustEnd b_canEnd b_done b_frozen b_killed b_after : Nat → Int32} {z0 : Int32} {N pr ab i : Nat} {K M P Q par d : Nat → Nat} {w : Nat → Int32} {o al is : Nat → Bool} {fi : Bool} (hN : N ≤ 16) (hi : i < N) (hg : pg_Y N K M P Q b_sorts b_numbers b_firsts b_seconds)
    (ht : tb_Y K M P Q pr ab o al b_mustEmit b_canEmit b_mustEnd b_canEnd N) (ho : b_on i = bo_I (o i)) (hal : ∀ j, j < N → b_alive j = bo_I (al j))
    (hd : dm_W N K P Q par w o al is (eS_T K M P Q pr ab) (eR_T K M P Q pr ab o al) d fi) (hz : K i = 6 ∨ K i = 9 → z0 = bo_I (is i))
    (zP : 4 ≤ K i → b_done (P i) = nI 0) (zQ : 7 ≤ K i → b_done (Q i) = nI 0)
    (h : ∀ D, pd_W N K P Q d i b_done D → post (g_made, g_depth, g_size, g_begun, g_over, g_ticks, g_present, g_absent, g_any, g_lastPresent, g_lastAbsent, b_sorts, b_numbers, b_firsts, b_seconds, b_stack, b_around, b_on, b_alive, b_mustEmit, b_canEmit, b_mustEnd, b_canEnd, D, (if fr_S K d is i = true then upd b_frozen i 1 else b_frozen), b_killed, b_after)) :
    wY_pass_52 post (nI i) (nI (K i)) (nI (P i)) (nI (if 7 ≤ K i then Q i else 0)) (nI (d i)) z0 g_made g_depth g_size g_begun g_over g_ticks g_present g_absent g_any g_lastPresent g_lastAbsent b_sorts b_numbers b_firsts b_seconds b_stack b_around b_on b_alive b_mustEmit b_canEmit b_mustEnd b_canEnd b_done b_frozen b_killed b_after := by
  obtain ⟨g1, g2, g3, g4, g5, g6, g7, g8⟩ := hg i hi
  have hc : (nI i).toNatClampNeg = i := nI_clamp (by omega)
  have cP : (nI (P i)).toNatClampNeg = P i := nI_clamp (by omega)
  have cQ : (nI (Q i)).toNatClampNeg = Q i := nI_clamp (by omega)
  have vi : vp_in (nI i) 16 := vp_in_nI (by omega) (by omega)
  have vP : vp_in (nI (P i)) 16 := vp_in_nI g6 (by omega)
  have vQ : vp_in (nI (Q i)) 16 := vp_in_nI g7 (by omega)
  have h012 := dm_012 hd _ i rfl hi
  have nf : K i ≠ 6 → fr_S K d is i = false := fun z => by unfold fr_S; rw [decide_eq_false z]; rfl
  have go : fr_S K d is i = false → ∀ D, pd_W N K P Q d i b_done D → post (g_made, g_depth, g_size, g_begun, g_over, g_ticks, g_present, g_absent, g_any, g_lastPresent, g_lastAbsent, b_sorts, b_numbers, b_firsts, b_seconds, b_stack, b_around, b_on, b_alive, b_mustEmit, b_canEmit, b_mustEnd, b_canEnd, D, b_frozen, b_killed, b_after) := fun e D hD => by
    have := h D hD
    rw [e, if_neg (by decide)] at this; exact this
  unfold wY_pass_52
  refine pk_eq (d i) 0 (fun z => ?_) (fun z0' => ?_)
  · refine go (by unfold fr_S; rw [z]; simp) _ (pd_00 zP zQ (fun h4 => ?_) (fun h7 => ?_))
    · rw [dm_P hd hi h4, z]; rfl
    · rw [dm_Q hd hi h7, z]; rfl
  refine pk_le 4 (K i) (fun k4 => ?_) (fun z => go (nf (by omega)) _ (pd_00 zP zQ (fun h4 => by omega) (fun h7 => by omega)))
  have g8' := g8 k4
  have dP := dm_P hd hi k4
  have aP := hal (P i) (by omega)
  have aQ := hal (Q i) (by omega)
  have aP2 := dm_al hd _ (P i) rfl (show P i < N by omega)
  unfold wy_P at dP
  rw [if_neg z0'] at dP
  rw [hc, cP, ho]
  refine pk_eq (K i) 4 (fun z => ⟨vi, ?_⟩) (fun z4 => ?_)
  · rw [if_pos z] at dP
    have g := go (nf (by omega))
    refine bo_br (o i) (fun t => ⟨vP, nm_e ?_⟩) (fun t => ⟨vP, nm_e ?_⟩)
    · rw [if_neg (by rw [t]; decide)] at dP
      exact g _ (pd_10 zQ k4 (fun q => by omega) (by rw [dP]))
    · rw [if_pos t] at dP
      exact g _ (pd_10 zQ k4 (fun q => by omega) (by rw [dP]; rfl))
  rw [if_neg z4] at dP
  refine pk_eq (K i) 5 (fun z => ⟨vP, nm_e ?_⟩) (fun z5 => ?_)
  · rw [if_pos z] at dP
    exact go (nf (by omega)) _ (pd_10 zQ k4 (fun q => by omega) (by rw [dP]))
  rw [if_neg z5] at dP
  refine pk_eq (K i) 6 (fun z => ?_) (fun z6 => ?_)
  · rw [if_pos z] at dP
    rw [hz (Or.inl z)]
    refine pk_eq (d i) 2 (fun z2 => bo_br (is i) (fun t => ⟨vP, nm_e ?_⟩) (fun t => ⟨vi, nm_e ?_⟩)) (fun z2 => ⟨vP, nm_e ?_⟩)
    · rw [if_neg (by rw [t]; simp)] at dP
      exact go (by unfold fr_S; rw [t]; simp) _ (pd_10 zQ k4 (fun q => by omega) (by rw [dP]))
    · rw [if_pos ⟨z2, t⟩] at dP
      have hfr : fr_S K d is i = true := by unfold fr_S; rw [z, z2, t]; rfl
      have := h _ (pd_00 (D := b_done) (N := N) zP zQ (fun _ => dP) (fun q => by omega))
      rw [if_pos hfr] at this
      exact this
    · rw [if_neg (fun q => z2 q.1)] at dP
      exact go (by unfold fr_S; rw [decide_eq_false z2]; simp) _ (pd_10 zQ k4 (fun q => by omega) (by rw [dP]))
  rw [if_neg z6] at dP
  have g := go (nf z6)
  have k7 : 7 ≤ K i := by omega
  have dQ := dm_Q hd hi k7
  have hne := (hd.2.1.2.2.1 i hi k7).2
  unfold wy_Q at dQ
  rw [if_neg z0'] at dQ
  rw [if_pos k7, aP]
  refine pk_eq (K i) 7 (fun z => ?_) (fun z7 => ?_)
  · rw [if_pos (Or.inl z)] at dP
    rw [if_pos z] at dQ
    have k203 : d (P i) ≠ 0 → ¬ (d i = 2 ∧ al (P i) = false) → wY_pass_203 post (nI (P i)) (nI (Q i)) g_made g_depth g_size g_begun g_over g_ticks g_present g_absent g_any g_lastPresent g_lastAbsent b_sorts b_numbers b_firsts b_seconds b_stack b_around b_on b_alive b_mustEmit b_canEmit b_mustEnd b_canEnd (upd b_done (P i) (nI (d (P i)))) b_frozen b_killed b_after := by
      intro hp0 hn
      rw [if_neg hn] at dQ
      have l2 := dm_012 hd _ (P i) rfl (show P i < N by omega)
      have hmv := yc_mv (show P i < N by omega) ht hp0 l2 aP2
      refine yc_code (dc := d (P i)) hN (show P i < N by omega) ht pk_us l2 aP2 ?_
      rw [if_neg hp0]
      rw [yz_01 hmv]
      generalize cd_E (eS_T K M P Q pr ab) (eR_T K M P Q pr ab o al) (d (P i)) (P i) = x at dQ hmv ⊢
      refine br_c (fun y => ⟨vQ, ?_⟩) (fun y => ?_)
      · rw [decide_eq_true y, if_pos rfl] at dQ
        rw [cQ]
        exact nm_e (g _ (pd_11 hne k7 rfl (by rw [dQ]; rfl)))
      · rw [decide_eq_false y, if_neg (by decide)] at dQ
        exact g _ (pd_10 zQ k4 (fun _ => dQ) rfl)
    refine pk_eq (d i) 1 (fun z1 => ⟨vP, ?_⟩) (fun z1 => ⟨vP, bo_br _ (fun t => ?_) (fun t => ⟨vP, ?_⟩)⟩)
    · rw [if_pos (Or.inl z1)] at dP
      rw [cP, ← dP]
      refine nm_e (pk_eq (d (P i)) 2 (fun q => absurd q (by omega)) (fun _ => k203 (by omega) (by omega)))
    · rw [if_neg (by rw [t]; simp; exact z1)] at dP
      have e2 : d i = 2 := by omega
      rw [if_pos ⟨e2, t⟩] at dQ
      unfold wY_pass_177
      rw [cP, aP, cQ]
      refine pk_eq (d i) 2 (fun _ => ⟨vP, bo_br _ (fun _ => ⟨vQ, nm_e (g _ (pd_01 zP hne k7 dP (by rw [dQ]; rfl)))⟩) (fun q => absurd q (by rw [t]; decide))⟩) (fun q => absurd e2 q)
    · rw [if_pos (Or.inr t)] at dP
      rw [cP, ← dP]
      refine nm_e ?_
      unfold wY_pass_177
      rw [cP, aP]
      refine pk_eq (d (P i)) 2 (fun _ => ⟨vP, bo_br _ (fun q => absurd q (by rw [t]; decide)) (fun _ => k203 (by omega) (by rw [t]; simp))⟩) (fun _ => k203 (by omega) (by rw [t]; simp))
  rw [if_neg z7] at dQ
  refine pk_eq (K i) 8 (fun z => ?_) (fun z8 => ?_)
  · rw [if_pos (Or.inr z)] at dP
    rw [if_pos z] at dQ
    have k251 : ∀ D : Nat → Int32, (d (Q i) = 0 → pd_W N K P Q d i b_done D) → (d (Q i) = d i → pd_W N K P Q d i b_done (upd D (Q i) (nI (d i)))) → wY_pass_251 post (nI (Q i)) (nI (d i)) g_made g_depth g_size g_begun g_over g_ticks g_present g_absent g_any g_lastPresent g_lastAbsent b_sorts b_numbers b_firsts b_seconds b_stack b_around b_on b_alive b_mustEmit b_canEmit b_mustEnd b_canEnd D b_frozen b_killed b_after := by
      intro D h0 h1
      unfold wY_pass_251
      rw [cQ, aQ]
      refine pk_eq (d i) 1 (fun z1 => ⟨vQ, nm_e ?_⟩) (fun z1 => ⟨vQ, bo_br _ (fun t => ?_) (fun t => ⟨vQ, nm_e ?_⟩)⟩)
      · rw [if_pos (Or.inl z1)] at dQ
        exact g _ (h1 dQ)
      · rw [if_neg (by rw [t]; simp; exact z1)] at dQ
        exact g _ (h0 dQ)
      · rw [if_pos (Or.inr t)] at dQ
        exact g _ (h1 dQ)
    have k243 : d (P i) = d i → wY_pass_243 post (nI (P i)) (nI (Q i)) (nI (d i)) g_made g_depth g_size g_begun g_over g_ticks g_present g_absent g_any g_lastPresent g_lastAbsent b_sorts b_numbers b_firsts b_seconds b_stack b_around b_on b_alive b_mustEmit b_canEmit b_mustEnd b_canEnd b_done b_frozen b_killed b_after := by
      intro e
      unfold wY_pass_243
      rw [cP]
      refine ⟨vP, nm_e (k251 _ (fun q => pd_10 zQ k4 (fun _ => q) (by rw [e])) (fun q => pd_11 hne k7 (by rw [e]) (by rw [q])))⟩
    refine pk_eq (d i) 1 (fun z1 => ?_) (fun z1 => ⟨vP, bo_br _ (fun t => ?_) (fun t => ?_)⟩)
    · rw [if_pos (Or.inl z1)] at dP; exact k243 dP
    · rw [if_neg (by rw [t]; simp; exact z1)] at dP
      exact k251 _ (fun q => pd_00 zP zQ (fun _ => dP) (fun _ => q)) (fun q => pd_01 zP hne k7 dP (by rw [q]))
    · rw [if_pos (Or.inr t)] at dP; exact k243 dP
  have z9 : K i = 9 := by omega
  rw [if_neg (by omega)] at dP
  rw [if_neg z8] at dQ
  rw [hz (Or.inr z9), cQ]
  refine pk_eq (d i) 1 (fun z1 => bo_br (is i) (fun t => ⟨vQ, nm_e ?_⟩) (fun t => ⟨vP, nm_e ?_⟩)) (fun z1 => ⟨vP, bo_br _ (fun t => ⟨vQ, nm_e ?_⟩) (fun t => ⟨vP, nm_e ?_⟩)⟩)
  · rw [if_pos z1, t, if_neg (by decide)] at dP dQ
    exact g _ (pd_01 zP hne k7 dP (by rw [dQ]))
  · rw [if_pos z1, t, if_pos rfl] at dP dQ
    exact g _ (pd_10 zQ k4 (fun _ => dQ) (by rw [dP]))
  · rw [if_neg z1, t, if_neg (by decide)] at dP dQ
    exact g _ (pd_01 zP hne k7 dP (by rw [dQ]))
  · rw [if_neg z1, t, if_pos rfl] at dP dQ
    exact g _ (pd_10 zQ k4 (fun _ => dQ) (by rw [dP]))
theorem yp_p {post : SY → Prop} {g_made g_depth g_size g_begun g_over g_ticks g_absent g_any g_lastPresent g_lastAbsent : Int32} {b_sorts b_numbers b_firsts b_seconds b_stack b_around b_on b_alive b_mustEmit b_canEmit b_mustEnd b_canEnd b_done b_frozen b_killed b_after : Nat → Int32} {N pr ab i : Nat} {K M P Q par d : Nat → Nat} {w : Nat → Int32} {o al is : Nat → Bool} {fi : Bool} (hN : N ≤ 16) (hi : i < N) (hg : pg_Y N K M P Q b_sorts b_numbers b_firsts b_seconds)
    (ht : tb_Y K M P Q pr ab o al b_mustEmit b_canEmit b_mustEnd b_canEnd N) (ho : b_on i = bo_I (o i)) (hal : ∀ j, j < N → b_alive j = bo_I (al j))
    (hd : dm_W N K P Q par w o al is (eS_T K M P Q pr ab) (eR_T K M P Q pr ab o al) d fi) (hs : hs_W N K M is pr ab)
    (hD : b_done i = nI (d i)) (zP : 4 ≤ K i → b_done (P i) = nI 0) (zQ : 7 ≤ K i → b_done (Q i) = nI 0)
    (h : ∀ D, pd_W N K P Q d i b_done D → post (g_made, g_depth, g_size, g_begun, g_over, g_ticks, nI pr, g_absent, g_any, g_lastPresent, g_lastAbsent, b_sorts, b_numbers, b_firsts, b_seconds, b_stack, b_around, b_on, b_alive, b_mustEmit, b_canEmit, b_mustEnd, b_canEnd, D, (if fr_S K d is i = true then upd b_frozen i 1 else b_frozen), b_killed, b_after)) :
    wpY_pass post (g_made, g_depth, g_size, g_begun, g_over, g_ticks, nI pr, g_absent, g_any, g_lastPresent, g_lastAbsent, b_sorts, b_numbers, b_firsts, b_seconds, b_stack, b_around, b_on, b_alive, b_mustEmit, b_canEmit, b_mustEnd, b_canEnd, b_done, b_frozen, b_killed, b_after) (nI i) := by
  have hg' := hg i hi
  obtain ⟨g1, g2, g3, g4, g5, g6, g7, g8⟩ := hg'
  have hc : (nI i).toNatClampNeg = i := nI_clamp (by omega)
  have vi : vp_in (nI i) 32 := vp_in_nI (by omega) (by omega)
  have vi16 : vp_in (nI i) 16 := vp_in_nI (by omega) (by omega)
  have key := fun z0 hz => yp_52 (g_present := nI pr) (z0 := z0) hN hi hg ht ho hal hd hz zP zQ h
  unfold wpY_pass
  dsimp only
  rw [hc, g1, g4, g5, hD]
  refine ⟨vi, nm_e ⟨vi, nm_e ⟨vi, nm_e ⟨vi16, nm_e ⟨vi, ?_⟩⟩⟩⟩⟩
  by_cases e : K i = 6 ∨ K i = 9
  · have his := (hs i hi e).1
    have hm : b_numbers i = nI (M i) ∧ M i < 6 := g3.1 (by omega)
    refine bz_yb (n := M i) (by omega) hm.1 (fun t => key _ (fun _ => ?_)) (fun t => key _ (fun _ => ?_))
    · rw [bz_nI (by omega), ← his] at t; rw [t]; rfl
    · rw [bz_nI (by omega), ← his] at t; rw [t]; rfl
  · exact br_c (fun _ => key _ (fun q => absurd q e)) (fun _ => key _ (fun q => absurd q e))
