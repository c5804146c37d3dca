/- Y: spread, finish -/
def pb_W (N : Nat) (K P Q : Nat → Nat) (i : Nat) (b : Bool) (A A' : Nat → Int32) : Prop := ∀ c, c < N → A' c = if (4 ≤ K i ∧ c = P i) ∨ (7 ≤ K i ∧ c = Q i) then bo_I b else A c
theorem pb_f {N : Nat} {K P Q : Nat → Nat} {i : Nat} {A : Nat → Int32} (zP : 4 ≤ K i → A (P i) = 0) (zQ : 7 ≤ K i → A (Q i) = 0) : pb_W N K P Q i false A A := by
  intro c hc
  split
  · rename_i h
    rcases h with h | h
    · rw [h.2, zP h.1]; rfl
    · rw [h.2, zQ h.1]; rfl
  · rfl
theorem pb_1 {N : Nat} {K P Q : Nat → Nat} {i : Nat} {A : Nat → Int32} (h4 : 4 ≤ K i) (h7 : ¬ 7 ≤ K i) : pb_W N K P Q i true A (upd A (P i) 1) := by
  intro c hc
  split
  · rename_i h
    rcases h with h | h
    · rw [h.2, pk_us]; rfl
    · exact absurd h.1 h7
  · rename_i h; exact pk_un (fun e => h (Or.inl ⟨h4, e⟩))
theorem pb_2 {N : Nat} {K P Q : Nat → Nat} {i : Nat} {A : Nat → Int32} (h7 : 7 ≤ K i) : pb_W N K P Q i true A (upd (upd A (P i) 1) (Q i) 1) := by
  intro c hc
  by_cases e : c = Q i
  · rw [if_pos (Or.inr ⟨h7, e⟩), e, pk_us]; rfl
  · rw [pk_un e]
    by_cases e2 : c = P i
    · rw [if_pos (Or.inl ⟨by omega, e2⟩), e2, pk_us]; rfl
    · rw [pk_un e2, if_neg (by rintro (h | h); exact e2 h.2; exact e h.2)]
theorem ys_75 {post : SY → Prop} {g_made g_depth g_size g_begun g_over g_ticks g_present g_absent g_any g_lastPresent g_lastAbsent : Int32} {b_sorts b_numbers b_firsts b_seconds b_stack b_around b_on b_alive b_mustEmit b_canEmit b_mustEnd b_canEnd b_done b_frozen b_killed b_after : Nat → Int32} {N i q : Nat} {K P Q : Nat → Nat} {f b : Bool} (h4 : 4 ≤ K i) (k9 : K i ≤ 9) (hi : i < 16) (pi : P i < i) (qi : Q i < i) (hq : 7 ≤ K i → q = Q i) (hF : b_frozen i = bo_I f)
    (lP : 4 ≤ K i → b_killed (P i) = 0) (lQ : 7 ≤ K i → b_killed (Q i) = 0) (fP : 4 ≤ K i → b_frozen (P i) = 0) (fQ : 7 ≤ K i → b_frozen (Q i) = 0)
    (h : ∀ L F, pb_W N K P Q i b b_killed L → pb_W N K P Q i f b_frozen F → post (g_made, g_depth, g_size, g_begun, g_over, g_ticks, g_present, g_absent, g_any, g_lastPresent, g_lastAbsent, b_sorts, b_numbers, b_firsts, b_seconds, b_stack, b_around, b_on, b_alive, b_mustEmit, b_canEmit, b_mustEnd, b_canEnd, b_done, F, L, b_after)) :
    wY_spread_75 post (nI i) (nI (K i)) (nI (P i)) (nI q) (bo_I b) g_made g_depth g_size g_begun g_over g_ticks g_present g_absent g_any g_lastPresent g_lastAbsent b_sorts b_numbers b_firsts b_seconds b_stack b_around b_on b_alive b_mustEmit b_canEmit b_mustEnd b_canEnd b_done b_frozen b_killed b_after := by
  have hc : (nI i).toNatClampNeg = i := nI_clamp (by omega)
  have cP : (nI (P i)).toNatClampNeg = P i := nI_clamp (by omega)
  have cQ : (nI (Q i)).toNatClampNeg = Q i := nI_clamp (by omega)
  have vi : vp_in (nI i) 16 := vp_in_nI (by omega) (by omega)
  have vP : vp_in (nI (P i)) 16 := vp_in_nI (by omega) (by omega)
  have vQ : vp_in (nI (Q i)) 16 := vp_in_nI (by omega) (by omega)
  by_cases k7 : 7 ≤ K i
  · have hq' := hq k7
    subst hq'
    have k124 : ∀ L, pb_W N K P Q i b b_killed L → wY_spread_124 post (nI i) (nI (K i)) (nI (Q i)) g_made g_depth g_size g_begun g_over g_ticks g_present g_absent g_any g_lastPresent g_lastAbsent b_sorts b_numbers b_firsts b_seconds b_stack b_around b_on b_alive b_mustEmit b_canEmit b_mustEnd b_canEnd b_done (if f = true then upd b_frozen (P i) 1 else b_frozen) L b_after := by
      intro L hL
      unfold wY_spread_124
      rw [hc, cQ]
      have e : (if f = true then upd b_frozen (P i) 1 else b_frozen) i = bo_I f := by
        split
        · rw [pk_un (by omega)]; exact hF
        · exact hF
      rw [e]
      refine ⟨vi, bo_br f (fun t => ?_) (fun t => pk_le (K i) 6 (fun z => absurd z (by omega)) (fun _ => ⟨vQ, nm_e ?_⟩))⟩
      · rw [if_neg (by rw [t]; decide)]
        exact h _ _ hL (by rw [t]; exact pb_f fP fQ)
      · rw [if_pos t]
        exact h _ _ hL (by rw [t]; exact pb_2 k7)
    have k105 : wY_spread_105 post (nI i) (nI (K i)) (nI (Q i)) (bo_I b) g_made g_depth g_size g_begun g_over g_ticks g_present g_absent g_any g_lastPresent g_lastAbsent b_sorts b_numbers b_firsts b_seconds b_stack b_around b_on b_alive b_mustEmit b_canEmit b_mustEnd b_canEnd b_done (if f = true then upd b_frozen (P i) 1 else b_frozen) (if b = true then upd b_killed (P i) 1 else b_killed) b_after := by
      unfold wY_spread_105
      rw [cQ]
      refine bo_br b (fun t => ?_) (fun t => pk_le (K i) 6 (fun z => absurd z (by omega)) (fun _ => ⟨vQ, nm_e ?_⟩))
      · rw [if_neg (show ¬ b = true by rw [t]; decide)]
        exact k124 _ (by rw [t]; exact pb_f lP lQ)
      · rw [if_pos t]
        exact k124 _ (by rw [t]; exact pb_2 k7)
    have k89 : wY_spread_89 post (nI i) (nI (K i)) (nI (P i)) (nI (Q i)) (bo_I b) g_made g_depth g_size g_begun g_over g_ticks g_present g_absent g_any g_lastPresent g_lastAbsent b_sorts b_numbers b_firsts b_seconds b_stack b_around b_on b_alive b_mustEmit b_canEmit b_mustEnd b_canEnd b_done b_frozen (if b = true then upd b_killed (P i) 1 else b_killed) b_after := by
      unfold wY_spread_89
      rw [hc, cP, hF]
      refine ⟨vi, bo_br f (fun t => ?_) (fun t => ⟨vP, nm_e ?_⟩)⟩
      · rw [if_neg (show ¬ f = true by rw [t]; decide)] at k105; exact k105
      · rw [if_pos t] at k105; exact k105
    unfold wY_spread_75
    rw [cP]
    refine bo_br b (fun t => ?_) (fun t => ⟨vP, nm_e ?_⟩)
    · rw [if_neg (show ¬ b = true by rw [t]; decide)] at k89; exact k89
    · rw [if_pos t] at k89; exact k89
  · have k124 : ∀ L, pb_W N K P Q i b b_killed L → wY_spread_124 post (nI i) (nI (K i)) (nI q) g_made g_depth g_size g_begun g_over g_ticks g_present g_absent g_any g_lastPresent g_lastAbsent b_sorts b_numbers b_firsts b_seconds b_stack b_around b_on b_alive b_mustEmit b_canEmit b_mustEnd b_canEnd b_done (if f = true then upd b_frozen (P i) 1 else b_frozen) L b_after := by
      intro L hL
      unfold wY_spread_124
      rw [hc]
      have e : (if f = true then upd b_frozen (P i) 1 else b_frozen) i = bo_I f := by
        split
        · rw [pk_un (by omega)]; exact hF
        · exact hF
      rw [e]
      refine ⟨vi, bo_br f (fun t => ?_) (fun t => pk_le (K i) 6 (fun z => ?_) (fun z => absurd z (by omega)))⟩
      · rw [if_neg (by rw [t]; decide)]
        exact h _ _ hL (by rw [t]; exact pb_f fP fQ)
      · rw [if_pos t]
        exact h _ _ hL (by rw [t]; exact pb_1 h4 k7)
    have k105 : wY_spread_105 post (nI i) (nI (K i)) (nI q) (bo_I b) g_made g_depth g_size g_begun g_over g_ticks g_present g_absent g_any g_lastPresent g_lastAbsent b_sorts b_numbers b_firsts b_seconds b_stack b_around b_on b_alive b_mustEmit b_canEmit b_mustEnd b_canEnd b_done (if f = true then upd b_frozen (P i) 1 else b_frozen) (if b = true then upd b_killed (P i) 1 else b_killed) b_after := by
      unfold wY_spread_105
      refine bo_br b (fun t => ?_) (fun t => pk_le (K i) 6 (fun z => ?_) (fun z => absurd z (by omega)))
      · rw [if_neg (show ¬ b = true by rw [t]; decide)]
        exact k124 _ (by rw [t]; exact pb_f lP lQ)
      · rw [if_pos t]
        exact k124 _ (by rw [t]; exact pb_1 h4 k7)
    have k89 : wY_spread_89 post (nI i) (nI (K i)) (nI (P i)) (nI q) (bo_I b) g_made g_depth g_size g_begun g_over g_ticks g_present g_absent g_any g_lastPresent g_lastAbsent b_sorts b_numbers b_firsts b_seconds b_stack b_around b_on b_alive b_mustEmit b_canEmit b_mustEnd b_canEnd b_done b_frozen (if b = true then upd b_killed (P i) 1 else b_killed) b_after := by
      unfold wY_spread_89
      rw [hc, cP, hF]
      refine ⟨vi, bo_br f (fun t => ?_) (fun t => ⟨vP, nm_e ?_⟩)⟩
      · rw [if_neg (show ¬ f = true by rw [t]; decide)] at k105; exact k105
      · rw [if_pos t] at k105; exact k105
    unfold wY_spread_75
    rw [cP]
    refine bo_br b (fun t => ?_) (fun t => ⟨vP, nm_e ?_⟩)
    · rw [if_neg (show ¬ b = true by rw [t]; decide)] at k89; exact k89
    · rw [if_pos t] at k89; exact k89
theorem mv_g1 {c : Nat} (h : mv_C c) : 1 < de_I c ↔ c / 4 ≠ 0 := by
  rcases h with rfl | rfl | rfl | rfl | rfl | rfl <;> decide
theorem mv_e2 {c : Nat} (h : mv_C c) : de_I c = 2 ↔ c / 4 % 2 = 1 := by
  rcases h with rfl | rfl | rfl | rfl | rfl | rfl <;> decide
theorem ys_p {post : SY → Prop} {g_made g_depth g_size g_begun g_over g_ticks g_present g_absent g_any g_lastPresent g_lastAbsent : Int32} {b_sorts b_numbers b_firsts b_seconds b_stack b_around b_on b_alive b_mustEmit b_canEmit b_mustEnd b_canEnd b_done b_frozen b_killed b_after : Nat → Int32} {N pr ab i : Nat} {K M P Q par d : Nat → Nat} {w : Nat → Int32} {o al is : Nat → Bool} {fi f k : Bool} (hN : N ≤ 16) (hi : i < N) (hg : pg_Y N K M P Q b_sorts b_numbers b_firsts b_seconds)
    (ht : tb_Y K M P Q pr ab o al b_mustEmit b_canEmit b_mustEnd b_canEnd N)
    (hd : dm_W N K P Q par w o al is (eS_T K M P Q pr ab) (eR_T K M P Q pr ab o al) d fi)
    (hD : b_done i = nI (d i)) (hDP : 4 ≤ K i → b_done (P i) = nI (d (P i))) (hF : b_frozen i = bo_I f) (hL : b_killed i = bo_I k)
    (lP : 4 ≤ K i → b_killed (P i) = 0) (lQ : 7 ≤ K i → b_killed (Q i) = 0) (fP : 4 ≤ K i → b_frozen (P i) = 0) (fQ : 7 ≤ K i → b_frozen (Q i) = 0)
    (h : ∀ L F, pb_W N K P Q i (k || st_B K P d (eS_T K M P Q pr ab) (eR_T K M P Q pr ab o al) i) b_killed L → pb_W N K P Q i f b_frozen F → post (g_made, g_depth, g_size, g_begun, g_over, g_ticks, g_present, g_absent, g_any, g_lastPresent, g_lastAbsent, b_sorts, b_numbers, b_firsts, b_seconds, b_stack, b_around, b_on, b_alive, b_mustEmit, b_canEmit, b_mustEnd, b_canEnd, b_done, F, L, b_after)) :
    wpY_spread post (g_made, g_depth, g_size, g_begun, g_over, g_ticks, g_present, g_absent, g_any, g_lastPresent, g_lastAbsent, b_sorts, b_numbers, b_firsts, b_seconds, b_stack, b_around, b_on, b_alive, b_mustEmit, b_canEmit, b_mustEnd, b_canEnd, b_done, b_frozen, b_killed, b_after) (nI i) := by
  obtain ⟨g1, g2, g3, g4, g5, g6, g7, g8⟩ := hg i hi
  have hc : (nI i).toNatClampNeg = i := nI_clamp (by omega)
  have vi : vp_in (nI i) 32 := vp_in_nI (by omega) (by omega)
  have vi16 : vp_in (nI i) 16 := vp_in_nI (by omega) (by omega)
  have l2 := dm_012 hd _ i rfl hi
  have ai2 := dm_al hd _ i rfl hi
  unfold wpY_spread
  dsimp only
  rw [hc, g1, g4, g5]
  refine ⟨vi, nm_e ⟨vi, nm_e ⟨vi, nm_e ?_⟩⟩⟩
  refine yc_code (dc := d i) hN hi ht hD l2 ai2 ?_
  refine pk_le 4 (K i) (fun k4 => ⟨vi16, ?_⟩) (fun z => ?_)
  · have g8' := g8 k4
    have k75 : ∀ b, (k || st_B K P d (eS_T K M P Q pr ab) (eR_T K M P Q pr ab o al) i) = b → wY_spread_75 post (nI i) (nI (K i)) (nI (P i)) (nI (if 7 ≤ K i then Q i else 0)) (bo_I b) g_made g_depth g_size g_begun g_over g_ticks g_present g_absent g_any g_lastPresent g_lastAbsent b_sorts b_numbers b_firsts b_seconds b_stack b_around b_on b_alive b_mustEmit b_canEmit b_mustEnd b_canEnd b_done b_frozen b_killed b_after := by
      intro b hb
      rw [hb] at h
      exact ys_75 (N := N) (Q := Q) k4 g2 (by omega) g8'.1 g8'.2 (fun k7 => if_pos k7) hF lP lQ fP fQ h
    have k56 : k = false → (K i = 8 → d i = 0 ∨ cd_E (eS_T K M P Q pr ab) (eR_T K M P Q pr ab o al) (d i) i / 4 = 0) → wY_spread_56 post (nI i) (nI (K i)) (nI (P i)) (nI (if 7 ≤ K i then Q i else 0)) g_made g_depth g_size g_begun g_over g_ticks g_present g_absent g_any g_lastPresent g_lastAbsent b_sorts b_numbers b_firsts b_seconds b_stack b_around b_on b_alive b_mustEmit b_canEmit b_mustEnd b_canEnd b_done b_frozen b_killed b_after := by
      intro hk0 h8
      unfold wY_spread_56
      refine pk_eq (K i) 5 (fun z => ?_) (fun z5 => ?_)
      · have lP2 := dm_012 hd _ (P i) rfl (show P i < N by omega)
        have aP2 := dm_al hd _ (P i) rfl (show P i < N by omega)
        have dPi : d (P i) = d i := by
          rw [dm_P hd hi k4]; unfold wy_P
          by_cases q : d i = 0
          · rw [if_pos q, q]
          · rw [if_neg q, if_neg (by omega), if_pos z]
        refine yc_code (dc := d (P i)) hN (show P i < N by omega) ht (hDP k4) lP2 aP2 ?_
        by_cases q : d (P i) = 0
        · rw [if_pos q]
          refine br_f (by decide) ?_
          have := k75 false (by rw [hk0]; unfold st_B; rw [decide_eq_false (show ¬ K i = 8 by omega), ← dPi, q]; simp)
          exact this
        · rw [if_neg q]
          have hmv := yc_mv (show P i < N by omega) ht q lP2 aP2
          rw [mv_e2 hmv]
          refine br_c (fun y => ?_) (fun y => ?_)
          · have := k75 true (by unfold st_B; rw [decide_eq_true z, decide_eq_true y, decide_eq_true (show d i ≠ 0 by omega)]; simp)
            exact this
          · have := k75 false (by rw [hk0]; unfold st_B; rw [decide_eq_false (show ¬ K i = 8 by omega), decide_eq_false y]; simp)
            exact this
      · have e : st_B K P d (eS_T K M P Q pr ab) (eR_T K M P Q pr ab o al) i = false := by
          unfold st_B; rw [decide_eq_false z5]
          by_cases q : K i = 8
          · rcases h8 q with q2 | q2 <;> rw [q2] <;> simp
          · rw [decide_eq_false q]; simp
        have := k75 false (by rw [hk0, e]; rfl)
        exact this
    rw [hL]
    refine bo_br k (fun t => ?_) (fun t => ?_)
    · refine pk_eq (K i) 8 (fun z => ?_) (fun z8 => k56 t (fun q => absurd q z8))
      by_cases q : d i = 0
      · rw [if_pos q]
        exact br_f (by decide) (k56 t (fun _ => Or.inl q))
      · rw [if_neg q]
        have hmv := yc_mv hi ht q l2 ai2
        rw [mv_g1 hmv]
        refine br_c (fun y => ?_) (fun y => k56 t (fun _ => Or.inr (Decidable.not_not.mp y)))
        have := k75 true (by unfold st_B; rw [decide_eq_true z, decide_eq_true y, decide_eq_true q]; simp)
        exact this
    · have := k75 true (by rw [t]; rfl)
      exact this
  · have := h b_killed b_frozen (fun c hc => by rw [if_neg (by omega)]) (fun c hc => by rw [if_neg (by omega)])
    exact this
/-- Y's three arrays when all from m on are done -/
def yI_W (N : Nat) (par d : Nat → Nat) (fz kl : Nat → Bool) (m : Nat) (D F L : Nat → Int32) : Prop := ∀ c, c < N →
  D c = nI (if vs_B N par m c = true then d c else 0) ∧ L c = bo_I (vs_B N par m c && kl c) ∧ F c = bo_I (if m ≤ c then fz c else decide (c + 1 < N) && decide (m ≤ par c) && fz (par c))
theorem yI_s {N : Nat} {K P Q par : Nat → Nat} {w : Nat → Int32} {d eS eR : Nat → Nat} {is fz kl : Nat → Bool} {i : Nat} {D F L D' F' L' F1 : Nat → Int32} (ht : tr_P N K P Q par w) (wf : wf_P N K P Q) (hf : fk_W N K P par d eS eR is fz kl) (hi : i < N) (h : yI_W N par d fz kl (i + 1) D F L)
    (hD : pd_W N K P Q d i D D') (hF1 : F1 i = bo_I (fz i)) (hF2 : ∀ c, c ≠ i → F1 c = F c) (hL : pb_W N K P Q i (kl i || st_B K P d eS eR i) L L') (hF : pb_W N K P Q i (fz i) F1 F') : yI_W N par d fz kl i D' F' L' := by
  intro c hc
  obtain ⟨h1, h2, h3⟩ := h c hc
  rw [hD c hc, hL c hc, hF c hc]
  have hcase : (c + 1 < N ∧ par c = i) ∨ ¬ (c + 1 < N ∧ par c = i) := Classical.em _
  rcases hcase with ⟨hcN, hp⟩ | hn
  · obtain ⟨_, _, hcc⟩ := ht.1 c hcN
    have hci := (ht.1 c hcN).1
    rw [hp] at hcc hci
    have hv : vs_B N par i c = true := by unfold vs_B; simp [hp]
    have hch : (4 ≤ K i ∧ c = P i) ∨ (7 ≤ K i ∧ c = Q i) := hcc
    have hkl := hf.2.2.2 c hcN
    rw [hp] at hkl
    rw [if_pos hch, if_pos hch, hv, if_pos rfl, Bool.true_and, hkl, if_neg (show ¬ i ≤ c by omega), decide_eq_true hcN, hp, decide_eq_true (show i ≤ i by omega)]
    refine ⟨?_, rfl, by simp⟩
    split
    · rename_i q; rw [q.2]
    · rename_i q
      rcases hch with q2 | q2
      · exact absurd q2 q
      · rw [if_pos q2, q2.2]
  · have nP : ¬ (4 ≤ K i ∧ c = P i) := fun q => hn ⟨by have := (wf i hi q.1).1; omega, by rw [q.2]; exact ht.2.1 i hi q.1⟩
    have nQ : ¬ (7 ≤ K i ∧ c = Q i) := fun q => hn ⟨by have := (wf i hi (by omega)).2; omega, by rw [q.2]; exact (ht.2.2.1 i hi q.1).1⟩
    have nn : ¬ ((4 ≤ K i ∧ c = P i) ∨ (7 ≤ K i ∧ c = Q i)) := fun q => q.elim nP nQ
    have hv : vs_B N par (i + 1) c = vs_B N par i c := by
      unfold vs_B
      by_cases e : c + 1 = N
      · rw [decide_eq_true e]; rfl
      · have : par c ≠ i := fun q => hn ⟨by omega, q⟩
        by_cases e2 : i + 1 ≤ par c
        · rw [decide_eq_true e2, decide_eq_true (show i ≤ par c by omega)]
        · rw [decide_eq_false e2, decide_eq_false (show ¬ i ≤ par c by omega)]
    rw [if_neg nP, if_neg nQ, if_neg nn, if_neg nn, h1, h2, hv]
    refine ⟨rfl, rfl, ?_⟩
    by_cases e : c = i
    · rw [e, hF1, if_pos (by omega)]
    · rw [hF2 c e, h3]
      by_cases e2 : i + 1 ≤ c
      · rw [if_pos e2, if_pos (by omega)]
      · rw [if_neg e2, if_neg (by omega)]
        by_cases e3 : c + 1 < N
        · have : par c ≠ i := fun q => hn ⟨e3, q⟩
          by_cases e4 : i + 1 ≤ par c
          · rw [decide_eq_true e4, decide_eq_true (show i ≤ par c by omega)]
          · rw [decide_eq_false e4, decide_eq_false (show ¬ i ≤ par c by omega)]
        · rw [decide_eq_false e3]; rfl
