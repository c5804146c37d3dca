/- program: the tree of what was put together, the exits' traps -/
theorem bu_tr {m : Nat} {K M P Q sk : Nat → Nat} {nk nm np nq nw bs bn bf bc xs ys : Nat → Int32} (hb : bu_W m 1 K M P Q sk nk nm np nq nw bs bn bf bc xs ys) : ∃ par, tr_P m K P Q par nw := by
  obtain ⟨b1, b2, b3, b4, b5, b6, b7, b8, b9, b10, b11, b12, b13, b14⟩ := hb
  have wf : wf_P m K P Q := pg_wf b4
  have le := bu_le wf b9
  have root : sk 0 + 1 = m := b8 (by decide)
  have chm : ∀ i c, i < m → ch_W K P Q i c → c < i ∧ bt (nw i) c = true := by
    intro i c hi hc
    rcases hc with ⟨h4, e⟩ | ⟨h7, e⟩
    · have := (wf i hi h4).1
      refine ⟨by omega, ?_⟩
      rw [b9 i hi c, e, b9 (P i) (by omega) (P i), decide_eq_true h4]; simp
    · have := (wf i hi (by omega)).2
      refine ⟨by omega, ?_⟩
      rw [b9 i hi c, e, b9 (Q i) (by omega) (Q i), decide_eq_true h7]; simp
  have hex : ∀ c, ∃ i, c + 1 < m → i < m ∧ ch_W K P Q i c := by
    intro c
    by_cases hc : c + 1 < m
    · rcases b13 c (by omega) with ⟨j, j1, j2⟩ | ⟨i, i1, i2⟩
      · have : j = 0 := by omega
        rw [this] at j2; omega
      · exact ⟨i, fun _ => ⟨i1, i2⟩⟩
    · exact ⟨0, fun h => absurd h hc⟩
  obtain ⟨par, hpar⟩ : ∃ par : Nat → Nat, ∀ c, c + 1 < m → par c < m ∧ ch_W K P Q (par c) c := ⟨fun c => Classical.choose (hex c), fun c => Classical.choose_spec (hex c)⟩
  have uniq : ∀ i c, i < m → ch_W K P Q i c → par c = i := by
    intro i c hi hc
    obtain ⟨ci, cb⟩ := chm i c hi hc
    obtain ⟨hp, hpc⟩ := hpar c (by omega)
    obtain ⟨ci', cb'⟩ := chm (par c) c hp hpc
    have e1 := b14 (par c) hp c hpc i hi (by omega)
    have e2 := b14 i hi c hc (par c) hp (by omega)
    rw [cb] at e1
    rw [cb'] at e2
    have l1 := le i hi _ e1.symm
    have l2 := le (par c) hp _ e2.symm
    omega
  refine ⟨par, fun c hc => ?_, fun i hi h4 => uniq i _ hi (Or.inl ⟨h4, rfl⟩), fun i hi h7 => ⟨uniq i _ hi (Or.inr ⟨h7, rfl⟩), b11 i hi h7⟩, fun c hc k hk hkc => ?_, b9, b10⟩
  · obtain ⟨hp, hpc⟩ := hpar c hc
    exact ⟨(chm _ c hp hpc).1, hp, hpc⟩
  · obtain ⟨hp, hpc⟩ := hpar c hc
    exact b14 _ hp c hpc k hk hkc
def ct_N (f : Nat → Bool) : Nat → Nat
  | 0 => 0
  | n + 1 => ct_N f n + (if f n = true then 1 else 0)
theorem ct_c {f g : Nat → Bool} : ∀ n, (∀ k, k < n → f k = g k) → ct_N f n = ct_N g n := by
  intro n
  induction n with
  | zero => intro _; rfl
  | succ n ih =>
    intro h
    show ct_N f n + _ = ct_N g n + _
    rw [ih (fun k hk => h k (by omega)), h n (by omega)]
theorem ct_1 {f g : Nat → Bool} {i : Nat} (hg : g i = false) : ∀ n, i < n → (∀ k, k < n → k ≠ i → f k = g k) → ct_N f n = ct_N g n + (if f i = true then 1 else 0) := by
  intro n
  induction n with
  | zero => intro h; omega
  | succ n ih =>
    intro hi h
    show ct_N f n + _ = ct_N g n + _ + _
    by_cases e : i = n
    · rw [ct_c n (fun k hk => h k (by omega) (by omega)), ← e, hg]; simp
    · rw [ih (by omega) (fun k hk hne => h k (by omega) hne), h n (by omega) (Ne.symm e)]; omega
theorem ct_0 {f : Nat → Bool} : ∀ n, (∀ k, k < n → f k = false) → ct_N f n = 0 := by
  intro n
  induction n with
  | zero => intro _; rfl
  | succ n ih =>
    intro h
    show ct_N f n + _ = 0
    rw [ih (fun k hk => h k (by omega)), h n (by omega)]; rfl
/-- traps strictly around -/
def ta_B (K : Nat → Nat) (w : Nat → Int32) (c k : Nat) : Bool := decide (K k = 5) && decide (k ≠ c) && bt (w k) c
theorem ar_c {N : Nat} {K P Q par ar : Nat → Nat} {w : Nat → Int32} (ht : tr_P N K P Q par w) (wf : wf_P N K P Q) (h0 : ar (N - 1) = 0) (h : ∀ c, c + 1 < N → ar c = ar (par c) + (if K (par c) = 5 then 1 else 0)) :
    ∀ n c, N - c = n → c < N → ct_N (ta_B K w c) N = ar c := by
  intro n
  induction n using Nat.strongRecOn with
  | _ n ih =>
    intro c hn hc
    by_cases e : c + 1 < N
    · obtain ⟨hp, hpN, _⟩ := ht.1 c e
      rw [h c e, ← ih (N - par c) (by omega) (par c) rfl hpN]
      have hself : bt (w (par c)) (par c) = true := tr_self ht hpN
      have e1 := ct_1 (f := ta_B K w c) (g := ta_B K w (par c)) (i := par c) (by unfold ta_B; simp) N hpN (fun k hk hne => ?_)
      · rw [e1]
        congr 1
        unfold ta_B
        rw [ht.2.2.2.1 c e (par c) hpN (by omega), hself, decide_eq_true (show par c ≠ c by omega)]
        by_cases z : K (par c) = 5
        · rw [decide_eq_true z, if_pos z]; simp
        · rw [decide_eq_false z, if_neg z]; simp
      · unfold ta_B
        rw [decide_eq_true hne]
        by_cases z : k = c
        · have : bt (w k) (par c) = false := by
            cases q : bt (w k) (par c)
            · rfl
            · rw [z] at q; have := tr_le ht wf c hc _ q; omega
          rw [this, decide_eq_false (show ¬ (k ≠ c) by omega)]; simp
        · rw [ht.2.2.2.1 c e k hk z, decide_eq_true z]
    · have hc1 : c = N - 1 := by omega
      rw [hc1, h0]
      refine ct_0 N (fun k hk => ?_)
      unfold ta_B
      by_cases z : k = N - 1
      · rw [decide_eq_false (show ¬ (k ≠ N - 1) by omega)]; simp
      · have : bt (w k) (N - 1) = false := by
          cases q : bt (w k) (N - 1)
          · rfl
          · have := tr_le ht wf k hk _ q; omega
        rw [this]; simp
/- X: the exits -/
theorem xe_4 {post : Int32 → Prop} {f_height f_made f_size f_on f_inFirst f_over f_instantsDone f_hadInstant f_lastPresent f_lastAbsent f_present f_absent f_startedNow f_resumedNow : Int32} {a_stack a_newKind a_newMark a_newP a_newQ a_newWithin a_kind a_mark a_partP a_partQ a_within a_mustStarted a_canStarted a_mustResumed a_canResumed : Nat → Int32} {m c : Nat} {K M P Q : Nat → Nat} (hm : m ≤ 16) (hc : c < m) (e1 : f_made = nI m) (hg : pg_X m K M P Q a_newKind a_newMark a_newP a_newQ)
    (h : post (nI (ct_N (fun k => decide (K k = 5) && bt (a_newWithin k) c) m))) :
    ∀ t i, i + t = m → wX_trapsAround_4 post (nI c) f_height f_made f_size f_on f_inFirst f_over f_instantsDone f_hadInstant f_lastPresent f_lastAbsent f_present f_absent f_startedNow f_resumedNow a_stack a_newKind a_newMark a_newP a_newQ a_newWithin a_kind a_mark a_partP a_partQ a_within a_mustStarted a_canStarted a_mustResumed a_canResumed (t + 1) (nI (ct_N (fun k => decide (K k = 5) && bt (a_newWithin k) c) i)) (nI i) := by
  intro t
  induction t with
  | zero =>
    intro i hi
    have : i = m := by omega
    subst this
    exact br_t (by rw [e1]; exact nI_le (by omega) (by omega)) h
  | succ t ih =>
    intro i hi
    have hcl : (nI i).toNatClampNeg = i := nI_clamp (by omega)
    have vi : vp_in (nI i) 16 := vp_in_nI (by omega) (by omega)
    refine br_f (by rw [e1]; exact nI_ge (by omega) (by omega)) ⟨vi, ?_⟩
    rw [hcl, (hg i (by omega)).1]
    have k9 := (hg i (by omega)).2.1
    have step : ∀ b, (decide (K i = 5) && bt (a_newWithin i) c) = b → ct_N (fun k => decide (K k = 5) && bt (a_newWithin k) c) (i + 1) = ct_N (fun k => decide (K k = 5) && bt (a_newWithin k) c) i + (if b = true then 1 else 0) := by
      intro b hb
      show ct_N (fun k => decide (K k = 5) && bt (a_newWithin k) c) i + (if (decide (K i = 5) && bt (a_newWithin i) c) = true then 1 else 0) = _
      rw [hb]
    refine pk_eq (K i) 5 (fun z => ⟨vi, bz_hasb (n := c) (by omega) rfl (fun q => nm_r (nI_1 _) (nm_r (nI_1 i) ?_)) (fun q => nm_r (nI_1 i) ?_)⟩) (fun z => nm_r (nI_1 i) ?_)
    · have := ih (i + 1) (by omega)
      rw [step true (by rw [decide_eq_true z, q]; rfl), if_pos rfl] at this
      exact this
    · have := ih (i + 1) (by omega)
      rw [step false (by rw [q]; simp), if_neg (by decide)] at this
      exact this
    · have := ih (i + 1) (by omega)
      rw [step false (by rw [decide_eq_false z]; rfl), if_neg (by decide)] at this
      exact this
theorem xe_t {post : Int32 → Prop} {f_height f_made f_size f_on f_inFirst f_over f_instantsDone f_hadInstant f_lastPresent f_lastAbsent f_present f_absent f_startedNow f_resumedNow : Int32} {a_stack a_newKind a_newMark a_newP a_newQ a_newWithin a_kind a_mark a_partP a_partQ a_within a_mustStarted a_canStarted a_mustResumed a_canResumed : Nat → Int32} {m c : Nat} {K M P Q : Nat → Nat} (hm : m ≤ 16) (hc : c < m) (e1 : f_made = nI m) (hg : pg_X m K M P Q a_newKind a_newMark a_newP a_newQ)
    (h : post (nI (ct_N (fun k => decide (K k = 5) && bt (a_newWithin k) c) m))) : wpX_trapsAround post (f_height, f_made, f_size, f_on, f_inFirst, f_over, f_instantsDone, f_hadInstant, f_lastPresent, f_lastAbsent, f_present, f_absent, f_startedNow, f_resumedNow, a_stack, a_newKind, a_newMark, a_newP, a_newQ, a_newWithin, a_kind, a_mark, a_partP, a_partQ, a_within, a_mustStarted, a_canStarted, a_mustResumed, a_canResumed) (nI c) := ⟨m + 1, xe_4 hm hc e1 hg h m 0 (by omega)⟩
theorem ct_le (f : Nat → Bool) : ∀ n, ct_N f n ≤ n := by
  intro n
  induction n with
  | zero => exact Nat.le_refl _
  | succ n ih =>
    show ct_N f n + _ ≤ n + 1
    split <;> omega
theorem xe_2 {post : Int32 → Prop} {f_height f_made f_size f_on f_inFirst f_over f_instantsDone f_hadInstant f_lastPresent f_lastAbsent f_present f_absent f_startedNow f_resumedNow : Int32} {a_stack a_newKind a_newMark a_newP a_newQ a_newWithin a_kind a_mark a_partP a_partQ a_within a_mustStarted a_canStarted a_mustResumed a_canResumed : Nat → Int32} {m : Nat} {K M P Q : Nat → Nat} {B : Bool} (hm : m ≤ 16) (e1 : f_made = nI m) (hg : pg_X m K M P Q a_newKind a_newMark a_newP a_newQ)
    (hB : B = true ↔ ∀ i, i < m → K i = 3 → M i + 1 ≤ ct_N (fun k => decide (K k = 5) && bt (a_newWithin k) i) m) (h : post (bo_I B)) :
    ∀ t i, i + t = m → (∀ j, j < i → K j = 3 → M j + 1 ≤ ct_N (fun k => decide (K k = 5) && bt (a_newWithin k) j) m) → wX_everyExitHasItsTraps_2 post f_height f_made f_size f_on f_inFirst f_over f_instantsDone f_hadInstant f_lastPresent f_lastAbsent f_present f_absent f_startedNow f_resumedNow a_stack a_newKind a_newMark a_newP a_newQ a_newWithin a_kind a_mark a_partP a_partQ a_within a_mustStarted a_canStarted a_mustResumed a_canResumed (t + 1) (nI i) := by
  intro t
  induction t with
  | zero =>
    intro i hi hj
    have : i = m := by omega
    subst this
    refine br_t (by rw [e1]; exact nI_le (by omega) (by omega)) ?_
    rw [hB.mpr hj] at h; exact h
  | succ t ih =>
    intro i hi hj
    have hi' : i < m := by omega
    have hcl : (nI i).toNatClampNeg = i := nI_clamp (by omega)
    have vi : vp_in (nI i) 16 := vp_in_nI (by omega) (by omega)
    refine br_f (by rw [e1]; exact nI_ge (by omega) (by omega)) ⟨vi, ?_⟩
    rw [hcl, (hg i hi').1]
    have k9 := (hg i hi').2.1
    have hmk := (hg i hi').2.2.1
    refine pk_eq (K i) 3 (fun z => ?_) (fun z => nm_r (nI_1 i) (ih (i + 1) (by omega) (lt_s hj (fun q => absurd q z))))
    obtain ⟨em, m3⟩ := hmk.2 z
    refine xe_t hm hi' e1 hg ⟨vi, ?_⟩
    rw [em, nI_1]
    have lc := ct_le (fun k => decide (K k = 5) && bt (a_newWithin k) i) m
    refine pk_le (M i + 1) (ct_N (fun k => decide (K k = 5) && bt (a_newWithin k) i) m) (fun q => nm_r (nI_1 i) (ih (i + 1) (by omega) (lt_s hj (fun _ => q)))) (fun q => ?_)
    have : B = false := by
      cases hb : B
      · rfl
      · have := hB.mp hb i hi' z; omega
    rw [this] at h; exact h
theorem xe_p {post : Int32 → Prop} {f_height f_made f_size f_on f_inFirst f_over f_instantsDone f_hadInstant f_lastPresent f_lastAbsent f_present f_absent f_startedNow f_resumedNow : Int32} {a_stack a_newKind a_newMark a_newP a_newQ a_newWithin a_kind a_mark a_partP a_partQ a_within a_mustStarted a_canStarted a_mustResumed a_canResumed : Nat → Int32} {m : Nat} {K M P Q : Nat → Nat} {B : Bool} (hm : m ≤ 16) (e1 : f_made = nI m) (hg : pg_X m K M P Q a_newKind a_newMark a_newP a_newQ)
    (hB : B = true ↔ ∀ i, i < m → K i = 3 → M i + 1 ≤ ct_N (fun k => decide (K k = 5) && bt (a_newWithin k) i) m) (h : post (bo_I B)) : wpX_everyExitHasItsTraps post (f_height, f_made, f_size, f_on, f_inFirst, f_over, f_instantsDone, f_hadInstant, f_lastPresent, f_lastAbsent, f_present, f_absent, f_startedNow, f_resumedNow, a_stack, a_newKind, a_newMark, a_newP, a_newQ, a_newWithin, a_kind, a_mark, a_partP, a_partQ, a_within, a_mustStarted, a_canStarted, a_mustResumed, a_canResumed) :=
  ⟨m + 1, xe_2 hm e1 hg hB h m 0 (by omega) (fun j hj => absurd hj (by omega))⟩
/- Y: the exits -/
theorem ye_21 {post : Int32 → SY → Prop} {g_made g_depth g_size g_begun g_over g_ticks g_present g_absent g_any g_lastPresent g_lastAbsent : Int32} {b_sorts b_numbers b_firsts b_seconds b_stack b_on b_alive b_mustEmit b_canEmit b_mustEnd b_canEnd b_done b_frozen b_killed b_after : Nat → Int32} {m : Nat} {K M P Q par ar : Nat → Nat} {w : Nat → Int32} {B : Bool} (hm : m ≤ 16) (hg : pg_Y m K M P Q (fun i => b_sorts (16 + i)) (fun i => b_numbers (16 + i)) (fun i => b_firsts (16 + i)) (fun i => b_seconds (16 + i)))
    (ht : tr_P m K P Q par w) (wf : wf_P m K P Q) (har : ∀ c, c + 1 < m → ar c = ar (par c) + (if K (par c) = 5 then 1 else 0)) (hal : ∀ c, c < m → ar c ≤ 16)
    (hB : B = true ↔ ∀ i, i < m → K i = 3 → M i < ar i) (h : ∀ A, post (bo_I B) (g_made, g_depth, g_size, g_begun, g_over, g_ticks, g_present, g_absent, g_any, g_lastPresent, g_lastAbsent, b_sorts, b_numbers, b_firsts, b_seconds, b_stack, A, b_on, b_alive, b_mustEmit, b_canEmit, b_mustEnd, b_canEnd, b_done, b_frozen, b_killed, b_after)) :
    ∀ t A b, t ≤ m → (∀ c, c < m → vs_B m par t c = true → A c = nI (ar c)) → (b = true ↔ ∀ i, t ≤ i → i < m → K i = 3 → M i < ar i) → wY_exitsFit_21 post g_made g_depth g_size g_begun g_over g_ticks g_present g_absent g_any g_lastPresent g_lastAbsent (t + 1) (bo_I b) (nI t + (-1)) b_sorts b_numbers b_firsts b_seconds b_stack A b_on b_alive b_mustEmit b_canEmit b_mustEnd b_canEnd b_done b_frozen b_killed b_after := by
  intro t
  induction t with
  | zero =>
    intro A b _ hA hb
    refine br_t (by decide) ?_
    have : b = B := by
      rw [Bool.eq_iff_iff, hb, hB]
      constructor
      · intro q i hi; exact q i (by omega) hi
      · intro q i _ hi; exact q i hi
    rw [this]
    exact ⟨by cases B <;> rfl, h A⟩
  | succ i ih =>
    intro A b hi hA hb
    have hi' : i < m := by omega
    obtain ⟨g1, g2, g3, g4, g5, g6, g7, g8⟩ := hg i hi'
    dsimp only at g1 g3 g4 g5
    have hcl : (nI i).toNatClampNeg = i := nI_clamp (by omega)
    have hc16 : (nI (16 + i)).toNatClampNeg = 16 + i := nI_clamp (by omega)
    have vi : vp_in (nI i) 16 := vp_in_nI (by omega) (by omega)
    have vi32 : vp_in (nI (16 + i)) 32 := vp_in_nI (by omega) (by omega)
    have cP : (nI (P i)).toNatClampNeg = P i := nI_clamp (by omega)
    have cQ : (nI (Q i)).toNatClampNeg = Q i := nI_clamp (by omega)
    have vP : vp_in (nI (P i)) 16 := vp_in_nI g6 (by omega)
    have vQ : vp_in (nI (Q i)) 16 := vp_in_nI g7 (by omega)
    have hAi := hA i hi' (vs_i ht hi' (by omega))
    have lar := hal i hi'
    rw [pk_m1]
    refine br_f (nI_pos (by omega)) ?_
    rw [e16, hc16, hcl, g1, hAi, g4]
    refine ⟨vi32, nm_e ⟨vi, nm_e ?_⟩⟩
    have k98 : ∀ A', (∀ c, c < m → vs_B m par i c = true → A' c = nI (ar c)) → wY_exitsFit_98 post (wY_exitsFit_21 post g_made g_depth g_size g_begun g_over g_ticks g_present g_absent g_any g_lastPresent g_lastAbsent (i + 1)) (bo_I b) (nI i) (nI (K i)) (nI (ar i)) g_made g_depth g_size g_begun g_over g_ticks g_present g_absent g_any g_lastPresent g_lastAbsent b_sorts b_numbers b_firsts b_seconds b_stack A' b_on b_alive b_mustEmit b_canEmit b_mustEnd b_canEnd b_done b_frozen b_killed b_after := by
      intro A' hA'
      unfold wY_exitsFit_98
      rw [e16, hc16]
      refine pk_eq (K i) 3 (fun z => ⟨vi32, ?_⟩) (fun z => nm_e (ih A' b (by omega) hA' ?_))
      · obtain ⟨em, m3⟩ := g3.2 z
        rw [em]
        refine pk_lt (M i) (ar i) (fun q => nm_e (ih A' b (by omega) hA' ?_)) (fun q => nm_e (ih A' false (by omega) hA' ?_))
        · rw [hb]
          constructor
          · intro f i' h1 h2 h3
            by_cases e : i' = i
            · rw [e]; exact q
            · exact f i' (by omega) h2 h3
          · intro f i' h1 h2 h3; exact f i' (by omega) h2 h3
        · constructor
          · intro f; cases f
          · intro f; have := f i (by omega) hi' z; omega
      · rw [hb]
        constructor
        · intro f i' h1 h2 h3
          by_cases e : i' = i
          · rw [e] at h3; exact absurd h3 z
          · exact f i' (by omega) h2 h3
        · intro f i' h1 h2 h3; exact f i' (by omega) h2 h3
    have vst : ∀ c, c < m → vs_B m par i c = true → vs_B m par (i + 1) c = true ∨ (c + 1 < m ∧ par c = i) := by
      intro c hc q
      unfold vs_B at q ⊢
      simp only [Bool.or_eq_true, decide_eq_true_eq] at q ⊢
      rcases q with q | q
      · exact Or.inl (Or.inl q)
      · by_cases e : par c = i
        · by_cases e2 : c + 1 = m
          · exact Or.inl (Or.inl e2)
          · exact Or.inr ⟨by omega, e⟩
        · exact Or.inl (Or.inr (by omega))
    refine pk_le (K i) 3 (fun z => ?_) (fun z => ⟨vi32, ?_⟩)
    · unfold wY_exitsFit_76
      refine pk_le (K i) 6 (fun _ => k98 A (fun c hc q => ?_)) (fun q => absurd q (by omega))
      rcases vst c hc q with q2 | ⟨q2, q3⟩
      · exact hA c hc q2
      · have := (ht.1 c q2).2.2
        rw [q3] at this; rcases this with this | this <;> omega
    · have g8' := g8 (by omega)
      have hne : 7 ≤ K i → Q i ≠ P i := fun h7 => (ht.2.2.1 i hi' h7).2
      have arP : ar (P i) = ar i + (if K i = 5 then 1 else 0) := by
        rw [har (P i) (by omega), ht.2.1 i hi' (by omega)]
      have arQ : 7 ≤ K i → ar (Q i) = ar i := fun h7 => by
        rw [har (Q i) (by omega), (ht.2.2.1 i hi' h7).1, if_neg (by omega)]; rfl
      have k75 : ∀ x, x = nI (ar (P i)) → wY_exitsFit_75 post (wY_exitsFit_21 post g_made g_depth g_size g_begun g_over g_ticks g_present g_absent g_any g_lastPresent g_lastAbsent (i + 1)) (bo_I b) (nI i) (nI (K i)) (nI (ar i)) x (nI (P i)) g_made g_depth g_size g_begun g_over g_ticks g_present g_absent g_any g_lastPresent g_lastAbsent b_sorts b_numbers b_firsts b_seconds b_stack A b_on b_alive b_mustEmit b_canEmit b_mustEnd b_canEnd b_done b_frozen b_killed b_after := by
        intro x hx
        unfold wY_exitsFit_75
        rw [cP]
        refine ⟨vP, nm_e ?_⟩
        unfold wY_exitsFit_76
        rw [e16, hc16, g5]
        refine pk_le (K i) 6 (fun y => k98 _ (fun c hc q => ?_)) (fun y => ⟨vi32, ?_⟩)
        · by_cases e : c = P i
          · rw [e, pk_us, hx]
          · rw [pk_un e]
            rcases vst c hc q with q2 | ⟨q2, q3⟩
            · exact hA c hc q2
            · have := (ht.1 c q2).2.2
              rw [q3] at this
              rcases this with this | this
              · exact absurd this.2 e
              · omega
        · rw [if_pos (show 7 ≤ K i by omega), cQ]
          refine ⟨vQ, nm_e (k98 _ (fun c hc q => ?_))⟩
          by_cases e2 : c = Q i
          · rw [e2, pk_us, arQ (by omega)]
          · rw [pk_un e2]
            by_cases e : c = P i
            · rw [e, pk_us, hx]
            · rw [pk_un e]
              rcases vst c hc q with q2 | ⟨q2, q3⟩
              · exact hA c hc q2
              · have := (ht.1 c q2).2.2
                rw [q3] at this
                rcases this with this | this
                · exact absurd this.2 e
                · exact absurd this.2 e2
      refine pk_eq (K i) 5 (fun y => k75 _ ?_) (fun y => k75 _ ?_)
      · rw [arP, if_pos y, nI_1]
      · rw [arP, if_neg y]; rfl
theorem ye_p {post : Int32 → SY → Prop} {g_made g_depth g_size g_begun g_over g_ticks g_present g_absent g_any g_lastPresent g_lastAbsent : Int32} {b_sorts b_numbers b_firsts b_seconds b_stack b_around b_on b_alive b_mustEmit b_canEmit b_mustEnd b_canEnd b_done b_frozen b_killed b_after : Nat → Int32} {m : Nat} {K M P Q par ar : Nat → Nat} {w : Nat → Int32} {B : Bool} (hm1 : 1 ≤ m) (hm : m ≤ 16) (e1 : g_made = nI m) (hg : pg_Y m K M P Q (fun i => b_sorts (16 + i)) (fun i => b_numbers (16 + i)) (fun i => b_firsts (16 + i)) (fun i => b_seconds (16 + i)))
    (ht : tr_P m K P Q par w) (wf : wf_P m K P Q) (h0 : ar (m - 1) = 0) (har : ∀ c, c + 1 < m → ar c = ar (par c) + (if K (par c) = 5 then 1 else 0)) (hal : ∀ c, c < m → ar c ≤ 16)
    (hB : B = true ↔ ∀ i, i < m → K i = 3 → M i < ar i) (h : ∀ A, post (bo_I B) (g_made, g_depth, g_size, g_begun, g_over, g_ticks, g_present, g_absent, g_any, g_lastPresent, g_lastAbsent, b_sorts, b_numbers, b_firsts, b_seconds, b_stack, A, b_on, b_alive, b_mustEmit, b_canEmit, b_mustEnd, b_canEnd, b_done, b_frozen, b_killed, b_after)) : wpY_exitsFit post (g_made, g_depth, g_size, g_begun, g_over, g_ticks, g_present, g_absent, g_any, g_lastPresent, g_lastAbsent, b_sorts, b_numbers, b_firsts, b_seconds, b_stack, b_around, b_on, b_alive, b_mustEmit, b_canEmit, b_mustEnd, b_canEnd, b_done, b_frozen, b_killed, b_after) := by
  have hz : g_made - 1 = nI (m - 1) := by rw [e1]; exact pk_sub (a := m) (b := 1) hm1
  have hz2 : nI (m - 1) = nI m + (-1) := by
    have := pk_m1 (m - 1)
    rw [show m - 1 + 1 = m by omega] at this; exact this.symm
  have cm : (nI (m - 1)).toNatClampNeg = m - 1 := nI_clamp (by omega)
  unfold wpY_exitsFit
  dsimp only
  rw [hz, cm]
  refine ⟨vp_in_nI (by omega) (by omega), nm_e (nm_r hz2 ⟨m + 1, ?_⟩)⟩
  refine ye_21 (ar := ar) hm hg ht wf har hal hB h m _ true (by omega) (fun c hc q => ?_) ⟨fun _ i h1 h2 => by omega, fun _ => rfl⟩
  have : c = m - 1 := by
    unfold vs_B at q
    simp only [Bool.or_eq_true, decide_eq_true_eq] at q
    rcases q with q | q
    · omega
    · by_cases e : c + 1 < m
      · have := (ht.1 c e).2.1; omega
      · omega
  rw [this, pk_us, h0]; rfl
