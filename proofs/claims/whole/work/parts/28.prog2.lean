/- program: the copies, and the whole call -/
theorem xg_31 {post : Int32 → SX → Prop} {f_height f_made f_size f_on f_inFirst f_over f_instantsDone f_hadInstant f_lastPresent f_lastAbsent f_present f_absent f_startedNow f_resumedNow : Int32} {a_stack a_newKind a_newMark a_newP a_newQ a_newWithin a_mustStarted a_canStarted a_mustResumed a_canResumed : Nat → Int32} {m : Nat} (hm : m ≤ 16) (hs : f_size = nI m)
    (h : ∀ kk mk pp qq ww, (∀ j, j < m → kk j = a_newKind j ∧ mk j = a_newMark j ∧ pp j = a_newP j ∧ qq j = a_newQ j ∧ ww j = a_newWithin j) → post f_size (0, 0, f_size, 0, 1, 0, 0, f_hadInstant, f_lastPresent, f_lastAbsent, f_present, f_absent, f_startedNow, f_resumedNow, a_stack, a_newKind, a_newMark, a_newP, a_newQ, a_newWithin, kk, mk, pp, qq, ww, a_mustStarted, a_canStarted, a_mustResumed, a_canResumed)) :
    ∀ t i kk mk pp qq ww, i + t = m → (∀ j, j < i → kk j = a_newKind j ∧ mk j = a_newMark j ∧ pp j = a_newP j ∧ qq j = a_newQ j ∧ ww j = a_newWithin j) → wX_program_31 post f_height f_made f_size f_on f_inFirst f_over f_instantsDone f_hadInstant f_lastPresent f_lastAbsent f_present f_absent f_startedNow f_resumedNow (t + 1) (nI i) a_stack a_newKind a_newMark a_newP a_newQ a_newWithin kk mk pp qq ww a_mustStarted a_canStarted a_mustResumed a_canResumed := by
  intro t
  induction t with
  | zero =>
    intro i kk mk pp qq ww hi hc
    have : i = m := by omega
    subst this
    exact br_t (by rw [hs]; exact nI_le (by omega) (by omega)) (h kk mk pp qq ww hc)
  | succ t ih =>
    intro i kk mk pp qq ww hi hc
    have hcl : (nI i).toNatClampNeg = i := nI_clamp (by omega)
    have vi : vp_in (nI i) 16 := vp_in_nI (by omega) (by omega)
    refine br_f (by rw [hs]; exact nI_ge (by omega) (by omega)) ⟨vi, vi, ?_⟩
    rw [hcl]
    refine nm_e ⟨vi, vi, nm_e ⟨vi, vi, nm_e ⟨vi, vi, nm_e ⟨vi, vi, nm_e (nm_r (nI_1 i) (ih (i + 1) _ _ _ _ _ (by omega) (lt_s (fun j hj => ?_) ⟨pk_us, pk_us, pk_us, pk_us, pk_us⟩)))⟩⟩⟩⟩
    have n : j ≠ i := by omega
    rw [pk_un n, pk_un n, pk_un n, pk_un n, pk_un n]; exact hc j hj
theorem yg_23 {post : Int32 → SY → Prop} {g_made g_depth g_size g_begun g_over g_ticks g_present g_absent g_any g_lastPresent g_lastAbsent : Int32} {b_stack b_around b_on b_alive b_mustEmit b_canEmit b_mustEnd b_canEnd b_done b_frozen b_killed b_after : Nat → Int32} {s0 n0 f0 c0' : Nat → Int32} {m : Nat} (hm : m ≤ 16) (hs : g_made = nI m)
    (h : ∀ ss nn ff cc B, (∀ j, j < m → ss j = s0 (16 + j) ∧ nn j = n0 (16 + j) ∧ ff j = f0 (16 + j) ∧ cc j = c0' (16 + j)) → (∀ j, j < 16 → B j = 0) → post g_made (0, 0, g_made, 0, 0, 0, g_present, g_absent, g_any, g_lastPresent, g_lastAbsent, ss, nn, ff, cc, b_stack, b_around, B, b_alive, b_mustEmit, b_canEmit, b_mustEnd, b_canEnd, b_done, b_frozen, b_killed, b_after)) :
    ∀ t i ss nn ff cc, i + t = m → (∀ j, j < i → ss j = s0 (16 + j) ∧ nn j = n0 (16 + j) ∧ ff j = f0 (16 + j) ∧ cc j = c0' (16 + j)) → (∀ j, ss (16 + j) = s0 (16 + j) ∧ nn (16 + j) = n0 (16 + j) ∧ ff (16 + j) = f0 (16 + j) ∧ cc (16 + j) = c0' (16 + j)) →
    wY_program_23 post g_made g_depth g_size g_begun g_over g_ticks g_present g_absent g_any g_lastPresent g_lastAbsent (t + 1) (nI i) ss nn ff cc b_stack b_around b_on b_alive b_mustEmit b_canEmit b_mustEnd b_canEnd b_done b_frozen b_killed b_after := by
  intro t
  induction t with
  | zero =>
    intro i ss nn ff cc hi hc hk
    have : i = m := by omega
    subst this
    exact br_t (by rw [hs]; exact nI_le (by omega) (by omega)) (yr_p (fun B hB => h ss nn ff cc B hc hB))
  | succ t ih =>
    intro i ss nn ff cc hi hc hk
    have hcl : (nI i).toNatClampNeg = i := nI_clamp (by omega)
    have hc16 : (nI (16 + i)).toNatClampNeg = 16 + i := nI_clamp (by omega)
    have vi : vp_in (nI i) 32 := vp_in_nI (by omega) (by omega)
    have v16 : vp_in (nI (16 + i)) 32 := vp_in_nI (by omega) (by omega)
    refine br_f (by rw [hs]; exact nI_ge (by omega) (by omega)) ?_
    rw [e16, hcl, hc16]
    obtain ⟨k1, k2, k3, k4⟩ := hk i
    rw [k1, k2, k3, k4]
    refine ⟨v16, vi, nm_e ⟨v16, vi, nm_e ⟨v16, vi, nm_e ⟨v16, vi, nm_e (nm_r (nI_1 i) (ih (i + 1) _ _ _ _ (by omega) (lt_s (fun j hj => ?_) ⟨pk_us, pk_us, pk_us, pk_us⟩) (fun j => ?_)))⟩⟩⟩⟩
    · have n : j ≠ i := by omega
      rw [pk_un n, pk_un n, pk_un n, pk_un n]; exact hc j hj
    · have n : 16 + j ≠ i := by omega
      rw [pk_un n, pk_un n, pk_un n, pk_un n]; exact hk j
theorem tr_cg {N : Nat} {K P Q par : Nat → Nat} {w w' : Nat → Int32} (h : tr_P N K P Q par w) (wf : wf_P N K P Q) (he : ∀ j, j < N → w' j = w j) : tr_P N K P Q par w' := by
  refine ⟨h.1, h.2.1, h.2.2.1, fun c hc k hk hkc => ?_, fun i hi j => ?_, h.2.2.2.2.2⟩
  · rw [he k hk]; exact h.2.2.2.1 c hc k hk hkc
  · rw [he i hi, h.2.2.2.2.1 i hi j]
    by_cases h4 : 4 ≤ K i
    · have := wf i hi h4
      rw [he (P i) (by omega), he (Q i) (by omega)]
    · rw [decide_eq_false h4, decide_eq_false (show ¬ 7 ≤ K i by omega)]; simp
theorem i_vc_program {k : Nat} {u : SX} {v : SY} (I : i_Rel k u v) (hk : k + 3 ≤ 1536) : wpX_program (fun r u' => wpY_program (fun r' v' => r' = r ∧ i_Rel (k + 3) u' v') v) u := by
  obtain ⟨f_height, f_made, f_size, f_on, f_inFirst, f_over, f_instantsDone, f_hadInstant, f_lastPresent, f_lastAbsent, f_present, f_absent, f_startedNow, f_resumedNow, a_stack, a_newKind, a_newMark, a_newP, a_newQ, a_newWithin, a_kind, a_mark, a_partP, a_partQ, a_within, a_mustStarted, a_canStarted, a_mustResumed, a_canResumed⟩ := u
  obtain ⟨g_made, g_depth, g_size, g_begun, g_over, g_ticks, g_present, g_absent, g_any, g_lastPresent, g_lastAbsent, b_sorts, b_numbers, b_firsts, b_seconds, b_stack, b_around, b_on, b_alive, b_mustEmit, b_canEmit, b_mustEnd, b_canEnd, b_done, b_frozen, b_killed, b_after⟩ := v
  have I' := I
  obtain ⟨hp, ⟨m, h, K, M, P, Q, sk, e1, e2, e3, e4, hb⟩, htk, hh⟩ := I
  have b1 := hb.1
  have b2 := hb.2.1
  unfold wpX_program
  dsimp only
  refine pk_eq h 1 (fun z => ?_) (fun z => ?_) e3
  · subst z
    have hgx := hb.2.2.2.1
    have hgy := hb.2.2.2.2.1
    have wf := pg_wf hgx
    have d1 : g_depth = 1 := e4
    obtain ⟨par, ht⟩ := bu_tr hb
    obtain ⟨ar, a0, a1⟩ := dn_x (N := m) (par := par) (fun c a => a + (if K (par c) = 5 then 1 else 0)) 0 b2 (fun c hc => (ht.1 c hc).1)
    have hcn := ar_c ht wf a0 a1
    have hal : ∀ c, c < m → ar c ≤ 16 := fun c hc => by
      have := ct_le (ta_B K a_newWithin c) m
      rw [hcn _ c rfl hc] at this; omega
    have hcnt : ∀ c, c < m → K c = 3 → ct_N (fun k => decide (K k = 5) && bt (a_newWithin k) c) m = ar c := by
      intro c hc h3
      rw [← hcn _ c rfl hc]
      refine ct_c m (fun k hk => ?_)
      unfold ta_B
      by_cases e : k = c
      · rw [e, decide_eq_false (show ¬ K c = 5 by omega)]; simp
      · rw [decide_eq_true (show k ≠ c from e)]; simp
    generalize hBd : decide (∀ i, i < m → K i = 3 → M i < ar i) = B
    have hB : B = true ↔ ∀ i, i < m → K i = 3 → M i < ar i := by rw [← hBd, decide_eq_true_eq]
    have hBx : B = true ↔ ∀ i, i < m → K i = 3 → M i + 1 ≤ ct_N (fun k => decide (K k = 5) && bt (a_newWithin k) i) m := by
      rw [hB]
      constructor
      · intro f i hi h3; rw [hcnt i hi h3]; exact f i hi h3
      · intro f i hi h3; have := f i hi h3; rw [hcnt i hi h3] at this; exact this
    refine xe_p b1 e1 hgx hBx ?_
    refine bo_br B (fun q => ?_) (fun q => ?_)
    · unfold wpY_program
      dsimp only
      refine br_t d1 (ye_p (par := par) (ar := ar) b2 b1 e2 hgy ht wf a0 a1 hal hB (fun A => ?_))
      refine br_t (by rw [q]; rfl) ⟨rfl, ?_⟩
      exact ⟨hp, ⟨m, 1, K, M, P, Q, sk, e1, e2, e3, e4, hb⟩, htk, hh⟩
    · refine ⟨m + 1, ?_⟩
      refine xg_31 b1 e1 (fun kk mk pp qq ww hcp => ?_) m 0 _ _ _ _ _ (by omega) (fun j hj => absurd hj (by omega))
      unfold wpY_program
      dsimp only
      refine br_t d1 (ye_p (par := par) (ar := ar) b2 b1 e2 hgy ht wf a0 a1 hal hB (fun A => ?_))
      refine br_f (by rw [q]; decide) ⟨m + 1, ?_⟩
      refine yg_23 (s0 := b_sorts) (n0 := b_numbers) (f0 := b_firsts) (c0' := b_seconds) b1 e2 (fun ss nn ff cc B' hcy hz => ⟨e2.trans e1.symm, ?_⟩) m 0 _ _ _ _ (by omega) (fun j hj => absurd hj (by omega)) (fun j => ⟨rfl, rfl, rfl, rfl⟩)
      have wl : ∀ j, j < m → ww j = a_newWithin j := fun j hj => (hcp j hj).2.2.2.2
      refine ⟨⟨m, K, M, P, Q, par, ar, true, false, e1, e2, rfl, rfl, rfl, rfl, ⟨b2, b1, fun i hi => ?_, fun i hi => ?_, tr_cg ht wf wl, a0, fun i hi h4 => ?_, fun i hi h7 => ?_, fun i hi h3 => ⟨hB.mp q i hi h3, ((hgx i hi).2.2.1.2 h3).2⟩⟩, on_0 hz, fun f => by cases f⟩, rb_0, rfl, hh⟩
      · obtain ⟨c1, c2, c3, c4, c5⟩ := hcp i hi
        rw [c1, c2, c3, c4]; exact hgx i hi
      · obtain ⟨c1, c2, c3, c4⟩ := hcy i hi
        rw [c1, c2, c3, c4]; exact hgy i hi
      · have := (wf i hi h4).1
        rw [a1 (P i) (by omega), ht.2.1 i hi h4]
      · have := (wf i hi (by omega)).2
        rw [a1 (Q i) (by omega), (ht.2.2.1 i hi h7).1, if_neg (by omega)]; rfl
  · have d1 : ¬ g_depth = 1 := fun q => z (by rw [e4] at q; exact (nI_eq (b := 1) (by omega) (by decide)).mp q)
    exact br_f d1 ⟨rfl, I'⟩
