/- the values of a program's statements -/
def sv_S (k m pr ab : Nat) (mu : Bool) (p q : Nat × Nat) : Nat × Nat :=
  if k = 1 then (0, 2) else if k = 2 then (2 ^ m, 1) else if k = 3 then (0, 4 * 2 ^ m) else if k = 4 then vo_v p else if k = 5 then vt_r p else if k = 6 then p else if k = 7 then vi_t p q else if k = 8 then vg_t p q else if k = 9 then vb_r m pr ab mu p q else (0, 1)
def sv_R (k m pr ab : Nat) (mu oi ai aP : Bool) (sp sq rp rq : Nat × Nat) : Nat × Nat :=
  if ai = false then (0, 1) else if k = 4 then (if oi = true then vo_v sp else vo_v rp) else if k = 5 then vt_r rp else if k = 6 then vh_b m pr ab mu rp else if k = 7 then (if aP = true then vi_t rp sq else rq) else if k = 8 then vg_t rp rq else if k = 9 then (if aP = true then rp else rq) else (0, 1)
/-- what is known of a statement's mark -/
def mk_W (k m : Nat) (x : Int32) : Prop := (k = 2 ∨ k = 6 ∨ k = 9 → x = nI m ∧ m < 6) ∧ (k = 3 → x = nI m ∧ m < 3)
theorem sv_Sok {k m pr ab : Nat} {mu : Bool} {p q : Nat × Nat} {x : Int32} (hm : mk_W k m x) (hp : 4 ≤ k → vv_ok p) (hq : 4 ≤ k → vv_ok q) : vv_ok (sv_S k m pr ab mu p q) := by
  unfold sv_S
  by_cases h1 : k = 1
  · rw [if_pos h1]; exact ⟨by decide, by decide⟩
  rw [if_neg h1]
  by_cases h2 : k = 2
  · rw [if_pos h2]
    exact ⟨(by decide : ∀ m, m < 6 → 2 ^ m < 64) m (hm.1 (Or.inl h2)).2, (by decide : 1 < 32)⟩
  rw [if_neg h2]
  by_cases h3 : k = 3
  · rw [if_pos h3]
    exact ⟨(by decide : 0 < 64), (by decide : ∀ m, m < 3 → 4 * 2 ^ m < 32) m (hm.2 h3).2⟩
  rw [if_neg h3]
  by_cases h4 : k = 4
  · rw [if_pos h4]; exact vo_ok (hp (by omega))
  rw [if_neg h4]
  by_cases h5 : k = 5
  · rw [if_pos h5]; exact vt_ok (hp (by omega))
  rw [if_neg h5]
  by_cases h6 : k = 6
  · rw [if_pos h6]; exact hp (by omega)
  rw [if_neg h6]
  by_cases h7 : k = 7
  · rw [if_pos h7]; exact vi_ok (hp (by omega)) (hq (by omega))
  rw [if_neg h7]
  by_cases h8 : k = 8
  · rw [if_pos h8]; exact vg_ok (hp (by omega)) (hq (by omega))
  rw [if_neg h8]
  by_cases h9 : k = 9
  · rw [if_pos h9]; exact vb_ok (hp (by omega)) (hq (by omega))
  rw [if_neg h9]; exact ⟨by decide, by decide⟩
theorem sv_Rok {k m pr ab : Nat} {mu oi ai aP : Bool} {sp sq rp rq : Nat × Nat} (h1 : 4 ≤ k → vv_ok sp) (h2 : 4 ≤ k → vv_ok sq) (h3 : 4 ≤ k → vv_ok rp) (h4 : 4 ≤ k → vv_ok rq) : vv_ok (sv_R k m pr ab mu oi ai aP sp sq rp rq) := by
  have h01 : vv_ok (0, 1) := ⟨by decide, by decide⟩
  unfold sv_R
  split
  · exact h01
  split
  · split
    · exact vo_ok (h1 (by omega))
    · exact vo_ok (h3 (by omega))
  split
  · exact vt_ok (h3 (by omega))
  split
  · exact vh_ok (h3 (by omega))
  split
  · split
    · exact vi_ok (h3 (by omega)) (h2 (by omega))
    · exact h4 (by omega)
  split
  · exact vg_ok (h3 (by omega)) (h4 (by omega))
  split
  · split
    · exact h3 (by omega)
    · exact h4 (by omega)
  exact h01
theorem kI_eq {k j : Nat} (hk : k ≤ 9) (hj : j ≤ 9) : nI k = nI j ↔ k = j := nI_eq (by omega) (by omega)
theorem pz_em : ∀ m, m < 6 → (64 : Int32) ||| ((1 : Int32) <<< (nI m &&& 31)) = pv_k (2 ^ m, 1) := by decide +kernel
theorem pz_ex : ∀ m, m < 3 → ((256 : Int32) <<< (nI m &&& 31)) = pv_k (0, 4 * 2 ^ m) := by decide +kernel
theorem xs_S_mustStarted {post : Int32 → Prop} {f_height f_made f_size f_on f_inFirst f_over f_instantsDone f_hadInstant f_lastPresent f_lastAbsent f_present f_absent f_startedNow f_resumedNow : Int32} {a_stack a_newKind a_newMark a_newP a_newQ a_newWithin a_kind a_mark a_partP a_partQ a_within a_mustStarted a_canStarted a_mustResumed a_canResumed : Nat → Int32} {i k m p q pr ab : Nat} {mu : Bool} {vp vq : Nat × Nat} {e : Int32} (he : e = nI i) (hi : i < 16) (hpr : f_present = nI pr) (hab : f_absent = nI ab)
    (hk : a_kind i = nI k) (k9 : k ≤ 9) (hm : mk_W k m (a_mark i)) (hp : a_partP i = nI p) (hq : a_partQ i = nI q) (p16 : p < 16) (q16 : q < 16)
    (hP : 4 ≤ k → a_mustStarted p = pv_k vp ∧ vv_ok vp) (hQ : 4 ≤ k → a_mustStarted q = pv_k vq ∧ vv_ok vq) (h : post (pv_k (sv_S k m pr ab mu vp vq))) :
    wpX_setsStarted__mustStarted post (f_height, f_made, f_size, f_on, f_inFirst, f_over, f_instantsDone, f_hadInstant, f_lastPresent, f_lastAbsent, f_present, f_absent, f_startedNow, f_resumedNow, a_stack, a_newKind, a_newMark, a_newP, a_newQ, a_newWithin, a_kind, a_mark, a_partP, a_partQ, a_within, a_mustStarted, a_canStarted, a_mustResumed, a_canResumed) e (bo_I mu) := by
  subst he
  have hc : (nI i).toNatClampNeg = i := nI_clamp (by omega)
  have vi : vp_in (nI i) 16 := vp_in_nI hi (by omega)
  unfold wpX_setsStarted__mustStarted
  dsimp only
  rw [hc, hp, hq, hk, nI_clamp (show p < 2 ^ 31 by omega), nI_clamp (show q < 2 ^ 31 by omega)]
  refine ⟨vi, vp_in_nI p16 (by omega), nm_e ⟨vi, vp_in_nI q16 (by omega), nm_e ⟨vi, nm_e ?_⟩⟩⟩
  unfold sv_S at h
  have c1 : ∀ j, j ≤ 9 → (nI k = nI j ↔ k = j) := fun j hj => kI_eq k9 hj
  refine pk_lt k 1 (fun z => ?_) (fun z => ?_)
  · rw [if_neg (by omega), if_neg (by omega), if_neg (by omega), if_neg (by omega), if_neg (by omega), if_neg (by omega), if_neg (by omega), if_neg (by omega), if_neg (by omega)] at h
    exact h
  refine pk_lt 9 k (fun z => absurd z (by omega)) (fun z9 => ?_)
  refine pk_eq k 1 (fun z => ?_) (fun z1 => ?_)
  · rw [if_pos z] at h; exact h
  rw [if_neg z1] at h
  refine pk_eq k 2 (fun z => ?_) (fun z2 => ?_)
  · rw [if_pos z] at h
    refine ⟨vi, ?_⟩
    have := hm.1 (Or.inl z)
    rw [this.1, pz_em m this.2]; exact h
  rw [if_neg z2] at h
  refine pk_eq k 3 (fun z => ?_) (fun z3 => ?_)
  · rw [if_pos z] at h
    refine ⟨vi, ?_⟩
    have := hm.2 z
    rw [this.1, pz_ex m this.2]; exact h
  rw [if_neg z3] at h
  have k4 : 4 ≤ k := by omega
  rw [(hP k4).1, (hQ k4).1]
  have oP := (hP k4).2
  have oQ := (hQ k4).2
  refine pk_eq k 4 (fun z => ?_) (fun z4 => ?_)
  · rw [if_pos z] at h; exact xo_o oP h
  rw [if_neg z4] at h
  refine pk_eq k 5 (fun z => ?_) (fun z5 => ?_)
  · rw [if_pos z] at h; exact xo_t oP h
  rw [if_neg z5] at h
  refine pk_eq k 6 (fun z => ?_) (fun z6 => ?_)
  · rw [if_pos z] at h; exact h
  rw [if_neg z6] at h
  refine pk_eq k 7 (fun z => ?_) (fun z7 => ?_)
  · rw [if_pos z] at h; exact xo_i oP oQ h
  rw [if_neg z7] at h
  refine pk_eq k 8 (fun z => ?_) (fun z8 => ?_)
  · rw [if_pos z] at h; exact xo_g oP oQ h
  rw [if_neg z8] at h
  refine pk_eq k 9 (fun z => ?_) (fun z9 => trivial)
  rw [if_pos z] at h
  have hm9 := hm.1 (Or.inr (Or.inr z))
  exact ⟨vi, xo_b hm9.2 hm9.1 hpr hab oP oQ h⟩
theorem xs_S_canStarted {post : Int32 → Prop} {f_height f_made f_size f_on f_inFirst f_over f_instantsDone f_hadInstant f_lastPresent f_lastAbsent f_present f_absent f_startedNow f_resumedNow : Int32} {a_stack a_newKind a_newMark a_newP a_newQ a_newWithin a_kind a_mark a_partP a_partQ a_within a_mustStarted a_canStarted a_mustResumed a_canResumed : Nat → Int32} {i k m p q pr ab : Nat} {mu : Bool} {vp vq : Nat × Nat} {e : Int32} (he : e = nI i) (hi : i < 16) (hpr : f_present = nI pr) (hab : f_absent = nI ab)
    (hk : a_kind i = nI k) (k9 : k ≤ 9) (hm : mk_W k m (a_mark i)) (hp : a_partP i = nI p) (hq : a_partQ i = nI q) (p16 : p < 16) (q16 : q < 16)
    (hP : 4 ≤ k → a_canStarted p = pv_k vp ∧ vv_ok vp) (hQ : 4 ≤ k → a_canStarted q = pv_k vq ∧ vv_ok vq) (h : post (pv_k (sv_S k m pr ab mu vp vq))) :
    wpX_setsStarted__canStarted post (f_height, f_made, f_size, f_on, f_inFirst, f_over, f_instantsDone, f_hadInstant, f_lastPresent, f_lastAbsent, f_present, f_absent, f_startedNow, f_resumedNow, a_stack, a_newKind, a_newMark, a_newP, a_newQ, a_newWithin, a_kind, a_mark, a_partP, a_partQ, a_within, a_mustStarted, a_canStarted, a_mustResumed, a_canResumed) e (bo_I mu) := by
  subst he
  have hc : (nI i).toNatClampNeg = i := nI_clamp (by omega)
  have vi : vp_in (nI i) 16 := vp_in_nI hi (by omega)
  unfold wpX_setsStarted__canStarted
  dsimp only
  rw [hc, hp, hq, hk, nI_clamp (show p < 2 ^ 31 by omega), nI_clamp (show q < 2 ^ 31 by omega)]
  refine ⟨vi, vp_in_nI p16 (by omega), nm_e ⟨vi, vp_in_nI q16 (by omega), nm_e ⟨vi, nm_e ?_⟩⟩⟩
  unfold sv_S at h
  have c1 : ∀ j, j ≤ 9 → (nI k = nI j ↔ k = j) := fun j hj => kI_eq k9 hj
  refine pk_lt k 1 (fun z => ?_) (fun z => ?_)
  · rw [if_neg (by omega), if_neg (by omega), if_neg (by omega), if_neg (by omega), if_neg (by omega), if_neg (by omega), if_neg (by omega), if_neg (by omega), if_neg (by omega)] at h
    exact h
  refine pk_lt 9 k (fun z => absurd z (by omega)) (fun z9 => ?_)
  refine pk_eq k 1 (fun z => ?_) (fun z1 => ?_)
  · rw [if_pos z] at h; exact h
  rw [if_neg z1] at h
  refine pk_eq k 2 (fun z => ?_) (fun z2 => ?_)
  · rw [if_pos z] at h
    refine ⟨vi, ?_⟩
    have := hm.1 (Or.inl z)
    rw [this.1, pz_em m this.2]; exact h
  rw [if_neg z2] at h
  refine pk_eq k 3 (fun z => ?_) (fun z3 => ?_)
  · rw [if_pos z] at h
    refine ⟨vi, ?_⟩
    have := hm.2 z
    rw [this.1, pz_ex m this.2]; exact h
  rw [if_neg z3] at h
  have k4 : 4 ≤ k := by omega
  rw [(hP k4).1, (hQ k4).1]
  have oP := (hP k4).2
  have oQ := (hQ k4).2
  refine pk_eq k 4 (fun z => ?_) (fun z4 => ?_)
  · rw [if_pos z] at h; exact xo_o oP h
  rw [if_neg z4] at h
  refine pk_eq k 5 (fun z => ?_) (fun z5 => ?_)
  · rw [if_pos z] at h; exact xo_t oP h
  rw [if_neg z5] at h
  refine pk_eq k 6 (fun z => ?_) (fun z6 => ?_)
  · rw [if_pos z] at h; exact h
  rw [if_neg z6] at h
  refine pk_eq k 7 (fun z => ?_) (fun z7 => ?_)
  · rw [if_pos z] at h; exact xo_i oP oQ h
  rw [if_neg z7] at h
  refine pk_eq k 8 (fun z => ?_) (fun z8 => ?_)
  · rw [if_pos z] at h; exact xo_g oP oQ h
  rw [if_neg z8] at h
  refine pk_eq k 9 (fun z => ?_) (fun z9 => trivial)
  rw [if_pos z] at h
  have hm9 := hm.1 (Or.inr (Or.inr z))
  exact ⟨vi, xo_b hm9.2 hm9.1 hpr hab oP oQ h⟩
theorem xs_R_mustResumed {post : Int32 → Prop} {f_height f_made f_size f_on f_inFirst f_over f_instantsDone f_hadInstant f_lastPresent f_lastAbsent f_present f_absent f_startedNow f_resumedNow : Int32} {a_stack a_newKind a_newMark a_newP a_newQ a_newWithin a_kind a_mark a_partP a_partQ a_within a_mustStarted a_canStarted a_mustResumed a_canResumed : Nat → Int32} {i k m p q pr ab : Nat} {mu : Bool} {sp sq rp rq : Nat × Nat} {e : Int32} (he : e = nI i) (hi : i < 16) (hpr : f_present = nI pr) (hab : f_absent = nI ab)
    (hk : a_kind i = nI k) (k9 : k ≤ 9) (hm : mk_W k m (a_mark i)) (hp : a_partP i = nI p) (hq : a_partQ i = nI q) (p16 : p < 16) (q16 : q < 16)
    (hP : 4 ≤ k → a_mustStarted p = pv_k sp ∧ vv_ok sp) (hQ : 4 ≤ k → a_mustStarted q = pv_k sq ∧ vv_ok sq) (hRP : 4 ≤ k → a_mustResumed p = pv_k rp ∧ vv_ok rp) (hRQ : 4 ≤ k → a_mustResumed q = pv_k rq ∧ vv_ok rq)
    (h : post (pv_k (sv_R k m pr ab mu (bt f_on i) (ac_L f_on a_within i) (ac_L f_on a_within p) sp sq rp rq))) :
    wpX_setsResumed__mustStarted_mustResumed post (f_height, f_made, f_size, f_on, f_inFirst, f_over, f_instantsDone, f_hadInstant, f_lastPresent, f_lastAbsent, f_present, f_absent, f_startedNow, f_resumedNow, a_stack, a_newKind, a_newMark, a_newP, a_newQ, a_newWithin, a_kind, a_mark, a_partP, a_partQ, a_within, a_mustStarted, a_canStarted, a_mustResumed, a_canResumed) e (bo_I mu) := by
  subst he
  have hc : (nI i).toNatClampNeg = i := nI_clamp (by omega)
  have cp : (nI p).toNatClampNeg = p := nI_clamp (by omega)
  have cq : (nI q).toNatClampNeg = q := nI_clamp (by omega)
  have vi : vp_in (nI i) 16 := vp_in_nI hi (by omega)
  have vp : vp_in (nI p) 16 := vp_in_nI p16 (by omega)
  have vq : vp_in (nI q) 16 := vp_in_nI q16 (by omega)
  unfold sv_R at h
  unfold wpX_setsResumed__mustStarted_mustResumed
  dsimp only
  rw [hc, hp, hq, hk]
  refine bz_actb hi rfl (fun ha => ?_) (fun ha => ?_)
  · rw [if_neg (by rw [ha]; decide)] at h
    refine ⟨vi, nm_e ⟨vi, nm_e ⟨vi, nm_e ?_⟩⟩⟩
    rw [cp, cq]
    refine pk_lt k 4 (fun z => ?_) (fun k4 => ?_)
    · rw [if_neg (by omega), if_neg (by omega), if_neg (by omega), if_neg (by omega), if_neg (by omega), if_neg (by omega)] at h
      exact h
    refine pk_lt 9 k (fun z => absurd z (by omega)) (fun z9 => ?_)
    have oP := (hP k4).2
    have oQ := (hQ k4).2
    have oR := (hRP k4).2
    have oS := (hRQ k4).2
    rw [(hP k4).1, (hQ k4).1, (hRP k4).1, (hRQ k4).1]
    refine pk_eq k 4 (fun z => ?_) (fun z4 => ?_)
    · rw [if_pos z] at h
      refine bz_hasb (n := i) (by omega) rfl (fun t => ⟨vp, ?_⟩) (fun t => ⟨vp, ?_⟩)
      · rw [if_pos t] at h; exact xo_o oP h
      · rw [if_neg (by rw [t]; decide)] at h; exact xo_o oR h
    rw [if_neg z4] at h
    refine pk_eq k 5 (fun z => ⟨vp, ?_⟩) (fun z5 => ?_)
    · rw [if_pos z] at h; exact xo_t oR h
    rw [if_neg z5] at h
    refine pk_eq k 6 (fun z => ⟨vi, vp, ?_⟩) (fun z6 => ?_)
    · rw [if_pos z] at h
      have hm6 := hm.1 (Or.inr (Or.inl z))
      exact xo_h hm6.2 hm6.1 hpr hab oR h
    rw [if_neg z6] at h
    refine pk_eq k 7 (fun z => ?_) (fun z7 => ?_)
    · rw [if_pos z] at h
      refine bz_actb p16 rfl (fun t => ⟨vp, vq, ?_⟩) (fun t => ⟨vq, ?_⟩)
      · rw [if_pos t] at h; exact xo_i oR oQ h
      · rw [if_neg (by rw [t]; decide)] at h; exact h
    rw [if_neg z7] at h
    refine pk_eq k 8 (fun z => ⟨vp, vq, ?_⟩) (fun z8 => ?_)
    · rw [if_pos z] at h; exact xo_g oR oS h
    rw [if_neg z8] at h
    refine pk_eq k 9 (fun z => ?_) (fun z9 => trivial)
    rw [if_pos z] at h
    refine bz_actb p16 rfl (fun t => ⟨vp, ?_⟩) (fun t => ⟨vq, ?_⟩)
    · rw [if_pos t] at h; exact h
    · rw [if_neg (by rw [t]; decide)] at h; exact h
  · rw [if_pos ha] at h; exact h
theorem xs_R_canResumed {post : Int32 → Prop} {f_height f_made f_size f_on f_inFirst f_over f_instantsDone f_hadInstant f_lastPresent f_lastAbsent f_present f_absent f_startedNow f_resumedNow : Int32} {a_stack a_newKind a_newMark a_newP a_newQ a_newWithin a_kind a_mark a_partP a_partQ a_within a_mustStarted a_canStarted a_mustResumed a_canResumed : Nat → Int32} {i k m p q pr ab : Nat} {mu : Bool} {sp sq rp rq : Nat × Nat} {e : Int32} (he : e = nI i) (hi : i < 16) (hpr : f_present = nI pr) (hab : f_absent = nI ab)
    (hk : a_kind i = nI k) (k9 : k ≤ 9) (hm : mk_W k m (a_mark i)) (hp : a_partP i = nI p) (hq : a_partQ i = nI q) (p16 : p < 16) (q16 : q < 16)
    (hP : 4 ≤ k → a_canStarted p = pv_k sp ∧ vv_ok sp) (hQ : 4 ≤ k → a_canStarted q = pv_k sq ∧ vv_ok sq) (hRP : 4 ≤ k → a_canResumed p = pv_k rp ∧ vv_ok rp) (hRQ : 4 ≤ k → a_canResumed q = pv_k rq ∧ vv_ok rq)
    (h : post (pv_k (sv_R k m pr ab mu (bt f_on i) (ac_L f_on a_within i) (ac_L f_on a_within p) sp sq rp rq))) :
    wpX_setsResumed__canStarted_canResumed post (f_height, f_made, f_size, f_on, f_inFirst, f_over, f_instantsDone, f_hadInstant, f_lastPresent, f_lastAbsent, f_present, f_absent, f_startedNow, f_resumedNow, a_stack, a_newKind, a_newMark, a_newP, a_newQ, a_newWithin, a_kind, a_mark, a_partP, a_partQ, a_within, a_mustStarted, a_canStarted, a_mustResumed, a_canResumed) e (bo_I mu) := by
  subst he
  have hc : (nI i).toNatClampNeg = i := nI_clamp (by omega)
  have cp : (nI p).toNatClampNeg = p := nI_clamp (by omega)
  have cq : (nI q).toNatClampNeg = q := nI_clamp (by omega)
  have vi : vp_in (nI i) 16 := vp_in_nI hi (by omega)
  have vp : vp_in (nI p) 16 := vp_in_nI p16 (by omega)
  have vq : vp_in (nI q) 16 := vp_in_nI q16 (by omega)
  unfold sv_R at h
  unfold wpX_setsResumed__canStarted_canResumed
  dsimp only
  rw [hc, hp, hq, hk]
  refine bz_actb hi rfl (fun ha => ?_) (fun ha => ?_)
  · rw [if_neg (by rw [ha]; decide)] at h
    refine ⟨vi, nm_e ⟨vi, nm_e ⟨vi, nm_e ?_⟩⟩⟩
    rw [cp, cq]
    refine pk_lt k 4 (fun z => ?_) (fun k4 => ?_)
    · rw [if_neg (by omega), if_neg (by omega), if_neg (by omega), if_neg (by omega), if_neg (by omega), if_neg (by omega)] at h
      exact h
    refine pk_lt 9 k (fun z => absurd z (by omega)) (fun z9 => ?_)
    have oP := (hP k4).2
    have oQ := (hQ k4).2
    have oR := (hRP k4).2
    have oS := (hRQ k4).2
    rw [(hP k4).1, (hQ k4).1, (hRP k4).1, (hRQ k4).1]
    refine pk_eq k 4 (fun z => ?_) (fun z4 => ?_)
    · rw [if_pos z] at h
      refine bz_hasb (n := i) (by omega) rfl (fun t => ⟨vp, ?_⟩) (fun t => ⟨vp, ?_⟩)
      · rw [if_pos t] at h; exact xo_o oP h
      · rw [if_neg (by rw [t]; decide)] at h; exact xo_o oR h
    rw [if_neg z4] at h
    refine pk_eq k 5 (fun z => ⟨vp, ?_⟩) (fun z5 => ?_)
    · rw [if_pos z] at h; exact xo_t oR h
    rw [if_neg z5] at h
    refine pk_eq k 6 (fun z => ⟨vi, vp, ?_⟩) (fun z6 => ?_)
    · rw [if_pos z] at h
      have hm6 := hm.1 (Or.inr (Or.inl z))
      exact xo_h hm6.2 hm6.1 hpr hab oR h
    rw [if_neg z6] at h
    refine pk_eq k 7 (fun z => ?_) (fun z7 => ?_)
    · rw [if_pos z] at h
      refine bz_actb p16 rfl (fun t => ⟨vp, vq, ?_⟩) (fun t => ⟨vq, ?_⟩)
      · rw [if_pos t] at h; exact xo_i oR oQ h
      · rw [if_neg (by rw [t]; decide)] at h; exact h
    rw [if_neg z7] at h
    refine pk_eq k 8 (fun z => ⟨vp, vq, ?_⟩) (fun z8 => ?_)
    · rw [if_pos z] at h; exact xo_g oR oS h
    rw [if_neg z8] at h
    refine pk_eq k 9 (fun z => ?_) (fun z9 => trivial)
    rw [if_pos z] at h
    refine bz_actb p16 rfl (fun t => ⟨vp, ?_⟩) (fun t => ⟨vq, ?_⟩)
    · rw [if_pos t] at h; exact h
    · rw [if_neg (by rw [t]; decide)] at h; exact h
  · rw [if_pos ha] at h; exact h
