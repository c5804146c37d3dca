/- pure values: (signals, codes); X packs them into one number -/
def pv_k (v : Nat × Nat) : Int32 := nI (64 * v.2 + v.1)
def vv_ok (v : Nat × Nat) : Prop := v.1 < 64 ∧ v.2 < 32
def co_o (c : Nat) : Nat := if c % 2 = 1 then (c - 1) ||| 2 else c
def co_t (c : Nat) : Nat := (c % 4) ||| (if c / 4 % 2 = 1 then 1 else 0) ||| (c / 8 * 4)
def co_i (c d : Nat) : Nat := if c % 2 = 1 then (c - 1) ||| d else c
def co_low (c : Nat) : Nat := if c % 2 = 1 then 1 else if c % 4 = 2 then 2 else if c % 8 = 4 then 4 else if c % 16 = 8 then 8 else 16
def co_fl (c d : Nat) : Nat := if co_low c ≤ co_low d then co_low d else co_low c
def co_g (c d : Nat) : Nat := if c = 0 then 0 else if d = 0 then 0 else (c ||| d) / co_fl c d * co_fl c d
theorem nz_split {s t : Nat} (c d : Nat) (hs : s < 64) (ht : t < 64) : (64 * c + s) ||| (64 * d + t) = 64 * (c ||| d) + (s ||| t) := by
  have hst : s ||| t < 64 := Nat.or_lt_two_pow (n := 6) hs ht
  apply Nat.eq_of_testBit_eq
  intro j
  rw [Nat.testBit_or, show 64 * c + s = 2 ^ 6 * c + s from rfl, show 64 * d + t = 2 ^ 6 * d + t from rfl, show 64 * (c ||| d) + (s ||| t) = 2 ^ 6 * (c ||| d) + (s ||| t) from rfl,
    Nat.testBit_two_pow_mul_add c hs, Nat.testBit_two_pow_mul_add d ht, Nat.testBit_two_pow_mul_add (c ||| d) hst]
  split
  · rw [Nat.testBit_or]
  · rw [Nat.testBit_or]
theorem pv_or {v w : Nat × Nat} (hv : vv_ok v) (hw : vv_ok w) : pv_k v ||| pv_k w = pv_k (v.1 ||| w.1, v.2 ||| w.2) := by
  unfold pv_k
  rw [bz_or, nz_split _ _ hv.1 hw.1]
theorem vv_or {v w : Nat × Nat} (hv : vv_ok v) (hw : vv_ok w) : vv_ok (v.1 ||| w.1, v.2 ||| w.2) := ⟨Nat.or_lt_two_pow (n := 6) hv.1 hw.1, Nat.or_lt_two_pow (n := 5) hv.2 hw.2⟩
theorem pz_64 : ∀ c, c < 32 → ∀ s, s < 64 → ((nI (64 * c + s) &&& 64) = 0 ↔ c % 2 = 0) := by decide +kernel
theorem pz_o : ∀ c, c < 32 → ∀ s, s < 64 → c % 2 = 1 → (nI (64 * c + s) &&& (-65)) ||| 128 = nI (64 * co_o c + s) := by decide +kernel
theorem pz_m : ∀ c, c < 32 → ∀ s, s < 64 → c % 2 = 1 → (nI (64 * c + s) &&& (-65)) = nI (64 * (c - 1) + s) := by decide +kernel
theorem pz_256 : ∀ c, c < 32 → ∀ s, s < 64 → ((nI (64 * c + s) &&& 256) = 0 ↔ c / 4 % 2 = 0) := by decide +kernel
theorem pz_t0 : ∀ c, c < 32 → ∀ s, s < 64 → c / 4 % 2 = 0 → ((nI (64 * c + s) &&& 255) ||| 0) ||| ((nI (64 * c + s) &&& 1536) >>> ((1 : Int32) &&& 31)) = nI (64 * co_t c + s) := by decide +kernel
theorem pz_t1 : ∀ c, c < 32 → ∀ s, s < 64 → c / 4 % 2 = 1 → ((nI (64 * c + s) &&& 255) ||| 64) ||| ((nI (64 * c + s) &&& 1536) >>> ((1 : Int32) &&& 31)) = nI (64 * co_t c + s) := by decide +kernel
theorem pz_63 : ∀ c, c < 32 → ∀ s, s < 64 → nI (64 * c + s) &&& 63 = nI s := by decide +kernel
theorem pz_1984 : ∀ c, c < 32 → ∀ s, s < 64 → nI (64 * c + s) &&& 1984 = nI (64 * c) := by decide +kernel
theorem pz_c0 : ∀ c, c < 32 → (nI (64 * c) = 0 ↔ c = 0) := by decide +kernel
theorem pz_low : ∀ c, c < 32 → ¬ c = 0 → nI (64 * c) &&& (-nI (64 * c)) = nI (64 * co_low c) := by decide +kernel
theorem pz_cmp : ∀ c, c < 32 → ∀ d, d < 32 → (nI (64 * co_low c) ≤ nI (64 * co_low d) ↔ co_low c ≤ co_low d) := by decide +kernel
theorem pz_g : ∀ c, c < 32 → ∀ d, d < 32 → ¬ c = 0 → ¬ d = 0 → (nI (64 * c) ||| nI (64 * d)) &&& (-nI (64 * co_fl c d)) = nI (64 * co_g c d) := by decide +kernel
theorem pz_gok : ∀ c, c < 32 → ∀ d, d < 32 → co_g c d < 32 := by decide +kernel
theorem pz_ook : ∀ c, c < 32 → co_o c < 32 := by decide +kernel
theorem pz_tok : ∀ c, c < 32 → co_t c < 32 := by decide +kernel
/- the operations on values -/
def vo_v (v : Nat × Nat) : Nat × Nat := (v.1, co_o v.2)
def vt_r (v : Nat × Nat) : Nat × Nat := (v.1, co_t v.2)
def vi_t (v w : Nat × Nat) : Nat × Nat := if v.2 % 2 = 1 then (v.1 ||| w.1, (v.2 - 1) ||| w.2) else v
def vg_t (v w : Nat × Nat) : Nat × Nat := (v.1 ||| w.1, co_g v.2 w.2)
def vb_r (m pr ab : Nat) (mu : Bool) (v w : Nat × Nat) : Nat × Nat := if pr.testBit m = true then v else if ab.testBit m = true then w else if mu = true then (0, 0) else (v.1 ||| w.1, v.2 ||| w.2)
def vh_b (m pr ab : Nat) (mu : Bool) (v : Nat × Nat) : Nat × Nat := if pr.testBit m = true then (0, 2) else if ab.testBit m = true then v else if mu = true then (0, 0) else (v.1, v.2 ||| 2)
theorem vo_ok {v : Nat × Nat} (h : vv_ok v) : vv_ok (vo_v v) := ⟨h.1, pz_ook _ h.2⟩
theorem vt_ok {v : Nat × Nat} (h : vv_ok v) : vv_ok (vt_r v) := ⟨h.1, pz_tok _ h.2⟩
theorem vg_ok {v w : Nat × Nat} (h : vv_ok v) (k : vv_ok w) : vv_ok (vg_t v w) := ⟨(vv_or h k).1, pz_gok _ h.2 _ k.2⟩
theorem vi_ok {v w : Nat × Nat} (h : vv_ok v) (k : vv_ok w) : vv_ok (vi_t v w) := by
  unfold vi_t
  split
  · exact ⟨(vv_or h k).1, Nat.or_lt_two_pow (n := 5) (by have := h.2; omega) k.2⟩
  · exact h
theorem vb_ok {m pr ab : Nat} {mu : Bool} {v w : Nat × Nat} (h : vv_ok v) (k : vv_ok w) : vv_ok (vb_r m pr ab mu v w) := by
  unfold vb_r
  split
  · exact h
  · split
    · exact k
    · split
      · exact ⟨by decide, by decide⟩
      · exact vv_or h k
theorem vh_ok {m pr ab : Nat} {mu : Bool} {v : Nat × Nat} (h : vv_ok v) : vv_ok (vh_b m pr ab mu v) := by
  unfold vh_b
  split
  · exact ⟨by decide, by decide⟩
  · split
    · exact h
    · split
      · exact ⟨by decide, by decide⟩
      · exact ⟨h.1, Nat.or_lt_two_pow (n := 5) h.2 (by decide)⟩
/- X's operations -/
theorem xo_o {post : Int32 → Prop} {v : Nat × Nat} (h : vv_ok v) (hp : post (pv_k (vo_v v))) : wpX_oneForZero post (pv_k v) := by
  obtain ⟨s, c⟩ := v
  obtain ⟨hs, hc⟩ := h
  by_cases e : c % 2 = 1
  · refine br_f (fun z => ?_) ?_
    · have := (pz_64 c hc s hs).mp z; omega
    · show post ((nI (64 * c + s) &&& (-65)) ||| 128)
      rw [pz_o c hc s hs e]; exact hp
  · refine br_t ((pz_64 c hc s hs).mpr (by omega)) ?_
    have : vo_v (s, c) = (s, c) := by unfold vo_v co_o; simp [e]
    rw [this] at hp; exact hp
theorem xo_t {post : Int32 → Prop} {v : Nat × Nat} (h : vv_ok v) (hp : post (pv_k (vt_r v))) : wpX_outOfTrap post (pv_k v) := by
  obtain ⟨s, c⟩ := v
  obtain ⟨hs, hc⟩ := h
  refine nm_e ?_
  by_cases e : c / 4 % 2 = 1
  · refine br_f (fun z => ?_) (nm_e ?_)
    · have := (pz_256 c hc s hs).mp z; omega
    · show post (((nI (64 * c + s) &&& 255) ||| 64) ||| ((nI (64 * c + s) &&& 1536) >>> ((1 : Int32) &&& 31)))
      rw [pz_t1 c hc s hs e]; exact hp
  · refine br_t ((pz_256 c hc s hs).mpr (by omega)) (nm_e ?_)
    show post (((nI (64 * c + s) &&& 255) ||| 0) ||| ((nI (64 * c + s) &&& 1536) >>> ((1 : Int32) &&& 31)))
    rw [pz_t0 c hc s hs (by omega)]; exact hp
theorem xo_i {post : Int32 → Prop} {v w : Nat × Nat} (h : vv_ok v) (k : vv_ok w) (hp : post (pv_k (vi_t v w))) : wpX_inTurn post (pv_k v) (pv_k w) := by
  obtain ⟨s, c⟩ := v
  have hs := h.1; have hc := h.2
  dsimp only at hs hc
  by_cases e : c % 2 = 1
  · refine br_f (fun z => ?_) ?_
    · have := (pz_64 c hc s hs).mp z; omega
    · show post ((nI (64 * c + s) &&& (-65)) ||| pv_k w)
      rw [pz_m c hc s hs e]
      have := pv_or (v := (s, c - 1)) (w := w) ⟨hs, by show c - 1 < 32; omega⟩ k
      unfold vi_t at hp; rw [if_pos e] at hp
      rw [show nI (64 * (c - 1) + s) = pv_k (s, c - 1) from rfl, this]; exact hp
  · refine br_t ((pz_64 c hc s hs).mpr (by omega)) ?_
    unfold vi_t at hp; rw [if_neg e] at hp; exact hp
theorem xo_g {post : Int32 → Prop} {v w : Nat × Nat} (h : vv_ok v) (k : vv_ok w) (hp : post (pv_k (vg_t v w))) : wpX_together post (pv_k v) (pv_k w) := by
  obtain ⟨s, c⟩ := v
  obtain ⟨t, d⟩ := w
  have ho := pv_or h k
  have hok := vv_or h k
  obtain ⟨hs, hc⟩ := h
  obtain ⟨ht, hd⟩ := k
  dsimp only at hs hc ht hd ho hok
  have e1 : (pv_k (s, c) ||| pv_k (t, d)) &&& 63 = nI (s ||| t) := by rw [ho]; exact pz_63 _ hok.2 _ hok.1
  have e2 : pv_k (s, c) &&& 1984 = nI (64 * c) := pz_1984 c hc s hs
  have e3 : pv_k (t, d) &&& 1984 = nI (64 * d) := pz_1984 d hd t ht
  have hz : ∀ e, nI (s ||| t) ||| nI (64 * e) = nI (64 * e + (s ||| t)) := by
    intro e
    rw [bz_or, show s ||| t = 64 * 0 + (s ||| t) from by omega, show 64 * e = 64 * e + 0 from rfl, nz_split 0 e hok.1 (by decide)]
    simp
  refine nm_r e1 (nm_r e2 (nm_r e3 ?_))
  by_cases c0 : c = 0
  · refine br_t ((pz_c0 c hc).mpr c0) ?_
    have : vg_t (s, c) (t, d) = (s ||| t, 0) := by unfold vg_t co_g; simp [c0]
    rw [this] at hp
    exact (show pv_k (s ||| t, 0) = nI (s ||| t) from by unfold pv_k; simp) ▸ hp
  · refine br_f (fun z => c0 ((pz_c0 c hc).mp z)) ?_
    by_cases d0 : d = 0
    · refine br_t ((pz_c0 d hd).mpr d0) ?_
      have : vg_t (s, c) (t, d) = (s ||| t, 0) := by unfold vg_t co_g; simp [d0]
      rw [this] at hp
      exact (show pv_k (s ||| t, 0) = nI (s ||| t) from by unfold pv_k; simp) ▸ hp
    · refine br_f (fun z => d0 ((pz_c0 d hd).mp z)) (nm_r (pz_low c hc c0) (nm_r (pz_low d hd d0) ?_))
      have hg := pz_g c hc d hd c0 d0
      have hf : pv_k (vg_t (s, c) (t, d)) = nI (s ||| t) ||| nI (64 * co_g c d) := by rw [hz]; rfl
      rw [hf, ← hg] at hp
      by_cases l : co_low c ≤ co_low d
      · refine br_t ((pz_cmp c hc d hd).mpr l) ?_
        have : co_fl c d = co_low d := if_pos l
        rw [this] at hp; exact hp
      · refine br_f (fun z => l ((pz_cmp c hc d hd).mp z)) ?_
        have : co_fl c d = co_low c := if_neg l
        rw [this] at hp; exact hp
theorem xo_b {post : Int32 → Prop} {f_height f_made f_size f_on f_inFirst f_over f_instantsDone f_hadInstant f_lastPresent f_lastAbsent f_present f_absent f_startedNow f_resumedNow : Int32} {a_stack a_newKind a_newMark a_newP a_newQ a_newWithin a_kind a_mark a_partP a_partQ a_within a_mustStarted a_canStarted a_mustResumed a_canResumed : Nat → Int32} {e : Int32} {m pr ab : Nat} {mu : Bool} {v w : Nat × Nat} (hm : m < 6) (he : e = nI m) (hpr : f_present = nI pr) (hab : f_absent = nI ab) (h : vv_ok v) (k : vv_ok w) (hp : post (pv_k (vb_r m pr ab mu v w))) : wpX_branch post (f_height, f_made, f_size, f_on, f_inFirst, f_over, f_instantsDone, f_hadInstant, f_lastPresent, f_lastAbsent, f_present, f_absent, f_startedNow, f_resumedNow, a_stack, a_newKind, a_newMark, a_newP, a_newQ, a_newWithin, a_kind, a_mark, a_partP, a_partQ, a_within, a_mustStarted, a_canStarted, a_mustResumed, a_canResumed) e (pv_k v) (pv_k w) (bo_I mu) := by
  subst hpr hab
  unfold vb_r at hp
  refine bz_hasb (n := m) (by omega) he (fun h1 => ?_) (fun h1 => bz_hasb (n := m) (by omega) he (fun h2 => ?_) (fun h2 => ?_))
  · rw [bz_nI (by omega)] at h1; rw [if_pos h1] at hp; exact hp
  · rw [bz_nI (by omega)] at h1 h2; rw [if_neg (by rw [h1]; decide), if_pos h2] at hp; exact hp
  · rw [bz_nI (by omega)] at h1 h2; rw [if_neg (by rw [h1]; decide), if_neg (by rw [h2]; decide)] at hp
    refine bo_br mu (fun z => ?_) (fun z => ?_)
    · rw [if_neg (by rw [z]; decide)] at hp; rw [pv_or h k]; exact hp
    · rw [if_pos z] at hp; exact hp
theorem xo_h {post : Int32 → Prop} {f_height f_made f_size f_on f_inFirst f_over f_instantsDone f_hadInstant f_lastPresent f_lastAbsent f_present f_absent f_startedNow f_resumedNow : Int32} {a_stack a_newKind a_newMark a_newP a_newQ a_newWithin a_kind a_mark a_partP a_partQ a_within a_mustStarted a_canStarted a_mustResumed a_canResumed : Nat → Int32} {e : Int32} {m pr ab : Nat} {mu : Bool} {v : Nat × Nat} (hm : m < 6) (he : e = nI m) (hpr : f_present = nI pr) (hab : f_absent = nI ab) (h : vv_ok v) (hp : post (pv_k (vh_b m pr ab mu v))) : wpX_heldBack post (f_height, f_made, f_size, f_on, f_inFirst, f_over, f_instantsDone, f_hadInstant, f_lastPresent, f_lastAbsent, f_present, f_absent, f_startedNow, f_resumedNow, a_stack, a_newKind, a_newMark, a_newP, a_newQ, a_newWithin, a_kind, a_mark, a_partP, a_partQ, a_within, a_mustStarted, a_canStarted, a_mustResumed, a_canResumed) e (pv_k v) (bo_I mu) := by
  subst hpr hab
  unfold vh_b at hp
  refine bz_hasb (n := m) (by omega) he (fun h1 => ?_) (fun h1 => bz_hasb (n := m) (by omega) he (fun h2 => ?_) (fun h2 => ?_))
  · rw [bz_nI (by omega)] at h1; rw [if_pos h1] at hp; exact hp
  · rw [bz_nI (by omega)] at h1 h2; rw [if_neg (by rw [h1]; decide), if_pos h2] at hp; exact hp
  · rw [bz_nI (by omega)] at h1 h2; rw [if_neg (by rw [h1]; decide), if_neg (by rw [h2]; decide)] at hp
    refine bo_br mu (fun z => ?_) (fun z => ?_)
    · rw [if_neg (by rw [z]; decide)] at hp
      have := pv_or (v := v) (w := (0, 2)) h ⟨by decide, by decide⟩
      rw [show (128 : Int32) = pv_k (0, 2) from by decide, this]
      exact (show (v.1 ||| (0, 2).1, v.2 ||| (0, 2).2) = (v.1, v.2 ||| 2) from by simp) ▸ hp
    · rw [if_pos z] at hp; exact hp
