/- basics: bits, booleans, has -/
theorem bz_or (a b : Nat) : nI a ||| nI b = nI (a ||| b) := by
  apply Int32.toBitVec_inj.1
  show BitVec.ofNat 32 a ||| BitVec.ofNat 32 b = BitVec.ofNat 32 (a ||| b)
  apply BitVec.eq_of_getLsbD_eq
  intro i hi
  simp [hi]
theorem bz_nI {n i : Nat} (hi : i < 32) : bt (nI n) i = n.testBit i := by
  show (BitVec.ofNat 32 n).getLsbD i = _
  rw [BitVec.getLsbD_ofNat]
  simp [hi]
theorem bz_one : ∀ i, i < 32 → bt 1 i = decide (i = 0) := by decide +kernel
theorem bz_sh1 : ∀ n, n < 32 → ∀ i, i < 32 → bt ((1 : Int32) <<< (nI n &&& 31)) i = decide (i = n) := by decide +kernel
theorem bz_low (x : Int32) {n : Nat} (hn : n < 32) : ((x >>> (nI n &&& 31)) &&& 1) = if bt x n = true then 1 else 0 := by
  apply b_ext
  intro i hi
  rw [b_and, bz_one i hi]
  by_cases h : i = 0
  · subst h
    rw [b_sshr n hn x (by omega), if_pos (by omega), Nat.add_zero]
    cases bt x n <;> decide
  · rw [decide_eq_false h, Bool.and_false]
    cases bt x n
    · exact (b_0 i).symm
    · show false = bt 1 i
      rw [bz_one i hi, decide_eq_false h]
theorem bz_h0 (x : Int32) {n : Nat} (hn : n < 32) : ((x >>> (nI n &&& 31)) &&& 1) = 0 ↔ bt x n = false := by
  rw [bz_low x hn]
  cases bt x n <;> decide
theorem bz_h1 (x : Int32) {n : Nat} (hn : n < 32) : ((x >>> (nI n &&& 31)) &&& 1) = 1 ↔ bt x n = true := by
  rw [bz_low x hn]
  cases bt x n <;> decide
theorem bz_has {post : Int32 → Prop} {s e : Int32} {n : Nat} (hn : n < 32) (he : e = nI n) (t : bt s n = true → post 1) (f : bt s n = false → post 0) : wpX_has post s e := by
  subst he
  cases h : bt s n
  · exact br_t ((bz_h0 s hn).mpr h) (f h)
  · exact br_f (fun z => by rw [bz_h0 s hn, h] at z; exact absurd z (by decide)) (t h)
theorem bz_hasb {A B : Prop} {s e : Int32} {n : Nat} (hn : n < 32) (he : e = nI n) (t : bt s n = true → B) (f : bt s n = false → A) : wpX_has (fun r => (r = 0 → A) ∧ (¬ r = 0 → B)) s e :=
  bz_has hn he (fun h => br_f (by decide) (t h)) (fun h => br_t rfl (f h))
/-- Y's one-bit test -/
theorem bz_yb {A B : Prop} {x e : Int32} {n : Nat} (hn : n < 32) (he : e = nI n) (t : bt x n = true → A) (f : bt x n = false → B) : (((x >>> (e &&& 31)) &&& 1) = 1 → A) ∧ (¬ ((x >>> (e &&& 31)) &&& 1) = 1 → B) := by
  subst he
  rw [bz_h1 x hn]
  exact ⟨t, fun z => f (by cases h : bt x n; exact rfl; exact absurd h z)⟩
theorem bz_n0 : vp_nar .boolean 0 = 0 := rfl
theorem bz_n1 : vp_nar .boolean 1 = 1 := rfl
/-- a Bool as Int32 -/
def bo_I (b : Bool) : Int32 := if b = true then 1 else 0
theorem bo_nar (b : Bool) : vp_nar .boolean (bo_I b) = bo_I b := by cases b <;> rfl
theorem bo_0 (b : Bool) : bo_I b = 0 ↔ b = false := by cases b <;> decide
theorem bo_br {A B : Prop} (b : Bool) (f : b = false → A) (t : b = true → B) : (bo_I b = 0 → A) ∧ (¬ bo_I b = 0 → B) := by
  cases b
  · exact br_t rfl (f rfl)
  · exact br_f (by decide) (t rfl)
/-- activity -/
def ac_L (o : Int32) (w : Nat → Int32) (i : Nat) : Bool := !((o &&& w i) == 0)
theorem ac_f {o : Int32} {w : Nat → Int32} {i : Nat} : ac_L o w i = false ↔ (o &&& w i) = 0 := by
  unfold ac_L
  cases h : ((o &&& w i) == 0)
  · simp at h; simp [h]
  · simp at h; simp [h]
theorem ac_t {o : Int32} {w : Nat → Int32} {i : Nat} : ac_L o w i = true ↔ ¬ (o &&& w i) = 0 := by
  rw [← ac_f]
  cases ac_L o w i <;> simp
theorem bz_ex0 {x : Int32} : ¬ x = 0 ↔ ∃ j, j < 32 ∧ bt x j = true := by
  constructor
  · intro h
    apply Classical.byContradiction
    intro hn
    apply h
    apply b_ext
    intro i hi
    rw [b_0]
    cases e : bt x i
    · rfl
    · exact absurd ⟨i, hi, e⟩ hn
  · rintro ⟨j, _, h⟩ z
    rw [z, b_0] at h
    cases h
theorem ac_ex {o : Int32} {w : Nat → Int32} {i : Nat} : ac_L o w i = true ↔ ∃ j, j < 32 ∧ bt o j = true ∧ bt (w i) j = true := by
  rw [ac_t, bz_ex0]
  constructor
  · rintro ⟨j, hj, h⟩; rw [b_and, Bool.and_eq_true] at h; exact ⟨j, hj, h⟩
  · rintro ⟨j, hj, h⟩; exact ⟨j, hj, by rw [b_and, Bool.and_eq_true]; exact h⟩
theorem bz_act {post : Int32 → Prop} {f_height f_made f_size f_on f_inFirst f_over f_instantsDone f_hadInstant f_lastPresent f_lastAbsent f_present f_absent f_startedNow f_resumedNow : Int32} {a_stack a_newKind a_newMark a_newP a_newQ a_newWithin a_kind a_mark a_partP a_partQ a_within a_mustStarted a_canStarted a_mustResumed a_canResumed : Nat → Int32} {e : Int32} {i : Nat} (hi : i < 16) (he : e = nI i) (t : ac_L f_on a_within i = true → post 1) (f : ac_L f_on a_within i = false → post 0) : wpX_isActive post (f_height, f_made, f_size, f_on, f_inFirst, f_over, f_instantsDone, f_hadInstant, f_lastPresent, f_lastAbsent, f_present, f_absent, f_startedNow, f_resumedNow, a_stack, a_newKind, a_newMark, a_newP, a_newQ, a_newWithin, a_kind, a_mark, a_partP, a_partQ, a_within, a_mustStarted, a_canStarted, a_mustResumed, a_canResumed) e := by
  subst he
  have hc : (nI i).toNatClampNeg = i := nI_clamp (by omega)
  refine ⟨vp_in_nI hi (by omega), ?_⟩
  rw [hc]
  exact br_c (fun h => f (ac_f.mpr h)) (fun h => t (ac_t.mpr h))
theorem bz_actb {A B : Prop} {f_height f_made f_size f_on f_inFirst f_over f_instantsDone f_hadInstant f_lastPresent f_lastAbsent f_present f_absent f_startedNow f_resumedNow : Int32} {a_stack a_newKind a_newMark a_newP a_newQ a_newWithin a_kind a_mark a_partP a_partQ a_within a_mustStarted a_canStarted a_mustResumed a_canResumed : Nat → Int32} {e : Int32} {i : Nat} (hi : i < 16) (he : e = nI i) (t : ac_L f_on a_within i = true → B) (f : ac_L f_on a_within i = false → A) : wpX_isActive (fun r => (r = 0 → A) ∧ (¬ r = 0 → B)) (f_height, f_made, f_size, f_on, f_inFirst, f_over, f_instantsDone, f_hadInstant, f_lastPresent, f_lastAbsent, f_present, f_absent, f_startedNow, f_resumedNow, a_stack, a_newKind, a_newMark, a_newP, a_newQ, a_newWithin, a_kind, a_mark, a_partP, a_partQ, a_within, a_mustStarted, a_canStarted, a_mustResumed, a_canResumed) e :=
  bz_act hi he (fun h => br_f (by decide) (t h)) (fun h => br_t rfl (f h))
