/- the statuses: a pure iteration -/
def fx_u (pr ab : Nat) : Nat := 63 - (pr ||| ab)
def fx_s (rm rc : Nat → Nat → Nat) (pr ab : Nat) : Nat × Nat := (pr ||| (fx_u pr ab &&& rm pr ab), ab ||| (fx_u pr ab &&& (63 - rc pr ab)))
def fx_r (rm rc : Nat → Nat → Nat) : Nat → Nat → Nat → Nat × Nat
  | 0, pr, ab => (pr, ab)
  | n + 1, pr, ab => if fx_s rm rc pr ab = (pr, ab) then (pr, ab) else fx_r rm rc n (fx_s rm rc pr ab).1 (fx_s rm rc pr ab).2
def fx_pc (n : Nat) : Nat := n % 2 + n / 2 % 2 + n / 4 % 2 + n / 8 % 2 + n / 16 % 2 + n / 32 % 2
theorem fx_pc6 : ∀ n, n < 64 → fx_pc n ≤ 6 := by decide +kernel
theorem fx_pcl : ∀ a, a < 64 → ∀ b, b < 64 → ¬ (a ||| b) = a → fx_pc a < fx_pc (a ||| b) := by decide +kernel
theorem fx_ui : ∀ pr, pr < 64 → ∀ ab, ab < 64 → ((63 : Int32) &&& (nI pr ^^^ (-1))) &&& (nI ab ^^^ (-1)) = nI (fx_u pr ab) := by decide +kernel
theorem fx_u64 (pr ab : Nat) : fx_u pr ab < 64 := by unfold fx_u; omega
theorem fx_tb {n : Nat} (h : n < 64) {i : Nat} (hi : ¬ i < 6) : n.testBit i = false := Nat.testBit_lt_two_pow (Nat.lt_of_lt_of_le h (Nat.pow_le_pow_right (n := 2) (by decide) (show 6 ≤ i by omega)))
theorem fx_ct {s : Nat} (hs : s < 64) (i : Nat) : (63 - s).testBit i = (decide (i < 6) && !s.testBit i) := by
  have := Nat.testBit_two_pow_sub_succ (x := s) (n := 6) hs i
  rw [← this]; congr 1; omega
theorem fx_ub {pr ab : Nat} (h1 : pr < 64) (h2 : ab < 64) (i : Nat) : (fx_u pr ab).testBit i = (decide (i < 6) && !(pr.testBit i || ab.testBit i)) := by
  unfold fx_u
  rw [fx_ct (Nat.or_lt_two_pow (n := 6) h1 h2), Nat.testBit_or]
theorem fx_an {u s : Nat} (c : Nat) (hu : u < 64) (hs : s < 64) : nI u &&& nI (64 * c + s) = nI (u &&& s) := by
  rw [nx_and]
  congr 1
  apply Nat.eq_of_testBit_eq
  intro j
  rw [Nat.testBit_and, Nat.testBit_and, show 64 * c + s = 2 ^ 6 * c + s from rfl, Nat.testBit_two_pow_mul_add c hs]
  split
  · rfl
  · rename_i h; rw [fx_tb hu h]; rfl
theorem fx_nn {u s : Nat} (c : Nat) (hu : u < 64) (hs : s < 64) : nI u &&& (nI (64 * c + s) ^^^ (-1)) = nI (u &&& (63 - s)) := by
  apply b_ext
  intro i hi
  rw [b_and, b_xor, b_m1 i hi, bz_nI hi, bz_nI hi, bz_nI hi, Nat.testBit_and, fx_ct hs, show 64 * c + s = 2 ^ 6 * c + s from rfl, Nat.testBit_two_pow_mul_add c hs]
  by_cases h : i < 6
  · rw [if_pos h, decide_eq_true h]; cases u.testBit i <;> cases s.testBit i <;> rfl
  · rw [fx_tb hu h]; rfl
theorem fx_z {a : Nat} (h : a < 64) : nI a = 0 ↔ a = 0 := by
  rw [← nI_0]; exact nI_eq (by omega) (by decide)
theorem fx_ss (rm rc : Nat → Nat → Nat) {pr ab : Nat} (h1 : pr < 64) (h2 : ab < 64) : (fx_s rm rc pr ab).1 < 64 ∧ (fx_s rm rc pr ab).2 < 64 :=
  ⟨Nat.or_lt_two_pow (n := 6) h1 (Nat.lt_of_le_of_lt Nat.and_le_left (fx_u64 pr ab)), Nat.or_lt_two_pow (n := 6) h2 (Nat.lt_of_le_of_lt Nat.and_le_left (fx_u64 pr ab))⟩
theorem fx_0 {a x y : Nat} (h : ∀ i, y.testBit i = true → a.testBit i = false) (e : a ||| (y &&& x) = a) : y &&& x = 0 := by
  apply Nat.eq_of_testBit_eq
  intro i
  rw [Nat.zero_testBit]
  have he := congrArg (fun n => n.testBit i) e
  rw [Nat.testBit_or] at he
  cases hh : (y &&& x).testBit i
  · rfl
  · rw [hh] at he
    rw [Nat.testBit_and, Bool.and_eq_true] at hh
    rw [h i hh.1] at he; cases he
theorem fx_un (rm rc : Nat → Nat → Nat) {pr ab : Nat} (h1 : pr < 64) (h2 : ab < 64) :
    ((fx_u pr ab &&& rm pr ab) ||| (fx_u pr ab &&& (63 - rc pr ab)) = 0) ↔ fx_s rm rc pr ab = (pr, ab) := by
  constructor
  · intro h
    rw [Nat.or_eq_zero_iff] at h
    unfold fx_s; rw [h.1, h.2, Nat.or_zero, Nat.or_zero]
  · intro h
    unfold fx_s at h
    rw [Prod.mk.injEq] at h
    have e1 := fx_0 (fun i hi => by rw [fx_ub h1 h2] at hi; cases hp : pr.testBit i; rfl; rw [hp] at hi; simp at hi) h.1
    have e2 := fx_0 (fun i hi => by rw [fx_ub h1 h2] at hi; cases hp : ab.testBit i; rfl; rw [hp] at hi; simp at hi) h.2
    rw [e1, e2]; rfl
theorem fx_gr (rm rc : Nat → Nat → Nat) {pr ab : Nat} (h1 : pr < 64) (h2 : ab < 64) (h : ¬ fx_s rm rc pr ab = (pr, ab)) : fx_pc (pr ||| ab) < fx_pc ((fx_s rm rc pr ab).1 ||| (fx_s rm rc pr ab).2) := by
  rw [← fx_un rm rc h1 h2] at h
  have e : (fx_s rm rc pr ab).1 ||| (fx_s rm rc pr ab).2 = (pr ||| ab) ||| ((fx_u pr ab &&& rm pr ab) ||| (fx_u pr ab &&& (63 - rc pr ab))) := by
    unfold fx_s
    dsimp only
    ac_rfl
  rw [e]
  have hy : (fx_u pr ab &&& rm pr ab) ||| (fx_u pr ab &&& (63 - rc pr ab)) = fx_u pr ab &&& (rm pr ab ||| (63 - rc pr ab)) := by
    apply Nat.eq_of_testBit_eq
    intro i
    simp only [Nat.testBit_or, Nat.testBit_and]
    cases (fx_u pr ab).testBit i <;> simp
  refine fx_pcl _ (Nat.or_lt_two_pow (n := 6) h1 h2) _ (Nat.or_lt_two_pow (n := 6) (Nat.lt_of_le_of_lt Nat.and_le_left (fx_u64 pr ab)) (Nat.lt_of_le_of_lt Nat.and_le_left (fx_u64 pr ab))) (fun z => h ?_)
  rw [hy] at z ⊢
  exact fx_0 (fun i hi => by rw [fx_ub h1 h2] at hi; rw [Nat.testBit_or]; cases hp : (pr.testBit i || ab.testBit i); rfl; rw [hp] at hi; simp at hi) z
theorem fx_64 (rm rc : Nat → Nat → Nat) : ∀ n pr ab, pr < 64 → ab < 64 → (fx_r rm rc n pr ab).1 < 64 ∧ (fx_r rm rc n pr ab).2 < 64 := by
  intro n
  induction n with
  | zero => intro pr ab h1 h2; exact ⟨h1, h2⟩
  | succ n ih =>
    intro pr ab h1 h2
    unfold fx_r
    split
    · exact ⟨h1, h2⟩
    · exact ih _ _ (fx_ss rm rc h1 h2).1 (fx_ss rm rc h1 h2).2
/-- the root's signals -/
def rt_v (K M P Q : Nat → Nat) (N : Nat) (o al : Nat → Bool) (fi mu : Bool) (pr ab : Nat) : Nat × Nat := if fi = true then tv_S K M P Q pr ab mu (N - 1) else tv_R K M P Q pr ab o al mu (N - 1)
def rt_m (K M P Q : Nat → Nat) (N : Nat) (o al : Nat → Bool) (fi : Bool) (pr ab : Nat) : Nat := (rt_v K M P Q N o al fi true pr ab).1
def rt_c (K M P Q : Nat → Nat) (N : Nat) (o al : Nat → Bool) (fi : Bool) (pr ab : Nat) : Nat := (rt_v K M P Q N o al fi false pr ab).1
theorem rt_ok {N : Nat} {K M P Q : Nat → Nat} {kX mX pX qX : Nat → Int32} (h : pg_X N K M P Q kX mX pX qX) (h1 : 1 ≤ N) (o al : Nat → Bool) (fi mu : Bool) (pr ab : Nat) : vv_ok (rt_v K M P Q N o al fi mu pr ab) := by
  unfold rt_v
  split
  · exact tv_Sok h pr ab mu _ (by omega)
  · exact tv_Rok h pr ab o al mu _ (by omega)
theorem xf_89 {post : SX → Prop} {J : Int32 → Int32 → Int32 → Int32 → Int32 → Int32 → Int32 → Int32 → Int32 → Int32 → Int32 → Int32 → Int32 → Int32 → Int32 → Int32 → (Nat → Int32) → (Nat → Int32) → (Nat → Int32) → (Nat → Int32) → (Nat → Int32) → (Nat → Int32) → (Nat → Int32) → (Nat → Int32) → (Nat → Int32) → (Nat → Int32) → (Nat → Int32) → (Nat → Int32) → (Nat → Int32) → (Nat → Int32) → (Nat → Int32) → Prop} {f_height f_made f_size f_on f_inFirst f_over f_instantsDone f_hadInstant f_lastPresent f_lastAbsent f_startedNow f_resumedNow : Int32} {a_stack a_newKind a_newMark a_newP a_newQ a_newWithin a_kind a_mark a_partP a_partQ a_within a_mustStarted a_canStarted a_mustResumed a_canResumed : Nat → Int32} {k pr ab : Nat} {rm rc : Nat → Nat → Nat} {v w : Nat × Nat} (h1 : pr < 64) (h2 : ab < 64) (hv : vv_ok v) (hw : vv_ok w) (hrm : rm pr ab = v.1) (hrc : rc pr ab = w.1)
    (hs : fx_s rm rc pr ab = (pr, ab) → J 0 (nI (k + 1)) f_height f_made f_size f_on f_inFirst f_over f_instantsDone f_hadInstant f_lastPresent f_lastAbsent (nI pr) (nI ab) f_startedNow f_resumedNow a_stack a_newKind a_newMark a_newP a_newQ a_newWithin a_kind a_mark a_partP a_partQ a_within a_mustStarted a_canStarted a_mustResumed a_canResumed)
    (hd : ¬ fx_s rm rc pr ab = (pr, ab) → J 1 (nI (k + 1)) f_height f_made f_size f_on f_inFirst f_over f_instantsDone f_hadInstant f_lastPresent f_lastAbsent (nI (fx_s rm rc pr ab).1) (nI (fx_s rm rc pr ab).2) f_startedNow f_resumedNow a_stack a_newKind a_newMark a_newP a_newQ a_newWithin a_kind a_mark a_partP a_partQ a_within a_mustStarted a_canStarted a_mustResumed a_canResumed) :
    wX_findStatuses_89 post J (nI k) (pv_k v) (pv_k w) f_height f_made f_size f_on f_inFirst f_over f_instantsDone f_hadInstant f_lastPresent f_lastAbsent (nI pr) (nI ab) f_startedNow f_resumedNow a_stack a_newKind a_newMark a_newP a_newQ a_newWithin a_kind a_mark a_partP a_partQ a_within a_mustStarted a_canStarted a_mustResumed a_canResumed := by
  have hu := fx_u64 pr ab
  have e1 : nI (fx_u pr ab) &&& pv_k v = nI (fx_u pr ab &&& rm pr ab) := by rw [hrm]; exact fx_an v.2 hu hv.1
  have e2 : nI (fx_u pr ab) &&& (pv_k w ^^^ (-1)) = nI (fx_u pr ab &&& (63 - rc pr ab)) := by rw [hrc]; exact fx_nn w.2 hu hw.1
  refine nm_r (fx_ui pr h1 ab h2) (nm_r e1 (nm_r e2 (nm_r (bz_or _ _) (nm_r (bz_or _ _) ?_))))
  rw [bz_or, fx_z (Nat.or_lt_two_pow (n := 6) (Nat.lt_of_le_of_lt Nat.and_le_left hu) (Nat.lt_of_le_of_lt Nat.and_le_left hu)), fx_un rm rc h1 h2]
  refine br_c (fun z => nm_r (nI_1 k) ?_) (fun z => nm_r (nI_1 k) ?_)
  · have := hs z
    have ez := z
    unfold fx_s at ez
    rw [Prod.mk.injEq] at ez
    rw [ez.1, ez.2]; exact this
  · exact hd z
theorem xf_17 {post : SX → Prop} {f_height f_made f_size f_on f_inFirst f_over f_instantsDone f_hadInstant f_lastPresent f_lastAbsent f_startedNow f_resumedNow : Int32} {a_stack a_newKind a_newMark a_newP a_newQ a_newWithin a_kind a_mark a_partP a_partQ a_within : Nat → Int32} {N : Nat} {K M P Q : Nat → Nat} {fi : Bool} (hN : N ≤ 16) (hN1 : 1 ≤ N) (hs : f_size = nI N) (hfi : f_inFirst = bo_I fi) (hg : pg_X N K M P Q a_kind a_mark a_partP a_partQ)
    {rm rc : Nat → Nat → Nat} (hrm : rm = rt_m K M P Q N (bt f_on) (ac_L f_on a_within) fi) (hrc : rc = rt_c K M P Q N (bt f_on) (ac_L f_on a_within) fi) :
    ∀ n k pr ab ms cs mr cr, n + k = 7 → pr < 64 → ab < 64 → k ≤ fx_pc (pr ||| ab) →
    (∀ ms cs mr cr, tb_X K M P Q (fx_r rm rc n pr ab).1 (fx_r rm rc n pr ab).2 (bt f_on) (ac_L f_on a_within) ms cs mr cr N → post (f_height, f_made, f_size, f_on, f_inFirst, f_over, f_instantsDone, f_hadInstant, f_lastPresent, f_lastAbsent, nI (fx_r rm rc n pr ab).1, nI (fx_r rm rc n pr ab).2, f_startedNow, f_resumedNow, a_stack, a_newKind, a_newMark, a_newP, a_newQ, a_newWithin, a_kind, a_mark, a_partP, a_partQ, a_within, ms, cs, mr, cr)) →
    wX_findStatuses_17 post (n + 1) 1 (nI k) f_height f_made f_size f_on f_inFirst f_over f_instantsDone f_hadInstant f_lastPresent f_lastAbsent (nI pr) (nI ab) f_startedNow f_resumedNow a_stack a_newKind a_newMark a_newP a_newQ a_newWithin a_kind a_mark a_partP a_partQ a_within ms cs mr cr := by
  intro n
  induction n with
  | zero =>
    intro k pr ab ms cs mr cr hnk h1 h2 hpc
    have := fx_pc6 _ (Nat.or_lt_two_pow (n := 6) h1 h2)
    omega
  | succ n ih =>
    intro k pr ab ms cs mr cr hnk h1 h2 hpc hp
    refine br_f (nI_nlt (a := 6) (by omega) (by omega)) (br_f (by decide) ?_)
    refine xl_p hN hs rfl rfl hg (fun ms cs mr cr ht => ?_)
    have hz : nI N - 1 = nI (N - 1) := by
      have := pk_sub (a := N) (b := 1) hN1
      exact this
    have vN : vp_in (nI (N - 1)) 16 := vp_in_nI (by omega) (by omega)
    have cN : (nI (N - 1)).toNatClampNeg = N - 1 := nI_clamp (by omega)
    obtain ⟨t1, t2, t3, t4⟩ := ht (N - 1) (by omega)
    have okm := rt_ok hg hN1 (bt f_on) (ac_L f_on a_within) fi true pr ab
    have okc := rt_ok hg hN1 (bt f_on) (ac_L f_on a_within) fi false pr ab
    have erm : rm pr ab = (rt_v K M P Q N (bt f_on) (ac_L f_on a_within) fi true pr ab).1 := by rw [hrm]; rfl
    have erc : rc pr ab = (rt_v K M P Q N (bt f_on) (ac_L f_on a_within) fi false pr ab).1 := by rw [hrc]; rfl
    have key : wX_findStatuses_89 post (wX_findStatuses_17 post (n + 1)) (nI k) (pv_k (rt_v K M P Q N (bt f_on) (ac_L f_on a_within) fi true pr ab)) (pv_k (rt_v K M P Q N (bt f_on) (ac_L f_on a_within) fi false pr ab)) f_height f_made f_size f_on f_inFirst f_over f_instantsDone f_hadInstant f_lastPresent f_lastAbsent (nI pr) (nI ab) f_startedNow f_resumedNow a_stack a_newKind a_newMark a_newP a_newQ a_newWithin a_kind a_mark a_partP a_partQ a_within ms cs mr cr := by
      refine xf_89 (rm := rm) (rc := rc) h1 h2 okm okc erm erc (fun z => ?_) (fun z => ?_)
      · have hx : fx_r rm rc (n + 1) pr ab = (pr, ab) := by unfold fx_r; rw [if_pos z]
        have hp' := hp ms cs mr cr
        rw [hx] at hp'
        exact br_c (fun _ => hp' ht) (fun _ => br_t rfl (hp' ht))
      · have hx : fx_r rm rc (n + 1) pr ab = fx_r rm rc n (fx_s rm rc pr ab).1 (fx_s rm rc pr ab).2 := by rw [fx_r, if_neg z]
        rw [hx] at hp
        have := fx_gr rm rc h1 h2 z
        exact ih (k + 1) _ _ ms cs mr cr (by omega) (fx_ss rm rc h1 h2).1 (fx_ss rm rc h1 h2).2 (by omega) hp
    unfold rt_v at key
    rw [hs]
    refine nm_r hz ?_
    rw [cN, t1, t3, hfi]
    refine bo_br fi (fun z => ⟨vN, ?_⟩) (fun z => ⟨vN, ?_⟩)
    · unfold wX_findStatuses_63
      rw [cN, t4, t2, z]
      rw [z, if_neg (by decide), if_neg (by decide), hs, hfi, z] at key
      exact br_t rfl ⟨vN, key⟩
    · unfold wX_findStatuses_63
      rw [cN, t4, t2, z]
      rw [z, if_pos rfl, if_pos rfl, hs, hfi, z] at key
      exact br_f (by decide) ⟨vN, key⟩
theorem xf_p {post : SX → Prop} {f_height f_made f_size f_on f_inFirst f_over f_instantsDone f_hadInstant f_lastPresent f_lastAbsent f_present f_absent f_startedNow f_resumedNow : Int32} {a_stack a_newKind a_newMark a_newP a_newQ a_newWithin a_kind a_mark a_partP a_partQ a_within a_mustStarted a_canStarted a_mustResumed a_canResumed : Nat → Int32} {N : Nat} {K M P Q : Nat → Nat} {fi : Bool} {e : Int32} {inp : Nat} (hi : inp < 64) (he : e &&& 63 = nI inp) (hN : N ≤ 16) (hN1 : 1 ≤ N) (hs : f_size = nI N) (hfi : f_inFirst = bo_I fi) (hg : pg_X N K M P Q a_kind a_mark a_partP a_partQ)
    {rm rc : Nat → Nat → Nat} (hrm : rm = rt_m K M P Q N (bt f_on) (ac_L f_on a_within) fi) (hrc : rc = rt_c K M P Q N (bt f_on) (ac_L f_on a_within) fi)
    (hp : ∀ pr ab ms cs mr cr, (pr, ab) = fx_r rm rc 7 inp 0 → tb_X K M P Q pr ab (bt f_on) (ac_L f_on a_within) ms cs mr cr N → post (f_height, f_made, f_size, f_on, f_inFirst, f_over, f_instantsDone, f_hadInstant, f_lastPresent, f_lastAbsent, nI pr, nI ab, f_startedNow, f_resumedNow, a_stack, a_newKind, a_newMark, a_newP, a_newQ, a_newWithin, a_kind, a_mark, a_partP, a_partQ, a_within, ms, cs, mr, cr)) : wpX_findStatuses post (f_height, f_made, f_size, f_on, f_inFirst, f_over, f_instantsDone, f_hadInstant, f_lastPresent, f_lastAbsent, f_present, f_absent, f_startedNow, f_resumedNow, a_stack, a_newKind, a_newMark, a_newP, a_newQ, a_newWithin, a_kind, a_mark, a_partP, a_partQ, a_within, a_mustStarted, a_canStarted, a_mustResumed, a_canResumed) e := by
  refine nm_r he ⟨8, ?_⟩
  exact xf_17 hN hN1 hs hfi hg hrm hrc 7 0 inp 0 _ _ _ _ rfl hi (by decide) (Nat.zero_le _) (fun ms cs mr cr ht => hp _ _ ms cs mr cr rfl ht)
