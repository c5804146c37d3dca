/- must lies within can; the codes' equations; the instant's ghosts -/
def sb_N (a b : Nat) : Prop := ∀ i, a.testBit i = true → b.testBit i = true
theorem sb_a {a b : Nat} : sb_N a b ↔ a &&& b = a := by
  constructor
  · intro h
    apply Nat.eq_of_testBit_eq
    intro i
    rw [Nat.testBit_and]
    cases q : a.testBit i
    · rfl
    · rw [h i q]; rfl
  · intro h i q
    have := congrArg (fun n => n.testBit i) h
    rw [Nat.testBit_and, q] at this
    simpa using this
theorem sb_or {a b c d : Nat} (h : sb_N a c) (k : sb_N b d) : sb_N (a ||| b) (c ||| d) := by
  intro i q
  rw [Nat.testBit_or, Bool.or_eq_true] at q ⊢
  rcases q with q | q
  · exact Or.inl (h i q)
  · exact Or.inr (k i q)
theorem sb_or1 {a c d : Nat} (h : sb_N a c) : sb_N a (c ||| d) := by
  intro i q
  rw [Nat.testBit_or, Bool.or_eq_true]; exact Or.inl (h i q)
theorem sb_0 {a : Nat} : sb_N 0 a := by intro i q; rw [Nat.zero_testBit] at q; cases q
theorem sb_r {a : Nat} : sb_N a a := fun _ q => q
theorem sz_o : ∀ c, c < 32 → ∀ d, d < 32 → c &&& d = c → co_o c &&& co_o d = co_o c := by decide +kernel
theorem sz_t : ∀ c, c < 32 → ∀ d, d < 32 → c &&& d = c → co_t c &&& co_t d = co_t c := by decide +kernel
theorem sz_1 : ∀ c, c < 32 → ∀ d, d < 32 → c &&& d = c → c % 2 = 1 → d % 2 = 1 ∧ (c - 1) &&& (d - 1) = c - 1 := by decide +kernel
theorem sz_2 : ∀ c, c < 32 → ∀ d, d < 32 → c &&& d = c → ¬ c % 2 = 1 → d % 2 = 1 → c &&& (d - 1) = c := by decide +kernel
theorem sz_g : ∀ c, c < 32 → ∀ d, d < 32 → ∀ m, m < 5 → (co_g c d).testBit m = ((c.testBit m && decide (d % 2 ^ (m + 1) ≠ 0)) || (d.testBit m && decide (c % 2 ^ (m + 1) ≠ 0))) := by decide +kernel
theorem sz_m' : ∀ m, m < 5 → ∀ c, c < 32 → ∀ d, d < 32 → c &&& d = c → d % 2 ^ (m + 1) = 0 → c % 2 ^ (m + 1) = 0 := by decide +kernel
theorem sz_m {c d : Nat} (h1 : c < 32) (h2 : d < 32) (h : c &&& d = c) (m : Nat) (hm : m < 5) (h3 : c % 2 ^ (m + 1) ≠ 0) : d % 2 ^ (m + 1) ≠ 0 := fun z => h3 (sz_m' m hm c h1 d h2 h z)
def sb_V (v w : Nat × Nat) : Prop := sb_N v.1 w.1 ∧ sb_N v.2 w.2
theorem sv_o {v w : Nat × Nat} (h1 : vv_ok v) (h2 : vv_ok w) (h : sb_V v w) : sb_V (vo_v v) (vo_v w) := ⟨h.1, sb_a.mpr (sz_o _ h1.2 _ h2.2 (sb_a.mp h.2))⟩
theorem sv_t {v w : Nat × Nat} (h1 : vv_ok v) (h2 : vv_ok w) (h : sb_V v w) : sb_V (vt_r v) (vt_r w) := ⟨h.1, sb_a.mpr (sz_t _ h1.2 _ h2.2 (sb_a.mp h.2))⟩
theorem sv_i {v w v' w' : Nat × Nat} (h1 : vv_ok v) (h2 : vv_ok w) (h : sb_V v w) (h' : sb_V v' w') : sb_V (vi_t v v') (vi_t w w') := by
  have ha := sb_a.mp h.2
  unfold vi_t
  by_cases q : v.2 % 2 = 1
  · obtain ⟨e1, e2⟩ := sz_1 _ h1.2 _ h2.2 ha q
    rw [if_pos q, if_pos e1]
    exact ⟨sb_or h.1 h'.1, sb_or (sb_a.mpr e2) h'.2⟩
  · rw [if_neg q]
    by_cases q2 : w.2 % 2 = 1
    · rw [if_pos q2]
      exact ⟨sb_or1 h.1, sb_or1 (sb_a.mpr (sz_2 _ h1.2 _ h2.2 ha q q2))⟩
    · rw [if_neg q2]; exact h
theorem sv_g {v w v' w' : Nat × Nat} (h1 : vv_ok v) (h2 : vv_ok w) (h3 : vv_ok v') (h4 : vv_ok w') (h : sb_V v w) (h' : sb_V v' w') : sb_V (vg_t v v') (vg_t w w') := by
  refine ⟨sb_or h.1 h'.1, fun m q => ?_⟩
  have ha := sb_a.mp h.2
  have ha' := sb_a.mp h'.2
  unfold vg_t at q ⊢
  dsimp only at q ⊢
  by_cases hm : m < 5
  · rw [sz_g _ h1.2 _ h3.2 m hm] at q
    rw [sz_g _ h2.2 _ h4.2 m hm]
    simp only [Bool.or_eq_true, Bool.and_eq_true, decide_eq_true_eq] at q ⊢
    rcases q with ⟨a, b⟩ | ⟨a, b⟩
    · exact Or.inl ⟨h.2 m a, sz_m h3.2 h4.2 ha' m hm b⟩
    · exact Or.inr ⟨h'.2 m a, sz_m h1.2 h2.2 ha m hm b⟩
  · have l := pz_gok _ h1.2 _ h3.2
    have : (co_g v.2 v'.2).testBit m = false := Nat.testBit_lt_two_pow (Nat.lt_of_lt_of_le l (Nat.pow_le_pow_right (n := 2) (by decide) (show 5 ≤ m by omega)))
    rw [this] at q; cases q
theorem sv_b {m pr ab : Nat} {v w v' w' : Nat × Nat} (h : sb_V v w) (h' : sb_V v' w') : sb_V (vb_r m pr ab true v v') (vb_r m pr ab false w w') := by
  unfold vb_r
  split
  · exact h
  · split
    · exact h'
    · rw [if_pos rfl]; exact ⟨sb_0, sb_0⟩
theorem sv_h {m pr ab : Nat} {v w : Nat × Nat} (h : sb_V v w) : sb_V (vh_b m pr ab true v) (vh_b m pr ab false w) := by
  unfold vh_b
  split
  · exact ⟨sb_r, sb_r⟩
  · split
    · exact h
    · rw [if_pos rfl]; exact ⟨sb_0, sb_0⟩
theorem sv_SS {k m pr ab : Nat} {v w v' w' : Nat × Nat} (o1 : 4 ≤ k → vv_ok v) (o2 : 4 ≤ k → vv_ok w) (o3 : 4 ≤ k → vv_ok v') (o4 : 4 ≤ k → vv_ok w') (h : 4 ≤ k → sb_V v w) (h' : 4 ≤ k → sb_V v' w') : sb_V (sv_S k m pr ab true v v') (sv_S k m pr ab false w w') := by
  have hr : ∀ x : Nat × Nat, sb_V x x := fun x => ⟨sb_r, sb_r⟩
  unfold sv_S
  split
  · exact hr _
  split
  · exact hr _
  split
  · exact hr _
  split
  · exact sv_o (o1 (by omega)) (o2 (by omega)) (h (by omega))
  split
  · exact sv_t (o1 (by omega)) (o2 (by omega)) (h (by omega))
  split
  · exact h (by omega)
  split
  · exact sv_i (o1 (by omega)) (o2 (by omega)) (h (by omega)) (h' (by omega))
  split
  · exact sv_g (o1 (by omega)) (o2 (by omega)) (o3 (by omega)) (o4 (by omega)) (h (by omega)) (h' (by omega))
  split
  · exact sv_b (h (by omega)) (h' (by omega))
  · exact hr _
theorem sv_RR {k m pr ab : Nat} {oi ai aP : Bool} {s1 s2 s3 s4 r1 r2 r3 r4 : Nat × Nat} (o1 : 4 ≤ k → vv_ok s1 ∧ vv_ok s2 ∧ vv_ok s3 ∧ vv_ok s4) (o2 : 4 ≤ k → vv_ok r1 ∧ vv_ok r2 ∧ vv_ok r3 ∧ vv_ok r4) (h1 : 4 ≤ k → sb_V s1 s2) (h2 : 4 ≤ k → sb_V s3 s4) (h3 : 4 ≤ k → sb_V r1 r2) (h4 : 4 ≤ k → sb_V r3 r4) :
    sb_V (sv_R k m pr ab true oi ai aP s1 s3 r1 r3) (sv_R k m pr ab false oi ai aP s2 s4 r2 r4) := by
  have hr : ∀ x : Nat × Nat, sb_V x x := fun x => ⟨sb_r, sb_r⟩
  unfold sv_R
  split
  · exact hr _
  split
  · have a := o1 (by omega); have b := o2 (by omega)
    split
    · exact sv_o a.1 a.2.1 (h1 (by omega))
    · exact sv_o b.1 b.2.1 (h3 (by omega))
  split
  · have b := o2 (by omega)
    exact sv_t b.1 b.2.1 (h3 (by omega))
  split
  · exact sv_h (h3 (by omega))
  split
  · have b := o2 (by omega)
    split
    · exact sv_i b.1 b.2.1 (h3 (by omega)) (h2 (by omega))
    · exact h4 (by omega)
  split
  · have b := o2 (by omega)
    exact sv_g b.1 b.2.1 b.2.2.1 b.2.2.2 (h3 (by omega)) (h4 (by omega))
  split
  · split
    · exact h3 (by omega)
    · exact h4 (by omega)
  · exact hr _
theorem tv_SS {N : Nat} {K M P Q : Nat → Nat} {kX mX pX qX : Nat → Int32} (h : pg_X N K M P Q kX mX pX qX) (pr ab : Nat) : ∀ i, i < N → sb_V (tv_S K M P Q pr ab true i) (tv_S K M P Q pr ab false i) := by
  intro i
  induction i using Nat.strongRecOn with
  | _ i ih =>
    intro hi
    rw [tv_Se (pg_wf h) pr ab true hi, tv_Se (pg_wf h) pr ab false hi]
    have wf := pg_wf h i hi
    have hP : 4 ≤ K i → P i < N := fun h4 => by have := (wf h4).1; omega
    have hQ : 4 ≤ K i → Q i < N := fun h4 => by have := (wf h4).2; omega
    exact sv_SS (fun h4 => tv_Sok h pr ab true _ (hP h4)) (fun h4 => tv_Sok h pr ab false _ (hP h4)) (fun h4 => tv_Sok h pr ab true _ (hQ h4)) (fun h4 => tv_Sok h pr ab false _ (hQ h4)) (fun h4 => ih _ (wf h4).1 (hP h4)) (fun h4 => ih _ (wf h4).2 (hQ h4))
theorem tv_RR {N : Nat} {K M P Q : Nat → Nat} {kX mX pX qX : Nat → Int32} (h : pg_X N K M P Q kX mX pX qX) (pr ab : Nat) (o al : Nat → Bool) : ∀ i, i < N → sb_V (tv_R K M P Q pr ab o al true i) (tv_R K M P Q pr ab o al false i) := by
  intro i
  induction i using Nat.strongRecOn with
  | _ i ih =>
    intro hi
    rw [tv_Re (pg_wf h) pr ab o al true hi, tv_Re (pg_wf h) pr ab o al false hi]
    have wf := pg_wf h i hi
    have hP : 4 ≤ K i → P i < N := fun h4 => by have := (wf h4).1; omega
    have hQ : 4 ≤ K i → Q i < N := fun h4 => by have := (wf h4).2; omega
    exact sv_RR (fun h4 => ⟨tv_Sok h pr ab true _ (hP h4), tv_Sok h pr ab false _ (hP h4), tv_Sok h pr ab true _ (hQ h4), tv_Sok h pr ab false _ (hQ h4)⟩) (fun h4 => ⟨tv_Rok h pr ab o al true _ (hP h4), tv_Rok h pr ab o al false _ (hP h4), tv_Rok h pr ab o al true _ (hQ h4), tv_Rok h pr ab o al false _ (hQ h4)⟩)
      (fun h4 => tv_SS h pr ab _ (hP h4)) (fun h4 => tv_SS h pr ab _ (hQ h4)) (fun h4 => ih _ (wf h4).1 (hP h4)) (fun h4 => ih _ (wf h4).2 (hQ h4))
theorem rt_S {N : Nat} {K M P Q : Nat → Nat} {kX mX pX qX : Nat → Int32} (h : pg_X N K M P Q kX mX pX qX) (hN1 : 1 ≤ N) (o al : Nat → Bool) (fi : Bool) (pr ab : Nat) : sb_N (rt_m K M P Q N o al fi pr ab) (rt_c K M P Q N o al fi pr ab) := by
  unfold rt_m rt_c rt_v
  split
  · exact (tv_SS h pr ab _ (by omega)).1
  · exact (tv_RR h pr ab o al _ (by omega)).1
def dj_N (a b : Nat) : Prop := ∀ i, a.testBit i = true → b.testBit i = true → False
theorem fx_dj {rm rc : Nat → Nat → Nat} (hs : ∀ pr ab, sb_N (rm pr ab) (rc pr ab)) (hc : ∀ pr ab, rc pr ab < 64) : ∀ n pr ab, pr < 64 → ab < 64 → dj_N pr ab → dj_N (fx_r rm rc n pr ab).1 (fx_r rm rc n pr ab).2 := by
  intro n
  induction n with
  | zero => intro pr ab _ _ h; exact h
  | succ n ih =>
    intro pr ab h1 h2 h
    unfold fx_r
    split
    · exact h
    · refine ih _ _ (fx_ss rm rc h1 h2).1 (fx_ss rm rc h1 h2).2 (fun i a b => ?_)
      unfold fx_s at a b
      dsimp only at a b
      rw [Nat.testBit_or, Bool.or_eq_true, Nat.testBit_and, Bool.and_eq_true, fx_ub h1 h2] at a b
      rw [fx_ct (hc pr ab)] at b
      simp only [Bool.and_eq_true, decide_eq_true_eq, Bool.not_eq_true', Bool.or_eq_false_iff] at a b
      rcases a with a | ⟨⟨a0, a1, a2⟩, a3⟩
      · rcases b with b | ⟨⟨b0, b1, b2⟩, b3⟩
        · exact h i a b
        · rw [a] at b1; cases b1
      · rcases b with b | ⟨_, _, b3⟩
        · rw [b] at a2; cases a2
        · have := hs pr ab i a3; rw [this] at b3; cases b3
def is_T (M : Nat → Nat) (pr i : Nat) : Bool := pr.testBit (M i)
/-- all signals known: each is just one of present and absent -/
theorem kn_hs {N pr ab : Nat} {K M P Q : Nat → Nat} {kX mX pX qX : Nat → Int32} (h : pg_X N K M P Q kX mX pX qX) (hd : dj_N pr ab) (hk : (pr ||| ab) = 63) : hs_W N K M (is_T M pr) pr ab := by
  intro i hi hc
  refine ⟨rfl, ?_⟩
  show ab.testBit (M i) = !(pr.testBit (M i))
  have hm : M i < 6 := ((h i hi).2.2.1.1 (by omega)).2
  have : (pr ||| ab).testBit (M i) = true := by
    rw [hk]; exact (by decide : ∀ m, m < 6 → (63 : Nat).testBit m = true) _ hm
  rw [Nat.testBit_or] at this
  cases q : pr.testBit (M i)
  · rw [q, Bool.false_or] at this; exact this
  · cases q2 : ab.testBit (M i)
    · rfl
    · exact absurd q2 (fun q2 => hd _ q q2)
theorem kn_ce {N pr ab : Nat} {K M P Q : Nat → Nat} {kX mX pX qX : Nat → Int32} (h : pg_X N K M P Q kX mX pX qX) (o al : Nat → Bool) (hs : hs_W N K M (is_T M pr) pr ab) : ce_W N K M P Q o al (is_T M pr) (eS_T K M P Q pr ab) (eR_T K M P Q pr ab o al) := by
  intro i hi
  have eS : eS_T K M P Q pr ab i = (sv_S (K i) (M i) pr ab true (tv_S K M P Q pr ab true (P i)) (tv_S K M P Q pr ab true (Q i))).2 := by
    unfold eS_T; rw [tv_Se (pg_wf h) pr ab true hi]
  have eR : eR_T K M P Q pr ab o al i = (sv_R (K i) (M i) pr ab true (o i) (al i) (al (P i)) (tv_S K M P Q pr ab true (P i)) (tv_S K M P Q pr ab true (Q i)) (tv_R K M P Q pr ab o al true (P i)) (tv_R K M P Q pr ab o al true (Q i))).2 := by
    unfold eR_T; rw [tv_Re (pg_wf h) pr ab o al true hi]
  rw [eS, eR]
  unfold eS_T eR_T is_T
  refine ⟨fun z => ?_, fun z => ?_, fun z => ?_, fun z => ?_, fun z => ?_, fun z => ?_, fun z => ?_, fun z => ?_, fun z => ?_, fun z => ?_, fun z => ⟨fun k => ?_, fun k => ?_, fun k => ?_, fun k => ?_, fun k => ?_, fun k => ?_, fun k => ?_⟩⟩
  · rcases z with z | z <;> rw [z] <;> rfl
  · rw [z]; rfl
  · rw [z]; rfl
  · rw [z]; rfl
  · rw [z]; rfl
  · rw [z]; rfl
  · rw [z]
    show (vi_t _ _).2 = _
    unfold vi_t co_i; split <;> rfl
  · rw [z]; rfl
  · rw [z]
    show (vb_r _ _ _ _ _ _).2 = _
    have hx : ab.testBit (M i) = !(pr.testBit (M i)) := (hs i hi (Or.inr z)).2
    unfold vb_r
    cases q : pr.testBit (M i)
    · rw [q] at hx
      rw [hx]; rfl
    · rfl
  · rw [z]; rfl
  · rw [z]
    unfold sv_R
    rw [if_neg (by decide), if_neg (by omega), if_neg (by omega), if_neg (by omega), if_neg (by omega), if_neg (by omega), if_neg (by omega)]
  · rw [z, k]
    show (if o i = true then vo_v _ else vo_v _).2 = _
    split <;> rfl
  · rw [z, k]; rfl
  · rw [z, k]
    show (vh_b _ _ _ _ _).2 = _
    have hx : ab.testBit (M i) = !(pr.testBit (M i)) := (hs i hi (Or.inl k)).2
    unfold vh_b
    cases q : pr.testBit (M i)
    · rw [q] at hx
      rw [hx]; rfl
    · rfl
  · rw [z, k]
    show (if al (P i) = true then vi_t _ _ else _).2 = _
    split
    · unfold vi_t co_i; split <;> rfl
    · rfl
  · rw [z, k]; rfl
  · rw [z, k]
    show (if al (P i) = true then tv_R K M P Q pr ab o al true (P i) else tv_R K M P Q pr ab o al true (Q i)).2 = _
    split <;> rfl
