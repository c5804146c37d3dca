/- tables built upward -/
def up_T {α : Type} (G : Nat → (Nat → α) → α) (a0 : α) : Nat → Nat → α
  | 0, _ => a0
  | n + 1, i => G i (up_T G a0 n)
theorem up_e {α : Type} {G : Nat → (Nat → α) → α} {a0 : α} {N : Nat} (hG : ∀ i, i < N → ∀ v v' : Nat → α, (∀ j, j < i → v j = v' j) → G i v = G i v') :
    ∀ i, i < N → ∀ n, i ≤ n → up_T G a0 (n + 1) i = G i (fun j => up_T G a0 (j + 1) j) := by
  intro i
  induction i using Nat.strongRecOn with
  | _ i ih =>
    intro hi n hn
    show G i (up_T G a0 n) = _
    refine hG i hi _ _ (fun j hj => ?_)
    cases n with
    | zero => omega
    | succ n =>
      rw [ih j hj (by omega) n (by omega), ih j hj (by omega) j (by omega)]
theorem sv_Sc {k m pr ab : Nat} {mu : Bool} {p q p' q' : Nat × Nat} (h : 4 ≤ k → p = p' ∧ q = q') : sv_S k m pr ab mu p q = sv_S k m pr ab mu p' q' := by
  by_cases h4 : 4 ≤ k
  · rw [(h h4).1, (h h4).2]
  · unfold sv_S
    rw [if_neg (show ¬ k = 4 by omega), if_neg (show ¬ k = 5 by omega), if_neg (show ¬ k = 6 by omega), if_neg (show ¬ k = 7 by omega), if_neg (show ¬ k = 8 by omega), if_neg (show ¬ k = 9 by omega),
      if_neg (show ¬ k = 4 by omega), if_neg (show ¬ k = 5 by omega), if_neg (show ¬ k = 6 by omega), if_neg (show ¬ k = 7 by omega), if_neg (show ¬ k = 8 by omega), if_neg (show ¬ k = 9 by omega)]
theorem sv_Rc {k m pr ab : Nat} {mu oi ai aP : Bool} {sp sq rp rq rp' rq' : Nat × Nat} (h : 4 ≤ k → rp = rp' ∧ rq = rq') : sv_R k m pr ab mu oi ai aP sp sq rp rq = sv_R k m pr ab mu oi ai aP sp sq rp' rq' := by
  by_cases h4 : 4 ≤ k
  · rw [(h h4).1, (h h4).2]
  · unfold sv_R
    rw [if_neg (show ¬ k = 4 by omega), if_neg (show ¬ k = 5 by omega), if_neg (show ¬ k = 6 by omega), if_neg (show ¬ k = 7 by omega), if_neg (show ¬ k = 8 by omega), if_neg (show ¬ k = 9 by omega),
      if_neg (show ¬ k = 4 by omega), if_neg (show ¬ k = 5 by omega), if_neg (show ¬ k = 6 by omega), if_neg (show ¬ k = 7 by omega), if_neg (show ¬ k = 8 by omega), if_neg (show ¬ k = 9 by omega)]
/-- parts stand before the whole -/
def wf_P (N : Nat) (K P Q : Nat → Nat) : Prop := ∀ i, i < N → 4 ≤ K i → P i < i ∧ Q i < i
def tv_S (K M P Q : Nat → Nat) (pr ab : Nat) (mu : Bool) (i : Nat) : Nat × Nat :=
  up_T (fun i v => sv_S (K i) (M i) pr ab mu (v (P i)) (v (Q i))) (0, 1) (i + 1) i
def tv_R (K M P Q : Nat → Nat) (pr ab : Nat) (o al : Nat → Bool) (mu : Bool) (i : Nat) : Nat × Nat :=
  up_T (fun i v => sv_R (K i) (M i) pr ab mu (o i) (al i) (al (P i)) (tv_S K M P Q pr ab mu (P i)) (tv_S K M P Q pr ab mu (Q i)) (v (P i)) (v (Q i))) (0, 1) (i + 1) i
theorem tv_Se {N : Nat} {K M P Q : Nat → Nat} (wf : wf_P N K P Q) (pr ab : Nat) (mu : Bool) {i : Nat} (hi : i < N) :
    tv_S K M P Q pr ab mu i = sv_S (K i) (M i) pr ab mu (tv_S K M P Q pr ab mu (P i)) (tv_S K M P Q pr ab mu (Q i)) := by
  exact up_e (N := N) (G := fun i v => sv_S (K i) (M i) pr ab mu (v (P i)) (v (Q i))) (fun i hi v v' h => sv_Sc (fun h4 => ⟨h _ (wf i hi h4).1, h _ (wf i hi h4).2⟩)) i hi i (by omega)
theorem tv_Re {N : Nat} {K M P Q : Nat → Nat} (wf : wf_P N K P Q) (pr ab : Nat) (o al : Nat → Bool) (mu : Bool) {i : Nat} (hi : i < N) :
    tv_R K M P Q pr ab o al mu i = sv_R (K i) (M i) pr ab mu (o i) (al i) (al (P i)) (tv_S K M P Q pr ab mu (P i)) (tv_S K M P Q pr ab mu (Q i)) (tv_R K M P Q pr ab o al mu (P i)) (tv_R K M P Q pr ab o al mu (Q i)) := by
  exact up_e (N := N) (G := fun i v => sv_R (K i) (M i) pr ab mu (o i) (al i) (al (P i)) (tv_S K M P Q pr ab mu (P i)) (tv_S K M P Q pr ab mu (Q i)) (v (P i)) (v (Q i))) (fun i hi v v' h => sv_Rc (fun h4 => ⟨h _ (wf i hi h4).1, h _ (wf i hi h4).2⟩)) i hi i (by omega)
/-- the program as X holds it -/
def pg_X (N : Nat) (K M P Q : Nat → Nat) (kX mX pX qX : Nat → Int32) : Prop :=
  ∀ i, i < N → kX i = nI (K i) ∧ K i ≤ 9 ∧ mk_W (K i) (M i) (mX i) ∧ pX i = nI (P i) ∧ qX i = nI (Q i) ∧ P i < 16 ∧ Q i < 16 ∧ (4 ≤ K i → P i < i ∧ Q i < i)
theorem pg_wf {N : Nat} {K M P Q : Nat → Nat} {kX mX pX qX : Nat → Int32} (h : pg_X N K M P Q kX mX pX qX) : wf_P N K P Q := fun i hi => (h i hi).2.2.2.2.2.2.2
theorem tv_Sok {N : Nat} {K M P Q : Nat → Nat} {kX mX pX qX : Nat → Int32} (h : pg_X N K M P Q kX mX pX qX) (pr ab : Nat) (mu : Bool) : ∀ i, i < N → vv_ok (tv_S K M P Q pr ab mu i) := by
  intro i
  induction i using Nat.strongRecOn with
  | _ i ih =>
    intro hi
    rw [tv_Se (pg_wf h) pr ab mu hi]
    exact sv_Sok (h i hi).2.2.1 (fun h4 => ih _ (pg_wf h i hi h4).1 (by have := (pg_wf h i hi h4).1; omega)) (fun h4 => ih _ (pg_wf h i hi h4).2 (by have := (pg_wf h i hi h4).2; omega))
theorem tv_Rok {N : Nat} {K M P Q : Nat → Nat} {kX mX pX qX : Nat → Int32} (h : pg_X N K M P Q kX mX pX qX) (pr ab : Nat) (o al : Nat → Bool) (mu : Bool) : ∀ i, i < N → vv_ok (tv_R K M P Q pr ab o al mu i) := by
  intro i
  induction i using Nat.strongRecOn with
  | _ i ih =>
    intro hi
    rw [tv_Re (pg_wf h) pr ab o al mu hi]
    have hP : 4 ≤ K i → P i < N := fun h4 => by have := (pg_wf h i hi h4).1; omega
    have hQ : 4 ≤ K i → Q i < N := fun h4 => by have := (pg_wf h i hi h4).2; omega
    exact sv_Rok (fun h4 => tv_Sok h pr ab mu _ (hP h4)) (fun h4 => tv_Sok h pr ab mu _ (hQ h4)) (fun h4 => ih _ (pg_wf h i hi h4).1 (hP h4)) (fun h4 => ih _ (pg_wf h i hi h4).2 (hQ h4))
/-- X's four tables below i -/
def tb_X (K M P Q : Nat → Nat) (pr ab : Nat) (o al : Nat → Bool) (ms cs mr cr : Nat → Int32) (i : Nat) : Prop :=
  ∀ j, j < i → ms j = pv_k (tv_S K M P Q pr ab true j) ∧ cs j = pv_k (tv_S K M P Q pr ab false j) ∧ mr j = pv_k (tv_R K M P Q pr ab o al true j) ∧ cr j = pv_k (tv_R K M P Q pr ab o al false j)
theorem xl_2 {post : SX → Prop} {f_height f_made f_size f_on f_inFirst f_over f_instantsDone f_hadInstant f_lastPresent f_lastAbsent f_present f_absent f_startedNow f_resumedNow : Int32} {a_stack a_newKind a_newMark a_newP a_newQ a_newWithin a_kind a_mark a_partP a_partQ a_within : Nat → Int32} {N pr ab : Nat} {K M P Q : Nat → Nat} (hN : N ≤ 16) (hs : f_size = nI N) (hpr : f_present = nI pr) (hab : f_absent = nI ab) (hg : pg_X N K M P Q a_kind a_mark a_partP a_partQ)
    (hp : ∀ ms cs mr cr, tb_X K M P Q pr ab (bt f_on) (ac_L f_on a_within) ms cs mr cr N → post (f_height, f_made, f_size, f_on, f_inFirst, f_over, f_instantsDone, f_hadInstant, f_lastPresent, f_lastAbsent, f_present, f_absent, f_startedNow, f_resumedNow, a_stack, a_newKind, a_newMark, a_newP, a_newQ, a_newWithin, a_kind, a_mark, a_partP, a_partQ, a_within, ms, cs, mr, cr)) :
    ∀ d i ms cs mr cr, i + d = N → tb_X K M P Q pr ab (bt f_on) (ac_L f_on a_within) ms cs mr cr i → wX_lookAtProgram_2 post f_height f_made f_size f_on f_inFirst f_over f_instantsDone f_hadInstant f_lastPresent f_lastAbsent f_present f_absent f_startedNow f_resumedNow (d + 1) (nI i) a_stack a_newKind a_newMark a_newP a_newQ a_newWithin a_kind a_mark a_partP a_partQ a_within ms cs mr cr := by
  intro d
  induction d with
  | zero =>
    intro i ms cs mr cr hi ht
    refine br_t ?_ (hp ms cs mr cr ((show i = N by omega) ▸ ht))
    rw [hs]; exact nI_le (by omega) (by omega)
  | succ d ih =>
    intro i ms cs mr cr hi ht
    have hiN : i < N := by omega
    have hc : (nI i).toNatClampNeg = i := nI_clamp (by omega)
    have vi : vp_in (nI i) 16 := vp_in_nI (by omega) (by omega)
    obtain ⟨g1, g2, g3, g4, g5, g6, g7, g8⟩ := hg i hiN
    refine br_f ?_ ?_
    · rw [hs]; exact nI_ge (by omega) (by omega)
    have okS := fun mu => tv_Sok hg pr ab mu
    have okR := fun mu => tv_Rok hg pr ab (bt f_on) (ac_L f_on a_within) mu
    have hP : 4 ≤ K i → P i < N := fun h4 => by have := (g8 h4).1; omega
    have hQ : 4 ≤ K i → Q i < N := fun h4 => by have := (g8 h4).2; omega
    have nP : 4 ≤ K i → P i ≠ i := fun h4 => by have := (g8 h4).1; omega
    have nQ : 4 ≤ K i → Q i ≠ i := fun h4 => by have := (g8 h4).2; omega
    refine xs_S_mustStarted (mu := true) (vp := tv_S K M P Q pr ab true (P i)) (vq := tv_S K M P Q pr ab true (Q i)) rfl (by omega) hpr hab g1 g2 g3 g4 g5 g6 g7 (fun h4 => ⟨(ht _ (g8 h4).1).1, okS true _ (hP h4)⟩) (fun h4 => ⟨(ht _ (g8 h4).2).1, okS true _ (hQ h4)⟩) ?_
    rw [← tv_Se (pg_wf hg) pr ab true hiN, hc]
    refine ⟨vi, nm_e ?_⟩
    refine xs_S_canStarted (mu := false) (vp := tv_S K M P Q pr ab false (P i)) (vq := tv_S K M P Q pr ab false (Q i)) rfl (by omega) hpr hab g1 g2 g3 g4 g5 g6 g7 (fun h4 => ⟨(ht _ (g8 h4).1).2.1, okS false _ (hP h4)⟩) (fun h4 => ⟨(ht _ (g8 h4).2).2.1, okS false _ (hQ h4)⟩) ?_
    rw [← tv_Se (pg_wf hg) pr ab false hiN]
    refine ⟨vi, nm_e ?_⟩
    refine xs_R_mustResumed (mu := true) (sp := tv_S K M P Q pr ab true (P i)) (sq := tv_S K M P Q pr ab true (Q i)) (rp := tv_R K M P Q pr ab (bt f_on) (ac_L f_on a_within) true (P i)) (rq := tv_R K M P Q pr ab (bt f_on) (ac_L f_on a_within) true (Q i)) rfl (by omega) hpr hab g1 g2 g3 g4 g5 g6 g7
      (fun h4 => ⟨(pk_un (nP h4)).trans (ht _ (g8 h4).1).1, okS true _ (hP h4)⟩) (fun h4 => ⟨(pk_un (nQ h4)).trans (ht _ (g8 h4).2).1, okS true _ (hQ h4)⟩) (fun h4 => ⟨(ht _ (g8 h4).1).2.2.1, okR true _ (hP h4)⟩) (fun h4 => ⟨(ht _ (g8 h4).2).2.2.1, okR true _ (hQ h4)⟩) ?_
    rw [← tv_Re (pg_wf hg) pr ab (bt f_on) (ac_L f_on a_within) true hiN]
    refine ⟨vi, nm_e ?_⟩
    refine xs_R_canResumed (mu := false) (sp := tv_S K M P Q pr ab false (P i)) (sq := tv_S K M P Q pr ab false (Q i)) (rp := tv_R K M P Q pr ab (bt f_on) (ac_L f_on a_within) false (P i)) (rq := tv_R K M P Q pr ab (bt f_on) (ac_L f_on a_within) false (Q i)) rfl (by omega) hpr hab g1 g2 g3 g4 g5 g6 g7
      (fun h4 => ⟨(pk_un (nP h4)).trans (ht _ (g8 h4).1).2.1, okS false _ (hP h4)⟩) (fun h4 => ⟨(pk_un (nQ h4)).trans (ht _ (g8 h4).2).2.1, okS false _ (hQ h4)⟩) (fun h4 => ⟨(ht _ (g8 h4).1).2.2.2, okR false _ (hP h4)⟩) (fun h4 => ⟨(ht _ (g8 h4).2).2.2.2, okR false _ (hQ h4)⟩) ?_
    rw [← tv_Re (pg_wf hg) pr ab (bt f_on) (ac_L f_on a_within) false hiN]
    refine ⟨vi, nm_e (nm_r (nI_1 i) ?_)⟩
    refine ih (i + 1) _ _ _ _ (by omega) (lt_s (fun j hj => ?_) ?_)
    · have hne : j ≠ i := by omega
      rw [pk_un hne, pk_un hne, pk_un hne, pk_un hne]; exact ht j hj
    · rw [pk_us, pk_us, pk_us, pk_us]; exact ⟨rfl, rfl, rfl, rfl⟩
theorem xl_p {post : SX → Prop} {f_height f_made f_size f_on f_inFirst f_over f_instantsDone f_hadInstant f_lastPresent f_lastAbsent f_present f_absent f_startedNow f_resumedNow : Int32} {a_stack a_newKind a_newMark a_newP a_newQ a_newWithin a_kind a_mark a_partP a_partQ a_within a_mustStarted a_canStarted a_mustResumed a_canResumed : Nat → Int32} {N pr ab : Nat} {K M P Q : Nat → Nat} (hN : N ≤ 16) (hs : f_size = nI N) (hpr : f_present = nI pr) (hab : f_absent = nI ab) (hg : pg_X N K M P Q a_kind a_mark a_partP a_partQ)
    (hp : ∀ ms cs mr cr, tb_X K M P Q pr ab (bt f_on) (ac_L f_on a_within) ms cs mr cr N → post (f_height, f_made, f_size, f_on, f_inFirst, f_over, f_instantsDone, f_hadInstant, f_lastPresent, f_lastAbsent, f_present, f_absent, f_startedNow, f_resumedNow, a_stack, a_newKind, a_newMark, a_newP, a_newQ, a_newWithin, a_kind, a_mark, a_partP, a_partQ, a_within, ms, cs, mr, cr)) : wpX_lookAtProgram post (f_height, f_made, f_size, f_on, f_inFirst, f_over, f_instantsDone, f_hadInstant, f_lastPresent, f_lastAbsent, f_present, f_absent, f_startedNow, f_resumedNow, a_stack, a_newKind, a_newMark, a_newP, a_newQ, a_newWithin, a_kind, a_mark, a_partP, a_partQ, a_within, a_mustStarted, a_canStarted, a_mustResumed, a_canResumed) :=
  ⟨N + 1, xl_2 hN hs hpr hab hg hp N 0 _ _ _ _ (by omega) (fun j hj => absurd hj (by omega))⟩
