/- Y's quadruples against the pure values -/
def de_I (c : Nat) : Int32 := if c = 0 then -1 else if c = 1 then 0 else if c = 2 then 1 else if c = 4 then 2 else if c = 8 then 3 else 4
def mv_C (c : Nat) : Prop := c = 0 ∨ c = 1 ∨ c = 2 ∨ c = 4 ∨ c = 8 ∨ c = 16
def yq_R (x : Int32 × Int32 × Int32 × Int32) (v w : Nat × Nat) : Prop := x = (nI v.1, nI w.1, de_I v.2, nI w.2) ∧ vv_ok v ∧ vv_ok w ∧ mv_C v.2
theorem yz_o1 {c : Nat} (h : mv_C c) : (if de_I c = 0 then 1 else de_I c) = de_I (co_o c) ∧ mv_C (co_o c) := by
  unfold mv_C
  rcases h with rfl | rfl | rfl | rfl | rfl | rfl <;> decide
theorem yz_o2 : ∀ c, c < 32 → (if (nI c &&& 1) = 1 then (nI c &&& (-2)) ||| 2 else nI c) = nI (co_o c) := by decide +kernel
theorem yz_t1 {c : Nat} (h : mv_C c) : (if de_I c = 2 then 0 else if de_I c ≤ 2 then de_I c else de_I c - 1) = de_I (co_t c) ∧ mv_C (co_t c) := by
  unfold mv_C
  rcases h with rfl | rfl | rfl | rfl | rfl | rfl <;> decide
theorem yz_t2 : ∀ c, c < 32 → (if (nI c &&& 4) = 0 then (nI c &&& 3) ||| ((nI c >>> ((1 : Int32) &&& 31)) &&& 12) else ((nI c &&& 3) ||| ((nI c >>> ((1 : Int32) &&& 31)) &&& 12)) ||| 1) = nI (co_t c) := by decide +kernel
theorem yz_01 {c : Nat} (h : mv_C c) : de_I c = 0 ↔ c % 2 = 1 := by
  rcases h with rfl | rfl | rfl | rfl | rfl | rfl <;> decide
theorem yz_1m {c : Nat} (h : mv_C c) (z : c % 2 = 1) : c = 1 := by
  rcases h with rfl | rfl | rfl | rfl | rfl | rfl <;> first | rfl | (exfalso; omega)
theorem yz_b1 : ∀ c, c < 32 → ((nI c &&& 1) = 1 ↔ c % 2 = 1) := by decide +kernel
theorem yz_m2 : ∀ c, c < 32 → c % 2 = 1 → (nI c &&& (-2)) = nI (c - 1) := by decide +kernel
theorem yz_g1 {c d : Nat} (h : mv_C c) (k : mv_C d) : qu_end (de_I c) (de_I d) = de_I (co_g c d) ∧ mv_C (co_g c d) := by
  unfold mv_C
  rcases h with rfl | rfl | rfl | rfl | rfl | rfl <;> rcases k with rfl | rfl | rfl | rfl | rfl | rfl <;> decide
theorem yz_g2 : ∀ c, c < 32 → ∀ d, d < 32 → gr_a (bt (nI c)) (bt (nI d)) 5 0 = nI (co_g c d) := by decide +kernel
theorem yz_em : ∀ m, m < 6 → ((1 : Int32) <<< (nI m &&& 31)) = nI (2 ^ m) := by decide +kernel
theorem yz_ex : ∀ m, m < 3 → nI m + 2 = de_I (4 * 2 ^ m) ∧ ((4 : Int32) <<< (nI m &&& 31)) = nI (4 * 2 ^ m) := by decide +kernel
theorem yz_exm : ∀ m, m < 3 → (4 * 2 ^ m = 0 ∨ 4 * 2 ^ m = 1 ∨ 4 * 2 ^ m = 2 ∨ 4 * 2 ^ m = 4 ∨ 4 * 2 ^ m = 8 ∨ 4 * 2 ^ m = 16) := by decide +kernel
theorem yq_o {x : Int32 × Int32 × Int32 × Int32} {v w : Nat × Nat} (h : yq_R x v w) : yq_R (qu_again x) (vo_v v) (vo_v w) := by
  obtain ⟨rfl, hv, hw, hm⟩ := h
  refine ⟨?_, vo_ok hv, vo_ok hw, (yz_o1 hm).2⟩
  unfold qu_again
  dsimp only
  rw [(yz_o1 hm).1, yz_o2 _ hw.2]; rfl
theorem yq_t {x : Int32 × Int32 × Int32 × Int32} {v w : Nat × Nat} (h : yq_R x v w) : yq_R (qu_trap x) (vt_r v) (vt_r w) := by
  obtain ⟨rfl, hv, hw, hm⟩ := h
  refine ⟨?_, vt_ok hv, vt_ok hw, (yz_t1 hm).2⟩
  unfold qu_trap
  dsimp only
  rw [(yz_t1 hm).1, yz_t2 _ hw.2]; rfl
theorem yq_i {x y : Int32 × Int32 × Int32 × Int32} {v w v' w' : Nat × Nat} (h : yq_R x v w) (k : yq_R y v' w') : yq_R (qu_follow x y) (vi_t v v') (vi_t w w') := by
  obtain ⟨rfl, hv, hw, hm⟩ := h
  obtain ⟨rfl, hv', hw', hm'⟩ := k
  have ok1 := vi_ok hv hv'
  have ok2 := vi_ok hw hw'
  unfold qu_follow
  dsimp only
  refine ⟨?_, ok1, ok2, ?_⟩
  · unfold vi_t
    by_cases a : v.2 % 2 = 1
    · have a1 := yz_1m hm a
      have a2 := (yz_01 hm).mpr a
      rw [if_pos a2, if_pos a2, if_pos a]
      by_cases b : w.2 % 2 = 1
      · have b2 := (yz_b1 _ hw.2).mpr b
        rw [if_pos b2, if_pos b2, if_pos b, bz_or, bz_or, yz_m2 _ hw.2 b, bz_or, a1]
        simp
      · have b2 := fun z => b ((yz_b1 _ hw.2).mp z)
        rw [if_neg b2, if_neg b2, if_neg b, bz_or, a1]
        simp
    · have a2 := fun z => a ((yz_01 hm).mp z)
      rw [if_neg a2, if_neg a2, if_neg a]
      by_cases b : w.2 % 2 = 1
      · have b2 := (yz_b1 _ hw.2).mpr b
        rw [if_pos b2, if_pos b2, if_pos b, bz_or, yz_m2 _ hw.2 b, bz_or]
      · have b2 := fun z => b ((yz_b1 _ hw.2).mp z)
        rw [if_neg b2, if_neg b2, if_neg b]
  · unfold vi_t
    by_cases a : v.2 % 2 = 1
    · have a1 := yz_1m hm a
      rw [if_pos a, a1]
      show mv_C ((1 - 1) ||| v'.2)
      simpa using hm'
    · rw [if_neg a]; exact hm
theorem yq_g {x y : Int32 × Int32 × Int32 × Int32} {v w v' w' : Nat × Nat} (h : yq_R x v w) (k : yq_R y v' w') : yq_R (qu_beside x y) (vg_t v v') (vg_t w w') := by
  obtain ⟨rfl, hv, hw, hm⟩ := h
  obtain ⟨rfl, hv', hw', hm'⟩ := k
  refine ⟨?_, vg_ok hv hv', vg_ok hw hw', (yz_g1 hm hm').2⟩
  unfold qu_beside
  dsimp only
  rw [(yz_g1 hm hm').1, yz_g2 _ hw.2 _ hw'.2, bz_or, bz_or]; rfl
theorem yq_00 {w : Nat × Nat} (hw : vv_ok w) : yq_R (0, nI w.1, -1, nI w.2) (0, 0) w := ⟨rfl, ⟨by decide, by decide⟩, hw, Or.inl rfl⟩
theorem yq_b {x y : Int32 × Int32 × Int32 × Int32} {v w v' w' : Nat × Nat} {m pr ab : Nat} (hm : m < 6) (h : yq_R x v w) (k : yq_R y v' w') : yq_R (qu_either m (nI pr) (nI ab) x y) (vb_r m pr ab true v v') (vb_r m pr ab false w w') := by
  unfold qu_either vb_r
  rw [bz_nI (show m < 32 by omega), bz_nI (show m < 32 by omega)]
  by_cases a : pr.testBit m = true
  · rw [if_pos a, if_pos a, if_pos a]; exact h
  · rw [if_neg a, if_neg a, if_neg a]
    by_cases b : ab.testBit m = true
    · rw [if_pos b, if_pos b, if_pos b]; exact k
    · rw [if_neg b, if_neg b, if_neg b, if_pos rfl, if_neg (by decide)]
      obtain ⟨rfl, hv, hw, hm⟩ := h
      obtain ⟨rfl, hv', hw', hm'⟩ := k
      dsimp only
      rw [bz_or, bz_or]
      exact yq_00 (vv_or hw hw')
theorem yq_h {x : Int32 × Int32 × Int32 × Int32} {v w : Nat × Nat} {m pr ab : Nat} (hm : m < 6) (h : yq_R x v w) : yq_R (qu_susp m (nI pr) (nI ab) x) (vh_b m pr ab true v) (vh_b m pr ab false w) := by
  unfold qu_susp vh_b
  rw [bz_nI (show m < 32 by omega), bz_nI (show m < 32 by omega)]
  by_cases a : pr.testBit m = true
  · rw [if_pos a, if_pos a, if_pos a]; exact ⟨rfl, ⟨by decide, by decide⟩, ⟨by decide, by decide⟩, Or.inr (Or.inr (Or.inl rfl))⟩
  · rw [if_neg a, if_neg a, if_neg a]
    by_cases b : ab.testBit m = true
    · rw [if_pos b, if_pos b, if_pos b]; exact h
    · rw [if_neg b, if_neg b, if_neg b, if_pos rfl, if_neg (by decide)]
      obtain ⟨rfl, hv, hw, hm⟩ := h
      have := yq_00 (w := (w.1, w.2 ||| 2)) ⟨hw.1, Nat.or_lt_two_pow (n := 5) hw.2 (by decide)⟩
      rw [← bz_or] at this
      exact this
theorem yq_D : yq_R qu_D (0, 1) (0, 1) := ⟨rfl, ⟨by decide, by decide⟩, ⟨by decide, by decide⟩, Or.inr (Or.inl rfl)⟩
theorem yq_P : yq_R (0, 0, 1, 2) (0, 2) (0, 2) := ⟨rfl, ⟨by decide, by decide⟩, ⟨by decide, by decide⟩, Or.inr (Or.inr (Or.inl rfl))⟩
theorem yq_S {k m pr ab : Nat} {mk : Int32} {x y : Int32 × Int32 × Int32 × Int32} {v w v' w' : Nat × Nat} (k9 : k ≤ 9) (hm : mk_W k m mk) (h : 4 ≤ k → yq_R x v w) (h' : 4 ≤ k → yq_R y v' w') : yq_R (qu_S k m mk (nI pr) (nI ab) x y) (sv_S k m pr ab true v v') (sv_S k m pr ab false w w') := by
  by_cases h4 : 4 ≤ k
  · have h := h h4
    have h' := h' h4
    unfold qu_S sv_S
    rw [if_neg (show ¬ k = 0 by omega), if_neg (show ¬ k = 1 by omega), if_neg (show ¬ k = 2 by omega), if_neg (show ¬ k = 3 by omega), if_neg (show ¬ k = 1 by omega), if_neg (show ¬ k = 2 by omega), if_neg (show ¬ k = 3 by omega), if_neg (show ¬ k = 1 by omega), if_neg (show ¬ k = 2 by omega), if_neg (show ¬ k = 3 by omega)]
    by_cases z4 : k = 4
    · rw [if_pos z4, if_pos z4, if_pos z4]; exact yq_o h
    rw [if_neg z4, if_neg z4, if_neg z4]
    by_cases z5 : k = 5
    · rw [if_pos z5, if_pos z5, if_pos z5]; exact yq_t h
    rw [if_neg z5, if_neg z5, if_neg z5]
    by_cases z6 : k = 6
    · rw [if_pos z6, if_pos z6, if_pos z6]; exact h
    rw [if_neg z6, if_neg z6, if_neg z6]
    by_cases z7 : k = 7
    · rw [if_pos z7, if_pos z7, if_pos z7]; exact yq_i h h'
    rw [if_neg z7, if_neg z7, if_neg z7]
    by_cases z8 : k = 8
    · rw [if_pos z8, if_pos z8, if_pos z8]; exact yq_g h h'
    have z9 : k = 9 := by omega
    rw [if_neg z8, if_neg z8, if_neg z8, if_pos z9, if_pos z9]
    exact yq_b (hm.1 (Or.inr (Or.inr z9))).2 h h'
  · have : k = 0 ∨ k = 1 ∨ k = 2 ∨ k = 3 := by omega
    rcases this with z | z | z | z
    · subst z; exact yq_D
    · subst z; exact yq_P
    · subst z
      obtain ⟨e, m6⟩ := hm.1 (Or.inl rfl)
      subst e
      have : vv_ok (2 ^ m, 1) := ⟨(by decide : ∀ m, m < 6 → 2 ^ m < 64) m m6, (by decide : 1 < 32)⟩
      refine ⟨?_, this, this, Or.inr (Or.inl rfl)⟩
      show (((1 : Int32) <<< (nI m &&& 31)), ((1 : Int32) <<< (nI m &&& 31)), (0 : Int32), (1 : Int32)) = _
      rw [yz_em m m6]; rfl
    · subst z
      obtain ⟨e, m3⟩ := hm.2 rfl
      subst e
      have : vv_ok (0, 4 * 2 ^ m) := ⟨(by decide : 0 < 64), (by decide : ∀ m, m < 3 → 4 * 2 ^ m < 32) m m3⟩
      refine ⟨?_, this, this, yz_exm m m3⟩
      show ((0 : Int32), (0 : Int32), nI m + 2, ((4 : Int32) <<< (nI m &&& 31))) = _
      rw [(yz_ex m m3).1, (yz_ex m m3).2]; rfl
theorem yq_Re {k m pr ab : Nat} {mk : Int32} {oi aP aQ : Bool} {xs ys xr yr : Int32 × Int32 × Int32 × Int32} {sp sp' sq sq' rp rp' rq rq' : Nat × Nat} (k9 : k ≤ 9) (hm : mk_W k m mk)
    (hsp : 4 ≤ k → yq_R xs sp sp') (hsq : 4 ≤ k → yq_R ys sq sq') (hrp : 4 ≤ k → aP = true → yq_R xr rp rp') (hrq : 7 ≤ k → aQ = true → yq_R yr rq rq')
    (zrp : 4 ≤ k → aP = false → rp = (0, 1) ∧ rp' = (0, 1)) (zrq : 7 ≤ k → aQ = false → rq = (0, 1) ∧ rq' = (0, 1))
    (h4 : k = 4 → oi = false → aP = true) (h5 : k = 5 ∨ k = 6 → aP = true) (h7 : k = 7 ∨ k = 9 → aP = false → aQ = true) :
    yq_R (qu_R k m (nI pr) (nI ab) oi aP aQ xs ys xr yr) (sv_R k m pr ab true oi true aP sp sq rp rq) (sv_R k m pr ab false oi true aP sp' sq' rp' rq') := by
  unfold qu_R sv_R
  rw [if_neg (show ¬ true = false by decide), if_neg (show ¬ true = false by decide)]
  by_cases k4 : 4 ≤ k
  · rw [if_neg (show ¬ k < 4 by omega)]
    by_cases z4 : k = 4
    · rw [if_pos z4, if_pos z4, if_pos z4]
      cases oi
      · exact yq_o (hrp k4 (h4 z4 rfl))
      · exact yq_o (hsp k4)
    rw [if_neg z4, if_neg z4, if_neg z4]
    by_cases z5 : k = 5
    · rw [if_pos z5, if_pos z5, if_pos z5]; exact yq_t (hrp k4 (h5 (Or.inl z5)))
    rw [if_neg z5, if_neg z5, if_neg z5]
    by_cases z6 : k = 6
    · rw [if_pos z6, if_pos z6, if_pos z6]; exact yq_h (hm.1 (Or.inr (Or.inl z6))).2 (hrp k4 (h5 (Or.inr z6)))
    rw [if_neg z6, if_neg z6, if_neg z6]
    by_cases z7 : k = 7
    · rw [if_neg (show ¬ k = 8 by omega), if_pos z7, if_pos z7, if_pos z7]
      cases aP
      · exact hrq (by omega) (h7 (Or.inl z7) rfl)
      · exact yq_i (hrp k4 rfl) (hsq k4)
    rw [if_neg z7, if_neg z7, if_neg z7]
    by_cases z8 : k = 8
    · rw [if_pos z8, if_pos z8, if_pos z8]
      refine yq_g ?_ ?_
      · cases aP
        · rw [(zrp k4 rfl).1, (zrp k4 rfl).2]; exact yq_D
        · exact hrp k4 rfl
      · cases aQ
        · rw [(zrq (by omega) rfl).1, (zrq (by omega) rfl).2]; exact yq_D
        · exact hrq (by omega) rfl
    have z9 : k = 9 := by omega
    rw [if_neg z8, if_neg z8, if_neg z8, if_pos z9, if_pos z9]
    cases aP
    · exact hrq (by omega) (h7 (Or.inr z9) rfl)
    · exact hrp k4 rfl
  · rw [if_pos (show k < 4 by omega), if_neg (show ¬ k = 4 by omega), if_neg (show ¬ k = 5 by omega), if_neg (show ¬ k = 6 by omega), if_neg (show ¬ k = 7 by omega), if_neg (show ¬ k = 8 by omega), if_neg (show ¬ k = 9 by omega), if_neg (show ¬ k = 4 by omega), if_neg (show ¬ k = 5 by omega), if_neg (show ¬ k = 6 by omega), if_neg (show ¬ k = 7 by omega), if_neg (show ¬ k = 8 by omega), if_neg (show ¬ k = 9 by omega)]
    exact yq_D
