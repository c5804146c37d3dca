section
/- rows pasted from kit/rows -/
theorem pk_us {f : Nat → Int32} {k : Nat} {x : Int32} : upd f k x k = x := if_pos rfl
theorem pk_un {f : Nat → Int32} {k j : Nat} {x : Int32} (h : j ≠ k) : upd f k x j = f j := if_neg h
theorem pk_sub {a b : Nat} (h : b ≤ a) : nI a - nI b = nI (a - b) := by
  obtain ⟨c, rfl⟩ : ∃ c, a = c + b := ⟨a - b, by omega⟩
  rw [← nI_add, Int32.add_sub_cancel, Nat.add_sub_cancel]
theorem pk_m1 (n : Nat) : nI (n + 1) + (-1) = nI n := by
  rw [← nI_1, Int32.add_assoc, show (1 : Int32) + (-1) = 0 from rfl, Int32.add_zero]
theorem pk_mul (a b : Nat) : nI a * nI b = nI (a * b) := (Int32.ofNat_mul a b).symm
theorem pk_ix (x : Int32) {n : Nat} (hn : n < 2 ^ 31) : x < 0 ∨ nI n ≤ x ∨ ∃ j : Nat, j < n ∧ x = nI j := by
  by_cases h : x < 0
  · exact Or.inl h
  · obtain ⟨j, hj, rfl⟩ := nI_of h
    by_cases h2 : j < n
    · exact Or.inr (Or.inr ⟨j, h2, rfl⟩)
    · exact Or.inr (Or.inl (nI_le (by omega) hj))
theorem pk_le {x y : Int32} {A B : Prop} (a b : Nat) (f : a ≤ b → A) (g : b < a → B) (hx : x = nI a := by rfl) (hy : y = nI b := by rfl) (ha : a < 2 ^ 31 := by omega) (hb : b < 2 ^ 31 := by omega) : (x ≤ y → A) ∧ (¬ x ≤ y → B) := by
  subst hx hy
  rw [nI_leI ha hb]
  exact ⟨f, fun z => g (by omega)⟩
theorem pk_lt {x y : Int32} {A B : Prop} (a b : Nat) (f : a < b → A) (g : b ≤ a → B) (hx : x = nI a := by rfl) (hy : y = nI b := by rfl) (ha : a < 2 ^ 31 := by omega) (hb : b < 2 ^ 31 := by omega) : (x < y → A) ∧ (¬ x < y → B) := by
  subst hx hy
  rw [nI_ltI ha hb]
  exact ⟨f, fun z => g (by omega)⟩
theorem pk_eq {x y : Int32} {A B : Prop} (a b : Nat) (f : a = b → A) (g : a ≠ b → B) (hx : x = nI a := by rfl) (hy : y = nI b := by rfl) (ha : a < 2 ^ 31 := by omega) (hb : b < 2 ^ 31 := by omega) : (x = y → A) ∧ (¬ x = y → B) := by
  subst hx hy
  rw [nI_eq ha hb]
  exact ⟨f, g⟩
theorem pk_in {x : Int32} (n N : Nat) (h : n < N) (hx : x = nI n := by rfl) (hN : N < 2 ^ 31 := by omega) : vp_in x N := by
  subst hx
  exact vp_in_nI h hN
theorem pk_cl {x : Int32} (n : Nat) (hx : x = nI n := by rfl) (h : n < 2 ^ 31 := by omega) : x.toNatClampNeg = n := by
  subst hx
  exact nI_clamp h
theorem pk_tn {n : Nat} (h : n < 2 ^ 32) : (nI n).toBitVec.toNat = n := Nat.mod_eq_of_lt h
theorem pk_loop {σ : Type} (W : Nat → Nat → σ → Prop) (I : Nat → σ → Prop) (e i0 : Nat) (s : σ) (hi : i0 ≤ e) (h0 : I i0 s) (hx : ∀ n s, I e s → W (n + 1) e s)
    (hs : ∀ n i s, i < e → I i s → (∀ s', I (i + 1) s' → W n (i + 1) s') → W (n + 1) i s) : ∃ n, W n i0 s :=
  ⟨e + 1, loop_i W I e hx hs (e + 1) i0 s hi (by omega) h0⟩
theorem pk_loopD {σ : Type} (W : Nat → Nat → σ → Prop) (I : Nat → σ → Prop) (hx : ∀ n s, I 0 s → W (n + 1) 0 s)
    (hs : ∀ n i s, I (i + 1) s → (∀ s', I i s' → W n i s') → W (n + 1) (i + 1) s) : ∀ (e : Nat) (s : σ), I e s → W (e + 1) e s := by
  intro e
  induction e with
  | zero => exact fun s h => hx 0 s h
  | succ e ih => exact fun s h => hs (e + 1) e s h (fun s' h' => ih s' h')
def bt (x : Int32) (i : Nat) : Bool := x.toBitVec.getLsbD i
theorem b_ext {x y : Int32} (h : ∀ i, i < 32 → bt x i = bt y i) : x = y := Int32.toBitVec_inj.mp (BitVec.eq_of_getLsbD_eq (fun i hi => h i hi))
theorem b_or (x y : Int32) (i : Nat) : bt (x ||| y) i = (bt x i || bt y i) := by unfold bt; rw [Int32.toBitVec_or, BitVec.getLsbD_or]
theorem b_and (x y : Int32) (i : Nat) : bt (x &&& y) i = (bt x i && bt y i) := by unfold bt; rw [Int32.toBitVec_and, BitVec.getLsbD_and]
theorem b_xor (x y : Int32) (i : Nat) : bt (x ^^^ y) i = (bt x i ^^ bt y i) := by unfold bt; rw [Int32.toBitVec_xor, BitVec.getLsbD_xor]
theorem b_big {x : Int32} {i : Nat} (h : 32 ≤ i) : bt x i = false := BitVec.getLsbD_of_ge _ _ h
theorem b_m1 : ∀ i, i < 32 → bt (-1) i = true := by decide +kernel
theorem b_0 (i : Nat) : bt 0 i = false := BitVec.getLsbD_zero
theorem s_l : ∀ n, n < 32 → ((nI n &&& 31).toBitVec.smod 32).toNat = n := by decide +kernel
theorem b_shl (n : Nat) (hn : n < 32) (x : Int32) {i : Nat} (hi : i < 32) : bt (x <<< (nI n &&& 31)) i = (decide (n ≤ i) && bt x (i - n)) := by
  unfold bt
  rw [Int32.toBitVec_shiftLeft]
  show (x.toBitVec <<< ((nI n &&& 31).toBitVec.smod 32).toNat).getLsbD i = _
  rw [s_l n hn, BitVec.getLsbD_shiftLeft]
  rcases Nat.lt_or_ge i n with h | h
  · simp [h, Nat.not_le.mpr h]
  · simp [hi, h, Nat.not_lt.mpr h]
theorem b_sshr (n : Nat) (hn : n < 32) (x : Int32) {i : Nat} (hi : i < 32) : bt (x >>> (nI n &&& 31)) i = if n + i < 32 then bt x (n + i) else bt x 31 := by
  unfold bt
  rw [Int32.toBitVec_shiftRight]
  show (x.toBitVec.sshiftRight ((nI n &&& 31).toBitVec.smod 32).toNat).getLsbD i = _
  rw [s_l n hn, BitVec.getLsbD_sshiftRight, BitVec.msb_eq_getLsbD_last]
  simp [hi]
theorem nx_and (a b : Nat) : nI a &&& nI b = nI (a &&& b) := by
  apply Int32.toBitVec_inj.1
  show BitVec.ofNat 32 a &&& BitVec.ofNat 32 b = BitVec.ofNat 32 (a &&& b)
  apply BitVec.eq_of_getLsbD_eq
  intro i hi
  simp [hi]
end
section
/- basics: bits, booleans, has -/
theorem bz_or (a b : Nat) : nI a ||| nI b = nI (a ||| b) := by
  apply Int32.toBitVec_inj.1
  show BitVec.ofNat 32 a ||| BitVec.ofNat 32 b = BitVec.ofNat 32 (a ||| b)
  apply BitVec.eq_of_getLsbD_eq
  intro i hi
  simp [hi]
theorem bz_nI {n i : Nat} (hi : i < 32) : bt (nI n) i = n.testBit i := by
  show (BitVec.ofNat 32 n).getLsbD i = _
  rw [BitVec.getLsbD_ofNat]
  simp [hi]
theorem bz_one : ∀ i, i < 32 → bt 1 i = decide (i = 0) := by decide +kernel
theorem bz_sh1 : ∀ n, n < 32 → ∀ i, i < 32 → bt ((1 : Int32) <<< (nI n &&& 31)) i = decide (i = n) := by decide +kernel
theorem bz_low (x : Int32) {n : Nat} (hn : n < 32) : ((x >>> (nI n &&& 31)) &&& 1) = if bt x n = true then 1 else 0 := by
  apply b_ext
  intro i hi
  rw [b_and, bz_one i hi]
  by_cases h : i = 0
  · subst h
    rw [b_sshr n hn x (by omega), if_pos (by omega), Nat.add_zero]
    cases bt x n <;> decide
  · rw [decide_eq_false h, Bool.and_false]
    cases bt x n
    · exact (b_0 i).symm
    · show false = bt 1 i
      rw [bz_one i hi, decide_eq_false h]
theorem bz_h0 (x : Int32) {n : Nat} (hn : n < 32) : ((x >>> (nI n &&& 31)) &&& 1) = 0 ↔ bt x n = false := by
  rw [bz_low x hn]
  cases bt x n <;> decide
theorem bz_h1 (x : Int32) {n : Nat} (hn : n < 32) : ((x >>> (nI n &&& 31)) &&& 1) = 1 ↔ bt x n = true := by
  rw [bz_low x hn]
  cases bt x n <;> decide
theorem bz_has {post : Int32 → Prop} {s e : Int32} {n : Nat} (hn : n < 32) (he : e = nI n) (t : bt s n = true → post 1) (f : bt s n = false → post 0) : wpX_has post s e := by
  subst he
  cases h : bt s n
  · exact br_t ((bz_h0 s hn).mpr h) (f h)
  · exact br_f (fun z => by rw [bz_h0 s hn, h] at z; exact absurd z (by decide)) (t h)
theorem bz_hasb {A B : Prop} {s e : Int32} {n : Nat} (hn : n < 32) (he : e = nI n) (t : bt s n = true → B) (f : bt s n = false → A) : wpX_has (fun r => (r = 0 → A) ∧ (¬ r = 0 → B)) s e :=
  bz_has hn he (fun h => br_f (by decide) (t h)) (fun h => br_t rfl (f h))
/-- Y's one-bit test -/
theorem bz_yb {A B : Prop} {x e : Int32} {n : Nat} (hn : n < 32) (he : e = nI n) (t : bt x n = true → A) (f : bt x n = false → B) : (((x >>> (e &&& 31)) &&& 1) = 1 → A) ∧ (¬ ((x >>> (e &&& 31)) &&& 1) = 1 → B) := by
  subst he
  rw [bz_h1 x hn]
  exact ⟨t, fun z => f (by cases h : bt x n; exact rfl; exact absurd h z)⟩
theorem bz_n0 : vp_nar .boolean 0 = 0 := rfl
theorem bz_n1 : vp_nar .boolean 1 = 1 := rfl
/-- a Bool as Int32 -/
def bo_I (b : Bool) : Int32 := if b = true then 1 else 0
theorem bo_nar (b : Bool) : vp_nar .boolean (bo_I b) = bo_I b := by cases b <;> rfl
theorem bo_0 (b : Bool) : bo_I b = 0 ↔ b = false := by cases b <;> decide
theorem bo_br {A B : Prop} (b : Bool) (f : b = false → A) (t : b = true → B) : (bo_I b = 0 → A) ∧ (¬ bo_I b = 0 → B) := by
  cases b
  · exact br_t rfl (f rfl)
  · exact br_f (by decide) (t rfl)
/-- activity -/
def ac_L (o : Int32) (w : Nat → Int32) (i : Nat) : Bool := !((o &&& w i) == 0)
theorem ac_f {o : Int32} {w : Nat → Int32} {i : Nat} : ac_L o w i = false ↔ (o &&& w i) = 0 := by
  unfold ac_L
  cases h : ((o &&& w i) == 0)
  · simp at h; simp [h]
  · simp at h; simp [h]
theorem ac_t {o : Int32} {w : Nat → Int32} {i : Nat} : ac_L o w i = true ↔ ¬ (o &&& w i) = 0 := by
  rw [← ac_f]
  cases ac_L o w i <;> simp
theorem bz_ex0 {x : Int32} : ¬ x = 0 ↔ ∃ j, j < 32 ∧ bt x j = true := by
  constructor
  · intro h
    apply Classical.byContradiction
    intro hn
    apply h
    apply b_ext
    intro i hi
    rw [b_0]
    cases e : bt x i
    · rfl
    · exact absurd ⟨i, hi, e⟩ hn
  · rintro ⟨j, _, h⟩ z
    rw [z, b_0] at h
    cases h
theorem ac_ex {o : Int32} {w : Nat → Int32} {i : Nat} : ac_L o w i = true ↔ ∃ j, j < 32 ∧ bt o j = true ∧ bt (w i) j = true := by
  rw [ac_t, bz_ex0]
  constructor
  · rintro ⟨j, hj, h⟩; rw [b_and, Bool.and_eq_true] at h; exact ⟨j, hj, h⟩
  · rintro ⟨j, hj, h⟩; exact ⟨j, hj, by rw [b_and, Bool.and_eq_true]; exact h⟩
theorem bz_act {post : Int32 → Prop} {f_height f_made f_size f_on f_inFirst f_over f_instantsDone f_hadInstant f_lastPresent f_lastAbsent f_present f_absent f_startedNow f_resumedNow : Int32} {a_stack a_newKind a_newMark a_newP a_newQ a_newWithin a_kind a_mark a_partP a_partQ a_within a_mustStarted a_canStarted a_mustResumed a_canResumed : Nat → Int32} {e : Int32} {i : Nat} (hi : i < 16) (he : e = nI i) (t : ac_L f_on a_within i = true → post 1) (f : ac_L f_on a_within i = false → post 0) : wpX_isActive post (f_height, f_made, f_size, f_on, f_inFirst, f_over, f_instantsDone, f_hadInstant, f_lastPresent, f_lastAbsent, f_present, f_absent, f_startedNow, f_resumedNow, a_stack, a_newKind, a_newMark, a_newP, a_newQ, a_newWithin, a_kind, a_mark, a_partP, a_partQ, a_within, a_mustStarted, a_canStarted, a_mustResumed, a_canResumed) e := by
  subst he
  have hc : (nI i).toNatClampNeg = i := nI_clamp (by omega)
  refine ⟨vp_in_nI hi (by omega), ?_⟩
  rw [hc]
  exact br_c (fun h => f (ac_f.mpr h)) (fun h => t (ac_t.mpr h))
theorem bz_actb {A B : Prop} {f_height f_made f_size f_on f_inFirst f_over f_instantsDone f_hadInstant f_lastPresent f_lastAbsent f_present f_absent f_startedNow f_resumedNow : Int32} {a_stack a_newKind a_newMark a_newP a_newQ a_newWithin a_kind a_mark a_partP a_partQ a_within a_mustStarted a_canStarted a_mustResumed a_canResumed : Nat → Int32} {e : Int32} {i : Nat} (hi : i < 16) (he : e = nI i) (t : ac_L f_on a_within i = true → B) (f : ac_L f_on a_within i = false → A) : wpX_isActive (fun r => (r = 0 → A) ∧ (¬ r = 0 → B)) (f_height, f_made, f_size, f_on, f_inFirst, f_over, f_instantsDone, f_hadInstant, f_lastPresent, f_lastAbsent, f_present, f_absent, f_startedNow, f_resumedNow, a_stack, a_newKind, a_newMark, a_newP, a_newQ, a_newWithin, a_kind, a_mark, a_partP, a_partQ, a_within, a_mustStarted, a_canStarted, a_mustResumed, a_canResumed) e :=
  bz_act hi he (fun h => br_f (by decide) (t h)) (fun h => br_t rfl (f h))
end
section
/- pure values: (signals, codes); X packs them into one number -/
def pv_k (v : Nat × Nat) : Int32 := nI (64 * v.2 + v.1)
def vv_ok (v : Nat × Nat) : Prop := v.1 < 64 ∧ v.2 < 32
def co_o (c : Nat) : Nat := if c % 2 = 1 then (c - 1) ||| 2 else c
def co_t (c : Nat) : Nat := (c % 4) ||| (if c / 4 % 2 = 1 then 1 else 0) ||| (c / 8 * 4)
def co_i (c d : Nat) : Nat := if c % 2 = 1 then (c - 1) ||| d else c
def co_low (c : Nat) : Nat := if c % 2 = 1 then 1 else if c % 4 = 2 then 2 else if c % 8 = 4 then 4 else if c % 16 = 8 then 8 else 16
def co_fl (c d : Nat) : Nat := if co_low c ≤ co_low d then co_low d else co_low c
def co_g (c d : Nat) : Nat := if c = 0 then 0 else if d = 0 then 0 else (c ||| d) / co_fl c d * co_fl c d
theorem nz_split {s t : Nat} (c d : Nat) (hs : s < 64) (ht : t < 64) : (64 * c + s) ||| (64 * d + t) = 64 * (c ||| d) + (s ||| t) := by
  have hst : s ||| t < 64 := Nat.or_lt_two_pow (n := 6) hs ht
  apply Nat.eq_of_testBit_eq
  intro j
  rw [Nat.testBit_or, show 64 * c + s = 2 ^ 6 * c + s from rfl, show 64 * d + t = 2 ^ 6 * d + t from rfl, show 64 * (c ||| d) + (s ||| t) = 2 ^ 6 * (c ||| d) + (s ||| t) from rfl,
    Nat.testBit_two_pow_mul_add c hs, Nat.testBit_two_pow_mul_add d ht, Nat.testBit_two_pow_mul_add (c ||| d) hst]
  split
  · rw [Nat.testBit_or]
  · rw [Nat.testBit_or]
theorem pv_or {v w : Nat × Nat} (hv : vv_ok v) (hw : vv_ok w) : pv_k v ||| pv_k w = pv_k (v.1 ||| w.1, v.2 ||| w.2) := by
  unfold pv_k
  rw [bz_or, nz_split _ _ hv.1 hw.1]
theorem vv_or {v w : Nat × Nat} (hv : vv_ok v) (hw : vv_ok w) : vv_ok (v.1 ||| w.1, v.2 ||| w.2) := ⟨Nat.or_lt_two_pow (n := 6) hv.1 hw.1, Nat.or_lt_two_pow (n := 5) hv.2 hw.2⟩
theorem pz_64 : ∀ c, c < 32 → ∀ s, s < 64 → ((nI (64 * c + s) &&& 64) = 0 ↔ c % 2 = 0) := by decide +kernel
theorem pz_o : ∀ c, c < 32 → ∀ s, s < 64 → c % 2 = 1 → (nI (64 * c + s) &&& (-65)) ||| 128 = nI (64 * co_o c + s) := by decide +kernel
theorem pz_m : ∀ c, c < 32 → ∀ s, s < 64 → c % 2 = 1 → (nI (64 * c + s) &&& (-65)) = nI (64 * (c - 1) + s) := by decide +kernel
theorem pz_256 : ∀ c, c < 32 → ∀ s, s < 64 → ((nI (64 * c + s) &&& 256) = 0 ↔ c / 4 % 2 = 0) := by decide +kernel
theorem pz_t0 : ∀ c, c < 32 → ∀ s, s < 64 → c / 4 % 2 = 0 → ((nI (64 * c + s) &&& 255) ||| 0) ||| ((nI (64 * c + s) &&& 1536) >>> ((1 : Int32) &&& 31)) = nI (64 * co_t c + s) := by decide +kernel
theorem pz_t1 : ∀ c, c < 32 → ∀ s, s < 64 → c / 4 % 2 = 1 → ((nI (64 * c + s) &&& 255) ||| 64) ||| ((nI (64 * c + s) &&& 1536) >>> ((1 : Int32) &&& 31)) = nI (64 * co_t c + s) := by decide +kernel
theorem pz_63 : ∀ c, c < 32 → ∀ s, s < 64 → nI (64 * c + s) &&& 63 = nI s := by decide +kernel
theorem pz_1984 : ∀ c, c < 32 → ∀ s, s < 64 → nI (64 * c + s) &&& 1984 = nI (64 * c) := by decide +kernel
theorem pz_c0 : ∀ c, c < 32 → (nI (64 * c) = 0 ↔ c = 0) := by decide +kernel
theorem pz_low : ∀ c, c < 32 → ¬ c = 0 → nI (64 * c) &&& (-nI (64 * c)) = nI (64 * co_low c) := by decide +kernel
theorem pz_cmp : ∀ c, c < 32 → ∀ d, d < 32 → (nI (64 * co_low c) ≤ nI (64 * co_low d) ↔ co_low c ≤ co_low d) := by decide +kernel
theorem pz_g : ∀ c, c < 32 → ∀ d, d < 32 → ¬ c = 0 → ¬ d = 0 → (nI (64 * c) ||| nI (64 * d)) &&& (-nI (64 * co_fl c d)) = nI (64 * co_g c d) := by decide +kernel
theorem pz_gok : ∀ c, c < 32 → ∀ d, d < 32 → co_g c d < 32 := by decide +kernel
theorem pz_ook : ∀ c, c < 32 → co_o c < 32 := by decide +kernel
theorem pz_tok : ∀ c, c < 32 → co_t c < 32 := by decide +kernel
/- the operations on values -/
def vo_v (v : Nat × Nat) : Nat × Nat := (v.1, co_o v.2)
def vt_r (v : Nat × Nat) : Nat × Nat := (v.1, co_t v.2)
def vi_t (v w : Nat × Nat) : Nat × Nat := if v.2 % 2 = 1 then (v.1 ||| w.1, (v.2 - 1) ||| w.2) else v
def vg_t (v w : Nat × Nat) : Nat × Nat := (v.1 ||| w.1, co_g v.2 w.2)
def vb_r (m pr ab : Nat) (mu : Bool) (v w : Nat × Nat) : Nat × Nat := if pr.testBit m = true then v else if ab.testBit m = true then w else if mu = true then (0, 0) else (v.1 ||| w.1, v.2 ||| w.2)
def vh_b (m pr ab : Nat) (mu : Bool) (v : Nat × Nat) : Nat × Nat := if pr.testBit m = true then (0, 2) else if ab.testBit m = true then v else if mu = true then (0, 0) else (v.1, v.2 ||| 2)
theorem vo_ok {v : Nat × Nat} (h : vv_ok v) : vv_ok (vo_v v) := ⟨h.1, pz_ook _ h.2⟩
theorem vt_ok {v : Nat × Nat} (h : vv_ok v) : vv_ok (vt_r v) := ⟨h.1, pz_tok _ h.2⟩
theorem vg_ok {v w : Nat × Nat} (h : vv_ok v) (k : vv_ok w) : vv_ok (vg_t v w) := ⟨(vv_or h k).1, pz_gok _ h.2 _ k.2⟩
theorem vi_ok {v w : Nat × Nat} (h : vv_ok v) (k : vv_ok w) : vv_ok (vi_t v w) := by
  unfold vi_t
  split
  · exact ⟨(vv_or h k).1, Nat.or_lt_two_pow (n := 5) (by have := h.2; omega) k.2⟩
  · exact h
theorem vb_ok {m pr ab : Nat} {mu : Bool} {v w : Nat × Nat} (h : vv_ok v) (k : vv_ok w) : vv_ok (vb_r m pr ab mu v w) := by
  unfold vb_r
  split
  · exact h
  · split
    · exact k
    · split
      · exact ⟨by decide, by decide⟩
      · exact vv_or h k
theorem vh_ok {m pr ab : Nat} {mu : Bool} {v : Nat × Nat} (h : vv_ok v) : vv_ok (vh_b m pr ab mu v) := by
  unfold vh_b
  split
  · exact ⟨by decide, by decide⟩
  · split
    · exact h
    · split
      · exact ⟨by decide, by decide⟩
      · exact ⟨h.1, Nat.or_lt_two_pow (n := 5) h.2 (by decide)⟩
/- X's operations -/
theorem xo_o {post : Int32 → Prop} {v : Nat × Nat} (h : vv_ok v) (hp : post (pv_k (vo_v v))) : wpX_oneForZero post (pv_k v) := by
  obtain ⟨s, c⟩ := v
  obtain ⟨hs, hc⟩ := h
  by_cases e : c % 2 = 1
  · refine br_f (fun z => ?_) ?_
    · have := (pz_64 c hc s hs).mp z; omega
    · show post ((nI (64 * c + s) &&& (-65)) ||| 128)
      rw [pz_o c hc s hs e]; exact hp
  · refine br_t ((pz_64 c hc s hs).mpr (by omega)) ?_
    have : vo_v (s, c) = (s, c) := by unfold vo_v co_o; simp [e]
    rw [this] at hp; exact hp
theorem xo_t {post : Int32 → Prop} {v : Nat × Nat} (h : vv_ok v) (hp : post (pv_k (vt_r v))) : wpX_outOfTrap post (pv_k v) := by
  obtain ⟨s, c⟩ := v
  obtain ⟨hs, hc⟩ := h
  refine nm_e ?_
  by_cases e : c / 4 % 2 = 1
  · refine br_f (fun z => ?_) (nm_e ?_)
    · have := (pz_256 c hc s hs).mp z; omega
    · show post (((nI (64 * c + s) &&& 255) ||| 64) ||| ((nI (64 * c + s) &&& 1536) >>> ((1 : Int32) &&& 31)))
      rw [pz_t1 c hc s hs e]; exact hp
  · refine br_t ((pz_256 c hc s hs).mpr (by omega)) (nm_e ?_)
    show post (((nI (64 * c + s) &&& 255) ||| 0) ||| ((nI (64 * c + s) &&& 1536) >>> ((1 : Int32) &&& 31)))
    rw [pz_t0 c hc s hs (by omega)]; exact hp
theorem xo_i {post : Int32 → Prop} {v w : Nat × Nat} (h : vv_ok v) (k : vv_ok w) (hp : post (pv_k (vi_t v w))) : wpX_inTurn post (pv_k v) (pv_k w) := by
  obtain ⟨s, c⟩ := v
  have hs := h.1; have hc := h.2
  dsimp only at hs hc
  by_cases e : c % 2 = 1
  · refine br_f (fun z => ?_) ?_
    · have := (pz_64 c hc s hs).mp z; omega
    · show post ((nI (64 * c + s) &&& (-65)) ||| pv_k w)
      rw [pz_m c hc s hs e]
      have := pv_or (v := (s, c - 1)) (w := w) ⟨hs, by show c - 1 < 32; omega⟩ k
      unfold vi_t at hp; rw [if_pos e] at hp
      rw [show nI (64 * (c - 1) + s) = pv_k (s, c - 1) from rfl, this]; exact hp
  · refine br_t ((pz_64 c hc s hs).mpr (by omega)) ?_
    unfold vi_t at hp; rw [if_neg e] at hp; exact hp
theorem xo_g {post : Int32 → Prop} {v w : Nat × Nat} (h : vv_ok v) (k : vv_ok w) (hp : post (pv_k (vg_t v w))) : wpX_together post (pv_k v) (pv_k w) := by
  obtain ⟨s, c⟩ := v
  obtain ⟨t, d⟩ := w
  have ho := pv_or h k
  have hok := vv_or h k
  obtain ⟨hs, hc⟩ := h
  obtain ⟨ht, hd⟩ := k
  dsimp only at hs hc ht hd ho hok
  have e1 : (pv_k (s, c) ||| pv_k (t, d)) &&& 63 = nI (s ||| t) := by rw [ho]; exact pz_63 _ hok.2 _ hok.1
  have e2 : pv_k (s, c) &&& 1984 = nI (64 * c) := pz_1984 c hc s hs
  have e3 : pv_k (t, d) &&& 1984 = nI (64 * d) := pz_1984 d hd t ht
  have hz : ∀ e, nI (s ||| t) ||| nI (64 * e) = nI (64 * e + (s ||| t)) := by
    intro e
    rw [bz_or, show s ||| t = 64 * 0 + (s ||| t) from by omega, show 64 * e = 64 * e + 0 from rfl, nz_split 0 e hok.1 (by decide)]
    simp
  refine nm_r e1 (nm_r e2 (nm_r e3 ?_))
  by_cases c0 : c = 0
  · refine br_t ((pz_c0 c hc).mpr c0) ?_
    have : vg_t (s, c) (t, d) = (s ||| t, 0) := by unfold vg_t co_g; simp [c0]
    rw [this] at hp
    exact (show pv_k (s ||| t, 0) = nI (s ||| t) from by unfold pv_k; simp) ▸ hp
  · refine br_f (fun z => c0 ((pz_c0 c hc).mp z)) ?_
    by_cases d0 : d = 0
    · refine br_t ((pz_c0 d hd).mpr d0) ?_
      have : vg_t (s, c) (t, d) = (s ||| t, 0) := by unfold vg_t co_g; simp [d0]
      rw [this] at hp
      exact (show pv_k (s ||| t, 0) = nI (s ||| t) from by unfold pv_k; simp) ▸ hp
    · refine br_f (fun z => d0 ((pz_c0 d hd).mp z)) (nm_r (pz_low c hc c0) (nm_r (pz_low d hd d0) ?_))
      have hg := pz_g c hc d hd c0 d0
      have hf : pv_k (vg_t (s, c) (t, d)) = nI (s ||| t) ||| nI (64 * co_g c d) := by rw [hz]; rfl
      rw [hf, ← hg] at hp
      by_cases l : co_low c ≤ co_low d
      · refine br_t ((pz_cmp c hc d hd).mpr l) ?_
        have : co_fl c d = co_low d := if_pos l
        rw [this] at hp; exact hp
      · refine br_f (fun z => l ((pz_cmp c hc d hd).mp z)) ?_
        have : co_fl c d = co_low c := if_neg l
        rw [this] at hp; exact hp
theorem xo_b {post : Int32 → Prop} {f_height f_made f_size f_on f_inFirst f_over f_instantsDone f_hadInstant f_lastPresent f_lastAbsent f_present f_absent f_startedNow f_resumedNow : Int32} {a_stack a_newKind a_newMark a_newP a_newQ a_newWithin a_kind a_mark a_partP a_partQ a_within a_mustStarted a_canStarted a_mustResumed a_canResumed : Nat → Int32} {e : Int32} {m pr ab : Nat} {mu : Bool} {v w : Nat × Nat} (hm : m < 6) (he : e = nI m) (hpr : f_present = nI pr) (hab : f_absent = nI ab) (h : vv_ok v) (k : vv_ok w) (hp : post (pv_k (vb_r m pr ab mu v w))) : wpX_branch post (f_height, f_made, f_size, f_on, f_inFirst, f_over, f_instantsDone, f_hadInstant, f_lastPresent, f_lastAbsent, f_present, f_absent, f_startedNow, f_resumedNow, a_stack, a_newKind, a_newMark, a_newP, a_newQ, a_newWithin, a_kind, a_mark, a_partP, a_partQ, a_within, a_mustStarted, a_canStarted, a_mustResumed, a_canResumed) e (pv_k v) (pv_k w) (bo_I mu) := by
  subst hpr hab
  unfold vb_r at hp
  refine bz_hasb (n := m) (by omega) he (fun h1 => ?_) (fun h1 => bz_hasb (n := m) (by omega) he (fun h2 => ?_) (fun h2 => ?_))
  · rw [bz_nI (by omega)] at h1; rw [if_pos h1] at hp; exact hp
  · rw [bz_nI (by omega)] at h1 h2; rw [if_neg (by rw [h1]; decide), if_pos h2] at hp; exact hp
  · rw [bz_nI (by omega)] at h1 h2; rw [if_neg (by rw [h1]; decide), if_neg (by rw [h2]; decide)] at hp
    refine bo_br mu (fun z => ?_) (fun z => ?_)
    · rw [if_neg (by rw [z]; decide)] at hp; rw [pv_or h k]; exact hp
    · rw [if_pos z] at hp; exact hp
theorem xo_h {post : Int32 → Prop} {f_height f_made f_size f_on f_inFirst f_over f_instantsDone f_hadInstant f_lastPresent f_lastAbsent f_present f_absent f_startedNow f_resumedNow : Int32} {a_stack a_newKind a_newMark a_newP a_newQ a_newWithin a_kind a_mark a_partP a_partQ a_within a_mustStarted a_canStarted a_mustResumed a_canResumed : Nat → Int32} {e : Int32} {m pr ab : Nat} {mu : Bool} {v : Nat × Nat} (hm : m < 6) (he : e = nI m) (hpr : f_present = nI pr) (hab : f_absent = nI ab) (h : vv_ok v) (hp : post (pv_k (vh_b m pr ab mu v))) : wpX_heldBack post (f_height, f_made, f_size, f_on, f_inFirst, f_over, f_instantsDone, f_hadInstant, f_lastPresent, f_lastAbsent, f_present, f_absent, f_startedNow, f_resumedNow, a_stack, a_newKind, a_newMark, a_newP, a_newQ, a_newWithin, a_kind, a_mark, a_partP, a_partQ, a_within, a_mustStarted, a_canStarted, a_mustResumed, a_canResumed) e (pv_k v) (bo_I mu) := by
  subst hpr hab
  unfold vh_b at hp
  refine bz_hasb (n := m) (by omega) he (fun h1 => ?_) (fun h1 => bz_hasb (n := m) (by omega) he (fun h2 => ?_) (fun h2 => ?_))
  · rw [bz_nI (by omega)] at h1; rw [if_pos h1] at hp; exact hp
  · rw [bz_nI (by omega)] at h1 h2; rw [if_neg (by rw [h1]; decide), if_pos h2] at hp; exact hp
  · rw [bz_nI (by omega)] at h1 h2; rw [if_neg (by rw [h1]; decide), if_neg (by rw [h2]; decide)] at hp
    refine bo_br mu (fun z => ?_) (fun z => ?_)
    · rw [if_neg (by rw [z]; decide)] at hp
      have := pv_or (v := v) (w := (0, 2)) h ⟨by decide, by decide⟩
      rw [show (128 : Int32) = pv_k (0, 2) from by decide, this]
      exact (show (v.1 ||| (0, 2).1, v.2 ||| (0, 2).2) = (v.1, v.2 ||| 2) from by simp) ▸ hp
    · rw [if_pos z] at hp; exact hp
end
section
/- the values of a program's statements -/
def sv_S (k m pr ab : Nat) (mu : Bool) (p q : Nat × Nat) : Nat × Nat :=
  if k = 1 then (0, 2) else if k = 2 then (2 ^ m, 1) else if k = 3 then (0, 4 * 2 ^ m) else if k = 4 then vo_v p else if k = 5 then vt_r p else if k = 6 then p else if k = 7 then vi_t p q else if k = 8 then vg_t p q else if k = 9 then vb_r m pr ab mu p q else (0, 1)
def sv_R (k m pr ab : Nat) (mu oi ai aP : Bool) (sp sq rp rq : Nat × Nat) : Nat × Nat :=
  if ai = false then (0, 1) else if k = 4 then (if oi = true then vo_v sp else vo_v rp) else if k = 5 then vt_r rp else if k = 6 then vh_b m pr ab mu rp else if k = 7 then (if aP = true then vi_t rp sq else rq) else if k = 8 then vg_t rp rq else if k = 9 then (if aP = true then rp else rq) else (0, 1)
/-- what is known of a statement's mark -/
def mk_W (k m : Nat) (x : Int32) : Prop := (k = 2 ∨ k = 6 ∨ k = 9 → x = nI m ∧ m < 6) ∧ (k = 3 → x = nI m ∧ m < 3)
theorem sv_Sok {k m pr ab : Nat} {mu : Bool} {p q : Nat × Nat} {x : Int32} (hm : mk_W k m x) (hp : 4 ≤ k → vv_ok p) (hq : 4 ≤ k → vv_ok q) : vv_ok (sv_S k m pr ab mu p q) := by
  unfold sv_S
  by_cases h1 : k = 1
  · rw [if_pos h1]; exact ⟨by decide, by decide⟩
  rw [if_neg h1]
  by_cases h2 : k = 2
  · rw [if_pos h2]
    exact ⟨(by decide : ∀ m, m < 6 → 2 ^ m < 64) m (hm.1 (Or.inl h2)).2, (by decide : 1 < 32)⟩
  rw [if_neg h2]
  by_cases h3 : k = 3
  · rw [if_pos h3]
    exact ⟨(by decide : 0 < 64), (by decide : ∀ m, m < 3 → 4 * 2 ^ m < 32) m (hm.2 h3).2⟩
  rw [if_neg h3]
  by_cases h4 : k = 4
  · rw [if_pos h4]; exact vo_ok (hp (by omega))
  rw [if_neg h4]
  by_cases h5 : k = 5
  · rw [if_pos h5]; exact vt_ok (hp (by omega))
  rw [if_neg h5]
  by_cases h6 : k = 6
  · rw [if_pos h6]; exact hp (by omega)
  rw [if_neg h6]
  by_cases h7 : k = 7
  · rw [if_pos h7]; exact vi_ok (hp (by omega)) (hq (by omega))
  rw [if_neg h7]
  by_cases h8 : k = 8
  · rw [if_pos h8]; exact vg_ok (hp (by omega)) (hq (by omega))
  rw [if_neg h8]
  by_cases h9 : k = 9
  · rw [if_pos h9]; exact vb_ok (hp (by omega)) (hq (by omega))
  rw [if_neg h9]; exact ⟨by decide, by decide⟩
theorem sv_Rok {k m pr ab : Nat} {mu oi ai aP : Bool} {sp sq rp rq : Nat × Nat} (h1 : 4 ≤ k → vv_ok sp) (h2 : 4 ≤ k → vv_ok sq) (h3 : 4 ≤ k → vv_ok rp) (h4 : 4 ≤ k → vv_ok rq) : vv_ok (sv_R k m pr ab mu oi ai aP sp sq rp rq) := by
  have h01 : vv_ok (0, 1) := ⟨by decide, by decide⟩
  unfold sv_R
  split
  · exact h01
  split
  · split
    · exact vo_ok (h1 (by omega))
    · exact vo_ok (h3 (by omega))
  split
  · exact vt_ok (h3 (by omega))
  split
  · exact vh_ok (h3 (by omega))
  split
  · split
    · exact vi_ok (h3 (by omega)) (h2 (by omega))
    · exact h4 (by omega)
  split
  · exact vg_ok (h3 (by omega)) (h4 (by omega))
  split
  · split
    · exact h3 (by omega)
    · exact h4 (by omega)
  exact h01
theorem kI_eq {k j : Nat} (hk : k ≤ 9) (hj : j ≤ 9) : nI k = nI j ↔ k = j := nI_eq (by omega) (by omega)
theorem pz_em : ∀ m, m < 6 → (64 : Int32) ||| ((1 : Int32) <<< (nI m &&& 31)) = pv_k (2 ^ m, 1) := by decide +kernel
theorem pz_ex : ∀ m, m < 3 → ((256 : Int32) <<< (nI m &&& 31)) = pv_k (0, 4 * 2 ^ m) := by decide +kernel
theorem xs_S_mustStarted {post : Int32 → Prop} {f_height f_made f_size f_on f_inFirst f_over f_instantsDone f_hadInstant f_lastPresent f_lastAbsent f_present f_absent f_startedNow f_resumedNow : Int32} {a_stack a_newKind a_newMark a_newP a_newQ a_newWithin a_kind a_mark a_partP a_partQ a_within a_mustStarted a_canStarted a_mustResumed a_canResumed : Nat → Int32} {i k m p q pr ab : Nat} {mu : Bool} {vp vq : Nat × Nat} {e : Int32} (he : e = nI i) (hi : i < 16) (hpr : f_present = nI pr) (hab : f_absent = nI ab)
    (hk : a_kind i = nI k) (k9 : k ≤ 9) (hm : mk_W k m (a_mark i)) (hp : a_partP i = nI p) (hq : a_partQ i = nI q) (p16 : p < 16) (q16 : q < 16)
    (hP : 4 ≤ k → a_mustStarted p = pv_k vp ∧ vv_ok vp) (hQ : 4 ≤ k → a_mustStarted q = pv_k vq ∧ vv_ok vq) (h : post (pv_k (sv_S k m pr ab mu vp vq))) :
    wpX_setsStarted__mustStarted post (f_height, f_made, f_size, f_on, f_inFirst, f_over, f_instantsDone, f_hadInstant, f_lastPresent, f_lastAbsent, f_present, f_absent, f_startedNow, f_resumedNow, a_stack, a_newKind, a_newMark, a_newP, a_newQ, a_newWithin, a_kind, a_mark, a_partP, a_partQ, a_within, a_mustStarted, a_canStarted, a_mustResumed, a_canResumed) e (bo_I mu) := by
  subst he
  have hc : (nI i).toNatClampNeg = i := nI_clamp (by omega)
  have vi : vp_in (nI i) 16 := vp_in_nI hi (by omega)
  unfold wpX_setsStarted__mustStarted
  dsimp only
  rw [hc, hp, hq, hk, nI_clamp (show p < 2 ^ 31 by omega), nI_clamp (show q < 2 ^ 31 by omega)]
  refine ⟨vi, vp_in_nI p16 (by omega), nm_e ⟨vi, vp_in_nI q16 (by omega), nm_e ⟨vi, nm_e ?_⟩⟩⟩
  unfold sv_S at h
  have c1 : ∀ j, j ≤ 9 → (nI k = nI j ↔ k = j) := fun j hj => kI_eq k9 hj
  refine pk_lt k 1 (fun z => ?_) (fun z => ?_)
  · rw [if_neg (by omega), if_neg (by omega), if_neg (by omega), if_neg (by omega), if_neg (by omega), if_neg (by omega), if_neg (by omega), if_neg (by omega), if_neg (by omega)] at h
    exact h
  refine pk_lt 9 k (fun z => absurd z (by omega)) (fun z9 => ?_)
  refine pk_eq k 1 (fun z => ?_) (fun z1 => ?_)
  · rw [if_pos z] at h; exact h
  rw [if_neg z1] at h
  refine pk_eq k 2 (fun z => ?_) (fun z2 => ?_)
  · rw [if_pos z] at h
    refine ⟨vi, ?_⟩
    have := hm.1 (Or.inl z)
    rw [this.1, pz_em m this.2]; exact h
  rw [if_neg z2] at h
  refine pk_eq k 3 (fun z => ?_) (fun z3 => ?_)
  · rw [if_pos z] at h
    refine ⟨vi, ?_⟩
    have := hm.2 z
    rw [this.1, pz_ex m this.2]; exact h
  rw [if_neg z3] at h
  have k4 : 4 ≤ k := by omega
  rw [(hP k4).1, (hQ k4).1]
  have oP := (hP k4).2
  have oQ := (hQ k4).2
  refine pk_eq k 4 (fun z => ?_) (fun z4 => ?_)
  · rw [if_pos z] at h; exact xo_o oP h
  rw [if_neg z4] at h
  refine pk_eq k 5 (fun z => ?_) (fun z5 => ?_)
  · rw [if_pos z] at h; exact xo_t oP h
  rw [if_neg z5] at h
  refine pk_eq k 6 (fun z => ?_) (fun z6 => ?_)
  · rw [if_pos z] at h; exact h
  rw [if_neg z6] at h
  refine pk_eq k 7 (fun z => ?_) (fun z7 => ?_)
  · rw [if_pos z] at h; exact xo_i oP oQ h
  rw [if_neg z7] at h
  refine pk_eq k 8 (fun z => ?_) (fun z8 => ?_)
  · rw [if_pos z] at h; exact xo_g oP oQ h
  rw [if_neg z8] at h
  refine pk_eq k 9 (fun z => ?_) (fun z9 => trivial)
  rw [if_pos z] at h
  have hm9 := hm.1 (Or.inr (Or.inr z))
  exact ⟨vi, xo_b hm9.2 hm9.1 hpr hab oP oQ h⟩
theorem xs_S_canStarted {post : Int32 → Prop} {f_height f_made f_size f_on f_inFirst f_over f_instantsDone f_hadInstant f_lastPresent f_lastAbsent f_present f_absent f_startedNow f_resumedNow : Int32} {a_stack a_newKind a_newMark a_newP a_newQ a_newWithin a_kind a_mark a_partP a_partQ a_within a_mustStarted a_canStarted a_mustResumed a_canResumed : Nat → Int32} {i k m p q pr ab : Nat} {mu : Bool} {vp vq : Nat × Nat} {e : Int32} (he : e = nI i) (hi : i < 16) (hpr : f_present = nI pr) (hab : f_absent = nI ab)
    (hk : a_kind i = nI k) (k9 : k ≤ 9) (hm : mk_W k m (a_mark i)) (hp : a_partP i = nI p) (hq : a_partQ i = nI q) (p16 : p < 16) (q16 : q < 16)
    (hP : 4 ≤ k → a_canStarted p = pv_k vp ∧ vv_ok vp) (hQ : 4 ≤ k → a_canStarted q = pv_k vq ∧ vv_ok vq) (h : post (pv_k (sv_S k m pr ab mu vp vq))) :
    wpX_setsStarted__canStarted post (f_height, f_made, f_size, f_on, f_inFirst, f_over, f_instantsDone, f_hadInstant, f_lastPresent, f_lastAbsent, f_present, f_absent, f_startedNow, f_resumedNow, a_stack, a_newKind, a_newMark, a_newP, a_newQ, a_newWithin, a_kind, a_mark, a_partP, a_partQ, a_within, a_mustStarted, a_canStarted, a_mustResumed, a_canResumed) e (bo_I mu) := by
  subst he
  have hc : (nI i).toNatClampNeg = i := nI_clamp (by omega)
  have vi : vp_in (nI i) 16 := vp_in_nI hi (by omega)
  unfold wpX_setsStarted__canStarted
  dsimp only
  rw [hc, hp, hq, hk, nI_clamp (show p < 2 ^ 31 by omega), nI_clamp (show q < 2 ^ 31 by omega)]
  refine ⟨vi, vp_in_nI p16 (by omega), nm_e ⟨vi, vp_in_nI q16 (by omega), nm_e ⟨vi, nm_e ?_⟩⟩⟩
  unfold sv_S at h
  have c1 : ∀ j, j ≤ 9 → (nI k = nI j ↔ k = j) := fun j hj => kI_eq k9 hj
  refine pk_lt k 1 (fun z => ?_) (fun z => ?_)
  · rw [if_neg (by omega), if_neg (by omega), if_neg (by omega), if_neg (by omega), if_neg (by omega), if_neg (by omega), if_neg (by omega), if_neg (by omega), if_neg (by omega)] at h
    exact h
  refine pk_lt 9 k (fun z => absurd z (by omega)) (fun z9 => ?_)
  refine pk_eq k 1 (fun z => ?_) (fun z1 => ?_)
  · rw [if_pos z] at h; exact h
  rw [if_neg z1] at h
  refine pk_eq k 2 (fun z => ?_) (fun z2 => ?_)
  · rw [if_pos z] at h
    refine ⟨vi, ?_⟩
    have := hm.1 (Or.inl z)
    rw [this.1, pz_em m this.2]; exact h
  rw [if_neg z2] at h
  refine pk_eq k 3 (fun z => ?_) (fun z3 => ?_)
  · rw [if_pos z] at h
    refine ⟨vi, ?_⟩
    have := hm.2 z
    rw [this.1, pz_ex m this.2]; exact h
  rw [if_neg z3] at h
  have k4 : 4 ≤ k := by omega
  rw [(hP k4).1, (hQ k4).1]
  have oP := (hP k4).2
  have oQ := (hQ k4).2
  refine pk_eq k 4 (fun z => ?_) (fun z4 => ?_)
  · rw [if_pos z] at h; exact xo_o oP h
  rw [if_neg z4] at h
  refine pk_eq k 5 (fun z => ?_) (fun z5 => ?_)
  · rw [if_pos z] at h; exact xo_t oP h
  rw [if_neg z5] at h
  refine pk_eq k 6 (fun z => ?_) (fun z6 => ?_)
  · rw [if_pos z] at h; exact h
  rw [if_neg z6] at h
  refine pk_eq k 7 (fun z => ?_) (fun z7 => ?_)
  · rw [if_pos z] at h; exact xo_i oP oQ h
  rw [if_neg z7] at h
  refine pk_eq k 8 (fun z => ?_) (fun z8 => ?_)
  · rw [if_pos z] at h; exact xo_g oP oQ h
  rw [if_neg z8] at h
  refine pk_eq k 9 (fun z => ?_) (fun z9 => trivial)
  rw [if_pos z] at h
  have hm9 := hm.1 (Or.inr (Or.inr z))
  exact ⟨vi, xo_b hm9.2 hm9.1 hpr hab oP oQ h⟩
theorem xs_R_mustResumed {post : Int32 → Prop} {f_height f_made f_size f_on f_inFirst f_over f_instantsDone f_hadInstant f_lastPresent f_lastAbsent f_present f_absent f_startedNow f_resumedNow : Int32} {a_stack a_newKind a_newMark a_newP a_newQ a_newWithin a_kind a_mark a_partP a_partQ a_within a_mustStarted a_canStarted a_mustResumed a_canResumed : Nat → Int32} {i k m p q pr ab : Nat} {mu : Bool} {sp sq rp rq : Nat × Nat} {e : Int32} (he : e = nI i) (hi : i < 16) (hpr : f_present = nI pr) (hab : f_absent = nI ab)
    (hk : a_kind i = nI k) (k9 : k ≤ 9) (hm : mk_W k m (a_mark i)) (hp : a_partP i = nI p) (hq : a_partQ i = nI q) (p16 : p < 16) (q16 : q < 16)
    (hP : 4 ≤ k → a_mustStarted p = pv_k sp ∧ vv_ok sp) (hQ : 4 ≤ k → a_mustStarted q = pv_k sq ∧ vv_ok sq) (hRP : 4 ≤ k → a_mustResumed p = pv_k rp ∧ vv_ok rp) (hRQ : 4 ≤ k → a_mustResumed q = pv_k rq ∧ vv_ok rq)
    (h : post (pv_k (sv_R k m pr ab mu (bt f_on i) (ac_L f_on a_within i) (ac_L f_on a_within p) sp sq rp rq))) :
    wpX_setsResumed__mustStarted_mustResumed post (f_height, f_made, f_size, f_on, f_inFirst, f_over, f_instantsDone, f_hadInstant, f_lastPresent, f_lastAbsent, f_present, f_absent, f_startedNow, f_resumedNow, a_stack, a_newKind, a_newMark, a_newP, a_newQ, a_newWithin, a_kind, a_mark, a_partP, a_partQ, a_within, a_mustStarted, a_canStarted, a_mustResumed, a_canResumed) e (bo_I mu) := by
  subst he
  have hc : (nI i).toNatClampNeg = i := nI_clamp (by omega)
  have cp : (nI p).toNatClampNeg = p := nI_clamp (by omega)
  have cq : (nI q).toNatClampNeg = q := nI_clamp (by omega)
  have vi : vp_in (nI i) 16 := vp_in_nI hi (by omega)
  have vp : vp_in (nI p) 16 := vp_in_nI p16 (by omega)
  have vq : vp_in (nI q) 16 := vp_in_nI q16 (by omega)
  unfold sv_R at h
  unfold wpX_setsResumed__mustStarted_mustResumed
  dsimp only
  rw [hc, hp, hq, hk]
  refine bz_actb hi rfl (fun ha => ?_) (fun ha => ?_)
  · rw [if_neg (by rw [ha]; decide)] at h
    refine ⟨vi, nm_e ⟨vi, nm_e ⟨vi, nm_e ?_⟩⟩⟩
    rw [cp, cq]
    refine pk_lt k 4 (fun z => ?_) (fun k4 => ?_)
    · rw [if_neg (by omega), if_neg (by omega), if_neg (by omega), if_neg (by omega), if_neg (by omega), if_neg (by omega)] at h
      exact h
    refine pk_lt 9 k (fun z => absurd z (by omega)) (fun z9 => ?_)
    have oP := (hP k4).2
    have oQ := (hQ k4).2
    have oR := (hRP k4).2
    have oS := (hRQ k4).2
    rw [(hP k4).1, (hQ k4).1, (hRP k4).1, (hRQ k4).1]
    refine pk_eq k 4 (fun z => ?_) (fun z4 => ?_)
    · rw [if_pos z] at h
      refine bz_hasb (n := i) (by omega) rfl (fun t => ⟨vp, ?_⟩) (fun t => ⟨vp, ?_⟩)
      · rw [if_pos t] at h; exact xo_o oP h
      · rw [if_neg (by rw [t]; decide)] at h; exact xo_o oR h
    rw [if_neg z4] at h
    refine pk_eq k 5 (fun z => ⟨vp, ?_⟩) (fun z5 => ?_)
    · rw [if_pos z] at h; exact xo_t oR h
    rw [if_neg z5] at h
    refine pk_eq k 6 (fun z => ⟨vi, vp, ?_⟩) (fun z6 => ?_)
    · rw [if_pos z] at h
      have hm6 := hm.1 (Or.inr (Or.inl z))
      exact xo_h hm6.2 hm6.1 hpr hab oR h
    rw [if_neg z6] at h
    refine pk_eq k 7 (fun z => ?_) (fun z7 => ?_)
    · rw [if_pos z] at h
      refine bz_actb p16 rfl (fun t => ⟨vp, vq, ?_⟩) (fun t => ⟨vq, ?_⟩)
      · rw [if_pos t] at h; exact xo_i oR oQ h
      · rw [if_neg (by rw [t]; decide)] at h; exact h
    rw [if_neg z7] at h
    refine pk_eq k 8 (fun z => ⟨vp, vq, ?_⟩) (fun z8 => ?_)
    · rw [if_pos z] at h; exact xo_g oR oS h
    rw [if_neg z8] at h
    refine pk_eq k 9 (fun z => ?_) (fun z9 => trivial)
    rw [if_pos z] at h
    refine bz_actb p16 rfl (fun t => ⟨vp, ?_⟩) (fun t => ⟨vq, ?_⟩)
    · rw [if_pos t] at h; exact h
    · rw [if_neg (by rw [t]; decide)] at h; exact h
  · rw [if_pos ha] at h; exact h
theorem xs_R_canResumed {post : Int32 → Prop} {f_height f_made f_size f_on f_inFirst f_over f_instantsDone f_hadInstant f_lastPresent f_lastAbsent f_present f_absent f_startedNow f_resumedNow : Int32} {a_stack a_newKind a_newMark a_newP a_newQ a_newWithin a_kind a_mark a_partP a_partQ a_within a_mustStarted a_canStarted a_mustResumed a_canResumed : Nat → Int32} {i k m p q pr ab : Nat} {mu : Bool} {sp sq rp rq : Nat × Nat} {e : Int32} (he : e = nI i) (hi : i < 16) (hpr : f_present = nI pr) (hab : f_absent = nI ab)
    (hk : a_kind i = nI k) (k9 : k ≤ 9) (hm : mk_W k m (a_mark i)) (hp : a_partP i = nI p) (hq : a_partQ i = nI q) (p16 : p < 16) (q16 : q < 16)
    (hP : 4 ≤ k → a_canStarted p = pv_k sp ∧ vv_ok sp) (hQ : 4 ≤ k → a_canStarted q = pv_k sq ∧ vv_ok sq) (hRP : 4 ≤ k → a_canResumed p = pv_k rp ∧ vv_ok rp) (hRQ : 4 ≤ k → a_canResumed q = pv_k rq ∧ vv_ok rq)
    (h : post (pv_k (sv_R k m pr ab mu (bt f_on i) (ac_L f_on a_within i) (ac_L f_on a_within p) sp sq rp rq))) :
    wpX_setsResumed__canStarted_canResumed post (f_height, f_made, f_size, f_on, f_inFirst, f_over, f_instantsDone, f_hadInstant, f_lastPresent, f_lastAbsent, f_present, f_absent, f_startedNow, f_resumedNow, a_stack, a_newKind, a_newMark, a_newP, a_newQ, a_newWithin, a_kind, a_mark, a_partP, a_partQ, a_within, a_mustStarted, a_canStarted, a_mustResumed, a_canResumed) e (bo_I mu) := by
  subst he
  have hc : (nI i).toNatClampNeg = i := nI_clamp (by omega)
  have cp : (nI p).toNatClampNeg = p := nI_clamp (by omega)
  have cq : (nI q).toNatClampNeg = q := nI_clamp (by omega)
  have vi : vp_in (nI i) 16 := vp_in_nI hi (by omega)
  have vp : vp_in (nI p) 16 := vp_in_nI p16 (by omega)
  have vq : vp_in (nI q) 16 := vp_in_nI q16 (by omega)
  unfold sv_R at h
  unfold wpX_setsResumed__canStarted_canResumed
  dsimp only
  rw [hc, hp, hq, hk]
  refine bz_actb hi rfl (fun ha => ?_) (fun ha => ?_)
  · rw [if_neg (by rw [ha]; decide)] at h
    refine ⟨vi, nm_e ⟨vi, nm_e ⟨vi, nm_e ?_⟩⟩⟩
    rw [cp, cq]
    refine pk_lt k 4 (fun z => ?_) (fun k4 => ?_)
    · rw [if_neg (by omega), if_neg (by omega), if_neg (by omega), if_neg (by omega), if_neg (by omega), if_neg (by omega)] at h
      exact h
    refine pk_lt 9 k (fun z => absurd z (by omega)) (fun z9 => ?_)
    have oP := (hP k4).2
    have oQ := (hQ k4).2
    have oR := (hRP k4).2
    have oS := (hRQ k4).2
    rw [(hP k4).1, (hQ k4).1, (hRP k4).1, (hRQ k4).1]
    refine pk_eq k 4 (fun z => ?_) (fun z4 => ?_)
    · rw [if_pos z] at h
      refine bz_hasb (n := i) (by omega) rfl (fun t => ⟨vp, ?_⟩) (fun t => ⟨vp, ?_⟩)
      · rw [if_pos t] at h; exact xo_o oP h
      · rw [if_neg (by rw [t]; decide)] at h; exact xo_o oR h
    rw [if_neg z4] at h
    refine pk_eq k 5 (fun z => ⟨vp, ?_⟩) (fun z5 => ?_)
    · rw [if_pos z] at h; exact xo_t oR h
    rw [if_neg z5] at h
    refine pk_eq k 6 (fun z => ⟨vi, vp, ?_⟩) (fun z6 => ?_)
    · rw [if_pos z] at h
      have hm6 := hm.1 (Or.inr (Or.inl z))
      exact xo_h hm6.2 hm6.1 hpr hab oR h
    rw [if_neg z6] at h
    refine pk_eq k 7 (fun z => ?_) (fun z7 => ?_)
    · rw [if_pos z] at h
      refine bz_actb p16 rfl (fun t => ⟨vp, vq, ?_⟩) (fun t => ⟨vq, ?_⟩)
      · rw [if_pos t] at h; exact xo_i oR oQ h
      · rw [if_neg (by rw [t]; decide)] at h; exact h
    rw [if_neg z7] at h
    refine pk_eq k 8 (fun z => ⟨vp, vq, ?_⟩) (fun z8 => ?_)
    · rw [if_pos z] at h; exact xo_g oR oS h
    rw [if_neg z8] at h
    refine pk_eq k 9 (fun z => ?_) (fun z9 => trivial)
    rw [if_pos z] at h
    refine bz_actb p16 rfl (fun t => ⟨vp, ?_⟩) (fun t => ⟨vq, ?_⟩)
    · rw [if_pos t] at h; exact h
    · rw [if_neg (by rw [t]; decide)] at h; exact h
  · rw [if_pos ha] at h; exact h
end
section
/- tables built upward -/
def up_T {α : Type} (G : Nat → (Nat → α) → α) (a0 : α) : Nat → Nat → α
  | 0, _ => a0
  | n + 1, i => G i (up_T G a0 n)
theorem up_e {α : Type} {G : Nat → (Nat → α) → α} {a0 : α} {N : Nat} (hG : ∀ i, i < N → ∀ v v' : Nat → α, (∀ j, j < i → v j = v' j) → G i v = G i v') :
    ∀ i, i < N → ∀ n, i ≤ n → up_T G a0 (n + 1) i = G i (fun j => up_T G a0 (j + 1) j) := by
  intro i
  induction i using Nat.strongRecOn with
  | _ i ih =>
    intro hi n hn
    show G i (up_T G a0 n) = _
    refine hG i hi _ _ (fun j hj => ?_)
    cases n with
    | zero => omega
    | succ n =>
      rw [ih j hj (by omega) n (by omega), ih j hj (by omega) j (by omega)]
theorem sv_Sc {k m pr ab : Nat} {mu : Bool} {p q p' q' : Nat × Nat} (h : 4 ≤ k → p = p' ∧ q = q') : sv_S k m pr ab mu p q = sv_S k m pr ab mu p' q' := by
  by_cases h4 : 4 ≤ k
  · rw [(h h4).1, (h h4).2]
  · unfold sv_S
    rw [if_neg (show ¬ k = 4 by omega), if_neg (show ¬ k = 5 by omega), if_neg (show ¬ k = 6 by omega), if_neg (show ¬ k = 7 by omega), if_neg (show ¬ k = 8 by omega), if_neg (show ¬ k = 9 by omega),
      if_neg (show ¬ k = 4 by omega), if_neg (show ¬ k = 5 by omega), if_neg (show ¬ k = 6 by omega), if_neg (show ¬ k = 7 by omega), if_neg (show ¬ k = 8 by omega), if_neg (show ¬ k = 9 by omega)]
theorem sv_Rc {k m pr ab : Nat} {mu oi ai aP : Bool} {sp sq rp rq rp' rq' : Nat × Nat} (h : 4 ≤ k → rp = rp' ∧ rq = rq') : sv_R k m pr ab mu oi ai aP sp sq rp rq = sv_R k m pr ab mu oi ai aP sp sq rp' rq' := by
  by_cases h4 : 4 ≤ k
  · rw [(h h4).1, (h h4).2]
  · unfold sv_R
    rw [if_neg (show ¬ k = 4 by omega), if_neg (show ¬ k = 5 by omega), if_neg (show ¬ k = 6 by omega), if_neg (show ¬ k = 7 by omega), if_neg (show ¬ k = 8 by omega), if_neg (show ¬ k = 9 by omega),
      if_neg (show ¬ k = 4 by omega), if_neg (show ¬ k = 5 by omega), if_neg (show ¬ k = 6 by omega), if_neg (show ¬ k = 7 by omega), if_neg (show ¬ k = 8 by omega), if_neg (show ¬ k = 9 by omega)]
/-- parts stand before the whole -/
def wf_P (N : Nat) (K P Q : Nat → Nat) : Prop := ∀ i, i < N → 4 ≤ K i → P i < i ∧ Q i < i
def tv_S (K M P Q : Nat → Nat) (pr ab : Nat) (mu : Bool) (i : Nat) : Nat × Nat :=
  up_T (fun i v => sv_S (K i) (M i) pr ab mu (v (P i)) (v (Q i))) (0, 1) (i + 1) i
def tv_R (K M P Q : Nat → Nat) (pr ab : Nat) (o al : Nat → Bool) (mu : Bool) (i : Nat) : Nat × Nat :=
  up_T (fun i v => sv_R (K i) (M i) pr ab mu (o i) (al i) (al (P i)) (tv_S K M P Q pr ab mu (P i)) (tv_S K M P Q pr ab mu (Q i)) (v (P i)) (v (Q i))) (0, 1) (i + 1) i
theorem tv_Se {N : Nat} {K M P Q : Nat → Nat} (wf : wf_P N K P Q) (pr ab : Nat) (mu : Bool) {i : Nat} (hi : i < N) :
    tv_S K M P Q pr ab mu i = sv_S (K i) (M i) pr ab mu (tv_S K M P Q pr ab mu (P i)) (tv_S K M P Q pr ab mu (Q i)) := by
  exact up_e (N := N) (G := fun i v => sv_S (K i) (M i) pr ab mu (v (P i)) (v (Q i))) (fun i hi v v' h => sv_Sc (fun h4 => ⟨h _ (wf i hi h4).1, h _ (wf i hi h4).2⟩)) i hi i (by omega)
theorem tv_Re {N : Nat} {K M P Q : Nat → Nat} (wf : wf_P N K P Q) (pr ab : Nat) (o al : Nat → Bool) (mu : Bool) {i : Nat} (hi : i < N) :
    tv_R K M P Q pr ab o al mu i = sv_R (K i) (M i) pr ab mu (o i) (al i) (al (P i)) (tv_S K M P Q pr ab mu (P i)) (tv_S K M P Q pr ab mu (Q i)) (tv_R K M P Q pr ab o al mu (P i)) (tv_R K M P Q pr ab o al mu (Q i)) := by
  exact up_e (N := N) (G := fun i v => sv_R (K i) (M i) pr ab mu (o i) (al i) (al (P i)) (tv_S K M P Q pr ab mu (P i)) (tv_S K M P Q pr ab mu (Q i)) (v (P i)) (v (Q i))) (fun i hi v v' h => sv_Rc (fun h4 => ⟨h _ (wf i hi h4).1, h _ (wf i hi h4).2⟩)) i hi i (by omega)
/-- the program as X holds it -/
def pg_X (N : Nat) (K M P Q : Nat → Nat) (kX mX pX qX : Nat → Int32) : Prop :=
  ∀ i, i < N → kX i = nI (K i) ∧ K i ≤ 9 ∧ mk_W (K i) (M i) (mX i) ∧ pX i = nI (P i) ∧ qX i = nI (Q i) ∧ P i < 16 ∧ Q i < 16 ∧ (4 ≤ K i → P i < i ∧ Q i < i)
theorem pg_wf {N : Nat} {K M P Q : Nat → Nat} {kX mX pX qX : Nat → Int32} (h : pg_X N K M P Q kX mX pX qX) : wf_P N K P Q := fun i hi => (h i hi).2.2.2.2.2.2.2
theorem tv_Sok {N : Nat} {K M P Q : Nat → Nat} {kX mX pX qX : Nat → Int32} (h : pg_X N K M P Q kX mX pX qX) (pr ab : Nat) (mu : Bool) : ∀ i, i < N → vv_ok (tv_S K M P Q pr ab mu i) := by
  intro i
  induction i using Nat.strongRecOn with
  | _ i ih =>
    intro hi
    rw [tv_Se (pg_wf h) pr ab mu hi]
    exact sv_Sok (h i hi).2.2.1 (fun h4 => ih _ (pg_wf h i hi h4).1 (by have := (pg_wf h i hi h4).1; omega)) (fun h4 => ih _ (pg_wf h i hi h4).2 (by have := (pg_wf h i hi h4).2; omega))
theorem tv_Rok {N : Nat} {K M P Q : Nat → Nat} {kX mX pX qX : Nat → Int32} (h : pg_X N K M P Q kX mX pX qX) (pr ab : Nat) (o al : Nat → Bool) (mu : Bool) : ∀ i, i < N → vv_ok (tv_R K M P Q pr ab o al mu i) := by
  intro i
  induction i using Nat.strongRecOn with
  | _ i ih =>
    intro hi
    rw [tv_Re (pg_wf h) pr ab o al mu hi]
    have hP : 4 ≤ K i → P i < N := fun h4 => by have := (pg_wf h i hi h4).1; omega
    have hQ : 4 ≤ K i → Q i < N := fun h4 => by have := (pg_wf h i hi h4).2; omega
    exact sv_Rok (fun h4 => tv_Sok h pr ab mu _ (hP h4)) (fun h4 => tv_Sok h pr ab mu _ (hQ h4)) (fun h4 => ih _ (pg_wf h i hi h4).1 (hP h4)) (fun h4 => ih _ (pg_wf h i hi h4).2 (hQ h4))
/-- X's four tables below i -/
def tb_X (K M P Q : Nat → Nat) (pr ab : Nat) (o al : Nat → Bool) (ms cs mr cr : Nat → Int32) (i : Nat) : Prop :=
  ∀ j, j < i → ms j = pv_k (tv_S K M P Q pr ab true j) ∧ cs j = pv_k (tv_S K M P Q pr ab false j) ∧ mr j = pv_k (tv_R K M P Q pr ab o al true j) ∧ cr j = pv_k (tv_R K M P Q pr ab o al false j)
theorem xl_2 {post : SX → Prop} {f_height f_made f_size f_on f_inFirst f_over f_instantsDone f_hadInstant f_lastPresent f_lastAbsent f_present f_absent f_startedNow f_resumedNow : Int32} {a_stack a_newKind a_newMark a_newP a_newQ a_newWithin a_kind a_mark a_partP a_partQ a_within : Nat → Int32} {N pr ab : Nat} {K M P Q : Nat → Nat} (hN : N ≤ 16) (hs : f_size = nI N) (hpr : f_present = nI pr) (hab : f_absent = nI ab) (hg : pg_X N K M P Q a_kind a_mark a_partP a_partQ)
    (hp : ∀ ms cs mr cr, tb_X K M P Q pr ab (bt f_on) (ac_L f_on a_within) ms cs mr cr N → post (f_height, f_made, f_size, f_on, f_inFirst, f_over, f_instantsDone, f_hadInstant, f_lastPresent, f_lastAbsent, f_present, f_absent, f_startedNow, f_resumedNow, a_stack, a_newKind, a_newMark, a_newP, a_newQ, a_newWithin, a_kind, a_mark, a_partP, a_partQ, a_within, ms, cs, mr, cr)) :
    ∀ d i ms cs mr cr, i + d = N → tb_X K M P Q pr ab (bt f_on) (ac_L f_on a_within) ms cs mr cr i → wX_lookAtProgram_2 post f_height f_made f_size f_on f_inFirst f_over f_instantsDone f_hadInstant f_lastPresent f_lastAbsent f_present f_absent f_startedNow f_resumedNow (d + 1) (nI i) a_stack a_newKind a_newMark a_newP a_newQ a_newWithin a_kind a_mark a_partP a_partQ a_within ms cs mr cr := by
  intro d
  induction d with
  | zero =>
    intro i ms cs mr cr hi ht
    refine br_t ?_ (hp ms cs mr cr ((show i = N by omega) ▸ ht))
    rw [hs]; exact nI_le (by omega) (by omega)
  | succ d ih =>
    intro i ms cs mr cr hi ht
    have hiN : i < N := by omega
    have hc : (nI i).toNatClampNeg = i := nI_clamp (by omega)
    have vi : vp_in (nI i) 16 := vp_in_nI (by omega) (by omega)
    obtain ⟨g1, g2, g3, g4, g5, g6, g7, g8⟩ := hg i hiN
    refine br_f ?_ ?_
    · rw [hs]; exact nI_ge (by omega) (by omega)
    have okS := fun mu => tv_Sok hg pr ab mu
    have okR := fun mu => tv_Rok hg pr ab (bt f_on) (ac_L f_on a_within) mu
    have hP : 4 ≤ K i → P i < N := fun h4 => by have := (g8 h4).1; omega
    have hQ : 4 ≤ K i → Q i < N := fun h4 => by have := (g8 h4).2; omega
    have nP : 4 ≤ K i → P i ≠ i := fun h4 => by have := (g8 h4).1; omega
    have nQ : 4 ≤ K i → Q i ≠ i := fun h4 => by have := (g8 h4).2; omega
    refine xs_S_mustStarted (mu := true) (vp := tv_S K M P Q pr ab true (P i)) (vq := tv_S K M P Q pr ab true (Q i)) rfl (by omega) hpr hab g1 g2 g3 g4 g5 g6 g7 (fun h4 => ⟨(ht _ (g8 h4).1).1, okS true _ (hP h4)⟩) (fun h4 => ⟨(ht _ (g8 h4).2).1, okS true _ (hQ h4)⟩) ?_
    rw [← tv_Se (pg_wf hg) pr ab true hiN, hc]
    refine ⟨vi, nm_e ?_⟩
    refine xs_S_canStarted (mu := false) (vp := tv_S K M P Q pr ab false (P i)) (vq := tv_S K M P Q pr ab false (Q i)) rfl (by omega) hpr hab g1 g2 g3 g4 g5 g6 g7 (fun h4 => ⟨(ht _ (g8 h4).1).2.1, okS false _ (hP h4)⟩) (fun h4 => ⟨(ht _ (g8 h4).2).2.1, okS false _ (hQ h4)⟩) ?_
    rw [← tv_Se (pg_wf hg) pr ab false hiN]
    refine ⟨vi, nm_e ?_⟩
    refine xs_R_mustResumed (mu := true) (sp := tv_S K M P Q pr ab true (P i)) (sq := tv_S K M P Q pr ab true (Q i)) (rp := tv_R K M P Q pr ab (bt f_on) (ac_L f_on a_within) true (P i)) (rq := tv_R K M P Q pr ab (bt f_on) (ac_L f_on a_within) true (Q i)) rfl (by omega) hpr hab g1 g2 g3 g4 g5 g6 g7
      (fun h4 => ⟨(pk_un (nP h4)).trans (ht _ (g8 h4).1).1, okS true _ (hP h4)⟩) (fun h4 => ⟨(pk_un (nQ h4)).trans (ht _ (g8 h4).2).1, okS true _ (hQ h4)⟩) (fun h4 => ⟨(ht _ (g8 h4).1).2.2.1, okR true _ (hP h4)⟩) (fun h4 => ⟨(ht _ (g8 h4).2).2.2.1, okR true _ (hQ h4)⟩) ?_
    rw [← tv_Re (pg_wf hg) pr ab (bt f_on) (ac_L f_on a_within) true hiN]
    refine ⟨vi, nm_e ?_⟩
    refine xs_R_canResumed (mu := false) (sp := tv_S K M P Q pr ab false (P i)) (sq := tv_S K M P Q pr ab false (Q i)) (rp := tv_R K M P Q pr ab (bt f_on) (ac_L f_on a_within) false (P i)) (rq := tv_R K M P Q pr ab (bt f_on) (ac_L f_on a_within) false (Q i)) rfl (by omega) hpr hab g1 g2 g3 g4 g5 g6 g7
      (fun h4 => ⟨(pk_un (nP h4)).trans (ht _ (g8 h4).1).2.1, okS false _ (hP h4)⟩) (fun h4 => ⟨(pk_un (nQ h4)).trans (ht _ (g8 h4).2).2.1, okS false _ (hQ h4)⟩) (fun h4 => ⟨(ht _ (g8 h4).1).2.2.2, okR false _ (hP h4)⟩) (fun h4 => ⟨(ht _ (g8 h4).2).2.2.2, okR false _ (hQ h4)⟩) ?_
    rw [← tv_Re (pg_wf hg) pr ab (bt f_on) (ac_L f_on a_within) false hiN]
    refine ⟨vi, nm_e (nm_r (nI_1 i) ?_)⟩
    refine ih (i + 1) _ _ _ _ (by omega) (lt_s (fun j hj => ?_) ?_)
    · have hne : j ≠ i := by omega
      rw [pk_un hne, pk_un hne, pk_un hne, pk_un hne]; exact ht j hj
    · rw [pk_us, pk_us, pk_us, pk_us]; exact ⟨rfl, rfl, rfl, rfl⟩
theorem xl_p {post : SX → Prop} {f_height f_made f_size f_on f_inFirst f_over f_instantsDone f_hadInstant f_lastPresent f_lastAbsent f_present f_absent f_startedNow f_resumedNow : Int32} {a_stack a_newKind a_newMark a_newP a_newQ a_newWithin a_kind a_mark a_partP a_partQ a_within a_mustStarted a_canStarted a_mustResumed a_canResumed : Nat → Int32} {N pr ab : Nat} {K M P Q : Nat → Nat} (hN : N ≤ 16) (hs : f_size = nI N) (hpr : f_present = nI pr) (hab : f_absent = nI ab) (hg : pg_X N K M P Q a_kind a_mark a_partP a_partQ)
    (hp : ∀ ms cs mr cr, tb_X K M P Q pr ab (bt f_on) (ac_L f_on a_within) ms cs mr cr N → post (f_height, f_made, f_size, f_on, f_inFirst, f_over, f_instantsDone, f_hadInstant, f_lastPresent, f_lastAbsent, f_present, f_absent, f_startedNow, f_resumedNow, a_stack, a_newKind, a_newMark, a_newP, a_newQ, a_newWithin, a_kind, a_mark, a_partP, a_partQ, a_within, ms, cs, mr, cr)) : wpX_lookAtProgram post (f_height, f_made, f_size, f_on, f_inFirst, f_over, f_instantsDone, f_hadInstant, f_lastPresent, f_lastAbsent, f_present, f_absent, f_startedNow, f_resumedNow, a_stack, a_newKind, a_newMark, a_newP, a_newQ, a_newWithin, a_kind, a_mark, a_partP, a_partQ, a_within, a_mustStarted, a_canStarted, a_mustResumed, a_canResumed) :=
  ⟨N + 1, xl_2 hN hs hpr hab hg hp N 0 _ _ _ _ (by omega) (fun j hj => absurd hj (by omega))⟩
end
section
/- the statuses: a pure iteration -/
def fx_u (pr ab : Nat) : Nat := 63 - (pr ||| ab)
def fx_s (rm rc : Nat → Nat → Nat) (pr ab : Nat) : Nat × Nat := (pr ||| (fx_u pr ab &&& rm pr ab), ab ||| (fx_u pr ab &&& (63 - rc pr ab)))
def fx_r (rm rc : Nat → Nat → Nat) : Nat → Nat → Nat → Nat × Nat
  | 0, pr, ab => (pr, ab)
  | n + 1, pr, ab => if fx_s rm rc pr ab = (pr, ab) then (pr, ab) else fx_r rm rc n (fx_s rm rc pr ab).1 (fx_s rm rc pr ab).2
def fx_pc (n : Nat) : Nat := n % 2 + n / 2 % 2 + n / 4 % 2 + n / 8 % 2 + n / 16 % 2 + n / 32 % 2
theorem fx_pc6 : ∀ n, n < 64 → fx_pc n ≤ 6 := by decide +kernel
theorem fx_pcl : ∀ a, a < 64 → ∀ b, b < 64 → ¬ (a ||| b) = a → fx_pc a < fx_pc (a ||| b) := by decide +kernel
theorem fx_ui : ∀ pr, pr < 64 → ∀ ab, ab < 64 → ((63 : Int32) &&& (nI pr ^^^ (-1))) &&& (nI ab ^^^ (-1)) = nI (fx_u pr ab) := by decide +kernel
theorem fx_u64 (pr ab : Nat) : fx_u pr ab < 64 := by unfold fx_u; omega
theorem fx_tb {n : Nat} (h : n < 64) {i : Nat} (hi : ¬ i < 6) : n.testBit i = false := Nat.testBit_lt_two_pow (Nat.lt_of_lt_of_le h (Nat.pow_le_pow_right (n := 2) (by decide) (show 6 ≤ i by omega)))
theorem fx_ct {s : Nat} (hs : s < 64) (i : Nat) : (63 - s).testBit i = (decide (i < 6) && !s.testBit i) := by
  have := Nat.testBit_two_pow_sub_succ (x := s) (n := 6) hs i
  rw [← this]; congr 1; omega
theorem fx_ub {pr ab : Nat} (h1 : pr < 64) (h2 : ab < 64) (i : Nat) : (fx_u pr ab).testBit i = (decide (i < 6) && !(pr.testBit i || ab.testBit i)) := by
  unfold fx_u
  rw [fx_ct (Nat.or_lt_two_pow (n := 6) h1 h2), Nat.testBit_or]
theorem fx_an {u s : Nat} (c : Nat) (hu : u < 64) (hs : s < 64) : nI u &&& nI (64 * c + s) = nI (u &&& s) := by
  rw [nx_and]
  congr 1
  apply Nat.eq_of_testBit_eq
  intro j
  rw [Nat.testBit_and, Nat.testBit_and, show 64 * c + s = 2 ^ 6 * c + s from rfl, Nat.testBit_two_pow_mul_add c hs]
  split
  · rfl
  · rename_i h; rw [fx_tb hu h]; rfl
theorem fx_nn {u s : Nat} (c : Nat) (hu : u < 64) (hs : s < 64) : nI u &&& (nI (64 * c + s) ^^^ (-1)) = nI (u &&& (63 - s)) := by
  apply b_ext
  intro i hi
  rw [b_and, b_xor, b_m1 i hi, bz_nI hi, bz_nI hi, bz_nI hi, Nat.testBit_and, fx_ct hs, show 64 * c + s = 2 ^ 6 * c + s from rfl, Nat.testBit_two_pow_mul_add c hs]
  by_cases h : i < 6
  · rw [if_pos h, decide_eq_true h]; cases u.testBit i <;> cases s.testBit i <;> rfl
  · rw [fx_tb hu h]; rfl
theorem fx_z {a : Nat} (h : a < 64) : nI a = 0 ↔ a = 0 := by
  rw [← nI_0]; exact nI_eq (by omega) (by decide)
theorem fx_ss (rm rc : Nat → Nat → Nat) {pr ab : Nat} (h1 : pr < 64) (h2 : ab < 64) : (fx_s rm rc pr ab).1 < 64 ∧ (fx_s rm rc pr ab).2 < 64 :=
  ⟨Nat.or_lt_two_pow (n := 6) h1 (Nat.lt_of_le_of_lt Nat.and_le_left (fx_u64 pr ab)), Nat.or_lt_two_pow (n := 6) h2 (Nat.lt_of_le_of_lt Nat.and_le_left (fx_u64 pr ab))⟩
theorem fx_0 {a x y : Nat} (h : ∀ i, y.testBit i = true → a.testBit i = false) (e : a ||| (y &&& x) = a) : y &&& x = 0 := by
  apply Nat.eq_of_testBit_eq
  intro i
  rw [Nat.zero_testBit]
  have he := congrArg (fun n => n.testBit i) e
  rw [Nat.testBit_or] at he
  cases hh : (y &&& x).testBit i
  · rfl
  · rw [hh] at he
    rw [Nat.testBit_and, Bool.and_eq_true] at hh
    rw [h i hh.1] at he; cases he
theorem fx_un (rm rc : Nat → Nat → Nat) {pr ab : Nat} (h1 : pr < 64) (h2 : ab < 64) :
    ((fx_u pr ab &&& rm pr ab) ||| (fx_u pr ab &&& (63 - rc pr ab)) = 0) ↔ fx_s rm rc pr ab = (pr, ab) := by
  constructor
  · intro h
    rw [Nat.or_eq_zero_iff] at h
    unfold fx_s; rw [h.1, h.2, Nat.or_zero, Nat.or_zero]
  · intro h
    unfold fx_s at h
    rw [Prod.mk.injEq] at h
    have e1 := fx_0 (fun i hi => by rw [fx_ub h1 h2] at hi; cases hp : pr.testBit i; rfl; rw [hp] at hi; simp at hi) h.1
    have e2 := fx_0 (fun i hi => by rw [fx_ub h1 h2] at hi; cases hp : ab.testBit i; rfl; rw [hp] at hi; simp at hi) h.2
    rw [e1, e2]; rfl
theorem fx_gr (rm rc : Nat → Nat → Nat) {pr ab : Nat} (h1 : pr < 64) (h2 : ab < 64) (h : ¬ fx_s rm rc pr ab = (pr, ab)) : fx_pc (pr ||| ab) < fx_pc ((fx_s rm rc pr ab).1 ||| (fx_s rm rc pr ab).2) := by
  rw [← fx_un rm rc h1 h2] at h
  have e : (fx_s rm rc pr ab).1 ||| (fx_s rm rc pr ab).2 = (pr ||| ab) ||| ((fx_u pr ab &&& rm pr ab) ||| (fx_u pr ab &&& (63 - rc pr ab))) := by
    unfold fx_s
    dsimp only
    ac_rfl
  rw [e]
  have hy : (fx_u pr ab &&& rm pr ab) ||| (fx_u pr ab &&& (63 - rc pr ab)) = fx_u pr ab &&& (rm pr ab ||| (63 - rc pr ab)) := by
    apply Nat.eq_of_testBit_eq
    intro i
    simp only [Nat.testBit_or, Nat.testBit_and]
    cases (fx_u pr ab).testBit i <;> simp
  refine fx_pcl _ (Nat.or_lt_two_pow (n := 6) h1 h2) _ (Nat.or_lt_two_pow (n := 6) (Nat.lt_of_le_of_lt Nat.and_le_left (fx_u64 pr ab)) (Nat.lt_of_le_of_lt Nat.and_le_left (fx_u64 pr ab))) (fun z => h ?_)
  rw [hy] at z ⊢
  exact fx_0 (fun i hi => by rw [fx_ub h1 h2] at hi; rw [Nat.testBit_or]; cases hp : (pr.testBit i || ab.testBit i); rfl; rw [hp] at hi; simp at hi) z
theorem fx_64 (rm rc : Nat → Nat → Nat) : ∀ n pr ab, pr < 64 → ab < 64 → (fx_r rm rc n pr ab).1 < 64 ∧ (fx_r rm rc n pr ab).2 < 64 := by
  intro n
  induction n with
  | zero => intro pr ab h1 h2; exact ⟨h1, h2⟩
  | succ n ih =>
    intro pr ab h1 h2
    unfold fx_r
    split
    · exact ⟨h1, h2⟩
    · exact ih _ _ (fx_ss rm rc h1 h2).1 (fx_ss rm rc h1 h2).2
/-- the root's signals -/
def rt_v (K M P Q : Nat → Nat) (N : Nat) (o al : Nat → Bool) (fi mu : Bool) (pr ab : Nat) : Nat × Nat := if fi = true then tv_S K M P Q pr ab mu (N - 1) else tv_R K M P Q pr ab o al mu (N - 1)
def rt_m (K M P Q : Nat → Nat) (N : Nat) (o al : Nat → Bool) (fi : Bool) (pr ab : Nat) : Nat := (rt_v K M P Q N o al fi true pr ab).1
def rt_c (K M P Q : Nat → Nat) (N : Nat) (o al : Nat → Bool) (fi : Bool) (pr ab : Nat) : Nat := (rt_v K M P Q N o al fi false pr ab).1
theorem rt_ok {N : Nat} {K M P Q : Nat → Nat} {kX mX pX qX : Nat → Int32} (h : pg_X N K M P Q kX mX pX qX) (h1 : 1 ≤ N) (o al : Nat → Bool) (fi mu : Bool) (pr ab : Nat) : vv_ok (rt_v K M P Q N o al fi mu pr ab) := by
  unfold rt_v
  split
  · exact tv_Sok h pr ab mu _ (by omega)
  · exact tv_Rok h pr ab o al mu _ (by omega)
theorem xf_89 {post : SX → Prop} {J : Int32 → Int32 → Int32 → Int32 → Int32 → Int32 → Int32 → Int32 → Int32 → Int32 → Int32 → Int32 → Int32 → Int32 → Int32 → Int32 → (Nat → Int32) → (Nat → Int32) → (Nat → Int32) → (Nat → Int32) → (Nat → Int32) → (Nat → Int32) → (Nat → Int32) → (Nat → Int32) → (Nat → Int32) → (Nat → Int32) → (Nat → Int32) → (Nat → Int32) → (Nat → Int32) → (Nat → Int32) → (Nat → Int32) → Prop} {f_height f_made f_size f_on f_inFirst f_over f_instantsDone f_hadInstant f_lastPresent f_lastAbsent f_startedNow f_resumedNow : Int32} {a_stack a_newKind a_newMark a_newP a_newQ a_newWithin a_kind a_mark a_partP a_partQ a_within a_mustStarted a_canStarted a_mustResumed a_canResumed : Nat → Int32} {k pr ab : Nat} {rm rc : Nat → Nat → Nat} {v w : Nat × Nat} (h1 : pr < 64) (h2 : ab < 64) (hv : vv_ok v) (hw : vv_ok w) (hrm : rm pr ab = v.1) (hrc : rc pr ab = w.1)
    (hs : fx_s rm rc pr ab = (pr, ab) → J 0 (nI (k + 1)) f_height f_made f_size f_on f_inFirst f_over f_instantsDone f_hadInstant f_lastPresent f_lastAbsent (nI pr) (nI ab) f_startedNow f_resumedNow a_stack a_newKind a_newMark a_newP a_newQ a_newWithin a_kind a_mark a_partP a_partQ a_within a_mustStarted a_canStarted a_mustResumed a_canResumed)
    (hd : ¬ fx_s rm rc pr ab = (pr, ab) → J 1 (nI (k + 1)) f_height f_made f_size f_on f_inFirst f_over f_instantsDone f_hadInstant f_lastPresent f_lastAbsent (nI (fx_s rm rc pr ab).1) (nI (fx_s rm rc pr ab).2) f_startedNow f_resumedNow a_stack a_newKind a_newMark a_newP a_newQ a_newWithin a_kind a_mark a_partP a_partQ a_within a_mustStarted a_canStarted a_mustResumed a_canResumed) :
    wX_findStatuses_89 post J (nI k) (pv_k v) (pv_k w) f_height f_made f_size f_on f_inFirst f_over f_instantsDone f_hadInstant f_lastPresent f_lastAbsent (nI pr) (nI ab) f_startedNow f_resumedNow a_stack a_newKind a_newMark a_newP a_newQ a_newWithin a_kind a_mark a_partP a_partQ a_within a_mustStarted a_canStarted a_mustResumed a_canResumed := by
  have hu := fx_u64 pr ab
  have e1 : nI (fx_u pr ab) &&& pv_k v = nI (fx_u pr ab &&& rm pr ab) := by rw [hrm]; exact fx_an v.2 hu hv.1
  have e2 : nI (fx_u pr ab) &&& (pv_k w ^^^ (-1)) = nI (fx_u pr ab &&& (63 - rc pr ab)) := by rw [hrc]; exact fx_nn w.2 hu hw.1
  refine nm_r (fx_ui pr h1 ab h2) (nm_r e1 (nm_r e2 (nm_r (bz_or _ _) (nm_r (bz_or _ _) ?_))))
  rw [bz_or, fx_z (Nat.or_lt_two_pow (n := 6) (Nat.lt_of_le_of_lt Nat.and_le_left hu) (Nat.lt_of_le_of_lt Nat.and_le_left hu)), fx_un rm rc h1 h2]
  refine br_c (fun z => nm_r (nI_1 k) ?_) (fun z => nm_r (nI_1 k) ?_)
  · have := hs z
    have ez := z
    unfold fx_s at ez
    rw [Prod.mk.injEq] at ez
    rw [ez.1, ez.2]; exact this
  · exact hd z
theorem xf_17 {post : SX → Prop} {f_height f_made f_size f_on f_inFirst f_over f_instantsDone f_hadInstant f_lastPresent f_lastAbsent f_startedNow f_resumedNow : Int32} {a_stack a_newKind a_newMark a_newP a_newQ a_newWithin a_kind a_mark a_partP a_partQ a_within : Nat → Int32} {N : Nat} {K M P Q : Nat → Nat} {fi : Bool} (hN : N ≤ 16) (hN1 : 1 ≤ N) (hs : f_size = nI N) (hfi : f_inFirst = bo_I fi) (hg : pg_X N K M P Q a_kind a_mark a_partP a_partQ)
    {rm rc : Nat → Nat → Nat} (hrm : rm = rt_m K M P Q N (bt f_on) (ac_L f_on a_within) fi) (hrc : rc = rt_c K M P Q N (bt f_on) (ac_L f_on a_within) fi) :
    ∀ n k pr ab ms cs mr cr, n + k = 7 → pr < 64 → ab < 64 → k ≤ fx_pc (pr ||| ab) →
    (∀ ms cs mr cr, tb_X K M P Q (fx_r rm rc n pr ab).1 (fx_r rm rc n pr ab).2 (bt f_on) (ac_L f_on a_within) ms cs mr cr N → post (f_height, f_made, f_size, f_on, f_inFirst, f_over, f_instantsDone, f_hadInstant, f_lastPresent, f_lastAbsent, nI (fx_r rm rc n pr ab).1, nI (fx_r rm rc n pr ab).2, f_startedNow, f_resumedNow, a_stack, a_newKind, a_newMark, a_newP, a_newQ, a_newWithin, a_kind, a_mark, a_partP, a_partQ, a_within, ms, cs, mr, cr)) →
    wX_findStatuses_17 post (n + 1) 1 (nI k) f_height f_made f_size f_on f_inFirst f_over f_instantsDone f_hadInstant f_lastPresent f_lastAbsent (nI pr) (nI ab) f_startedNow f_resumedNow a_stack a_newKind a_newMark a_newP a_newQ a_newWithin a_kind a_mark a_partP a_partQ a_within ms cs mr cr := by
  intro n
  induction n with
  | zero =>
    intro k pr ab ms cs mr cr hnk h1 h2 hpc
    have := fx_pc6 _ (Nat.or_lt_two_pow (n := 6) h1 h2)
    omega
  | succ n ih =>
    intro k pr ab ms cs mr cr hnk h1 h2 hpc hp
    refine br_f (nI_nlt (a := 6) (by omega) (by omega)) (br_f (by decide) ?_)
    refine xl_p hN hs rfl rfl hg (fun ms cs mr cr ht => ?_)
    have hz : nI N - 1 = nI (N - 1) := by
      have := pk_sub (a := N) (b := 1) hN1
      exact this
    have vN : vp_in (nI (N - 1)) 16 := vp_in_nI (by omega) (by omega)
    have cN : (nI (N - 1)).toNatClampNeg = N - 1 := nI_clamp (by omega)
    obtain ⟨t1, t2, t3, t4⟩ := ht (N - 1) (by omega)
    have okm := rt_ok hg hN1 (bt f_on) (ac_L f_on a_within) fi true pr ab
    have okc := rt_ok hg hN1 (bt f_on) (ac_L f_on a_within) fi false pr ab
    have erm : rm pr ab = (rt_v K M P Q N (bt f_on) (ac_L f_on a_within) fi true pr ab).1 := by rw [hrm]; rfl
    have erc : rc pr ab = (rt_v K M P Q N (bt f_on) (ac_L f_on a_within) fi false pr ab).1 := by rw [hrc]; rfl
    have key : wX_findStatuses_89 post (wX_findStatuses_17 post (n + 1)) (nI k) (pv_k (rt_v K M P Q N (bt f_on) (ac_L f_on a_within) fi true pr ab)) (pv_k (rt_v K M P Q N (bt f_on) (ac_L f_on a_within) fi false pr ab)) f_height f_made f_size f_on f_inFirst f_over f_instantsDone f_hadInstant f_lastPresent f_lastAbsent (nI pr) (nI ab) f_startedNow f_resumedNow a_stack a_newKind a_newMark a_newP a_newQ a_newWithin a_kind a_mark a_partP a_partQ a_within ms cs mr cr := by
      refine xf_89 (rm := rm) (rc := rc) h1 h2 okm okc erm erc (fun z => ?_) (fun z => ?_)
      · have hx : fx_r rm rc (n + 1) pr ab = (pr, ab) := by unfold fx_r; rw [if_pos z]
        have hp' := hp ms cs mr cr
        rw [hx] at hp'
        exact br_c (fun _ => hp' ht) (fun _ => br_t rfl (hp' ht))
      · have hx : fx_r rm rc (n + 1) pr ab = fx_r rm rc n (fx_s rm rc pr ab).1 (fx_s rm rc pr ab).2 := by rw [fx_r, if_neg z]
        rw [hx] at hp
        have := fx_gr rm rc h1 h2 z
        exact ih (k + 1) _ _ ms cs mr cr (by omega) (fx_ss rm rc h1 h2).1 (fx_ss rm rc h1 h2).2 (by omega) hp
    unfold rt_v at key
    rw [hs]
    refine nm_r hz ?_
    rw [cN, t1, t3, hfi]
    refine bo_br fi (fun z => ⟨vN, ?_⟩) (fun z => ⟨vN, ?_⟩)
    · unfold wX_findStatuses_63
      rw [cN, t4, t2, z]
      rw [z, if_neg (by decide), if_neg (by decide), hs, hfi, z] at key
      exact br_t rfl ⟨vN, key⟩
    · unfold wX_findStatuses_63
      rw [cN, t4, t2, z]
      rw [z, if_pos rfl, if_pos rfl, hs, hfi, z] at key
      exact br_f (by decide) ⟨vN, key⟩
theorem xf_p {post : SX → Prop} {f_height f_made f_size f_on f_inFirst f_over f_instantsDone f_hadInstant f_lastPresent f_lastAbsent f_present f_absent f_startedNow f_resumedNow : Int32} {a_stack a_newKind a_newMark a_newP a_newQ a_newWithin a_kind a_mark a_partP a_partQ a_within a_mustStarted a_canStarted a_mustResumed a_canResumed : Nat → Int32} {N : Nat} {K M P Q : Nat → Nat} {fi : Bool} {e : Int32} {inp : Nat} (hi : inp < 64) (he : e &&& 63 = nI inp) (hN : N ≤ 16) (hN1 : 1 ≤ N) (hs : f_size = nI N) (hfi : f_inFirst = bo_I fi) (hg : pg_X N K M P Q a_kind a_mark a_partP a_partQ)
    {rm rc : Nat → Nat → Nat} (hrm : rm = rt_m K M P Q N (bt f_on) (ac_L f_on a_within) fi) (hrc : rc = rt_c K M P Q N (bt f_on) (ac_L f_on a_within) fi)
    (hp : ∀ pr ab ms cs mr cr, (pr, ab) = fx_r rm rc 7 inp 0 → tb_X K M P Q pr ab (bt f_on) (ac_L f_on a_within) ms cs mr cr N → post (f_height, f_made, f_size, f_on, f_inFirst, f_over, f_instantsDone, f_hadInstant, f_lastPresent, f_lastAbsent, nI pr, nI ab, f_startedNow, f_resumedNow, a_stack, a_newKind, a_newMark, a_newP, a_newQ, a_newWithin, a_kind, a_mark, a_partP, a_partQ, a_within, ms, cs, mr, cr)) : wpX_findStatuses post (f_height, f_made, f_size, f_on, f_inFirst, f_over, f_instantsDone, f_hadInstant, f_lastPresent, f_lastAbsent, f_present, f_absent, f_startedNow, f_resumedNow, a_stack, a_newKind, a_newMark, a_newP, a_newQ, a_newWithin, a_kind, a_mark, a_partP, a_partQ, a_within, a_mustStarted, a_canStarted, a_mustResumed, a_canResumed) e := by
  refine nm_r he ⟨8, ?_⟩
  exact xf_17 hN hN1 hs hfi hg hrm hrc 7 0 inp 0 _ _ _ _ rfl hi (by decide) (Nat.zero_le _) (fun ms cs mr cr ht => hp _ _ ms cs mr cr rfl ht)
end
section
/- Y's operations on quadruples (must emit, can emit, must end, can end) -/
def qu_T : Type := Int32 × Int32 × Int32 × Int32
def qu_at (me ce mn cn : Nat → Int32) (j : Nat) : Int32 × Int32 × Int32 × Int32 := (me j, ce j, mn j, cn j)
def qu_again (x : Int32 × Int32 × Int32 × Int32) : Int32 × Int32 × Int32 × Int32 := (x.1, x.2.1, if x.2.2.1 = 0 then 1 else x.2.2.1, if (x.2.2.2 &&& 1) = 1 then (x.2.2.2 &&& (-2)) ||| 2 else x.2.2.2)
def qu_trap (x : Int32 × Int32 × Int32 × Int32) : Int32 × Int32 × Int32 × Int32 := (x.1, x.2.1, if x.2.2.1 = 2 then 0 else if x.2.2.1 ≤ 2 then x.2.2.1 else x.2.2.1 - 1, if (x.2.2.2 &&& 4) = 0 then (x.2.2.2 &&& 3) ||| ((x.2.2.2 >>> ((1 : Int32) &&& 31)) &&& 12) else ((x.2.2.2 &&& 3) ||| ((x.2.2.2 >>> ((1 : Int32) &&& 31)) &&& 12)) ||| 1)
def qu_follow (x y : Int32 × Int32 × Int32 × Int32) : Int32 × Int32 × Int32 × Int32 := (if x.2.2.1 = 0 then x.1 ||| y.1 else x.1, if (x.2.2.2 &&& 1) = 1 then x.2.1 ||| y.2.1 else x.2.1, if x.2.2.1 = 0 then y.2.2.1 else x.2.2.1, if (x.2.2.2 &&& 1) = 1 then (x.2.2.2 &&& (-2)) ||| y.2.2.2 else x.2.2.2)
def gr_b (bb : Nat → Bool) (a : Nat) : Nat → Int32 → Int32
  | 0, acc => acc
  | n + 1, acc => gr_b bb a n (if bb (4 - n) = true then acc ||| ((1 : Int32) <<< (nI (if a ≤ 4 - n then 4 - n else a) &&& 31)) else acc)
def gr_a (aa bb : Nat → Bool) : Nat → Int32 → Int32
  | 0, acc => acc
  | n + 1, acc => gr_a aa bb n (if aa (4 - n) = true then gr_b bb (4 - n) 5 acc else acc)
def qu_end (a b : Int32) : Int32 := if a < 0 then -1 else if 0 ≤ b then (if a ≤ b then b else a) else -1
def qu_beside (x y : Int32 × Int32 × Int32 × Int32) : Int32 × Int32 × Int32 × Int32 := (x.1 ||| y.1, x.2.1 ||| y.2.1, qu_end x.2.2.1 y.2.2.1, gr_a (bt x.2.2.2) (bt y.2.2.2) 5 0)
def qu_either (m : Nat) (pr ab : Int32) (x y : Int32 × Int32 × Int32 × Int32) : Int32 × Int32 × Int32 × Int32 := if bt pr m = true then x else if bt ab m = true then y else (0, x.2.1 ||| y.2.1, -1, x.2.2.2 ||| y.2.2.2)
def qu_susp (m : Nat) (pr ab : Int32) (x : Int32 × Int32 × Int32 × Int32) : Int32 × Int32 × Int32 × Int32 := if bt pr m = true then (0, 0, 1, 2) else if bt ab m = true then x else (0, x.2.1, -1, x.2.2.2 ||| 2)
theorem yo_set {post : SY → Prop} {g_made g_depth g_size g_begun g_over g_ticks g_present g_absent g_any g_lastPresent g_lastAbsent : Int32} {b_sorts b_numbers b_firsts b_seconds b_stack b_around b_on b_alive b_mustEmit b_canEmit b_mustEnd b_canEnd b_done b_frozen b_killed b_after : Nat → Int32} {a : Nat} {p1 p2 p3 p4 : Int32} (ha : a < 32) (h : post (g_made, g_depth, g_size, g_begun, g_over, g_ticks, g_present, g_absent, g_any, g_lastPresent, g_lastAbsent, b_sorts, b_numbers, b_firsts, b_seconds, b_stack, b_around, b_on, b_alive, upd b_mustEmit a p1, upd b_canEmit a p2, upd b_mustEnd a p3, upd b_canEnd a p4, b_done, b_frozen, b_killed, b_after)) : wpY_set post (g_made, g_depth, g_size, g_begun, g_over, g_ticks, g_present, g_absent, g_any, g_lastPresent, g_lastAbsent, b_sorts, b_numbers, b_firsts, b_seconds, b_stack, b_around, b_on, b_alive, b_mustEmit, b_canEmit, b_mustEnd, b_canEnd, b_done, b_frozen, b_killed, b_after) (nI a) p1 p2 p3 p4 := by
  have ca : (nI a).toNatClampNeg = a := nI_clamp (by omega)
  have va : vp_in (nI a) 32 := vp_in_nI ha (by omega)
  unfold wpY_set
  dsimp only
  rw [ca]
  exact ⟨va, nm_e ⟨va, nm_e ⟨va, nm_e ⟨va, nm_e h⟩⟩⟩⟩
theorem yo_copy {post : SY → Prop} {g_made g_depth g_size g_begun g_over g_ticks g_present g_absent g_any g_lastPresent g_lastAbsent : Int32} {b_sorts b_numbers b_firsts b_seconds b_stack b_around b_on b_alive b_mustEmit b_canEmit b_mustEnd b_canEnd b_done b_frozen b_killed b_after : Nat → Int32} {a p : Nat} (ha : a < 32) (hp : p < 32) (h : post (g_made, g_depth, g_size, g_begun, g_over, g_ticks, g_present, g_absent, g_any, g_lastPresent, g_lastAbsent, b_sorts, b_numbers, b_firsts, b_seconds, b_stack, b_around, b_on, b_alive, upd b_mustEmit (a) (qu_at b_mustEmit b_canEmit b_mustEnd b_canEnd p).1, upd b_canEmit (a) (qu_at b_mustEmit b_canEmit b_mustEnd b_canEnd p).2.1, upd b_mustEnd (a) (qu_at b_mustEmit b_canEmit b_mustEnd b_canEnd p).2.2.1, upd b_canEnd (a) (qu_at b_mustEmit b_canEmit b_mustEnd b_canEnd p).2.2.2, b_done, b_frozen, b_killed, b_after)) : wpY_copy post (g_made, g_depth, g_size, g_begun, g_over, g_ticks, g_present, g_absent, g_any, g_lastPresent, g_lastAbsent, b_sorts, b_numbers, b_firsts, b_seconds, b_stack, b_around, b_on, b_alive, b_mustEmit, b_canEmit, b_mustEnd, b_canEnd, b_done, b_frozen, b_killed, b_after) (nI a) (nI p) := by
  have cp : (nI p).toNatClampNeg = p := nI_clamp (by omega)
  have vp : vp_in (nI p) 32 := vp_in_nI hp (by omega)
  unfold wpY_copy
  dsimp only
  rw [cp]
  exact ⟨vp, vp, vp, vp, yo_set ha h⟩
theorem yo_again {post : SY → Prop} {g_made g_depth g_size g_begun g_over g_ticks g_present g_absent g_any g_lastPresent g_lastAbsent : Int32} {b_sorts b_numbers b_firsts b_seconds b_stack b_around b_on b_alive b_mustEmit b_canEmit b_mustEnd b_canEnd b_done b_frozen b_killed b_after : Nat → Int32} {a p : Nat} (ha : a < 32) (hp : p < 32) (h : post (g_made, g_depth, g_size, g_begun, g_over, g_ticks, g_present, g_absent, g_any, g_lastPresent, g_lastAbsent, b_sorts, b_numbers, b_firsts, b_seconds, b_stack, b_around, b_on, b_alive, upd b_mustEmit (a) (qu_again (qu_at b_mustEmit b_canEmit b_mustEnd b_canEnd p)).1, upd b_canEmit (a) (qu_again (qu_at b_mustEmit b_canEmit b_mustEnd b_canEnd p)).2.1, upd b_mustEnd (a) (qu_again (qu_at b_mustEmit b_canEmit b_mustEnd b_canEnd p)).2.2.1, upd b_canEnd (a) (qu_again (qu_at b_mustEmit b_canEmit b_mustEnd b_canEnd p)).2.2.2, b_done, b_frozen, b_killed, b_after)) : wpY_again post (g_made, g_depth, g_size, g_begun, g_over, g_ticks, g_present, g_absent, g_any, g_lastPresent, g_lastAbsent, b_sorts, b_numbers, b_firsts, b_seconds, b_stack, b_around, b_on, b_alive, b_mustEmit, b_canEmit, b_mustEnd, b_canEnd, b_done, b_frozen, b_killed, b_after) (nI a) (nI p) := by
  have cp : (nI p).toNatClampNeg = p := nI_clamp (by omega)
  have vp : vp_in (nI p) 32 := vp_in_nI hp (by omega)
  unfold wpY_again
  dsimp only
  rw [cp]
  unfold qu_again qu_at at h
  dsimp only at h
  refine ⟨vp, nm_e ⟨vp, vp, vp, ?_⟩⟩
  refine br_c (fun z => ?_) (fun z => ⟨vp, ?_⟩)
  · rw [if_pos z] at h
    exact br_c (fun y => by rw [if_pos y] at h; exact yo_set ha h) (fun y => by rw [if_neg y] at h; exact yo_set ha h)
  · rw [if_neg z] at h
    exact br_c (fun y => by rw [if_pos y] at h; exact yo_set ha h) (fun y => by rw [if_neg y] at h; exact yo_set ha h)
theorem yo_trap {post : SY → Prop} {g_made g_depth g_size g_begun g_over g_ticks g_present g_absent g_any g_lastPresent g_lastAbsent : Int32} {b_sorts b_numbers b_firsts b_seconds b_stack b_around b_on b_alive b_mustEmit b_canEmit b_mustEnd b_canEnd b_done b_frozen b_killed b_after : Nat → Int32} {a p : Nat} (ha : a < 32) (hp : p < 32) (h : post (g_made, g_depth, g_size, g_begun, g_over, g_ticks, g_present, g_absent, g_any, g_lastPresent, g_lastAbsent, b_sorts, b_numbers, b_firsts, b_seconds, b_stack, b_around, b_on, b_alive, upd b_mustEmit (a) (qu_trap (qu_at b_mustEmit b_canEmit b_mustEnd b_canEnd p)).1, upd b_canEmit (a) (qu_trap (qu_at b_mustEmit b_canEmit b_mustEnd b_canEnd p)).2.1, upd b_mustEnd (a) (qu_trap (qu_at b_mustEmit b_canEmit b_mustEnd b_canEnd p)).2.2.1, upd b_canEnd (a) (qu_trap (qu_at b_mustEmit b_canEmit b_mustEnd b_canEnd p)).2.2.2, b_done, b_frozen, b_killed, b_after)) : wpY_trapped post (g_made, g_depth, g_size, g_begun, g_over, g_ticks, g_present, g_absent, g_any, g_lastPresent, g_lastAbsent, b_sorts, b_numbers, b_firsts, b_seconds, b_stack, b_around, b_on, b_alive, b_mustEmit, b_canEmit, b_mustEnd, b_canEnd, b_done, b_frozen, b_killed, b_after) (nI a) (nI p) := by
  have cp : (nI p).toNatClampNeg = p := nI_clamp (by omega)
  have vp : vp_in (nI p) 32 := vp_in_nI hp (by omega)
  unfold wpY_trapped
  dsimp only
  rw [cp]
  unfold qu_trap qu_at at h
  dsimp only at h
  refine ⟨vp, nm_e ⟨vp, nm_e (nm_e ?_)⟩⟩
  refine br_c (fun z => ?_) (fun z => nm_e ?_)
  · rw [if_pos z] at h
    unfold wY_trapped_42
    rw [cp]
    refine ⟨vp, vp, br_c (fun y => ?_) (fun y => br_c (fun w => ?_) (fun w => ?_))⟩
    · rw [if_pos y] at h; exact yo_set ha h
    · rw [if_neg y, if_pos w] at h; exact yo_set ha h
    · rw [if_neg y, if_neg w] at h; exact yo_set ha h
  · rw [if_neg z] at h
    unfold wY_trapped_42
    rw [cp]
    refine ⟨vp, vp, br_c (fun y => ?_) (fun y => br_c (fun w => ?_) (fun w => ?_))⟩
    · rw [if_pos y] at h; exact yo_set ha h
    · rw [if_neg y, if_pos w] at h; exact yo_set ha h
    · rw [if_neg y, if_neg w] at h; exact yo_set ha h
theorem yo_follow {post : SY → Prop} {g_made g_depth g_size g_begun g_over g_ticks g_present g_absent g_any g_lastPresent g_lastAbsent : Int32} {b_sorts b_numbers b_firsts b_seconds b_stack b_around b_on b_alive b_mustEmit b_canEmit b_mustEnd b_canEnd b_done b_frozen b_killed b_after : Nat → Int32} {a p q : Nat} (ha : a < 32) (hp : p < 32) (hq : q < 32) (h : post (g_made, g_depth, g_size, g_begun, g_over, g_ticks, g_present, g_absent, g_any, g_lastPresent, g_lastAbsent, b_sorts, b_numbers, b_firsts, b_seconds, b_stack, b_around, b_on, b_alive, upd b_mustEmit (a) (qu_follow (qu_at b_mustEmit b_canEmit b_mustEnd b_canEnd p) (qu_at b_mustEmit b_canEmit b_mustEnd b_canEnd q)).1, upd b_canEmit (a) (qu_follow (qu_at b_mustEmit b_canEmit b_mustEnd b_canEnd p) (qu_at b_mustEmit b_canEmit b_mustEnd b_canEnd q)).2.1, upd b_mustEnd (a) (qu_follow (qu_at b_mustEmit b_canEmit b_mustEnd b_canEnd p) (qu_at b_mustEmit b_canEmit b_mustEnd b_canEnd q)).2.2.1, upd b_canEnd (a) (qu_follow (qu_at b_mustEmit b_canEmit b_mustEnd b_canEnd p) (qu_at b_mustEmit b_canEmit b_mustEnd b_canEnd q)).2.2.2, b_done, b_frozen, b_killed, b_after)) : wpY_follow post (g_made, g_depth, g_size, g_begun, g_over, g_ticks, g_present, g_absent, g_any, g_lastPresent, g_lastAbsent, b_sorts, b_numbers, b_firsts, b_seconds, b_stack, b_around, b_on, b_alive, b_mustEmit, b_canEmit, b_mustEnd, b_canEnd, b_done, b_frozen, b_killed, b_after) (nI a) (nI p) (nI q) := by
  have cp : (nI p).toNatClampNeg = p := nI_clamp (by omega)
  have vp : vp_in (nI p) 32 := vp_in_nI hp (by omega)
  have cq : (nI q).toNatClampNeg = q := nI_clamp (by omega)
  have vq : vp_in (nI q) 32 := vp_in_nI hq (by omega)
  unfold wpY_follow
  dsimp only
  rw [cp]
  unfold qu_follow qu_at at h
  dsimp only at h
  refine ⟨vp, br_c (fun z => ?_) (fun z => ?_)⟩
  · rw [if_pos z, if_pos z] at h
    unfold wY_follow_14; rw [cp]
    refine ⟨vp, br_c (fun y => ?_) (fun y => ?_)⟩
    · rw [if_pos y, if_pos y] at h
      unfold wY_follow_33; rw [cp, cq]
      refine br_f (by decide) ⟨vp, vq, ?_⟩
      unfold wY_follow_62; rw [cp, cq]
      refine br_f (by decide) ⟨vp, vq, ?_⟩
      unfold wY_follow_91; rw [cp, cq]
      refine br_f (by decide) ⟨vq, ?_⟩
      unfold wY_follow_119; rw [cp, cq]
      exact br_f (by decide) ⟨vp, vq, yo_set ha h⟩
    · rw [if_neg y, if_neg y] at h
      unfold wY_follow_33; rw [cp, cq]
      refine br_f (by decide) ⟨vp, vq, ?_⟩
      unfold wY_follow_62; rw [cp, cq]
      refine br_t rfl ⟨vp, ?_⟩
      unfold wY_follow_91; rw [cp, cq]
      refine br_f (by decide) ⟨vq, ?_⟩
      unfold wY_follow_119; rw [cp, cq]
      exact br_t rfl ⟨vp, yo_set ha h⟩
  · rw [if_neg z, if_neg z] at h
    unfold wY_follow_14; rw [cp]
    refine ⟨vp, br_c (fun y => ?_) (fun y => ?_)⟩
    · rw [if_pos y, if_pos y] at h
      unfold wY_follow_33; rw [cp, cq]
      refine br_t rfl ⟨vp, ?_⟩
      unfold wY_follow_62; rw [cp, cq]
      refine br_f (by decide) ⟨vp, vq, ?_⟩
      unfold wY_follow_91; rw [cp, cq]
      refine br_t rfl ⟨vp, ?_⟩
      unfold wY_follow_119; rw [cp, cq]
      exact br_f (by decide) ⟨vp, vq, yo_set ha h⟩
    · rw [if_neg y, if_neg y] at h
      unfold wY_follow_33; rw [cp, cq]
      refine br_t rfl ⟨vp, ?_⟩
      unfold wY_follow_62; rw [cp, cq]
      refine br_t rfl ⟨vp, ?_⟩
      unfold wY_follow_91; rw [cp, cq]
      refine br_t rfl ⟨vp, ?_⟩
      unfold wY_follow_119; rw [cp, cq]
      exact br_t rfl ⟨vp, yo_set ha h⟩
theorem yo_g14 {post : Int32 → Prop} {J : Int32 → Int32 → Prop} {x1 x2 : Int32} {g_made g_depth g_size g_begun g_over g_ticks g_present g_absent g_any g_lastPresent g_lastAbsent : Int32} {b_sorts b_numbers b_firsts b_seconds b_stack b_around b_on b_alive b_mustEmit b_canEmit b_mustEnd b_canEnd b_done b_frozen b_killed b_after : Nat → Int32} {a : Nat} (ha : a < 5) : ∀ n acc, n ≤ 5 → J (if bt x1 a = true then gr_b (bt x2) a n acc else acc) (nI (a + 1)) → wY_greater_14 post J x1 x2 (nI a) g_made g_depth g_size g_begun g_over g_ticks g_present g_absent g_any g_lastPresent g_lastAbsent b_sorts b_numbers b_firsts b_seconds b_stack b_around b_on b_alive b_mustEmit b_canEmit b_mustEnd b_canEnd b_done b_frozen b_killed b_after (n + 1) acc (nI (5 - n)) := by
  intro n
  induction n with
  | zero =>
    intro acc _ h
    have e : (if bt x1 a = true then gr_b (bt x2) a 0 acc else acc) = acc := by split <;> rfl
    rw [e] at h
    exact br_t (nI_le (a := 5) (by omega) (by omega)) (nm_r (nI_1 a) h)
  | succ n ih =>
    intro acc hn h
    have hb : 5 - (n + 1) + 1 = 5 - n := by omega
    have hx : 5 - (n + 1) = 4 - n := by omega
    refine br_f (nI_ge (b := 5) (by omega) (by omega)) ?_
    refine bz_yb (n := a) (by omega) rfl (fun t => ?_) (fun t => ?_)
    · rw [if_pos t] at h
      refine bz_yb (n := 5 - (n + 1)) (by omega) rfl (fun t2 => ?_) (fun t2 => ?_)
      · refine pk_le a (5 - (n + 1)) (fun l => nm_e (nm_r (nI_1 _) ?_)) (fun l => nm_e (nm_r (nI_1 _) ?_))
        · rw [hb]
          refine ih _ (by omega) ?_
          rw [if_pos t]
          unfold gr_b at h
          rw [hx] at t2 l
          rw [if_pos t2, if_pos l] at h
          rw [hx]; exact h
        · rw [hb]
          refine ih _ (by omega) ?_
          rw [if_pos t]
          unfold gr_b at h
          rw [hx] at t2 l
          rw [if_pos t2, if_neg (by omega)] at h
          exact h
      · refine nm_r (nI_1 _) ?_
        rw [hb]
        refine ih _ (by omega) ?_
        rw [if_pos t]
        unfold gr_b at h
        rw [hx] at t2
        rw [if_neg (by rw [t2]; decide)] at h
        exact h
    · refine nm_r (nI_1 _) ?_
      rw [hb]
      refine ih _ (by omega) ?_
      rw [if_neg (by rw [t]; decide)] at h ⊢
      exact h
theorem yo_g5 {post : Int32 → Prop} {x1 x2 : Int32} {g_made g_depth g_size g_begun g_over g_ticks g_present g_absent g_any g_lastPresent g_lastAbsent : Int32} {b_sorts b_numbers b_firsts b_seconds b_stack b_around b_on b_alive b_mustEmit b_canEmit b_mustEnd b_canEnd b_done b_frozen b_killed b_after : Nat → Int32} : ∀ n acc, n ≤ 5 → post (gr_a (bt x1) (bt x2) n acc) → wY_greater_5 post x1 x2 g_made g_depth g_size g_begun g_over g_ticks g_present g_absent g_any g_lastPresent g_lastAbsent b_sorts b_numbers b_firsts b_seconds b_stack b_around b_on b_alive b_mustEmit b_canEmit b_mustEnd b_canEnd b_done b_frozen b_killed b_after (n + 1) acc (nI (5 - n)) := by
  intro n
  induction n with
  | zero =>
    intro acc _ h
    exact br_t (nI_le (a := 5) (by omega) (by omega)) h
  | succ n ih =>
    intro acc hn h
    have hb : 5 - (n + 1) + 1 = 5 - n := by omega
    have hx : 5 - (n + 1) = 4 - n := by omega
    refine br_f (nI_ge (b := 5) (by omega) (by omega)) ⟨6, ?_⟩
    refine yo_g14 (a := 5 - (n + 1)) (by omega) 5 acc (by omega) ?_
    rw [hb]
    refine ih _ (by omega) ?_
    unfold gr_a at h
    rw [hx]; exact h
theorem yo_greater {post : Int32 → Prop} {x1 x2 : Int32} {g_made g_depth g_size g_begun g_over g_ticks g_present g_absent g_any g_lastPresent g_lastAbsent : Int32} {b_sorts b_numbers b_firsts b_seconds b_stack b_around b_on b_alive b_mustEmit b_canEmit b_mustEnd b_canEnd b_done b_frozen b_killed b_after : Nat → Int32} (h : post (gr_a (bt x1) (bt x2) 5 0)) : wpY_greater post (g_made, g_depth, g_size, g_begun, g_over, g_ticks, g_present, g_absent, g_any, g_lastPresent, g_lastAbsent, b_sorts, b_numbers, b_firsts, b_seconds, b_stack, b_around, b_on, b_alive, b_mustEmit, b_canEmit, b_mustEnd, b_canEnd, b_done, b_frozen, b_killed, b_after) x1 x2 := ⟨6, yo_g5 5 0 (by omega) h⟩
end
section
/- beside, either, suspended, the two judges -/
def be_A (me ce mn cn : Nat → Int32) (e : Int32) (x : Int32 × Int32 × Int32 × Int32) : Prop := (∃ p, p < 32 ∧ e = nI p ∧ x = qu_at me ce mn cn p) ∨ (e = -1 ∧ x = (0, 0, 0, 1))
theorem be_me {me ce mn cn : Nat → Int32} {e : Int32} {x : Int32 × Int32 × Int32 × Int32} (F : Int32 → Prop) (h : be_A me ce mn cn e x) (hF : F x.1) : (0 ≤ e → (vp_in e 32 ∧ F (me e.toNatClampNeg))) ∧ (¬ 0 ≤ e → F 0) := by
  rcases h with ⟨p, hp, rfl, rfl⟩ | ⟨rfl, rfl⟩
  · rw [nI_clamp (show p < 2 ^ 31 by omega)]; exact br_t (nI_pos' (by omega)) ⟨vp_in_nI hp (by omega), hF⟩
  · exact br_f (by decide) hF
theorem be_ce {me ce mn cn : Nat → Int32} {e : Int32} {x : Int32 × Int32 × Int32 × Int32} (F : Int32 → Prop) (h : be_A me ce mn cn e x) (hF : F x.2.1) : (0 ≤ e → (vp_in e 32 ∧ F (ce e.toNatClampNeg))) ∧ (¬ 0 ≤ e → F 0) := by
  rcases h with ⟨p, hp, rfl, rfl⟩ | ⟨rfl, rfl⟩
  · rw [nI_clamp (show p < 2 ^ 31 by omega)]; exact br_t (nI_pos' (by omega)) ⟨vp_in_nI hp (by omega), hF⟩
  · exact br_f (by decide) hF
theorem be_mn {me ce mn cn : Nat → Int32} {e : Int32} {x : Int32 × Int32 × Int32 × Int32} (F : Int32 → Prop) (h : be_A me ce mn cn e x) (hF : F x.2.2.1) : (0 ≤ e → (vp_in e 32 ∧ F (mn e.toNatClampNeg))) ∧ (¬ 0 ≤ e → F 0) := by
  rcases h with ⟨p, hp, rfl, rfl⟩ | ⟨rfl, rfl⟩
  · rw [nI_clamp (show p < 2 ^ 31 by omega)]; exact br_t (nI_pos' (by omega)) ⟨vp_in_nI hp (by omega), hF⟩
  · exact br_f (by decide) hF
theorem be_cn {me ce mn cn : Nat → Int32} {e : Int32} {x : Int32 × Int32 × Int32 × Int32} (F : Int32 → Prop) (h : be_A me ce mn cn e x) (hF : F x.2.2.2) : (0 ≤ e → (vp_in e 32 ∧ F (cn e.toNatClampNeg))) ∧ (¬ 0 ≤ e → F 1) := by
  rcases h with ⟨p, hp, rfl, rfl⟩ | ⟨rfl, rfl⟩
  · rw [nI_clamp (show p < 2 ^ 31 by omega)]; exact br_t (nI_pos' (by omega)) ⟨vp_in_nI hp (by omega), hF⟩
  · exact br_f (by decide) hF
theorem be_30 {post : SY → Prop} {g_made g_depth g_size g_begun g_over g_ticks g_present g_absent g_any g_lastPresent g_lastAbsent : Int32} {b_sorts b_numbers b_firsts b_seconds b_stack b_around b_on b_alive b_mustEmit b_canEmit b_mustEnd b_canEnd b_done b_frozen b_killed b_after : Nat → Int32} {x1 x2 x3 x4 z0 : Int32} (h : wY_beside_60 post x1 x2 x3 (qu_end x4 z0) g_made g_depth g_size g_begun g_over g_ticks g_present g_absent g_any g_lastPresent g_lastAbsent b_sorts b_numbers b_firsts b_seconds b_stack b_around b_on b_alive b_mustEmit b_canEmit b_mustEnd b_canEnd b_done b_frozen b_killed b_after) : wY_beside_30 post x1 x2 x3 x4 z0 g_made g_depth g_size g_begun g_over g_ticks g_present g_absent g_any g_lastPresent g_lastAbsent b_sorts b_numbers b_firsts b_seconds b_stack b_around b_on b_alive b_mustEmit b_canEmit b_mustEnd b_canEnd b_done b_frozen b_killed b_after := by
  unfold qu_end at h
  refine br_c (fun z => ?_) (fun z => br_c (fun y => br_c (fun w => ?_) (fun w => ?_)) (fun y => ?_))
  · rw [if_pos z] at h; exact h
  · rw [if_neg z, if_pos y, if_pos w] at h; exact h
  · rw [if_neg z, if_pos y, if_neg w] at h; exact h
  · rw [if_neg z, if_neg y] at h; exact h
theorem yo_beside {post : SY → Prop} {g_made g_depth g_size g_begun g_over g_ticks g_present g_absent g_any g_lastPresent g_lastAbsent : Int32} {b_sorts b_numbers b_firsts b_seconds b_stack b_around b_on b_alive b_mustEmit b_canEmit b_mustEnd b_canEnd b_done b_frozen b_killed b_after : Nat → Int32} {a : Nat} {e1 e2 : Int32} {x y : Int32 × Int32 × Int32 × Int32} (ha : a < 32) (hx : be_A b_mustEmit b_canEmit b_mustEnd b_canEnd e1 x) (hy : be_A b_mustEmit b_canEmit b_mustEnd b_canEnd e2 y)
    (h : post (g_made, g_depth, g_size, g_begun, g_over, g_ticks, g_present, g_absent, g_any, g_lastPresent, g_lastAbsent, b_sorts, b_numbers, b_firsts, b_seconds, b_stack, b_around, b_on, b_alive, upd b_mustEmit (a) (qu_beside x y).1, upd b_canEmit (a) (qu_beside x y).2.1, upd b_mustEnd (a) (qu_beside x y).2.2.1, upd b_canEnd (a) (qu_beside x y).2.2.2, b_done, b_frozen, b_killed, b_after)) : wpY_beside post (g_made, g_depth, g_size, g_begun, g_over, g_ticks, g_present, g_absent, g_any, g_lastPresent, g_lastAbsent, b_sorts, b_numbers, b_firsts, b_seconds, b_stack, b_around, b_on, b_alive, b_mustEmit, b_canEmit, b_mustEnd, b_canEnd, b_done, b_frozen, b_killed, b_after) (nI a) e1 e2 := by
  refine be_mn (fun z => wY_beside_14 post (nI a) e1 e2 z g_made g_depth g_size g_begun g_over g_ticks g_present g_absent g_any g_lastPresent g_lastAbsent b_sorts b_numbers b_firsts b_seconds b_stack b_around b_on b_alive b_mustEmit b_canEmit b_mustEnd b_canEnd b_done b_frozen b_killed b_after) hx ?_
  refine be_mn (fun z => wY_beside_30 post (nI a) e1 e2 x.2.2.1 z g_made g_depth g_size g_begun g_over g_ticks g_present g_absent g_any g_lastPresent g_lastAbsent b_sorts b_numbers b_firsts b_seconds b_stack b_around b_on b_alive b_mustEmit b_canEmit b_mustEnd b_canEnd b_done b_frozen b_killed b_after) hy ?_
  refine be_30 ?_
  refine be_cn (fun z => wY_beside_77 post (nI a) e1 e2 (qu_end x.2.2.1 y.2.2.1) z g_made g_depth g_size g_begun g_over g_ticks g_present g_absent g_any g_lastPresent g_lastAbsent b_sorts b_numbers b_firsts b_seconds b_stack b_around b_on b_alive b_mustEmit b_canEmit b_mustEnd b_canEnd b_done b_frozen b_killed b_after) hx ?_
  refine be_cn (fun z => wY_beside_91 post (nI a) e1 e2 (qu_end x.2.2.1 y.2.2.1) z x.2.2.2 g_made g_depth g_size g_begun g_over g_ticks g_present g_absent g_any g_lastPresent g_lastAbsent b_sorts b_numbers b_firsts b_seconds b_stack b_around b_on b_alive b_mustEmit b_canEmit b_mustEnd b_canEnd b_done b_frozen b_killed b_after) hy ?_
  refine yo_greater ?_
  refine be_me (fun z => wY_beside_110 post (nI a) e1 e2 (qu_end x.2.2.1 y.2.2.1) (gr_a (bt x.2.2.2) (bt y.2.2.2) 5 0) z g_made g_depth g_size g_begun g_over g_ticks g_present g_absent g_any g_lastPresent g_lastAbsent b_sorts b_numbers b_firsts b_seconds b_stack b_around b_on b_alive b_mustEmit b_canEmit b_mustEnd b_canEnd b_done b_frozen b_killed b_after) hx ?_
  refine be_me (fun z => wY_beside_124 post (nI a) e1 e2 (qu_end x.2.2.1 y.2.2.1) (gr_a (bt x.2.2.2) (bt y.2.2.2) 5 0) z x.1 g_made g_depth g_size g_begun g_over g_ticks g_present g_absent g_any g_lastPresent g_lastAbsent b_sorts b_numbers b_firsts b_seconds b_stack b_around b_on b_alive b_mustEmit b_canEmit b_mustEnd b_canEnd b_done b_frozen b_killed b_after) hy ?_
  refine nm_e ?_
  refine be_ce (fun z => wY_beside_141 post (nI a) e2 (qu_end x.2.2.1 y.2.2.1) (gr_a (bt x.2.2.2) (bt y.2.2.2) 5 0) (x.1 ||| y.1) z g_made g_depth g_size g_begun g_over g_ticks g_present g_absent g_any g_lastPresent g_lastAbsent b_sorts b_numbers b_firsts b_seconds b_stack b_around b_on b_alive b_mustEmit b_canEmit b_mustEnd b_canEnd b_done b_frozen b_killed b_after) hx ?_
  refine be_ce (fun z => wY_beside_155 post (nI a) (qu_end x.2.2.1 y.2.2.1) (gr_a (bt x.2.2.2) (bt y.2.2.2) 5 0) (x.1 ||| y.1) z x.2.1 g_made g_depth g_size g_begun g_over g_ticks g_present g_absent g_any g_lastPresent g_lastAbsent b_sorts b_numbers b_firsts b_seconds b_stack b_around b_on b_alive b_mustEmit b_canEmit b_mustEnd b_canEnd b_done b_frozen b_killed b_after) hy ?_
  exact nm_e (yo_set ha h)
theorem yo_either {post : SY → Prop} {g_made g_depth g_size g_begun g_over g_ticks g_present g_absent g_any g_lastPresent g_lastAbsent : Int32} {b_sorts b_numbers b_firsts b_seconds b_stack b_around b_on b_alive b_mustEmit b_canEmit b_mustEnd b_canEnd b_done b_frozen b_killed b_after : Nat → Int32} {a m p q : Nat} {e : Int32} (ha : a < 32) (hm : m < 32) (he : e = nI m) (hp : p < 32) (hq : q < 32)
    (h : post (g_made, g_depth, g_size, g_begun, g_over, g_ticks, g_present, g_absent, g_any, g_lastPresent, g_lastAbsent, b_sorts, b_numbers, b_firsts, b_seconds, b_stack, b_around, b_on, b_alive, upd b_mustEmit (a) (qu_either m g_present g_absent (qu_at b_mustEmit b_canEmit b_mustEnd b_canEnd p) (qu_at b_mustEmit b_canEmit b_mustEnd b_canEnd q)).1, upd b_canEmit (a) (qu_either m g_present g_absent (qu_at b_mustEmit b_canEmit b_mustEnd b_canEnd p) (qu_at b_mustEmit b_canEmit b_mustEnd b_canEnd q)).2.1, upd b_mustEnd (a) (qu_either m g_present g_absent (qu_at b_mustEmit b_canEmit b_mustEnd b_canEnd p) (qu_at b_mustEmit b_canEmit b_mustEnd b_canEnd q)).2.2.1, upd b_canEnd (a) (qu_either m g_present g_absent (qu_at b_mustEmit b_canEmit b_mustEnd b_canEnd p) (qu_at b_mustEmit b_canEmit b_mustEnd b_canEnd q)).2.2.2, b_done, b_frozen, b_killed, b_after)) : wpY_either post (g_made, g_depth, g_size, g_begun, g_over, g_ticks, g_present, g_absent, g_any, g_lastPresent, g_lastAbsent, b_sorts, b_numbers, b_firsts, b_seconds, b_stack, b_around, b_on, b_alive, b_mustEmit, b_canEmit, b_mustEnd, b_canEnd, b_done, b_frozen, b_killed, b_after) (nI a) e (nI p) (nI q) := by
  have vp : vp_in (nI p) 32 := vp_in_nI hp (by omega)
  have vq : vp_in (nI q) 32 := vp_in_nI hq (by omega)
  unfold qu_either at h
  refine bz_yb hm he (fun t => ?_) (fun t => bz_yb hm he (fun t2 => ?_) (fun t2 => ⟨vp, vq, vp, vq, ?_⟩))
  · rw [if_pos t] at h; exact yo_copy ha hp h
  · rw [if_neg (by rw [t]; decide), if_pos t2] at h; exact yo_copy ha hq h
  · rw [if_neg (by rw [t]; decide), if_neg (by rw [t2]; decide)] at h
    rw [nI_clamp (show p < 2 ^ 31 by omega), nI_clamp (show q < 2 ^ 31 by omega)]
    exact yo_set ha h
theorem yo_susp {post : SY → Prop} {g_made g_depth g_size g_begun g_over g_ticks g_present g_absent g_any g_lastPresent g_lastAbsent : Int32} {b_sorts b_numbers b_firsts b_seconds b_stack b_around b_on b_alive b_mustEmit b_canEmit b_mustEnd b_canEnd b_done b_frozen b_killed b_after : Nat → Int32} {a m p : Nat} {e : Int32} (ha : a < 32) (hm : m < 32) (he : e = nI m) (hp : p < 32)
    (h : post (g_made, g_depth, g_size, g_begun, g_over, g_ticks, g_present, g_absent, g_any, g_lastPresent, g_lastAbsent, b_sorts, b_numbers, b_firsts, b_seconds, b_stack, b_around, b_on, b_alive, upd b_mustEmit (a) (qu_susp m g_present g_absent (qu_at b_mustEmit b_canEmit b_mustEnd b_canEnd p)).1, upd b_canEmit (a) (qu_susp m g_present g_absent (qu_at b_mustEmit b_canEmit b_mustEnd b_canEnd p)).2.1, upd b_mustEnd (a) (qu_susp m g_present g_absent (qu_at b_mustEmit b_canEmit b_mustEnd b_canEnd p)).2.2.1, upd b_canEnd (a) (qu_susp m g_present g_absent (qu_at b_mustEmit b_canEmit b_mustEnd b_canEnd p)).2.2.2, b_done, b_frozen, b_killed, b_after)) : wpY_suspended post (g_made, g_depth, g_size, g_begun, g_over, g_ticks, g_present, g_absent, g_any, g_lastPresent, g_lastAbsent, b_sorts, b_numbers, b_firsts, b_seconds, b_stack, b_around, b_on, b_alive, b_mustEmit, b_canEmit, b_mustEnd, b_canEnd, b_done, b_frozen, b_killed, b_after) (nI a) e (nI p) := by
  have vp : vp_in (nI p) 32 := vp_in_nI hp (by omega)
  unfold qu_susp at h
  refine bz_yb hm he (fun t => ?_) (fun t => bz_yb hm he (fun t2 => ?_) (fun t2 => ⟨vp, vp, ?_⟩))
  · rw [if_pos t] at h; exact yo_set ha h
  · rw [if_neg (by rw [t]; decide), if_pos t2] at h; exact yo_copy ha hp h
  · rw [if_neg (by rw [t]; decide), if_neg (by rw [t2]; decide)] at h
    rw [nI_clamp (show p < 2 ^ 31 by omega)]
    exact yo_set ha h
def qu_S (k m : Nat) (mk pr ab : Int32) (x y : Int32 × Int32 × Int32 × Int32) : Int32 × Int32 × Int32 × Int32 :=
  if k = 0 then (0, 0, 0, 1) else if k = 1 then (0, 0, 1, 2) else if k = 2 then ((1 : Int32) <<< (mk &&& 31), (1 : Int32) <<< (mk &&& 31), 0, 1) else if k = 3 then (0, 0, mk + 2, (4 : Int32) <<< (mk &&& 31)) else if k = 4 then qu_again x else if k = 5 then qu_trap x else if k = 6 then x else if k = 7 then qu_follow x y else if k = 8 then qu_beside x y else qu_either m pr ab x y
def qu_D : Int32 × Int32 × Int32 × Int32 := (0, 0, 0, 1)
def qu_R (k m : Nat) (pr ab : Int32) (oi aP aQ : Bool) (sp sq rp rq : Int32 × Int32 × Int32 × Int32) : Int32 × Int32 × Int32 × Int32 :=
  if k < 4 then (0, 0, 0, 1) else if k = 4 then (if oi = true then qu_again sp else qu_again rp) else if k = 5 then qu_trap rp else if k = 6 then qu_susp m pr ab rp else if k = 8 then qu_beside (if aP = true then rp else qu_D) (if aQ = true then rq else qu_D) else if k = 7 then (if aP = true then qu_follow rp sq else rq) else (if aP = true then rp else rq)
/-- the program as Y holds it -/
def pg_Y (N : Nat) (K M P Q : Nat → Nat) (kY mY pY qY : Nat → Int32) : Prop :=
  ∀ i, i < N → kY i = nI (K i) ∧ K i ≤ 9 ∧ mk_W (K i) (M i) (mY i) ∧ pY i = nI (P i) ∧ qY i = nI (if 7 ≤ K i then Q i else 0) ∧ P i < 16 ∧ Q i < 16 ∧ (4 ≤ K i → P i < i ∧ Q i < i)
theorem yj_S {post : SY → Prop} {g_made g_depth g_size g_begun g_over g_ticks g_present g_absent g_any g_lastPresent g_lastAbsent : Int32} {b_sorts b_numbers b_firsts b_seconds b_stack b_around b_on b_alive b_mustEmit b_canEmit b_mustEnd b_canEnd b_done b_frozen b_killed b_after : Nat → Int32} {N i : Nat} {K M P Q : Nat → Nat} (hN : N ≤ 16) (hi : i < N) (hg : pg_Y N K M P Q b_sorts b_numbers b_firsts b_seconds)
    (h : post (g_made, g_depth, g_size, g_begun, g_over, g_ticks, g_present, g_absent, g_any, g_lastPresent, g_lastAbsent, b_sorts, b_numbers, b_firsts, b_seconds, b_stack, b_around, b_on, b_alive, upd b_mustEmit (i) (qu_S (K i) (M i) (b_numbers i) g_present g_absent (qu_at b_mustEmit b_canEmit b_mustEnd b_canEnd (P i)) (qu_at b_mustEmit b_canEmit b_mustEnd b_canEnd (Q i))).1, upd b_canEmit (i) (qu_S (K i) (M i) (b_numbers i) g_present g_absent (qu_at b_mustEmit b_canEmit b_mustEnd b_canEnd (P i)) (qu_at b_mustEmit b_canEmit b_mustEnd b_canEnd (Q i))).2.1, upd b_mustEnd (i) (qu_S (K i) (M i) (b_numbers i) g_present g_absent (qu_at b_mustEmit b_canEmit b_mustEnd b_canEnd (P i)) (qu_at b_mustEmit b_canEmit b_mustEnd b_canEnd (Q i))).2.2.1, upd b_canEnd (i) (qu_S (K i) (M i) (b_numbers i) g_present g_absent (qu_at b_mustEmit b_canEmit b_mustEnd b_canEnd (P i)) (qu_at b_mustEmit b_canEmit b_mustEnd b_canEnd (Q i))).2.2.2, b_done, b_frozen, b_killed, b_after)) : wpY_judgeStarted post (g_made, g_depth, g_size, g_begun, g_over, g_ticks, g_present, g_absent, g_any, g_lastPresent, g_lastAbsent, b_sorts, b_numbers, b_firsts, b_seconds, b_stack, b_around, b_on, b_alive, b_mustEmit, b_canEmit, b_mustEnd, b_canEnd, b_done, b_frozen, b_killed, b_after) (nI i) := by
  obtain ⟨g1, g2, g3, g4, g5, g6, g7, g8⟩ := hg i hi
  have hc : (nI i).toNatClampNeg = i := nI_clamp (by omega)
  have vi : vp_in (nI i) 32 := vp_in_nI (by omega) (by omega)
  have i32 : i < 32 := by omega
  have p32 : P i < 32 := by omega
  have q32 : Q i < 32 := by omega
  unfold wpY_judgeStarted
  dsimp only
  rw [hc, g1, g4, g5]
  refine ⟨vi, nm_e ⟨vi, nm_e ⟨vi, nm_e ⟨vi, nm_e ?_⟩⟩⟩⟩
  unfold qu_S at h
  refine pk_eq (K i) 0 (fun z => ?_) (fun z0 => ?_)
  · rw [if_pos z] at h; exact yo_set i32 h
  rw [if_neg z0] at h
  refine pk_eq (K i) 1 (fun z => ?_) (fun z1 => ?_)
  · rw [if_pos z] at h; exact yo_set i32 h
  rw [if_neg z1] at h
  refine pk_eq (K i) 2 (fun z => ?_) (fun z2 => ?_)
  · rw [if_pos z] at h; exact yo_set i32 h
  rw [if_neg z2] at h
  refine pk_eq (K i) 3 (fun z => ?_) (fun z3 => ?_)
  · rw [if_pos z] at h; exact yo_set i32 h
  rw [if_neg z3] at h
  refine pk_eq (K i) 4 (fun z => ?_) (fun z4 => ?_)
  · rw [if_pos z] at h; exact yo_again i32 p32 h
  rw [if_neg z4] at h
  refine pk_eq (K i) 5 (fun z => ?_) (fun z5 => ?_)
  · rw [if_pos z] at h; exact yo_trap i32 p32 h
  rw [if_neg z5] at h
  refine pk_eq (K i) 6 (fun z => ?_) (fun z6 => ?_)
  · rw [if_pos z] at h; exact yo_copy i32 p32 h
  rw [if_neg z6] at h
  have k7 : 7 ≤ K i := by omega
  rw [if_pos k7]
  refine pk_eq (K i) 7 (fun z => ?_) (fun z7 => ?_)
  · rw [if_pos z] at h; exact yo_follow i32 p32 q32 h
  rw [if_neg z7] at h
  refine pk_eq (K i) 8 (fun z => ?_) (fun z8 => ?_)
  · rw [if_pos z] at h; exact yo_beside i32 (Or.inl ⟨_, p32, rfl, rfl⟩) (Or.inl ⟨_, q32, rfl, rfl⟩) h
  rw [if_neg z8] at h
  have hm9 := g3.1 (Or.inr (Or.inr (by omega)))
  exact yo_either i32 (show M i < 32 by omega) hm9.1 p32 q32 h
theorem e16 (p : Nat) : (16 : Int32) + nI p = nI (16 + p) := nI_add 16 p
theorem yj_203 {post : SY → Prop} {g_made g_depth g_size g_begun g_over g_ticks g_present g_absent g_any g_lastPresent g_lastAbsent : Int32} {b_sorts b_numbers b_firsts b_seconds b_stack b_around b_on b_alive b_mustEmit b_canEmit b_mustEnd b_canEnd b_done b_frozen b_killed b_after : Nat → Int32} {a p q : Nat} {al : Nat → Bool} (ha : a < 32) (hp : p < 16) (hq : q < 16) (hal : b_alive p = bo_I (al p))
    (h : post (g_made, g_depth, g_size, g_begun, g_over, g_ticks, g_present, g_absent, g_any, g_lastPresent, g_lastAbsent, b_sorts, b_numbers, b_firsts, b_seconds, b_stack, b_around, b_on, b_alive, upd b_mustEmit (a) (if al p = true then qu_at b_mustEmit b_canEmit b_mustEnd b_canEnd (16 + p) else qu_at b_mustEmit b_canEmit b_mustEnd b_canEnd (16 + q)).1, upd b_canEmit (a) (if al p = true then qu_at b_mustEmit b_canEmit b_mustEnd b_canEnd (16 + p) else qu_at b_mustEmit b_canEmit b_mustEnd b_canEnd (16 + q)).2.1, upd b_mustEnd (a) (if al p = true then qu_at b_mustEmit b_canEmit b_mustEnd b_canEnd (16 + p) else qu_at b_mustEmit b_canEmit b_mustEnd b_canEnd (16 + q)).2.2.1, upd b_canEnd (a) (if al p = true then qu_at b_mustEmit b_canEmit b_mustEnd b_canEnd (16 + p) else qu_at b_mustEmit b_canEmit b_mustEnd b_canEnd (16 + q)).2.2.2, b_done, b_frozen, b_killed, b_after)) : wY_judgeResumed_203 post (nI a) (nI p) (nI q) g_made g_depth g_size g_begun g_over g_ticks g_present g_absent g_any g_lastPresent g_lastAbsent b_sorts b_numbers b_firsts b_seconds b_stack b_around b_on b_alive b_mustEmit b_canEmit b_mustEnd b_canEnd b_done b_frozen b_killed b_after := by
  unfold wY_judgeResumed_203
  rw [nI_clamp (show p < 2 ^ 31 by omega), hal, e16, e16]
  refine ⟨vp_in_nI hp (by omega), bo_br _ (fun z => ?_) (fun z => ?_)⟩
  · rw [z, if_neg (by decide)] at h; exact yo_copy ha (show 16 + q < 32 by omega) h
  · rw [z, if_pos rfl] at h; exact yo_copy ha (show 16 + p < 32 by omega) h
theorem yj_R {post : SY → Prop} {g_made g_depth g_size g_begun g_over g_ticks g_present g_absent g_any g_lastPresent g_lastAbsent : Int32} {b_sorts b_numbers b_firsts b_seconds b_stack b_around b_on b_alive b_mustEmit b_canEmit b_mustEnd b_canEnd b_done b_frozen b_killed b_after : Nat → Int32} {N i : Nat} {K M P Q : Nat → Nat} {o al : Nat → Bool} (hN : N ≤ 16) (hi : i < N) (hg : pg_Y N K M P Q b_sorts b_numbers b_firsts b_seconds) (ho : b_on i = bo_I (o i)) (hal : ∀ j, j < N → b_alive j = bo_I (al j))
    (h : post (g_made, g_depth, g_size, g_begun, g_over, g_ticks, g_present, g_absent, g_any, g_lastPresent, g_lastAbsent, b_sorts, b_numbers, b_firsts, b_seconds, b_stack, b_around, b_on, b_alive, upd b_mustEmit (16 + i) (qu_R (K i) (M i) g_present g_absent (o i) (al (P i)) (al (Q i)) (qu_at b_mustEmit b_canEmit b_mustEnd b_canEnd (P i)) (qu_at b_mustEmit b_canEmit b_mustEnd b_canEnd (Q i)) (qu_at b_mustEmit b_canEmit b_mustEnd b_canEnd (16 + P i)) (qu_at b_mustEmit b_canEmit b_mustEnd b_canEnd (16 + Q i))).1, upd b_canEmit (16 + i) (qu_R (K i) (M i) g_present g_absent (o i) (al (P i)) (al (Q i)) (qu_at b_mustEmit b_canEmit b_mustEnd b_canEnd (P i)) (qu_at b_mustEmit b_canEmit b_mustEnd b_canEnd (Q i)) (qu_at b_mustEmit b_canEmit b_mustEnd b_canEnd (16 + P i)) (qu_at b_mustEmit b_canEmit b_mustEnd b_canEnd (16 + Q i))).2.1, upd b_mustEnd (16 + i) (qu_R (K i) (M i) g_present g_absent (o i) (al (P i)) (al (Q i)) (qu_at b_mustEmit b_canEmit b_mustEnd b_canEnd (P i)) (qu_at b_mustEmit b_canEmit b_mustEnd b_canEnd (Q i)) (qu_at b_mustEmit b_canEmit b_mustEnd b_canEnd (16 + P i)) (qu_at b_mustEmit b_canEmit b_mustEnd b_canEnd (16 + Q i))).2.2.1, upd b_canEnd (16 + i) (qu_R (K i) (M i) g_present g_absent (o i) (al (P i)) (al (Q i)) (qu_at b_mustEmit b_canEmit b_mustEnd b_canEnd (P i)) (qu_at b_mustEmit b_canEmit b_mustEnd b_canEnd (Q i)) (qu_at b_mustEmit b_canEmit b_mustEnd b_canEnd (16 + P i)) (qu_at b_mustEmit b_canEmit b_mustEnd b_canEnd (16 + Q i))).2.2.2, b_done, b_frozen, b_killed, b_after)) : wpY_judgeResumed post (g_made, g_depth, g_size, g_begun, g_over, g_ticks, g_present, g_absent, g_any, g_lastPresent, g_lastAbsent, b_sorts, b_numbers, b_firsts, b_seconds, b_stack, b_around, b_on, b_alive, b_mustEmit, b_canEmit, b_mustEnd, b_canEnd, b_done, b_frozen, b_killed, b_after) (nI i) := by
  obtain ⟨g1, g2, g3, g4, g5, g6, g7, g8⟩ := hg i hi
  have hc : (nI i).toNatClampNeg = i := nI_clamp (by omega)
  have vi : vp_in (nI i) 32 := vp_in_nI (by omega) (by omega)
  have vi16 : vp_in (nI i) 16 := vp_in_nI (by omega) (by omega)
  have i32 : 16 + i < 32 := by omega
  have p32 : P i < 32 := by omega
  have q32 : Q i < 32 := by omega
  have P32 : 16 + P i < 32 := by omega
  have Q32 : 16 + Q i < 32 := by omega
  unfold wpY_judgeResumed
  dsimp only
  rw [hc, g1, g4, g5, e16]
  refine nm_e ⟨vi, nm_e ⟨vi, nm_e ⟨vi, nm_e ?_⟩⟩⟩
  unfold qu_R at h
  rw [nI_clamp (show P i < 2 ^ 31 by omega), e16]
  refine pk_le 4 (K i) (fun k4 => ?_) (fun z => ?_)
  · have g8' := g8 k4
    rw [if_neg (by omega)] at h
    have aP := hal (P i) (by omega)
    have aQ := hal (Q i) (by omega)
    have vP : vp_in (nI (P i)) 16 := vp_in_nI g6 (by omega)
    have vQ : vp_in (nI (Q i)) 16 := vp_in_nI g7 (by omega)
    refine pk_eq (K i) 4 (fun z => ⟨vi16, ?_⟩) (fun z4 => ?_)
    · rw [if_pos z] at h
      rw [ho]
      refine bo_br _ (fun t => ?_) (fun t => ?_)
      · rw [t, if_neg (by decide)] at h; exact yo_again i32 P32 h
      · rw [t, if_pos rfl] at h; exact yo_again i32 p32 h
    rw [if_neg z4] at h
    refine pk_eq (K i) 5 (fun z => ?_) (fun z5 => ?_)
    · rw [if_pos z] at h; exact yo_trap i32 P32 h
    rw [if_neg z5] at h
    refine pk_eq (K i) 6 (fun z => ⟨vi, ?_⟩) (fun z6 => ?_)
    · rw [if_pos z] at h
      have hm6 := g3.1 (Or.inr (Or.inl z))
      exact yo_susp i32 (show M i < 32 by omega) hm6.1 P32 h
    rw [if_neg z6] at h
    have k7 : 7 ≤ K i := by omega
    rw [if_pos k7]
    refine pk_eq (K i) 8 (fun z => ⟨vP, ?_⟩) (fun z8 => ?_)
    · rw [if_pos z] at h
      rw [aP]
      have hq : ∀ e x, be_A b_mustEmit b_canEmit b_mustEnd b_canEnd e x → post (g_made, g_depth, g_size, g_begun, g_over, g_ticks, g_present, g_absent, g_any, g_lastPresent, g_lastAbsent, b_sorts, b_numbers, b_firsts, b_seconds, b_stack, b_around, b_on, b_alive, upd b_mustEmit (16 + i) (qu_beside x (if al (Q i) = true then qu_at b_mustEmit b_canEmit b_mustEnd b_canEnd (16 + Q i) else qu_D)).1, upd b_canEmit (16 + i) (qu_beside x (if al (Q i) = true then qu_at b_mustEmit b_canEmit b_mustEnd b_canEnd (16 + Q i) else qu_D)).2.1, upd b_mustEnd (16 + i) (qu_beside x (if al (Q i) = true then qu_at b_mustEmit b_canEmit b_mustEnd b_canEnd (16 + Q i) else qu_D)).2.2.1, upd b_canEnd (16 + i) (qu_beside x (if al (Q i) = true then qu_at b_mustEmit b_canEmit b_mustEnd b_canEnd (16 + Q i) else qu_D)).2.2.2, b_done, b_frozen, b_killed, b_after) → wY_judgeResumed_147 post (nI (Q i)) e (nI (16 + i)) g_made g_depth g_size g_begun g_over g_ticks g_present g_absent g_any g_lastPresent g_lastAbsent b_sorts b_numbers b_firsts b_seconds b_stack b_around b_on b_alive b_mustEmit b_canEmit b_mustEnd b_canEnd b_done b_frozen b_killed b_after := by
        intro e x hx hh
        unfold wY_judgeResumed_147
        rw [nI_clamp (show Q i < 2 ^ 31 by omega), aQ, e16]
        refine ⟨vQ, bo_br _ (fun t => ?_) (fun t => ?_)⟩
        · rw [t, if_neg (by decide)] at hh; exact yo_beside i32 hx (Or.inr ⟨rfl, rfl⟩) hh
        · rw [t, if_pos rfl] at hh; exact yo_beside i32 hx (Or.inl ⟨_, Q32, rfl, rfl⟩) hh
      refine bo_br _ (fun t => ?_) (fun t => ?_)
      · rw [t, if_neg (by decide)] at h; exact hq _ _ (Or.inr ⟨rfl, rfl⟩) h
      · rw [t, if_pos rfl] at h; exact hq _ _ (Or.inl ⟨_, P32, rfl, rfl⟩) h
    rw [if_neg z8] at h
    refine pk_eq (K i) 7 (fun z => ⟨vP, ?_⟩) (fun z7 => ?_)
    · rw [if_pos z] at h
      rw [aP]
      refine bo_br _ (fun t => ?_) (fun t => ?_)
      · refine yj_203 (al := al) i32 g6 g7 aP ?_
        rw [t, if_neg (by decide)] at h ⊢; exact h
      · rw [t, if_pos rfl] at h; exact yo_follow i32 P32 q32 h
    · rw [if_neg z7] at h; exact yj_203 (al := al) i32 g6 g7 aP h
  · rw [if_pos z] at h; exact yo_set i32 h
end
section
/- Y's quadruples against the pure values -/
def de_I (c : Nat) : Int32 := if c = 0 then -1 else if c = 1 then 0 else if c = 2 then 1 else if c = 4 then 2 else if c = 8 then 3 else 4
def mv_C (c : Nat) : Prop := c = 0 ∨ c = 1 ∨ c = 2 ∨ c = 4 ∨ c = 8 ∨ c = 16
def yq_R (x : Int32 × Int32 × Int32 × Int32) (v w : Nat × Nat) : Prop := x = (nI v.1, nI w.1, de_I v.2, nI w.2) ∧ vv_ok v ∧ vv_ok w ∧ mv_C v.2
theorem yz_o1 {c : Nat} (h : mv_C c) : (if de_I c = 0 then 1 else de_I c) = de_I (co_o c) ∧ mv_C (co_o c) := by
  unfold mv_C
  rcases h with rfl | rfl | rfl | rfl | rfl | rfl <;> decide
theorem yz_o2 : ∀ c, c < 32 → (if (nI c &&& 1) = 1 then (nI c &&& (-2)) ||| 2 else nI c) = nI (co_o c) := by decide +kernel
theorem yz_t1 {c : Nat} (h : mv_C c) : (if de_I c = 2 then 0 else if de_I c ≤ 2 then de_I c else de_I c - 1) = de_I (co_t c) ∧ mv_C (co_t c) := by
  unfold mv_C
  rcases h with rfl | rfl | rfl | rfl | rfl | rfl <;> decide
theorem yz_t2 : ∀ c, c < 32 → (if (nI c &&& 4) = 0 then (nI c &&& 3) ||| ((nI c >>> ((1 : Int32) &&& 31)) &&& 12) else ((nI c &&& 3) ||| ((nI c >>> ((1 : Int32) &&& 31)) &&& 12)) ||| 1) = nI (co_t c) := by decide +kernel
theorem yz_01 {c : Nat} (h : mv_C c) : de_I c = 0 ↔ c % 2 = 1 := by
  rcases h with rfl | rfl | rfl | rfl | rfl | rfl <;> decide
theorem yz_1m {c : Nat} (h : mv_C c) (z : c % 2 = 1) : c = 1 := by
  rcases h with rfl | rfl | rfl | rfl | rfl | rfl <;> first | rfl | (exfalso; omega)
theorem yz_b1 : ∀ c, c < 32 → ((nI c &&& 1) = 1 ↔ c % 2 = 1) := by decide +kernel
theorem yz_m2 : ∀ c, c < 32 → c % 2 = 1 → (nI c &&& (-2)) = nI (c - 1) := by decide +kernel
theorem yz_g1 {c d : Nat} (h : mv_C c) (k : mv_C d) : qu_end (de_I c) (de_I d) = de_I (co_g c d) ∧ mv_C (co_g c d) := by
  unfold mv_C
  rcases h with rfl | rfl | rfl | rfl | rfl | rfl <;> rcases k with rfl | rfl | rfl | rfl | rfl | rfl <;> decide
theorem yz_g2 : ∀ c, c < 32 → ∀ d, d < 32 → gr_a (bt (nI c)) (bt (nI d)) 5 0 = nI (co_g c d) := by decide +kernel
theorem yz_em : ∀ m, m < 6 → ((1 : Int32) <<< (nI m &&& 31)) = nI (2 ^ m) := by decide +kernel
theorem yz_ex : ∀ m, m < 3 → nI m + 2 = de_I (4 * 2 ^ m) ∧ ((4 : Int32) <<< (nI m &&& 31)) = nI (4 * 2 ^ m) := by decide +kernel
theorem yz_exm : ∀ m, m < 3 → (4 * 2 ^ m = 0 ∨ 4 * 2 ^ m = 1 ∨ 4 * 2 ^ m = 2 ∨ 4 * 2 ^ m = 4 ∨ 4 * 2 ^ m = 8 ∨ 4 * 2 ^ m = 16) := by decide +kernel
theorem yq_o {x : Int32 × Int32 × Int32 × Int32} {v w : Nat × Nat} (h : yq_R x v w) : yq_R (qu_again x) (vo_v v) (vo_v w) := by
  obtain ⟨rfl, hv, hw, hm⟩ := h
  refine ⟨?_, vo_ok hv, vo_ok hw, (yz_o1 hm).2⟩
  unfold qu_again
  dsimp only
  rw [(yz_o1 hm).1, yz_o2 _ hw.2]; rfl
theorem yq_t {x : Int32 × Int32 × Int32 × Int32} {v w : Nat × Nat} (h : yq_R x v w) : yq_R (qu_trap x) (vt_r v) (vt_r w) := by
  obtain ⟨rfl, hv, hw, hm⟩ := h
  refine ⟨?_, vt_ok hv, vt_ok hw, (yz_t1 hm).2⟩
  unfold qu_trap
  dsimp only
  rw [(yz_t1 hm).1, yz_t2 _ hw.2]; rfl
theorem yq_i {x y : Int32 × Int32 × Int32 × Int32} {v w v' w' : Nat × Nat} (h : yq_R x v w) (k : yq_R y v' w') : yq_R (qu_follow x y) (vi_t v v') (vi_t w w') := by
  obtain ⟨rfl, hv, hw, hm⟩ := h
  obtain ⟨rfl, hv', hw', hm'⟩ := k
  have ok1 := vi_ok hv hv'
  have ok2 := vi_ok hw hw'
  unfold qu_follow
  dsimp only
  refine ⟨?_, ok1, ok2, ?_⟩
  · unfold vi_t
    by_cases a : v.2 % 2 = 1
    · have a1 := yz_1m hm a
      have a2 := (yz_01 hm).mpr a
      rw [if_pos a2, if_pos a2, if_pos a]
      by_cases b : w.2 % 2 = 1
      · have b2 := (yz_b1 _ hw.2).mpr b
        rw [if_pos b2, if_pos b2, if_pos b, bz_or, bz_or, yz_m2 _ hw.2 b, bz_or, a1]
        simp
      · have b2 := fun z => b ((yz_b1 _ hw.2).mp z)
        rw [if_neg b2, if_neg b2, if_neg b, bz_or, a1]
        simp
    · have a2 := fun z => a ((yz_01 hm).mp z)
      rw [if_neg a2, if_neg a2, if_neg a]
      by_cases b : w.2 % 2 = 1
      · have b2 := (yz_b1 _ hw.2).mpr b
        rw [if_pos b2, if_pos b2, if_pos b, bz_or, yz_m2 _ hw.2 b, bz_or]
      · have b2 := fun z => b ((yz_b1 _ hw.2).mp z)
        rw [if_neg b2, if_neg b2, if_neg b]
  · unfold vi_t
    by_cases a : v.2 % 2 = 1
    · have a1 := yz_1m hm a
      rw [if_pos a, a1]
      show mv_C ((1 - 1) ||| v'.2)
      simpa using hm'
    · rw [if_neg a]; exact hm
theorem yq_g {x y : Int32 × Int32 × Int32 × Int32} {v w v' w' : Nat × Nat} (h : yq_R x v w) (k : yq_R y v' w') : yq_R (qu_beside x y) (vg_t v v') (vg_t w w') := by
  obtain ⟨rfl, hv, hw, hm⟩ := h
  obtain ⟨rfl, hv', hw', hm'⟩ := k
  refine ⟨?_, vg_ok hv hv', vg_ok hw hw', (yz_g1 hm hm').2⟩
  unfold qu_beside
  dsimp only
  rw [(yz_g1 hm hm').1, yz_g2 _ hw.2 _ hw'.2, bz_or, bz_or]; rfl
theorem yq_00 {w : Nat × Nat} (hw : vv_ok w) : yq_R (0, nI w.1, -1, nI w.2) (0, 0) w := ⟨rfl, ⟨by decide, by decide⟩, hw, Or.inl rfl⟩
theorem yq_b {x y : Int32 × Int32 × Int32 × Int32} {v w v' w' : Nat × Nat} {m pr ab : Nat} (hm : m < 6) (h : yq_R x v w) (k : yq_R y v' w') : yq_R (qu_either m (nI pr) (nI ab) x y) (vb_r m pr ab true v v') (vb_r m pr ab false w w') := by
  unfold qu_either vb_r
  rw [bz_nI (show m < 32 by omega), bz_nI (show m < 32 by omega)]
  by_cases a : pr.testBit m = true
  · rw [if_pos a, if_pos a, if_pos a]; exact h
  · rw [if_neg a, if_neg a, if_neg a]
    by_cases b : ab.testBit m = true
    · rw [if_pos b, if_pos b, if_pos b]; exact k
    · rw [if_neg b, if_neg b, if_neg b, if_pos rfl, if_neg (by decide)]
      obtain ⟨rfl, hv, hw, hm⟩ := h
      obtain ⟨rfl, hv', hw', hm'⟩ := k
      dsimp only
      rw [bz_or, bz_or]
      exact yq_00 (vv_or hw hw')
theorem yq_h {x : Int32 × Int32 × Int32 × Int32} {v w : Nat × Nat} {m pr ab : Nat} (hm : m < 6) (h : yq_R x v w) : yq_R (qu_susp m (nI pr) (nI ab) x) (vh_b m pr ab true v) (vh_b m pr ab false w) := by
  unfold qu_susp vh_b
  rw [bz_nI (show m < 32 by omega), bz_nI (show m < 32 by omega)]
  by_cases a : pr.testBit m = true
  · rw [if_pos a, if_pos a, if_pos a]; exact ⟨rfl, ⟨by decide, by decide⟩, ⟨by decide, by decide⟩, Or.inr (Or.inr (Or.inl rfl))⟩
  · rw [if_neg a, if_neg a, if_neg a]
    by_cases b : ab.testBit m = true
    · rw [if_pos b, if_pos b, if_pos b]; exact h
    · rw [if_neg b, if_neg b, if_neg b, if_pos rfl, if_neg (by decide)]
      obtain ⟨rfl, hv, hw, hm⟩ := h
      have := yq_00 (w := (w.1, w.2 ||| 2)) ⟨hw.1, Nat.or_lt_two_pow (n := 5) hw.2 (by decide)⟩
      rw [← bz_or] at this
      exact this
theorem yq_D : yq_R qu_D (0, 1) (0, 1) := ⟨rfl, ⟨by decide, by decide⟩, ⟨by decide, by decide⟩, Or.inr (Or.inl rfl)⟩
theorem yq_P : yq_R (0, 0, 1, 2) (0, 2) (0, 2) := ⟨rfl, ⟨by decide, by decide⟩, ⟨by decide, by decide⟩, Or.inr (Or.inr (Or.inl rfl))⟩
theorem yq_S {k m pr ab : Nat} {mk : Int32} {x y : Int32 × Int32 × Int32 × Int32} {v w v' w' : Nat × Nat} (k9 : k ≤ 9) (hm : mk_W k m mk) (h : 4 ≤ k → yq_R x v w) (h' : 4 ≤ k → yq_R y v' w') : yq_R (qu_S k m mk (nI pr) (nI ab) x y) (sv_S k m pr ab true v v') (sv_S k m pr ab false w w') := by
  by_cases h4 : 4 ≤ k
  · have h := h h4
    have h' := h' h4
    unfold qu_S sv_S
    rw [if_neg (show ¬ k = 0 by omega), if_neg (show ¬ k = 1 by omega), if_neg (show ¬ k = 2 by omega), if_neg (show ¬ k = 3 by omega), if_neg (show ¬ k = 1 by omega), if_neg (show ¬ k = 2 by omega), if_neg (show ¬ k = 3 by omega), if_neg (show ¬ k = 1 by omega), if_neg (show ¬ k = 2 by omega), if_neg (show ¬ k = 3 by omega)]
    by_cases z4 : k = 4
    · rw [if_pos z4, if_pos z4, if_pos z4]; exact yq_o h
    rw [if_neg z4, if_neg z4, if_neg z4]
    by_cases z5 : k = 5
    · rw [if_pos z5, if_pos z5, if_pos z5]; exact yq_t h
    rw [if_neg z5, if_neg z5, if_neg z5]
    by_cases z6 : k = 6
    · rw [if_pos z6, if_pos z6, if_pos z6]; exact h
    rw [if_neg z6, if_neg z6, if_neg z6]
    by_cases z7 : k = 7
    · rw [if_pos z7, if_pos z7, if_pos z7]; exact yq_i h h'
    rw [if_neg z7, if_neg z7, if_neg z7]
    by_cases z8 : k = 8
    · rw [if_pos z8, if_pos z8, if_pos z8]; exact yq_g h h'
    have z9 : k = 9 := by omega
    rw [if_neg z8, if_neg z8, if_neg z8, if_pos z9, if_pos z9]
    exact yq_b (hm.1 (Or.inr (Or.inr z9))).2 h h'
  · have : k = 0 ∨ k = 1 ∨ k = 2 ∨ k = 3 := by omega
    rcases this with z | z | z | z
    · subst z; exact yq_D
    · subst z; exact yq_P
    · subst z
      obtain ⟨e, m6⟩ := hm.1 (Or.inl rfl)
      subst e
      have : vv_ok (2 ^ m, 1) := ⟨(by decide : ∀ m, m < 6 → 2 ^ m < 64) m m6, (by decide : 1 < 32)⟩
      refine ⟨?_, this, this, Or.inr (Or.inl rfl)⟩
      show (((1 : Int32) <<< (nI m &&& 31)), ((1 : Int32) <<< (nI m &&& 31)), (0 : Int32), (1 : Int32)) = _
      rw [yz_em m m6]; rfl
    · subst z
      obtain ⟨e, m3⟩ := hm.2 rfl
      subst e
      have : vv_ok (0, 4 * 2 ^ m) := ⟨(by decide : 0 < 64), (by decide : ∀ m, m < 3 → 4 * 2 ^ m < 32) m m3⟩
      refine ⟨?_, this, this, yz_exm m m3⟩
      show ((0 : Int32), (0 : Int32), nI m + 2, ((4 : Int32) <<< (nI m &&& 31))) = _
      rw [(yz_ex m m3).1, (yz_ex m m3).2]; rfl
theorem yq_Re {k m pr ab : Nat} {mk : Int32} {oi aP aQ : Bool} {xs ys xr yr : Int32 × Int32 × Int32 × Int32} {sp sp' sq sq' rp rp' rq rq' : Nat × Nat} (k9 : k ≤ 9) (hm : mk_W k m mk)
    (hsp : 4 ≤ k → yq_R xs sp sp') (hsq : 4 ≤ k → yq_R ys sq sq') (hrp : 4 ≤ k → aP = true → yq_R xr rp rp') (hrq : 7 ≤ k → aQ = true → yq_R yr rq rq')
    (zrp : 4 ≤ k → aP = false → rp = (0, 1) ∧ rp' = (0, 1)) (zrq : 7 ≤ k → aQ = false → rq = (0, 1) ∧ rq' = (0, 1))
    (h4 : k = 4 → oi = false → aP = true) (h5 : k = 5 ∨ k = 6 → aP = true) (h7 : k = 7 ∨ k = 9 → aP = false → aQ = true) :
    yq_R (qu_R k m (nI pr) (nI ab) oi aP aQ xs ys xr yr) (sv_R k m pr ab true oi true aP sp sq rp rq) (sv_R k m pr ab false oi true aP sp' sq' rp' rq') := by
  unfold qu_R sv_R
  rw [if_neg (show ¬ true = false by decide), if_neg (show ¬ true = false by decide)]
  by_cases k4 : 4 ≤ k
  · rw [if_neg (show ¬ k < 4 by omega)]
    by_cases z4 : k = 4
    · rw [if_pos z4, if_pos z4, if_pos z4]
      cases oi
      · exact yq_o (hrp k4 (h4 z4 rfl))
      · exact yq_o (hsp k4)
    rw [if_neg z4, if_neg z4, if_neg z4]
    by_cases z5 : k = 5
    · rw [if_pos z5, if_pos z5, if_pos z5]; exact yq_t (hrp k4 (h5 (Or.inl z5)))
    rw [if_neg z5, if_neg z5, if_neg z5]
    by_cases z6 : k = 6
    · rw [if_pos z6, if_pos z6, if_pos z6]; exact yq_h (hm.1 (Or.inr (Or.inl z6))).2 (hrp k4 (h5 (Or.inr z6)))
    rw [if_neg z6, if_neg z6, if_neg z6]
    by_cases z7 : k = 7
    · rw [if_neg (show ¬ k = 8 by omega), if_pos z7, if_pos z7, if_pos z7]
      cases aP
      · exact hrq (by omega) (h7 (Or.inl z7) rfl)
      · exact yq_i (hrp k4 rfl) (hsq k4)
    rw [if_neg z7, if_neg z7, if_neg z7]
    by_cases z8 : k = 8
    · rw [if_pos z8, if_pos z8, if_pos z8]
      refine yq_g ?_ ?_
      · cases aP
        · rw [(zrp k4 rfl).1, (zrp k4 rfl).2]; exact yq_D
        · exact hrp k4 rfl
      · cases aQ
        · rw [(zrq (by omega) rfl).1, (zrq (by omega) rfl).2]; exact yq_D
        · exact hrq (by omega) rfl
    have z9 : k = 9 := by omega
    rw [if_neg z8, if_neg z8, if_neg z8, if_pos z9, if_pos z9]
    cases aP
    · exact hrq (by omega) (h7 (Or.inr z9) rfl)
    · exact hrp k4 rfl
  · rw [if_pos (show k < 4 by omega), if_neg (show ¬ k = 4 by omega), if_neg (show ¬ k = 5 by omega), if_neg (show ¬ k = 6 by omega), if_neg (show ¬ k = 7 by omega), if_neg (show ¬ k = 8 by omega), if_neg (show ¬ k = 9 by omega), if_neg (show ¬ k = 4 by omega), if_neg (show ¬ k = 5 by omega), if_neg (show ¬ k = 6 by omega), if_neg (show ¬ k = 7 by omega), if_neg (show ¬ k = 8 by omega), if_neg (show ¬ k = 9 by omega)]
    exact yq_D
end
section
/- Y: alive, the rounds, find -/
theorem yl_66 {post : SY → Prop} {J : Int32 → (Nat → Int32) → (Nat → Int32) → (Nat → Int32) → (Nat → Int32) → (Nat → Int32) → (Nat → Int32) → (Nat → Int32) → (Nat → Int32) → (Nat → Int32) → (Nat → Int32) → (Nat → Int32) → (Nat → Int32) → (Nat → Int32) → (Nat → Int32) → (Nat → Int32) → (Nat → Int32) → Prop} {g_made g_depth g_size g_begun g_over g_ticks g_present g_absent g_any g_lastPresent g_lastAbsent : Int32} {b_sorts b_numbers b_firsts b_seconds b_stack b_around b_on b_mustEmit b_canEmit b_mustEnd b_canEnd b_done b_frozen b_killed b_after : Nat → Int32} {A : Nat → Int32} {N i : Nat} {K M P Q : Nat → Nat} {al : Nat → Bool} {b : Bool} (hN : N ≤ 16) (hi : i < N) (hg : pg_Y N K M P Q b_sorts b_numbers b_firsts b_seconds)
    (hA : ∀ j, j < i → A j = bo_I (al j)) (hb : A i = bo_I b) (he : al i = (b || (decide (7 ≤ K i) && al (Q i))))
    (h : ∀ A', (∀ j, j < i + 1 → A' j = bo_I (al j)) → J (nI (i + 1)) b_sorts b_numbers b_firsts b_seconds b_stack b_around b_on A' b_mustEmit b_canEmit b_mustEnd b_canEnd b_done b_frozen b_killed b_after) : wY_findAlive_66 post J (nI i) g_made g_depth g_size g_begun g_over g_ticks g_present g_absent g_any g_lastPresent g_lastAbsent b_sorts b_numbers b_firsts b_seconds b_stack b_around b_on A b_mustEmit b_canEmit b_mustEnd b_canEnd b_done b_frozen b_killed b_after := by
  obtain ⟨g1, g2, g3, g4, g5, g6, g7, g8⟩ := hg i hi
  have hc : (nI i).toNatClampNeg = i := nI_clamp (by omega)
  have vi : vp_in (nI i) 32 := vp_in_nI (by omega) (by omega)
  have vi16 : vp_in (nI i) 16 := vp_in_nI (by omega) (by omega)
  unfold wY_findAlive_66
  rw [hc, g1, g5]
  refine ⟨vi, pk_le (K i) 6 (fun z => nm_r (nI_1 i) ?_) (fun z => ⟨vi16, ?_⟩)⟩
  · refine h A (lt_s hA ?_)
    rw [hb, he, decide_eq_false (by omega)]; simp
  · rw [if_pos (show 7 ≤ K i by omega), nI_clamp (show Q i < 2 ^ 31 by omega), hb]
    rw [decide_eq_true (show 7 ≤ K i by omega), Bool.true_and] at he
    have hq := (g8 (by omega)).2
    refine bo_br b (fun t => ⟨vi, vp_in_nI g7 (by omega), ?_⟩) (fun t => ⟨vi16, nm_e (nm_r (nI_1 i) ?_)⟩)
    · rw [hA _ hq]
      rw [t, Bool.false_or] at he
      refine bo_br _ (fun t2 => ⟨vi16, nm_e (nm_r (nI_1 i) ?_)⟩) (fun t2 => ⟨vi16, nm_e (nm_r (nI_1 i) ?_)⟩)
      · refine h _ (lt_s (fun j hj => ?_) ?_)
        · rw [pk_un (by omega)]; exact hA j hj
        · rw [pk_us, he, t2]; rfl
      · refine h _ (lt_s (fun j hj => ?_) ?_)
        · rw [pk_un (by omega)]; exact hA j hj
        · rw [pk_us, he, t2]; rfl
    · refine h _ (lt_s (fun j hj => ?_) ?_)
      · rw [pk_un (by omega)]; exact hA j hj
      · rw [pk_us, he, t]; rfl
theorem yl_2 {post : SY → Prop} {g_made g_depth g_size g_begun g_over g_ticks g_present g_absent g_any g_lastPresent g_lastAbsent : Int32} {b_sorts b_numbers b_firsts b_seconds b_stack b_around b_on b_mustEmit b_canEmit b_mustEnd b_canEnd b_done b_frozen b_killed b_after : Nat → Int32} {N : Nat} {K M P Q : Nat → Nat} {o al : Nat → Bool} (hN : N ≤ 16) (hs : g_size = nI N) (hg : pg_Y N K M P Q b_sorts b_numbers b_firsts b_seconds)
    (ho : ∀ j, j < 16 → b_on j = bo_I (o j)) (he : ∀ i, i < N → al i = (o i || (decide (4 ≤ K i) && al (P i)) || (decide (7 ≤ K i) && al (Q i))))
    (h : ∀ A', (∀ j, j < N → A' j = bo_I (al j)) → post (g_made, g_depth, g_size, g_begun, g_over, g_ticks, g_present, g_absent, g_any, g_lastPresent, g_lastAbsent, b_sorts, b_numbers, b_firsts, b_seconds, b_stack, b_around, b_on, A', b_mustEmit, b_canEmit, b_mustEnd, b_canEnd, b_done, b_frozen, b_killed, b_after)) :
    ∀ d i A, i + d = N → (∀ j, j < i → A j = bo_I (al j)) → wY_findAlive_2 post g_made g_depth g_size g_begun g_over g_ticks g_present g_absent g_any g_lastPresent g_lastAbsent (d + 1) (nI i) b_sorts b_numbers b_firsts b_seconds b_stack b_around b_on A b_mustEmit b_canEmit b_mustEnd b_canEnd b_done b_frozen b_killed b_after := by
  intro d
  induction d with
  | zero =>
    intro i A hi hA
    refine br_t ?_ (h A ((show i = N by omega) ▸ hA))
    rw [hs]; exact nI_le (by omega) (by omega)
  | succ d ih =>
    intro i A hi hA
    have hiN : i < N := by omega
    obtain ⟨g1, g2, g3, g4, g5, g6, g7, g8⟩ := hg i hiN
    have hc : (nI i).toNatClampNeg = i := nI_clamp (by omega)
    have vi : vp_in (nI i) 32 := vp_in_nI (by omega) (by omega)
    have vi16 : vp_in (nI i) 16 := vp_in_nI (by omega) (by omega)
    have h2 : ∀ A', (∀ j, j < i + 1 → A' j = bo_I (al j)) → wY_findAlive_2 post g_made g_depth g_size g_begun g_over g_ticks g_present g_absent g_any g_lastPresent g_lastAbsent (d + 1) (nI (i + 1)) b_sorts b_numbers b_firsts b_seconds b_stack b_around b_on A' b_mustEmit b_canEmit b_mustEnd b_canEnd b_done b_frozen b_killed b_after := fun A' hA' => ih (i + 1) A' (by omega) hA'
    have he' := he i hiN
    refine br_f ?_ ⟨vi16, vi16, ?_⟩
    · rw [hs]; exact nI_ge (by omega) (by omega)
    rw [hc, ho i (by omega), bo_nar]
    refine nm_e ⟨vi, ?_⟩
    rw [g1, pk_us]
    refine pk_le (K i) 3 (fun z => ?_) (fun z => ⟨vi16, ?_⟩)
    · refine yl_66 (b := o i) hN hiN hg (fun j hj => ?_) pk_us ?_ h2
      · rw [pk_un (by omega)]; exact hA j hj
      · rw [he', decide_eq_false (show ¬ 4 ≤ K i by omega)]; simp
    · have hp := (g8 (by omega)).1
      rw [decide_eq_true (show 4 ≤ K i by omega), Bool.true_and] at he'
      have k1 : ∀ (b : Bool), (o i || al (P i)) = b → wY_findAlive_66 post (wY_findAlive_2 post g_made g_depth g_size g_begun g_over g_ticks g_present g_absent g_any g_lastPresent g_lastAbsent (d + 1)) (nI i) g_made g_depth g_size g_begun g_over g_ticks g_present g_absent g_any g_lastPresent g_lastAbsent b_sorts b_numbers b_firsts b_seconds b_stack b_around b_on (upd (upd A i (bo_I (o i))) i (bo_I b)) b_mustEmit b_canEmit b_mustEnd b_canEnd b_done b_frozen b_killed b_after := by
        intro b hb
        refine yl_66 (b := b) hN hiN hg (fun j hj => ?_) pk_us ?_ h2
        · rw [pk_un (by omega), pk_un (by omega)]; exact hA j hj
        · rw [he', hb]
      have k2 : ∀ (b : Bool), (o i || al (P i)) = b → wY_findAlive_65 post (wY_findAlive_2 post g_made g_depth g_size g_begun g_over g_ticks g_present g_absent g_any g_lastPresent g_lastAbsent (d + 1)) (nI i) (bo_I b) (nI i) g_made g_depth g_size g_begun g_over g_ticks g_present g_absent g_any g_lastPresent g_lastAbsent b_sorts b_numbers b_firsts b_seconds b_stack b_around b_on (upd A i (bo_I (o i))) b_mustEmit b_canEmit b_mustEnd b_canEnd b_done b_frozen b_killed b_after := by
        intro b hb
        unfold wY_findAlive_65
        rw [hc, bo_nar]
        exact ⟨vi16, nm_e (k1 b hb)⟩
      refine bo_br (o i) (fun t => ⟨vi, ?_⟩) (fun t => ?_)
      · rw [g4, nI_clamp (show P i < 2 ^ 31 by omega)]
        refine ⟨vp_in_nI g6 (by omega), ?_⟩
        rw [pk_un (by omega), hA _ hp]
        refine bo_br _ (fun t2 => ?_) (fun t2 => ?_)
        · have := k2 false (by rw [t, t2]; rfl)
          exact this
        · have := k2 true (by rw [t, t2]; rfl)
          exact this
      · have := k2 true (by rw [t]; rfl)
        exact this
theorem yl_p {post : SY → Prop} {g_made g_depth g_size g_begun g_over g_ticks g_present g_absent g_any g_lastPresent g_lastAbsent : Int32} {b_sorts b_numbers b_firsts b_seconds b_stack b_around b_on b_alive b_mustEmit b_canEmit b_mustEnd b_canEnd b_done b_frozen b_killed b_after : Nat → Int32} {N : Nat} {K M P Q : Nat → Nat} {o al : Nat → Bool} (hN : N ≤ 16) (hs : g_size = nI N) (hg : pg_Y N K M P Q b_sorts b_numbers b_firsts b_seconds)
    (ho : ∀ j, j < 16 → b_on j = bo_I (o j)) (he : ∀ i, i < N → al i = (o i || (decide (4 ≤ K i) && al (P i)) || (decide (7 ≤ K i) && al (Q i))))
    (h : ∀ A', (∀ j, j < N → A' j = bo_I (al j)) → post (g_made, g_depth, g_size, g_begun, g_over, g_ticks, g_present, g_absent, g_any, g_lastPresent, g_lastAbsent, b_sorts, b_numbers, b_firsts, b_seconds, b_stack, b_around, b_on, A', b_mustEmit, b_canEmit, b_mustEnd, b_canEnd, b_done, b_frozen, b_killed, b_after)) : wpY_findAlive post (g_made, g_depth, g_size, g_begun, g_over, g_ticks, g_present, g_absent, g_any, g_lastPresent, g_lastAbsent, b_sorts, b_numbers, b_firsts, b_seconds, b_stack, b_around, b_on, b_alive, b_mustEmit, b_canEmit, b_mustEnd, b_canEnd, b_done, b_frozen, b_killed, b_after) :=
  ⟨N + 1, yl_2 hN hs hg ho he h N 0 b_alive (by omega) (fun j hj => absurd hj (by omega))⟩
theorem qa_s {me ce mn cn : Nat → Int32} {a : Nat} {x : Int32 × Int32 × Int32 × Int32} : qu_at (upd me a x.1) (upd ce a x.2.1) (upd mn a x.2.2.1) (upd cn a x.2.2.2) a = x := by
  unfold qu_at; rw [pk_us, pk_us, pk_us, pk_us]
theorem qa_n {me ce mn cn : Nat → Int32} {a j : Nat} {x : Int32 × Int32 × Int32 × Int32} (h : j ≠ a) : qu_at (upd me a x.1) (upd ce a x.2.1) (upd mn a x.2.2.1) (upd cn a x.2.2.2) j = qu_at me ce mn cn j := by
  unfold qu_at; rw [pk_un h, pk_un h, pk_un h, pk_un h]
def tb_Y (K M P Q : Nat → Nat) (pr ab : Nat) (o al : Nat → Bool) (me ce mn cn : Nat → Int32) (i : Nat) : Prop :=
  ∀ j, j < i → yq_R (qu_at me ce mn cn j) (tv_S K M P Q pr ab true j) (tv_S K M P Q pr ab false j) ∧ (al j = true → yq_R (qu_at me ce mn cn (16 + j)) (tv_R K M P Q pr ab o al true j) (tv_R K M P Q pr ab o al false j))
/-- what the pauses and loops that are on keep to -/
def on_W (N : Nat) (K P Q : Nat → Nat) (o al : Nat → Bool) : Prop :=
  (∀ i, i < N → al i = (o i || (decide (4 ≤ K i) && al (P i)) || (decide (7 ≤ K i) && al (Q i)))) ∧ (∀ i, o i = true → i < N ∧ (K i = 1 ∨ K i = 4))
theorem tv_R0 {N : Nat} {K M P Q : Nat → Nat} (wf : wf_P N K P Q) (pr ab : Nat) (o al : Nat → Bool) (mu : Bool) {i : Nat} (hi : i < N) (h : al i = false) : tv_R K M P Q pr ab o al mu i = (0, 1) := by
  rw [tv_Re wf pr ab o al mu hi]
  unfold sv_R
  rw [if_pos h]
theorem pg_wfY {N : Nat} {K M P Q : Nat → Nat} {kY mY pY qY : Nat → Int32} (h : pg_Y N K M P Q kY mY pY qY) : wf_P N K P Q := fun i hi => (h i hi).2.2.2.2.2.2.2
theorem tb_Ys {N i pr ab : Nat} {K M P Q : Nat → Nat} {o al : Nat → Bool} {kY mY pY qY me ce mn cn : Nat → Int32} (hN : N ≤ 16) (hi : i < N) (hg : pg_Y N K M P Q kY mY pY qY) (ho : on_W N K P Q o al) (ht : tb_Y K M P Q pr ab o al me ce mn cn i)
    {x y : Int32 × Int32 × Int32 × Int32} (hx : x = qu_S (K i) (M i) (mY i) (nI pr) (nI ab) (qu_at me ce mn cn (P i)) (qu_at me ce mn cn (Q i)))
    (hy : y = qu_R (K i) (M i) (nI pr) (nI ab) (o i) (al (P i)) (al (Q i)) (qu_at (upd me i x.1) (upd ce i x.2.1) (upd mn i x.2.2.1) (upd cn i x.2.2.2) (P i)) (qu_at (upd me i x.1) (upd ce i x.2.1) (upd mn i x.2.2.1) (upd cn i x.2.2.2) (Q i)) (qu_at (upd me i x.1) (upd ce i x.2.1) (upd mn i x.2.2.1) (upd cn i x.2.2.2) (16 + P i)) (qu_at (upd me i x.1) (upd ce i x.2.1) (upd mn i x.2.2.1) (upd cn i x.2.2.2) (16 + Q i))) :
    tb_Y K M P Q pr ab o al (upd (upd me i x.1) (16 + i) y.1) (upd (upd ce i x.2.1) (16 + i) y.2.1) (upd (upd mn i x.2.2.1) (16 + i) y.2.2.1) (upd (upd cn i x.2.2.2) (16 + i) y.2.2.2) (i + 1) := by
  obtain ⟨g1, g2, g3, g4, g5, g6, g7, g8⟩ := hg i hi
  refine lt_s (fun j hj => ?_) ?_
  · have := ht j hj
    rw [qa_n (show j ≠ 16 + i by omega), qa_n (show j ≠ i by omega), qa_n (show 16 + j ≠ 16 + i by omega), qa_n (show 16 + j ≠ i by omega)]
    exact this
  · rw [qa_n (show i ≠ 16 + i by omega), qa_s, qa_s]
    have hS : 4 ≤ K i → yq_R (qu_at me ce mn cn (P i)) (tv_S K M P Q pr ab true (P i)) (tv_S K M P Q pr ab false (P i)) := fun h4 => (ht _ (g8 h4).1).1
    have hT : 4 ≤ K i → yq_R (qu_at me ce mn cn (Q i)) (tv_S K M P Q pr ab true (Q i)) (tv_S K M P Q pr ab false (Q i)) := fun h4 => (ht _ (g8 h4).2).1
    refine ⟨?_, fun ha => ?_⟩
    · rw [hx, tv_Se (pg_wfY hg) pr ab true hi, tv_Se (pg_wfY hg) pr ab false hi]
      exact yq_S g2 g3 hS hT
    · rw [hy, tv_Re (pg_wfY hg) pr ab o al true hi, tv_Re (pg_wfY hg) pr ab o al false hi, ha]
      have hal := ho.1 i hi
      rw [ha] at hal
      have hon := ho.2 i
      refine yq_Re g2 g3 (fun h4 => ?_) (fun h4 => ?_) (fun h4 z => ?_) (fun h7 z => ?_) (fun h4 z => ?_) (fun h7 z => ?_) (fun h4 z => ?_) (fun h5 => ?_) (fun h7 z => ?_)
      · rw [qa_n (show P i ≠ i by have := (g8 h4).1; omega)]; exact hS h4
      · rw [qa_n (show Q i ≠ i by have := (g8 h4).2; omega)]; exact hT h4
      · rw [qa_n (show 16 + P i ≠ i by omega)]; exact (ht _ (g8 h4).1).2 z
      · rw [qa_n (show 16 + Q i ≠ i by omega)]; exact (ht _ (g8 (by omega)).2).2 z
      · have : P i < N := by have := (g8 h4).1; omega
        exact ⟨tv_R0 (pg_wfY hg) pr ab o al true this z, tv_R0 (pg_wfY hg) pr ab o al false this z⟩
      · have : Q i < N := by have := (g8 (by omega)).2; omega
        exact ⟨tv_R0 (pg_wfY hg) pr ab o al true this z, tv_R0 (pg_wfY hg) pr ab o al false this z⟩
      · rw [z, decide_eq_true (show 4 ≤ K i by omega), decide_eq_false (show ¬ 7 ≤ K i by omega)] at hal
        simpa using hal.symm
      · have oi : o i = false := by
          cases hz : o i
          · rfl
          · have := (hon hz).2; omega
        rw [oi, decide_eq_true (show 4 ≤ K i by omega), decide_eq_false (show ¬ 7 ≤ K i by omega)] at hal
        simpa using hal.symm
      · have oi : o i = false := by
          cases hz : o i
          · rfl
          · have := (hon hz).2; omega
        rw [oi, z, decide_eq_true (show 4 ≤ K i by omega), decide_eq_true (show 7 ≤ K i by omega)] at hal
        simpa using hal.symm
end
section
/- Y: the rounds of find; both outcomes -/
theorem yf_77 {post : Int32 → SY → Prop} {J : Int32 → Int32 → Int32 → Int32 → Int32 → Int32 → Int32 → Int32 → Int32 → Int32 → Int32 → Int32 → (Nat → Int32) → (Nat → Int32) → (Nat → Int32) → (Nat → Int32) → (Nat → Int32) → (Nat → Int32) → (Nat → Int32) → (Nat → Int32) → (Nat → Int32) → (Nat → Int32) → (Nat → Int32) → (Nat → Int32) → (Nat → Int32) → (Nat → Int32) → (Nat → Int32) → (Nat → Int32) → Prop}
    {g_made g_depth g_size g_begun g_over g_ticks g_any g_lastPresent g_lastAbsent : Int32} {b_sorts b_numbers b_firsts b_seconds b_stack b_around b_on b_alive b_done b_frozen b_killed b_after : Nat → Int32} {N pr ab r : Nat} {K M P Q : Nat → Nat} {o al : Nat → Bool} {fi : Bool} {x3 : Int32} (hN : N ≤ 16) (hN1 : 1 ≤ N) (hs : g_size = nI N) (h1 : pr < 64) (h2 : ab < 64) (hg : pg_Y N K M P Q b_sorts b_numbers b_firsts b_seconds)
    (hon : on_W N K P Q o al) (ho : ∀ j, j < 16 → b_on j = bo_I (o j)) (hal : ∀ j, j < N → b_alive j = bo_I (al j)) (hr : r = if fi = true then N - 1 else 16 + (N - 1)) (hra : fi = false → al (N - 1) = true)
    {rm rc : Nat → Nat → Nat} (hrm : rm = rt_m K M P Q N o al fi) (hrc : rc = rt_c K M P Q N o al fi)
    (h : ∀ me ce mn cn, tb_Y K M P Q pr ab o al me ce mn cn N → J x3 g_made g_depth g_size g_begun g_over g_ticks (nI (fx_s rm rc pr ab).1) (nI (fx_s rm rc pr ab).2) g_any g_lastPresent g_lastAbsent b_sorts b_numbers b_firsts b_seconds b_stack b_around b_on b_alive me ce mn cn b_done b_frozen b_killed b_after) :
    ∀ d i me ce mn cn, i + d = N → tb_Y K M P Q pr ab o al me ce mn cn i → wY_find_77 post J (nI r) x3 (d + 1) (nI i) g_made g_depth g_size g_begun g_over g_ticks (nI pr) (nI ab) g_any g_lastPresent g_lastAbsent b_sorts b_numbers b_firsts b_seconds b_stack b_around b_on b_alive me ce mn cn b_done b_frozen b_killed b_after := by
  intro d
  induction d with
  | zero =>
    intro i me ce mn cn hi ht
    have hiN : i = N := by omega
    subst hiN
    have r32 : r < 32 := by rw [hr]; split <;> omega
    have cr : (nI r).toNatClampNeg = r := nI_clamp (by omega)
    have vr : vp_in (nI r) 32 := vp_in_nI r32 (by omega)
    have hv : me r = nI (rm pr ab) ∧ ce r = nI (rc pr ab) ∧ rm pr ab < 64 ∧ rc pr ab < 64 := by
      rw [hrm, hrc, hr]
      unfold rt_m rt_c rt_v
      have ht' := ht (i - 1) (by omega)
      cases fi
      · obtain ⟨e, v1, v2, v3⟩ := ht'.2 (hra rfl)
        unfold qu_at at e
        simp only [Prod.mk.injEq] at e
        exact ⟨e.1, e.2.1, v1.1, v2.1⟩
      · obtain ⟨e, v1, v2, v3⟩ := ht'.1
        unfold qu_at at e
        simp only [Prod.mk.injEq] at e
        exact ⟨e.1, e.2.1, v1.1, v2.1⟩
    obtain ⟨hv1, hv2, hv3, hv4⟩ := hv
    have hu := fx_u64 pr ab
    refine br_t ?_ ?_
    · rw [hs]; exact nI_le (by omega) (by omega)
    have e1 : nI (fx_u pr ab) &&& nI (rm pr ab) = nI (fx_u pr ab &&& rm pr ab) := nx_and _ _
    have e2 : nI (fx_u pr ab) &&& (nI (rc pr ab) ^^^ (-1)) = nI (fx_u pr ab &&& (63 - rc pr ab)) := by
      have := fx_nn (u := fx_u pr ab) (s := rc pr ab) 0 hu hv4
      rw [show 64 * 0 + rc pr ab = rc pr ab from by omega] at this
      exact this
    refine nm_r (fx_ui pr h1 ab h2) ⟨vr, ?_⟩
    rw [cr, hv1, hv2, e1, e2, bz_or, bz_or]
    exact nm_e ⟨vr, nm_e (h me ce mn cn ht)⟩
  | succ d ih =>
    intro i me ce mn cn hi ht
    have hiN : i < N := by omega
    refine br_f ?_ ?_
    · rw [hs]; exact nI_ge (by omega) (by omega)
    refine yj_S hN hiN hg ?_
    refine yj_R (o := o) (al := al) hN hiN hg (ho i (by omega)) hal ?_
    refine nm_r (nI_1 i) ?_
    exact ih (i + 1) _ _ _ _ (by omega) (tb_Ys hN hiN hg hon ht rfl rfl)
theorem yf_neg : ∀ n, n < 64 → ¬ (-1 : Int32) = nI n := by decide +kernel
theorem yf_pa (pr ab : Nat) : nI pr + (64 * nI ab) = nI (pr + 64 * ab) := by
  have : (64 : Int32) * nI ab = nI (64 * ab) := pk_mul 64 ab
  rw [this, nI_add]
theorem yf_45 {post : Int32 → SY → Prop}
    {g_made g_depth g_size g_begun g_over g_ticks g_any g_lastPresent g_lastAbsent : Int32} {b_sorts b_numbers b_firsts b_seconds b_stack b_around b_on b_alive b_done b_frozen b_killed b_after : Nat → Int32} {N r : Nat} {K M P Q : Nat → Nat} {o al : Nat → Bool} {fi : Bool} (hN : N ≤ 16) (hN1 : 1 ≤ N) (hs : g_size = nI N) (hg : pg_Y N K M P Q b_sorts b_numbers b_firsts b_seconds)
    (hon : on_W N K P Q o al) (ho : ∀ j, j < 16 → b_on j = bo_I (o j)) (hal : ∀ j, j < N → b_alive j = bo_I (al j)) (hr : r = if fi = true then N - 1 else 16 + (N - 1)) (hra : fi = false → al (N - 1) = true)
    {rm rc : Nat → Nat → Nat} (hrm : rm = rt_m K M P Q N o al fi) (hrc : rc = rt_c K M P Q N o al fi) :
    ∀ n k pr ab x3 me ce mn cn, n + k = 7 → pr < 64 → ab < 64 → k ≤ fx_pc (pr ||| ab) → ¬ x3 = nI (pr + 64 * ab) →
    (∀ me ce mn cn, tb_Y K M P Q (fx_r rm rc n pr ab).1 (fx_r rm rc n pr ab).2 o al me ce mn cn N → post (nI r) (g_made, g_depth, g_size, g_begun, g_over, g_ticks, nI (fx_r rm rc n pr ab).1, nI (fx_r rm rc n pr ab).2, g_any, g_lastPresent, g_lastAbsent, b_sorts, b_numbers, b_firsts, b_seconds, b_stack, b_around, b_on, b_alive, me, ce, mn, cn, b_done, b_frozen, b_killed, b_after)) →
    wY_find_45 post (nI r) (n + 1) x3 g_made g_depth g_size g_begun g_over g_ticks (nI pr) (nI ab) g_any g_lastPresent g_lastAbsent b_sorts b_numbers b_firsts b_seconds b_stack b_around b_on b_alive me ce mn cn b_done b_frozen b_killed b_after := by
  intro n
  induction n with
  | zero =>
    intro k pr ab x3 me ce mn cn hnk h1 h2 hpc
    have := fx_pc6 _ (Nat.or_lt_two_pow (n := 6) h1 h2)
    omega
  | succ n ih =>
    intro k pr ab x3 me ce mn cn hnk h1 h2 hpc hx hp
    refine br_f (by rw [yf_pa]; exact hx) (nm_r (yf_pa pr ab) ⟨N + 1, ?_⟩)
    refine yf_77 (fi := fi) hN hN1 hs h1 h2 hg hon ho hal hr hra hrm hrc (fun me ce mn cn ht => ?_) N 0 me ce mn cn (by omega) (fun j hj => absurd hj (by omega))
    by_cases z : fx_s rm rc pr ab = (pr, ab)
    · have hxr : fx_r rm rc (n + 1) pr ab = (pr, ab) := by unfold fx_r; rw [if_pos z]
      have hp' := hp me ce mn cn
      rw [hxr] at hp'
      rw [z]
      exact br_t (yf_pa pr ab).symm (hp' ht)
    · have hxr : fx_r rm rc (n + 1) pr ab = fx_r rm rc n (fx_s rm rc pr ab).1 (fx_s rm rc pr ab).2 := by rw [fx_r, if_neg z]
      rw [hxr] at hp
      have hgr := fx_gr rm rc h1 h2 z
      have hb := fx_ss rm rc h1 h2
      refine ih (k + 1) _ _ _ me ce mn cn (by omega) hb.1 hb.2 (by omega) (fun e => z ?_) hp
      rw [nI_eq (by omega) (by omega)] at e
      have e1 : (fx_s rm rc pr ab).1 = pr := by omega
      have e2 : (fx_s rm rc pr ab).2 = ab := by omega
      exact Prod.ext e1 e2
theorem yf_p {post : Int32 → SY → Prop} {g_made g_depth g_size g_begun g_over g_ticks g_present g_absent g_any g_lastPresent g_lastAbsent : Int32} {b_sorts b_numbers b_firsts b_seconds b_stack b_around b_on b_alive b_mustEmit b_canEmit b_mustEnd b_canEnd b_done b_frozen b_killed b_after : Nat → Int32} {N : Nat} {K M P Q : Nat → Nat} {o al : Nat → Bool} {fi : Bool} {e : Int32} {inp : Nat} (hi : inp < 64) (hin : e &&& 63 = nI inp) (hN : N ≤ 16) (hN1 : 1 ≤ N) (hs : g_size = nI N) (hb : g_begun = bo_I (!fi)) (hg : pg_Y N K M P Q b_sorts b_numbers b_firsts b_seconds)
    (hon : on_W N K P Q o al) (ho : ∀ j, j < 16 → b_on j = bo_I (o j)) (hra : fi = false → al (N - 1) = true)
    {rm rc : Nat → Nat → Nat} (hrm : rm = rt_m K M P Q N o al fi) (hrc : rc = rt_c K M P Q N o al fi)
    (hp : ∀ pr ab A me ce mn cn, (pr, ab) = fx_r rm rc 7 inp 0 → (∀ j, j < N → A j = bo_I (al j)) → tb_Y K M P Q pr ab o al me ce mn cn N → post (nI (if fi = true then N - 1 else 16 + (N - 1))) (g_made, g_depth, g_size, g_begun, g_over, g_ticks, nI pr, nI ab, g_any, g_lastPresent, g_lastAbsent, b_sorts, b_numbers, b_firsts, b_seconds, b_stack, b_around, b_on, A, me, ce, mn, cn, b_done, b_frozen, b_killed, b_after)) : wpY_find post (g_made, g_depth, g_size, g_begun, g_over, g_ticks, g_present, g_absent, g_any, g_lastPresent, g_lastAbsent, b_sorts, b_numbers, b_firsts, b_seconds, b_stack, b_around, b_on, b_alive, b_mustEmit, b_canEmit, b_mustEnd, b_canEnd, b_done, b_frozen, b_killed, b_after) e := by
  have hz : nI N - 1 = nI (N - 1) := pk_sub (a := N) (b := 1) hN1
  have hz2 : (16 + nI N) - 1 = nI (16 + (N - 1)) := by
    rw [e16]
    have := pk_sub (a := 16 + N) (b := 1) (by omega)
    rw [show 16 + N - 1 = 16 + (N - 1) from by omega] at this
    exact this
  refine yl_p hN hs hg ho hon.1 (fun A hA => ?_)
  refine nm_r hin ?_
  rw [hb, hs]
  refine bo_br (!fi) (fun z => nm_r hz ⟨8, ?_⟩) (fun z => nm_r hz2 ⟨8, ?_⟩)
  · have hf : fi = true := by cases fi; exact absurd z (by decide); rfl
    subst hf
    exact yf_45 (fi := true) hN hN1 rfl hg hon ho hA rfl hra hrm hrc 7 0 inp 0 _ _ _ _ _ rfl hi (by decide) (Nat.zero_le _) (yf_neg _ (by omega)) (fun me ce mn cn ht => by have := hp _ _ A me ce mn cn rfl hA ht; rw [hb, hs] at this; exact this)
  · have hf : fi = false := by cases fi; rfl; exact absurd z (by decide)
    subst hf
    exact yf_45 (fi := false) hN hN1 rfl hg hon ho hA rfl hra hrm hrc 7 0 inp 0 _ _ _ _ _ rfl hi (by decide) (Nat.zero_le _) (yf_neg _ (by omega)) (fun me ce mn cn ht => by have := hp _ _ A me ce mn cn rfl hA ht; rw [hb, hs] at this; exact this)
/-- the outcome, as a pure number -/
def oc_V (K M P Q : Nat → Nat) (N : Nat) (o al : Nat → Bool) (fi : Bool) (pr ab : Nat) : Nat := if (pr ||| ab) = 63 then (if (rt_v K M P Q N o al fi true pr ab).2 % 2 = 1 then 0 else 1) else 2
theorem oc_63 {pr ab : Nat} (h1 : pr < 64) (h2 : ab < 64) : (nI pr ||| nI ab) = 63 ↔ (pr ||| ab) = 63 := by
  rw [bz_or]
  have := nI_eq (a := pr ||| ab) (b := 63) (by have := Nat.or_lt_two_pow (n := 6) h1 h2; omega) (by decide)
  exact this
theorem xo_out {post : Int32 → Prop} {f_height f_made f_size f_on f_inFirst f_over f_instantsDone f_hadInstant f_lastPresent f_lastAbsent f_startedNow f_resumedNow : Int32} {a_stack a_newKind a_newMark a_newP a_newQ a_newWithin a_kind a_mark a_partP a_partQ a_within a_mustStarted a_canStarted a_mustResumed a_canResumed : Nat → Int32} {N pr ab : Nat} {K M P Q : Nat → Nat} {fi : Bool} (hN : N ≤ 16) (hN1 : 1 ≤ N) (hs : f_size = nI N) (hfi : f_inFirst = bo_I fi) (h1 : pr < 64) (h2 : ab < 64) (hg : pg_X N K M P Q a_kind a_mark a_partP a_partQ)
    {o al : Nat → Bool} (ht : tb_X K M P Q pr ab o al a_mustStarted a_canStarted a_mustResumed a_canResumed N)
    (hp : post (nI (oc_V K M P Q N o al fi pr ab))) : wpX_outcomeFound post (f_height, f_made, f_size, f_on, f_inFirst, f_over, f_instantsDone, f_hadInstant, f_lastPresent, f_lastAbsent, nI pr, nI ab, f_startedNow, f_resumedNow, a_stack, a_newKind, a_newMark, a_newP, a_newQ, a_newWithin, a_kind, a_mark, a_partP, a_partQ, a_within, a_mustStarted, a_canStarted, a_mustResumed, a_canResumed) := by
  have hz : nI N - 1 = nI (N - 1) := pk_sub (a := N) (b := 1) hN1
  have vN : vp_in (nI (N - 1)) 16 := vp_in_nI (by omega) (by omega)
  have cN : (nI (N - 1)).toNatClampNeg = N - 1 := nI_clamp (by omega)
  obtain ⟨t1, t2, t3, t4⟩ := ht (N - 1) (by omega)
  unfold oc_V at hp
  unfold wpX_outcomeFound
  dsimp only
  rw [oc_63 h1 h2]
  refine br_c (fun z => ?_) (fun z => by rw [if_neg z] at hp; exact hp)
  rw [if_pos z] at hp
  rw [hs]
  refine nm_r hz ?_
  rw [hfi, cN, t1, t3]
  have ok := rt_ok hg hN1 o al fi true pr ab
  have key : wX_outcomeFound_45 post (pv_k (rt_v K M P Q N o al fi true pr ab)) f_height f_made (nI N) f_on (bo_I fi) f_over f_instantsDone f_hadInstant f_lastPresent f_lastAbsent (nI pr) (nI ab) f_startedNow f_resumedNow a_stack a_newKind a_newMark a_newP a_newQ a_newWithin a_kind a_mark a_partP a_partQ a_within a_mustStarted a_canStarted a_mustResumed a_canResumed := by
    have e := pz_64 _ ok.2 _ ok.1
    refine br_c (fun y => ?_) (fun y => ?_)
    · have := e.mp y; rw [if_neg (by omega)] at hp; exact hp
    · rw [if_pos (by have : ¬ _ := fun w => y (e.mpr w); omega)] at hp; exact hp
  unfold rt_v at key
  refine bo_br fi (fun z => ⟨vN, ?_⟩) (fun z => ⟨vN, ?_⟩)
  · rw [z, if_neg (by decide)] at key; rw [z]; exact key
  · rw [z, if_pos rfl] at key; rw [z]; exact key
theorem yo_out {post : Int32 → Prop} {g_made g_depth g_size g_begun g_over g_ticks g_any g_lastPresent g_lastAbsent : Int32} {b_sorts b_numbers b_firsts b_seconds b_stack b_around b_on b_alive b_mustEmit b_canEmit b_mustEnd b_canEnd b_done b_frozen b_killed b_after : Nat → Int32} {N pr ab : Nat} {K M P Q : Nat → Nat} {fi : Bool} (hN : N ≤ 16) (hN1 : 1 ≤ N) (h1 : pr < 64) (h2 : ab < 64)
    {o al : Nat → Bool} (ht : tb_Y K M P Q pr ab o al b_mustEmit b_canEmit b_mustEnd b_canEnd N) (hra : fi = false → al (N - 1) = true)
    (hp : post (nI (oc_V K M P Q N o al fi pr ab))) : wpY_outcome post (g_made, g_depth, g_size, g_begun, g_over, g_ticks, nI pr, nI ab, g_any, g_lastPresent, g_lastAbsent, b_sorts, b_numbers, b_firsts, b_seconds, b_stack, b_around, b_on, b_alive, b_mustEmit, b_canEmit, b_mustEnd, b_canEnd, b_done, b_frozen, b_killed, b_after) (nI (if fi = true then N - 1 else 16 + (N - 1))) := by
  have hr : (if fi = true then N - 1 else 16 + (N - 1)) < 32 := by split <;> omega
  have hv : b_mustEnd (if fi = true then N - 1 else 16 + (N - 1)) = de_I (rt_v K M P Q N o al fi true pr ab).2 ∧ mv_C (rt_v K M P Q N o al fi true pr ab).2 := by
    unfold rt_v
    have ht' := ht (N - 1) (by omega)
    cases fi
    · obtain ⟨e, v1, v2, v3⟩ := ht'.2 (hra rfl)
      unfold qu_at at e
      simp only [Prod.mk.injEq] at e
      exact ⟨e.2.2.1, v3⟩
    · obtain ⟨e, v1, v2, v3⟩ := ht'.1
      unfold qu_at at e
      simp only [Prod.mk.injEq] at e
      exact ⟨e.2.2.1, v3⟩
  generalize (if fi = true then N - 1 else 16 + (N - 1)) = r at hr hv ⊢
  unfold oc_V at hp
  unfold wpY_outcome
  dsimp only
  rw [oc_63 h1 h2, nI_clamp (show r < 2 ^ 31 by omega), hv.1]
  refine br_c (fun z => ⟨vp_in_nI hr (by omega), ?_⟩) (fun z => by rw [if_neg z] at hp; exact hp)
  rw [if_pos z] at hp
  rw [yz_01 hv.2]
  exact br_c (fun y => by rw [if_pos y] at hp; exact hp) (fun y => by rw [if_neg y] at hp; exact hp)
end
section
/- the tree of a program; tables built downward; how statements are run -/
def tr_P (N : Nat) (K P Q par : Nat → Nat) (w : Nat → Int32) : Prop :=
  (∀ c, c + 1 < N → c < par c ∧ par c < N ∧ ((4 ≤ K (par c) ∧ c = P (par c)) ∨ (7 ≤ K (par c) ∧ c = Q (par c)))) ∧
  (∀ i, i < N → 4 ≤ K i → par (P i) = i) ∧
  (∀ i, i < N → 7 ≤ K i → par (Q i) = i ∧ Q i ≠ P i) ∧
  (∀ c, c + 1 < N → ∀ k, k < N → k ≠ c → bt (w k) c = bt (w k) (par c)) ∧
  (∀ i, i < N → ∀ j, bt (w i) j = (decide (j = i) || (decide (4 ≤ K i) && bt (w (P i)) j) || (decide (7 ≤ K i) && bt (w (Q i)) j))) ∧
  (∀ i, i < N → K i < 7 → Q i = P i)
theorem tr_e {N : Nat} {K P Q par : Nat → Nat} {w : Nat → Int32} (h : tr_P N K P Q par w) {i j : Nat} (hi : i < N) : bt (w i) j = true ↔ j = i ∨ (4 ≤ K i ∧ bt (w (P i)) j = true) ∨ (7 ≤ K i ∧ bt (w (Q i)) j = true) := by
  rw [h.2.2.2.2.1 i hi j]
  simp [or_assoc]
theorem tr_self {N : Nat} {K P Q par : Nat → Nat} {w : Nat → Int32} (h : tr_P N K P Q par w) {i : Nat} (hi : i < N) : bt (w i) i = true := (tr_e h hi).mpr (Or.inl rfl)
theorem tr_le {N : Nat} {K P Q par : Nat → Nat} {w : Nat → Int32} (h : tr_P N K P Q par w) (wf : wf_P N K P Q) : ∀ i, i < N → ∀ j, bt (w i) j = true → j ≤ i := by
  intro i
  induction i using Nat.strongRecOn with
  | _ i ih =>
    intro hi j hj
    rcases (tr_e h hi).mp hj with e | ⟨h4, e⟩ | ⟨h7, e⟩
    · omega
    · have := (wf i hi h4).1
      have := ih (P i) this (by omega) j e
      omega
    · have := (wf i hi (by omega)).2
      have := ih (Q i) this (by omega) j e
      omega
theorem tr_tr {N : Nat} {K P Q par : Nat → Nat} {w : Nat → Int32} (h : tr_P N K P Q par w) (wf : wf_P N K P Q) : ∀ a, a < N → ∀ b j, bt (w a) b = true → bt (w b) j = true → bt (w a) j = true := by
  intro a
  induction a using Nat.strongRecOn with
  | _ a ih =>
    intro ha b j hb hj
    rcases (tr_e h ha).mp hb with e | ⟨h4, e⟩ | ⟨h7, e⟩
    · rw [e] at hj; exact hj
    · have := (wf a ha h4).1
      exact (tr_e h ha).mpr (Or.inr (Or.inl ⟨h4, ih (P a) this (by omega) b j e hj⟩))
    · have := (wf a ha (by omega)).2
      exact (tr_e h ha).mpr (Or.inr (Or.inr ⟨h7, ih (Q a) this (by omega) b j e hj⟩))
theorem tr_dj {N : Nat} {K P Q par : Nat → Nat} {w : Nat → Int32} (h : tr_P N K P Q par w) (wf : wf_P N K P Q) {k : Nat} (hk : k < N) (h7 : 7 ≤ K k) : ∀ n j, N - j = n → bt (w (P k)) j = true → bt (w (Q k)) j = true → False := by
  have hP := (wf k hk (by omega)).1
  have hQ := (wf k hk (by omega)).2
  have hne := (h.2.2.1 k hk h7).2
  intro n
  induction n using Nat.strongRecOn with
  | _ n ih =>
    intro j hj h1 h2
    have l1 := tr_le h wf (P k) (by omega) j h1
    have l2 := tr_le h wf (Q k) (by omega) j h2
    have hjN : j + 1 < N := by omega
    have hpj := (h.1 j hjN).1
    by_cases e1 : j = P k
    · rw [h.2.2.2.1 j hjN (Q k) (by omega) (by omega), e1, h.2.1 k hk (by omega)] at h2
      have := tr_le h wf (Q k) (by omega) k h2
      omega
    · by_cases e2 : j = Q k
      · rw [h.2.2.2.1 j hjN (P k) (by omega) (by omega), e2, (h.2.2.1 k hk h7).1] at h1
        have := tr_le h wf (P k) (by omega) k h1
        omega
      · rw [h.2.2.2.1 j hjN (P k) (by omega) (by omega)] at h1
        rw [h.2.2.2.1 j hjN (Q k) (by omega) (by omega)] at h2
        exact ih (N - par j) (by omega) (par j) rfl h1 h2
theorem tr_al {N : Nat} {K P Q par : Nat → Nat} {w : Nat → Int32} (h : tr_P N K P Q par w) (hN : N ≤ 16) (x : Int32) {i : Nat} (hi : i < N) :
    ac_L x w i = (bt x i || (decide (4 ≤ K i) && ac_L x w (P i)) || (decide (7 ≤ K i) && ac_L x w (Q i))) := by
  rw [Bool.eq_iff_iff]
  simp only [Bool.or_eq_true, Bool.and_eq_true, decide_eq_true_eq, ac_ex]
  constructor
  · rintro ⟨j, hj, ho, hw⟩
    rcases (tr_e h hi).mp hw with e | ⟨h4, e⟩ | ⟨h7, e⟩
    · rw [e] at ho; exact Or.inl (Or.inl ho)
    · exact Or.inl (Or.inr ⟨h4, j, hj, ho, e⟩)
    · exact Or.inr ⟨h7, j, hj, ho, e⟩
  · rintro ((ho | ⟨h4, j, hj, ho, e⟩) | ⟨h7, j, hj, ho, e⟩)
    · exact ⟨i, by omega, ho, tr_self h hi⟩
    · exact ⟨j, hj, ho, (tr_e h hi).mpr (Or.inr (Or.inl ⟨h4, e⟩))⟩
    · exact ⟨j, hj, ho, (tr_e h hi).mpr (Or.inr (Or.inr ⟨h7, e⟩))⟩
/-- tables built downward -/
def dn_T {α : Type} (N : Nat) (par : Nat → Nat) (G : Nat → α → α) (a0 : α) : Nat → Nat → α
  | 0, _ => a0
  | n + 1, c => if c + 1 < N then G c (dn_T N par G a0 n (par c)) else a0
theorem dn_e {α : Type} {N : Nat} {par : Nat → Nat} {G : Nat → α → α} {a0 : α} (hp : ∀ c, c + 1 < N → c < par c) : ∀ n c, N ≤ n + c → ∀ m, N ≤ m + c → dn_T N par G a0 n c = dn_T N par G a0 m c := by
  intro n
  induction n with
  | zero =>
    intro c hc m hm
    cases m with
    | zero => rfl
    | succ m =>
      show a0 = if c + 1 < N then _ else a0
      rw [if_neg (by omega)]
  | succ n ih =>
    intro c hc m hm
    by_cases h : c + 1 < N
    · have := hp c h
      cases m with
      | zero => omega
      | succ m =>
        show (if c + 1 < N then G c (dn_T N par G a0 n (par c)) else a0) = (if c + 1 < N then G c (dn_T N par G a0 m (par c)) else a0)
        rw [if_pos h, if_pos h, ih (par c) (by omega) m (by omega)]
    · cases m with
      | zero =>
        show (if c + 1 < N then G c (dn_T N par G a0 n (par c)) else a0) = a0
        rw [if_neg h]
      | succ m =>
        show (if c + 1 < N then G c (dn_T N par G a0 n (par c)) else a0) = (if c + 1 < N then G c (dn_T N par G a0 m (par c)) else a0)
        rw [if_neg h, if_neg h]
theorem dn_x {α : Type} {N : Nat} {par : Nat → Nat} (G : Nat → α → α) (a0 : α) (hN : 1 ≤ N) (hp : ∀ c, c + 1 < N → c < par c) : ∃ d : Nat → α, d (N - 1) = a0 ∧ ∀ c, c + 1 < N → d c = G c (d (par c)) := by
  refine ⟨fun c => dn_T N par G a0 N c, ?_, fun c hc => ?_⟩
  · cases N with
    | zero => omega
    | succ N =>
      show (if (N + 1 - 1) + 1 < N + 1 then _ else a0) = a0
      rw [if_neg (by omega)]
  · dsimp only
    rw [dn_e hp N c (by omega) (N + 1) (by omega)]
    show (if c + 1 < N then G c (dn_T N par G a0 N (par c)) else a0) = _
    rw [if_pos hc]
/- which way a part is run -/
def wy_P (k : Nat) (oi aP is : Bool) (w : Nat) : Nat :=
  if w = 0 then 0 else if k = 4 then (if oi = true then 1 else w) else if k = 5 then w else if k = 6 then (if w = 2 ∧ is = true then 0 else w) else if k = 7 ∨ k = 8 then (if w = 1 ∨ aP = true then w else 0) else (if (if w = 1 then is else aP) = true then w else 0)
def wy_Q (k : Nat) (aP aQ is en : Bool) (w : Nat) : Nat :=
  if w = 0 then 0 else if k = 7 then (if w = 2 ∧ aP = false then 2 else if en = true then 1 else 0) else if k = 8 then (if w = 1 ∨ aQ = true then w else 0) else (if (if w = 1 then is else aP) = true then 0 else w)
def cd_E (eS eR : Nat → Nat) (w j : Nat) : Nat := if w = 1 then eS j else eR j
/-- all that is known of one instant whose signals are all known -/
def dm_W (N : Nat) (K P Q par : Nat → Nat) (w : Nat → Int32) (o al is : Nat → Bool) (eS eR d : Nat → Nat) (fi : Bool) : Prop :=
  1 ≤ N ∧ tr_P N K P Q par w ∧ wf_P N K P Q ∧ (∀ i, i < N → K i ≤ 9) ∧ on_W N K P Q o al ∧ (fi = false → al (N - 1) = true) ∧
  (∀ i, i < N → K i = 7 ∨ K i = 9 → al (P i) = true → al (Q i) = true → False) ∧
  (∀ i, i < N → (al i = true ↔ ∃ j, o j = true ∧ bt (w i) j = true)) ∧
  d (N - 1) = (if fi = true then 1 else 2) ∧
  (∀ c, c + 1 < N → d c = if c = P (par c) then wy_P (K (par c)) (o (par c)) (al c) (is (par c)) (d (par c)) else wy_Q (K (par c)) (al (P (par c))) (al c) (is (par c)) (decide (cd_E eS eR (wy_P (K (par c)) (o (par c)) (al (P (par c))) (is (par c)) (d (par c))) (P (par c)) % 2 = 1)) (d (par c)))
theorem dm_P {N : Nat} {K P Q par : Nat → Nat} {w : Nat → Int32} {o al is : Nat → Bool} {eS eR d : Nat → Nat} {fi : Bool} (h : dm_W N K P Q par w o al is eS eR d fi) {i : Nat} (hi : i < N) (h4 : 4 ≤ K i) : d (P i) = wy_P (K i) (o i) (al (P i)) (is i) (d i) := by
  obtain ⟨h1, ht, wf, hk, hon, hr, h2, hal, hd0, hd⟩ := h
  have hp := (wf i hi h4).1
  have := hd (P i) (by omega)
  rw [ht.2.1 i hi h4, if_pos rfl] at this
  exact this
theorem dm_Q {N : Nat} {K P Q par : Nat → Nat} {w : Nat → Int32} {o al is : Nat → Bool} {eS eR d : Nat → Nat} {fi : Bool} (h : dm_W N K P Q par w o al is eS eR d fi) {i : Nat} (hi : i < N) (h7 : 7 ≤ K i) : d (Q i) = wy_Q (K i) (al (P i)) (al (Q i)) (is i) (decide (cd_E eS eR (d (P i)) (P i) % 2 = 1)) (d i) := by
  have hP := dm_P h hi (by omega)
  obtain ⟨h1, ht, wf, hk, hon, hr, h2, hal, hd0, hd⟩ := h
  have hq := (wf i hi (by omega)).2
  have := hd (Q i) (by omega)
  rw [(ht.2.2.1 i hi h7).1, if_neg (ht.2.2.1 i hi h7).2, ← hP] at this
  exact this
theorem dm_012 {N : Nat} {K P Q par : Nat → Nat} {w : Nat → Int32} {o al is : Nat → Bool} {eS eR d : Nat → Nat} {fi : Bool} (h : dm_W N K P Q par w o al is eS eR d fi) : ∀ n c, N - c = n → c < N → d c ≤ 2 := by
  have h' := h
  obtain ⟨h1, ht, wf, hk, hon, hr, h2, hal, hd0, hd⟩ := h
  intro n
  induction n using Nat.strongRecOn with
  | _ n ih =>
    intro c hn hc
    by_cases e : c + 1 < N
    · have hp := (ht.1 c e).1
      have hpN := (ht.1 c e).2.1
      have ih' := ih (N - par c) (by omega) (par c) rfl hpN
      rw [hd c e]
      split
      · unfold wy_P; repeat' split
        all_goals omega
      · unfold wy_Q; repeat' split
        all_goals omega
    · rw [show c = N - 1 by omega, hd0]; split <;> omega
/-- what is resumed is active -/
theorem dm_al {N : Nat} {K P Q par : Nat → Nat} {w : Nat → Int32} {o al is : Nat → Bool} {eS eR d : Nat → Nat} {fi : Bool} (h : dm_W N K P Q par w o al is eS eR d fi) : ∀ n c, N - c = n → c < N → d c = 2 → al c = true := by
  have h' := h
  obtain ⟨h1, ht, wf, hk, hon, hr, h2, hal, hd0, hd⟩ := h
  intro n
  induction n using Nat.strongRecOn with
  | _ n ih =>
    intro c hn hc hdc
    by_cases e : c + 1 < N
    · obtain ⟨hp, hpN, hcc⟩ := ht.1 c e
      have ih' := ih (N - par c) (by omega) (par c) rfl hpN
      have h012 := dm_012 h' (N - par c) (par c) rfl hpN
      have hrec := hon.1 (par c) hpN
      have hno : ¬ (K (par c) = 1 ∨ K (par c) = 4) → o (par c) = false := by
        intro hz
        cases ho : o (par c)
        · rfl
        · exact absurd (hon.2 _ ho).2 hz
      have k9 := hk _ hpN
      generalize hi : par c = i at *
      rcases hcc with ⟨h4, e1⟩ | ⟨h7, e1⟩
      · have hP := dm_P h' hpN h4
        rw [e1] at hdc ⊢
        rw [hP] at hdc
        unfold wy_P at hdc
        rw [decide_eq_true h4, Bool.true_and] at hrec
        by_cases z0 : d i = 0
        · rw [if_pos z0] at hdc; omega
        rw [if_neg z0] at hdc
        by_cases z4 : K i = 4
        · rw [if_pos z4] at hdc
          by_cases zo : o i = true
          · rw [if_pos zo] at hdc; omega
          rw [if_neg zo] at hdc
          rw [ih' hdc, decide_eq_false (show ¬ 7 ≤ K i by omega)] at hrec
          have : o i = false := by cases hh : o i; rfl; exact absurd hh zo
          rw [this] at hrec; simpa using hrec.symm
        rw [if_neg z4] at hdc
        by_cases z5 : K i = 5
        · rw [if_pos z5] at hdc
          rw [ih' hdc, decide_eq_false (show ¬ 7 ≤ K i by omega), hno (by omega)] at hrec
          simpa using hrec.symm
        rw [if_neg z5] at hdc
        by_cases z6 : K i = 6
        · rw [if_pos z6] at hdc
          have hw : d i = 2 := by
            by_cases zz : d i = 2 ∧ is i = true
            · rw [if_pos zz] at hdc; omega
            · rw [if_neg zz] at hdc; exact hdc
          rw [ih' hw, decide_eq_false (show ¬ 7 ≤ K i by omega), hno (by omega)] at hrec
          simpa using hrec.symm
        rw [if_neg z6] at hdc
        by_cases z78 : K i = 7 ∨ K i = 8
        · rw [if_pos z78] at hdc
          by_cases zz : d i = 1 ∨ al (P i) = true
          · rw [if_pos zz] at hdc
            rcases zz with zz | zz
            · omega
            · exact zz
          · rw [if_neg zz] at hdc; omega
        · rw [if_neg z78] at hdc
          by_cases zz : (if d i = 1 then is i else al (P i)) = true
          · rw [if_pos zz] at hdc
            rw [if_neg (by omega)] at zz; exact zz
          · rw [if_neg zz] at hdc; omega
      · have hQ := dm_Q h' hpN h7
        rw [e1] at hdc ⊢
        rw [hQ] at hdc
        unfold wy_Q at hdc
        rw [decide_eq_true h7, Bool.true_and, hno (by omega), decide_eq_true (show 4 ≤ K i by omega), Bool.true_and, Bool.false_or] at hrec
        by_cases z0 : d i = 0
        · rw [if_pos z0] at hdc; omega
        rw [if_neg z0] at hdc
        by_cases z7 : K i = 7
        · rw [if_pos z7] at hdc
          by_cases zz : d i = 2 ∧ al (P i) = false
          · rw [ih' zz.1, zz.2] at hrec; simpa using hrec.symm
          · rw [if_neg zz] at hdc; split at hdc <;> omega
        rw [if_neg z7] at hdc
        by_cases z8 : K i = 8
        · rw [if_pos z8] at hdc
          by_cases zz : d i = 1 ∨ al (Q i) = true
          · rw [if_pos zz] at hdc
            rcases zz with zz | zz
            · omega
            · exact zz
          · rw [if_neg zz] at hdc; omega
        · rw [if_neg z8] at hdc
          by_cases zz : (if d i = 1 then is i else al (P i)) = true
          · rw [if_pos zz] at hdc; omega
          · rw [if_neg zz] at hdc
            rw [if_neg (by omega)] at zz
            have : al (P i) = false := by cases hh : al (P i); rfl; exact absurd hh zz
            rw [ih' hdc, this] at hrec; simpa using hrec.symm
    · have hc1 : c = N - 1 := by omega
      rw [hc1] at hdc ⊢
      rw [hd0] at hdc
      apply hr
      cases fi
      · rfl
      · rw [if_pos rfl] at hdc; omega
end
section
/- the codes of what is run -/
def ce_W (N : Nat) (K M P Q : Nat → Nat) (o al is : Nat → Bool) (eS eR : Nat → Nat) : Prop := ∀ i, i < N →
  (K i = 0 ∨ K i = 2 → eS i = 1) ∧ (K i = 1 → eS i = 2) ∧ (K i = 3 → eS i = 4 * 2 ^ M i) ∧ (K i = 4 → eS i = co_o (eS (P i))) ∧ (K i = 5 → eS i = co_t (eS (P i))) ∧ (K i = 6 → eS i = eS (P i)) ∧ (K i = 7 → eS i = co_i (eS (P i)) (eS (Q i))) ∧ (K i = 8 → eS i = co_g (eS (P i)) (eS (Q i))) ∧ (K i = 9 → eS i = if is i = true then eS (P i) else eS (Q i)) ∧
  (al i = false → eR i = 1) ∧
  (al i = true → (K i < 4 → eR i = 1) ∧ (K i = 4 → eR i = co_o (if o i = true then eS (P i) else eR (P i))) ∧ (K i = 5 → eR i = co_t (eR (P i))) ∧ (K i = 6 → eR i = if is i = true then 2 else eR (P i)) ∧ (K i = 7 → eR i = if al (P i) = true then co_i (eR (P i)) (eS (Q i)) else eR (Q i)) ∧ (K i = 8 → eR i = co_g (eR (P i)) (eR (Q i))) ∧ (K i = 9 → eR i = if al (P i) = true then eR (P i) else eR (Q i)))
def nz_C (c : Nat) : Prop := c = 1 ∨ c = 2 ∨ c = 4 ∨ c = 8 ∨ c = 16
def bd_C (a c : Nat) : Prop := nz_C c ∧ c ≤ 2 ^ (a + 1)
theorem bd_2 (a : Nat) : 2 ≤ 2 ^ (a + 1) := by
  rw [Nat.pow_succ]; have := Nat.one_le_two_pow (n := a); omega
theorem bd_1 (a : Nat) : bd_C a 1 := ⟨Or.inl rfl, by have := bd_2 a; omega⟩
theorem bd_o {a c : Nat} (h : bd_C a c) : bd_C a (co_o c) := by
  have h2 := bd_2 a
  obtain ⟨h, l⟩ := h
  unfold bd_C nz_C
  rcases h with rfl | rfl | rfl | rfl | rfl
  · exact ⟨by decide, h2⟩
  all_goals exact ⟨by decide, l⟩
theorem bd_t {a c : Nat} (h : bd_C (a + 1) c) : bd_C a (co_t c) := by
  have h2 := bd_2 a
  obtain ⟨h, l⟩ := h
  rw [Nat.pow_succ] at l
  unfold bd_C nz_C
  rcases h with rfl | rfl | rfl | rfl | rfl
  · exact ⟨by decide, (by omega : 1 ≤ 2 ^ (a + 1))⟩
  · exact ⟨by decide, (by omega : 2 ≤ 2 ^ (a + 1))⟩
  · exact ⟨by decide, (by omega : 1 ≤ 2 ^ (a + 1))⟩
  · exact ⟨by decide, (by omega : 4 ≤ 2 ^ (a + 1))⟩
  · exact ⟨by decide, (by omega : 8 ≤ 2 ^ (a + 1))⟩
theorem nz_g {c d : Nat} (h : nz_C c) (k : nz_C d) : co_g c d = c ∨ co_g c d = d := by
  rcases h with rfl | rfl | rfl | rfl | rfl <;> rcases k with rfl | rfl | rfl | rfl | rfl <;> decide
theorem bd_g {a c d : Nat} (h : bd_C a c) (k : bd_C a d) : bd_C a (co_g c d) := by
  rcases nz_g h.1 k.1 with e | e <;> rw [e] <;> assumption
theorem nz_i {c d : Nat} (h : nz_C c) : (c = 1 ∧ co_i c d = d) ∨ (c ≠ 1 ∧ co_i c d = c) := by
  unfold co_i
  rcases h with rfl | rfl | rfl | rfl | rfl
  · exact Or.inl ⟨rfl, by simp⟩
  all_goals exact Or.inr ⟨by decide, by simp⟩
theorem bd_i {a c d : Nat} (h : bd_C a c) (k : bd_C a d) : bd_C a (co_i c d) := by
  rcases nz_i (d := d) h.1 with ⟨_, e⟩ | ⟨_, e⟩ <;> rw [e] <;> assumption
/-- the traps around a statement -/
def ar_W (N : Nat) (K M P Q ar : Nat → Nat) : Prop := ar (N - 1) = 0 ∧ (∀ i, i < N → 4 ≤ K i → ar (P i) = ar i + (if K i = 5 then 1 else 0)) ∧ (∀ i, i < N → 7 ≤ K i → ar (Q i) = ar i) ∧ (∀ i, i < N → K i = 3 → M i < ar i ∧ M i < 3)
theorem ce_nz3 : ∀ m, m < 3 → (4 * 2 ^ m = 1 ∨ 4 * 2 ^ m = 2 ∨ 4 * 2 ^ m = 4 ∨ 4 * 2 ^ m = 8 ∨ 4 * 2 ^ m = 16) := by decide
theorem ce_S {N : Nat} {K M P Q ar : Nat → Nat} {o al is : Nat → Bool} {eS eR : Nat → Nat} (wf : wf_P N K P Q) (k9 : ∀ i, i < N → K i ≤ 9) (h : ce_W N K M P Q o al is eS eR) (ha : ar_W N K M P Q ar) : ∀ i, i < N → bd_C (ar i) (eS i) := by
  intro i
  induction i using Nat.strongRecOn with
  | _ i ih =>
    intro hi
    obtain ⟨c0, c1, c3, c4, c5, c6, c7, c8, c9, cf, ct⟩ := h i hi
    obtain ⟨a0, aP, aQ, aM⟩ := ha
    have hp : 4 ≤ K i → bd_C (ar (P i)) (eS (P i)) := fun h4 => ih _ (wf i hi h4).1 (by have := (wf i hi h4).1; omega)
    have hq : 7 ≤ K i → bd_C (ar i) (eS (Q i)) := fun h7 => by
      have := ih _ (wf i hi (by omega)).2 (by have := (wf i hi (by omega)).2; omega)
      rw [aQ i hi h7] at this; exact this
    have hp' : 4 ≤ K i → K i ≠ 5 → bd_C (ar i) (eS (P i)) := fun h4 h5 => by
      have := hp h4
      rw [aP i hi h4, if_neg h5] at this; exact this
    have := k9 i hi
    have hc : K i = 0 ∨ K i = 1 ∨ K i = 2 ∨ K i = 3 ∨ K i = 4 ∨ K i = 5 ∨ K i = 6 ∨ K i = 7 ∨ K i = 8 ∨ K i = 9 := by omega
    rcases hc with z | z | z | z | z | z | z | z | z | z
    · rw [c0 (Or.inl z)]; exact bd_1 _
    · rw [c1 z]; exact ⟨Or.inr (Or.inl rfl), bd_2 _⟩
    · rw [c0 (Or.inr z)]; exact bd_1 _
    · rw [c3 z]
      have := aM i hi z
      refine ⟨ce_nz3 _ this.2, ?_⟩
      have e : 4 * 2 ^ M i = 2 ^ (M i + 2) := by rw [Nat.pow_succ, Nat.pow_succ]; omega
      rw [e]; exact Nat.pow_le_pow_right (by decide) (by omega)
    · rw [c4 z]; exact bd_o (hp' (by omega) (by omega))
    · rw [c5 z]
      have := hp (by omega)
      rw [aP i hi (by omega), if_pos z] at this
      exact bd_t this
    · rw [c6 z]; exact hp' (by omega) (by omega)
    · rw [c7 z]; exact bd_i (hp' (by omega) (by omega)) (hq (by omega))
    · rw [c8 z]; exact bd_g (hp' (by omega) (by omega)) (hq (by omega))
    · rw [c9 z]
      split
      · exact hp' (by omega) (by omega)
      · exact hq (by omega)
theorem ce_R {N : Nat} {K M P Q ar : Nat → Nat} {o al is : Nat → Bool} {eS eR : Nat → Nat} (wf : wf_P N K P Q) (k9 : ∀ i, i < N → K i ≤ 9) (h : ce_W N K M P Q o al is eS eR) (ha : ar_W N K M P Q ar) : ∀ i, i < N → bd_C (ar i) (eR i) := by
  have hS := ce_S wf k9 h ha
  intro i
  induction i using Nat.strongRecOn with
  | _ i ih =>
    intro hi
    obtain ⟨c0, c1, c3, c4, c5, c6, c7, c8, c9, cf, ct⟩ := h i hi
    obtain ⟨a0, aP, aQ, aM⟩ := ha
    cases hal : al i
    · rw [cf hal]; exact bd_1 _
    obtain ⟨r0, r4, r5, r6, r7, r8, r9⟩ := ct hal
    have hpN : 4 ≤ K i → P i < N := fun h4 => by have := (wf i hi h4).1; omega
    have hqN : 4 ≤ K i → Q i < N := fun h4 => by have := (wf i hi h4).2; omega
    have hp : 4 ≤ K i → bd_C (ar (P i)) (eR (P i)) := fun h4 => ih _ (wf i hi h4).1 (hpN h4)
    have hq : 7 ≤ K i → bd_C (ar i) (eR (Q i)) := fun h7 => by
      have := ih _ (wf i hi (by omega)).2 (hqN (by omega))
      rw [aQ i hi h7] at this; exact this
    have hp' : 4 ≤ K i → K i ≠ 5 → bd_C (ar i) (eR (P i)) := fun h4 h5 => by
      have := hp h4
      rw [aP i hi h4, if_neg h5] at this; exact this
    have hsp : 4 ≤ K i → K i ≠ 5 → bd_C (ar i) (eS (P i)) := fun h4 h5 => by
      have := hS _ (hpN h4)
      rw [aP i hi h4, if_neg h5] at this; exact this
    have hsq : 7 ≤ K i → bd_C (ar i) (eS (Q i)) := fun h7 => by
      have := hS _ (hqN (by omega))
      rw [aQ i hi h7] at this; exact this
    have := k9 i hi
    have hc : K i < 4 ∨ K i = 4 ∨ K i = 5 ∨ K i = 6 ∨ K i = 7 ∨ K i = 8 ∨ K i = 9 := by omega
    rcases hc with z | z | z | z | z | z | z
    · rw [r0 z]; exact bd_1 _
    · rw [r4 z]
      split
      · exact bd_o (hsp (by omega) (by omega))
      · exact bd_o (hp' (by omega) (by omega))
    · rw [r5 z]
      have := hp (by omega)
      rw [aP i hi (by omega), if_pos z] at this
      exact bd_t this
    · rw [r6 z]
      split
      · exact ⟨Or.inr (Or.inl rfl), bd_2 _⟩
      · exact hp' (by omega) (by omega)
    · rw [r7 z]
      split
      · exact bd_i (hp' (by omega) (by omega)) (hsq (by omega))
      · exact hq (by omega)
    · rw [r8 z]; exact bd_g (hp' (by omega) (by omega)) (hq (by omega))
    · rw [r9 z]
      split
      · exact hp' (by omega) (by omega)
      · exact hq (by omega)
/- the code of a statement that is run, by its parts -/
def fr_S (K d : Nat → Nat) (is : Nat → Bool) (k : Nat) : Bool := decide (K k = 6) && decide (d k = 2) && is k
theorem rc_w {N : Nat} {K P Q par : Nat → Nat} {w : Nat → Int32} {o al is : Nat → Bool} {eS eR d : Nat → Nat} {fi : Bool} (h : dm_W N K P Q par w o al is eS eR d fi) {i : Nat} (hi : i < N) (hd : d i ≠ 0) : d i = 1 ∨ (d i = 2 ∧ al i = true) := by
  have := dm_012 h (N - i) i rfl hi
  have h2 := dm_al h (N - i) i rfl hi
  by_cases z : d i = 1
  · exact Or.inl z
  · have : d i = 2 := by omega
    exact Or.inr ⟨this, h2 this⟩
theorem rc_4 {N : Nat} {K M P Q par : Nat → Nat} {w : Nat → Int32} {o al is : Nat → Bool} {eS eR d : Nat → Nat} {fi : Bool} (h : dm_W N K P Q par w o al is eS eR d fi) (hc : ce_W N K M P Q o al is eS eR) {i : Nat} (hi : i < N) (hd : d i ≠ 0) (hk : K i = 4) :
    d (P i) ≠ 0 ∧ cd_E eS eR (d i) i = co_o (cd_E eS eR (d (P i)) (P i)) := by
  obtain ⟨c0, c1, c3, c4, c5, c6, c7, c8, c9, cf, ct⟩ := hc i hi
  have hP := dm_P h hi (by omega)
  unfold wy_P at hP
  rw [if_neg hd, if_pos hk] at hP
  rcases rc_w h hi hd with z | ⟨z, za⟩
  · have : d (P i) = 1 := by rw [hP, z]; split <;> rfl
    rw [this, z]
    exact ⟨by decide, c4 hk⟩
  · have r4 := (ct za).2.1 hk
    by_cases zo : o i = true
    · rw [if_pos zo] at hP r4
      rw [hP, z]; exact ⟨by decide, r4⟩
    · rw [if_neg zo] at hP r4
      rw [hP, z]; exact ⟨by decide, r4⟩
theorem rc_5 {N : Nat} {K M P Q par : Nat → Nat} {w : Nat → Int32} {o al is : Nat → Bool} {eS eR d : Nat → Nat} {fi : Bool} (h : dm_W N K P Q par w o al is eS eR d fi) (hc : ce_W N K M P Q o al is eS eR) {i : Nat} (hi : i < N) (hd : d i ≠ 0) (hk : K i = 5) :
    d (P i) = d i ∧ cd_E eS eR (d i) i = co_t (cd_E eS eR (d (P i)) (P i)) := by
  obtain ⟨c0, c1, c3, c4, c5, c6, c7, c8, c9, cf, ct⟩ := hc i hi
  have hP := dm_P h hi (by omega)
  unfold wy_P at hP
  rw [if_neg hd, if_neg (by omega), if_pos hk] at hP
  refine ⟨hP, ?_⟩
  rw [hP]
  rcases rc_w h hi hd with z | ⟨z, za⟩
  · rw [z]; exact c5 hk
  · rw [z]; exact (ct za).2.2.1 hk
theorem rc_6 {N : Nat} {K M P Q par : Nat → Nat} {w : Nat → Int32} {o al is : Nat → Bool} {eS eR d : Nat → Nat} {fi : Bool} (h : dm_W N K P Q par w o al is eS eR d fi) (hc : ce_W N K M P Q o al is eS eR) {i : Nat} (hi : i < N) (hd : d i ≠ 0) (hk : K i = 6) :
    (fr_S K d is i = true ∧ d i = 2 ∧ al i = true ∧ d (P i) = 0 ∧ cd_E eS eR (d i) i = 2) ∨ (fr_S K d is i = false ∧ d (P i) = d i ∧ cd_E eS eR (d i) i = cd_E eS eR (d (P i)) (P i)) := by
  obtain ⟨c0, c1, c3, c4, c5, c6, c7, c8, c9, cf, ct⟩ := hc i hi
  have hP := dm_P h hi (by omega)
  unfold wy_P at hP
  rw [if_neg hd, if_neg (by omega), if_neg (by omega), if_pos hk] at hP
  unfold fr_S
  rcases rc_w h hi hd with z | ⟨z, za⟩
  · rw [if_neg (by omega)] at hP
    refine Or.inr ⟨by rw [z]; simp, hP, ?_⟩
    rw [hP, z]; exact c6 hk
  · have r6 := (ct za).2.2.2.1 hk
    cases zi : is i
    · rw [zi, if_neg (by simp)] at hP
      rw [zi, if_neg (by simp)] at r6
      refine Or.inr ⟨by simp, hP, ?_⟩
      rw [hP, z]; exact r6
    · rw [zi, if_pos ⟨z, rfl⟩] at hP
      rw [zi, if_pos rfl] at r6
      refine Or.inl ⟨by rw [z, hk]; rfl, z, za, hP, ?_⟩
      rw [z]; exact r6
theorem rc_7 {N : Nat} {K M P Q par ar : Nat → Nat} {w : Nat → Int32} {o al is : Nat → Bool} {eS eR d : Nat → Nat} {fi : Bool} (h : dm_W N K P Q par w o al is eS eR d fi) (hc : ce_W N K M P Q o al is eS eR) (ha : ar_W N K M P Q ar) {i : Nat} (hi : i < N) (hd : d i ≠ 0) (hk : K i = 7) :
    (d (P i) ≠ 0 ∧ cd_E eS eR (d (P i)) (P i) = 1 ∧ d (Q i) ≠ 0 ∧ cd_E eS eR (d i) i = cd_E eS eR (d (Q i)) (Q i)) ∨
    (d (P i) ≠ 0 ∧ cd_E eS eR (d (P i)) (P i) ≠ 1 ∧ d (Q i) = 0 ∧ cd_E eS eR (d i) i = cd_E eS eR (d (P i)) (P i)) ∨
    (d (P i) = 0 ∧ d (Q i) ≠ 0 ∧ cd_E eS eR (d i) i = cd_E eS eR (d (Q i)) (Q i)) := by
  have hP := dm_P h hi (by omega)
  have hQ := dm_Q h hi (by omega)
  have hw := rc_w h hi hd
  obtain ⟨c0, c1, c3, c4, c5, c6, c7, c8, c9, cf, ct⟩ := hc i hi
  have wf := h.2.2.1
  have hPN : P i < N := by have := (wf i hi (by omega)).1; omega
  have bS := ce_S wf h.2.2.2.1 hc ha _ hPN
  have bR := ce_R wf h.2.2.2.1 hc ha _ hPN
  unfold wy_P at hP
  unfold wy_Q at hQ
  rw [if_neg hd, if_neg (by omega), if_neg (by omega), if_neg (by omega), if_pos (Or.inl hk)] at hP
  rw [if_neg hd, if_pos hk] at hQ
  rcases hw with z | ⟨z, za⟩
  · rw [if_pos (Or.inl z), z] at hP
    rw [if_neg (by omega), hP] at hQ
    rw [hP, z]
    have e : cd_E eS eR 1 (P i) = eS (P i) := rfl
    rw [e] at hQ ⊢
    rcases nz_i (d := eS (Q i)) bS.1 with ⟨e1, e2⟩ | ⟨e1, e2⟩
    · left
      rw [e1, if_pos (by decide)] at hQ
      rw [hQ]
      exact ⟨by decide, e1, by decide, by show eS i = eS (Q i); rw [c7 hk, e2]⟩
    · right; left
      have : ¬ eS (P i) % 2 = 1 := by rcases bS.1 with q | q | q | q | q <;> omega
      rw [decide_eq_false this, if_neg (by decide)] at hQ
      rw [hQ]
      exact ⟨by decide, e1, rfl, by show eS i = _; rw [c7 hk, e2]⟩
  · have r7 := (ct za).2.2.2.2.1 hk
    cases zp : al (P i)
    · rw [zp, if_neg (by rw [z]; decide)] at hP
      rw [zp, if_pos ⟨z, rfl⟩] at hQ
      rw [zp, if_neg (by decide)] at r7
      right; right
      rw [hP, hQ, z]
      exact ⟨rfl, by decide, r7⟩
    · rw [zp, if_pos (Or.inr rfl), z] at hP
      rw [zp, if_neg (by simp), hP] at hQ
      rw [zp, if_pos rfl] at r7
      rw [hP, z]
      have e : cd_E eS eR 2 (P i) = eR (P i) := rfl
      rw [e] at hQ ⊢
      rcases nz_i (d := eS (Q i)) bR.1 with ⟨e1, e2⟩ | ⟨e1, e2⟩
      · left
        rw [e1, if_pos (by decide)] at hQ
        rw [hQ]
        exact ⟨by decide, e1, by decide, by show eR i = eS (Q i); rw [r7, e2]⟩
      · right; left
        have : ¬ eR (P i) % 2 = 1 := by rcases bR.1 with q | q | q | q | q <;> omega
        rw [decide_eq_false this, if_neg (by decide)] at hQ
        rw [hQ]
        exact ⟨by decide, e1, rfl, by show eR i = _; rw [r7, e2]⟩
theorem rc_8 {N : Nat} {K M P Q par : Nat → Nat} {w : Nat → Int32} {o al is : Nat → Bool} {eS eR d : Nat → Nat} {fi : Bool} (h : dm_W N K P Q par w o al is eS eR d fi) (hc : ce_W N K M P Q o al is eS eR) {i : Nat} (hi : i < N) (hd : d i ≠ 0) (hk : K i = 8) :
    cd_E eS eR (d i) i = co_g (if d (P i) = 0 then 1 else cd_E eS eR (d (P i)) (P i)) (if d (Q i) = 0 then 1 else cd_E eS eR (d (Q i)) (Q i)) := by
  have hP := dm_P h hi (by omega)
  have hQ := dm_Q h hi (by omega)
  have hw := rc_w h hi hd
  have wf := h.2.2.1
  have hPN : P i < N := by have := (wf i hi (by omega)).1; omega
  have hQN : Q i < N := by have := (wf i hi (by omega)).2; omega
  have cP := (hc _ hPN).2.2.2.2.2.2.2.2.2.1
  have cQ := (hc _ hQN).2.2.2.2.2.2.2.2.2.1
  obtain ⟨c0, c1, c3, c4, c5, c6, c7, c8, c9, cf, ct⟩ := hc i hi
  unfold wy_P at hP
  unfold wy_Q at hQ
  rw [if_neg hd, if_neg (by omega), if_neg (by omega), if_neg (by omega), if_pos (Or.inr hk)] at hP
  rw [if_neg hd, if_neg (by omega), if_pos hk] at hQ
  rcases hw with z | ⟨z, za⟩
  · rw [if_pos (Or.inl z), z] at hP hQ
    rw [hP, hQ, z]
    exact c8 hk
  · have r8 := (ct za).2.2.2.2.2.1 hk
    have e : cd_E eS eR (d i) i = eR i := by rw [z]; rfl
    rw [e, r8]
    congr 1
    · cases zp : al (P i)
      · rw [zp, if_neg (by rw [z]; decide)] at hP
        rw [if_pos hP]; exact cP zp
      · rw [zp, if_pos (Or.inr rfl), z] at hP
        rw [hP]; rfl
    · cases zp : al (Q i)
      · rw [zp, if_neg (by rw [z]; decide)] at hQ
        rw [if_pos hQ]; exact cQ zp
      · rw [zp, if_pos (Or.inr rfl), z] at hQ
        rw [hQ]; rfl
theorem rc_9 {N : Nat} {K M P Q par : Nat → Nat} {w : Nat → Int32} {o al is : Nat → Bool} {eS eR d : Nat → Nat} {fi : Bool} (h : dm_W N K P Q par w o al is eS eR d fi) (hc : ce_W N K M P Q o al is eS eR) {i : Nat} (hi : i < N) (hd : d i ≠ 0) (hk : K i = 9) :
    (d (P i) ≠ 0 ∧ d (Q i) = 0 ∧ cd_E eS eR (d i) i = cd_E eS eR (d (P i)) (P i)) ∨ (d (P i) = 0 ∧ d (Q i) ≠ 0 ∧ cd_E eS eR (d i) i = cd_E eS eR (d (Q i)) (Q i)) := by
  have hP := dm_P h hi (by omega)
  have hQ := dm_Q h hi (by omega)
  have hw := rc_w h hi hd
  obtain ⟨c0, c1, c3, c4, c5, c6, c7, c8, c9, cf, ct⟩ := hc i hi
  unfold wy_P at hP
  unfold wy_Q at hQ
  rw [if_neg hd, if_neg (by omega), if_neg (by omega), if_neg (by omega), if_neg (by omega)] at hP
  rw [if_neg hd, if_neg (by omega), if_neg (by omega)] at hQ
  rcases hw with z | ⟨z, za⟩
  · rw [z, if_pos rfl] at hP hQ
    have c9' := c9 hk
    cases zi : is i
    · rw [zi, if_neg (by decide)] at hP hQ c9'
      right; rw [hP, hQ, z]; exact ⟨rfl, by decide, c9'⟩
    · rw [zi, if_pos rfl] at hP hQ c9'
      left; rw [hP, hQ, z]; exact ⟨by decide, rfl, c9'⟩
  · rw [z, if_neg (show ¬ 2 = 1 by decide)] at hP hQ
    have r9 := (ct za).2.2.2.2.2.2 hk
    cases zi : al (P i)
    · rw [zi, if_neg (by decide)] at hP hQ r9
      right; rw [hP, hQ, z]; exact ⟨rfl, by decide, r9⟩
    · rw [zi, if_pos rfl] at hP hQ r9
      left; rw [hP, hQ, z]; exact ⟨by decide, rfl, r9⟩
theorem rc_0 {N : Nat} {K M P Q par : Nat → Nat} {w : Nat → Int32} {o al is : Nat → Bool} {eS eR d : Nat → Nat} {fi : Bool} (h : dm_W N K P Q par w o al is eS eR d fi) (hc : ce_W N K M P Q o al is eS eR) {i : Nat} (hi : i < N) (hd : d i ≠ 0) (hk : K i < 4) :
    (K i = 1 ∧ d i = 1 ∧ cd_E eS eR (d i) i = 2) ∨ (¬ (K i = 1 ∧ d i = 1) ∧ cd_E eS eR (d i) i ≠ 2) := by
  obtain ⟨c0, c1, c3, c4, c5, c6, c7, c8, c9, cf, ct⟩ := hc i hi
  rcases rc_w h hi hd with z | ⟨z, za⟩
  · rw [z]
    have e : cd_E eS eR 1 i = eS i := rfl
    rw [e]
    have hcs : K i = 0 ∨ K i = 1 ∨ K i = 2 ∨ K i = 3 := by omega
    rcases hcs with q | q | q | q
    · right; rw [c0 (Or.inl q)]; exact ⟨by omega, by decide⟩
    · left; exact ⟨q, rfl, c1 q⟩
    · right; rw [c0 (Or.inr q)]; exact ⟨by omega, by decide⟩
    · right; rw [c3 q]; have := Nat.one_le_two_pow (n := M i); exact ⟨by omega, by omega⟩
  · rw [z]
    have e : cd_E eS eR 2 i = eR i := rfl
    rw [e, (ct za).1 hk]
    right; exact ⟨by omega, by decide⟩
end
section
/- what is on after an instant -/
def st_B (K P d eS eR : Nat → Nat) (k : Nat) : Bool := (decide (K k = 8) && decide (d k ≠ 0) && decide (cd_E eS eR (d k) k / 4 ≠ 0)) || (decide (K k = 5) && decide (d k ≠ 0) && decide (cd_E eS eR (d (P k)) (P k) / 4 % 2 = 1))
def fk_W (N : Nat) (K P par d eS eR : Nat → Nat) (is fz kl : Nat → Bool) : Prop :=
  fz (N - 1) = fr_S K d is (N - 1) ∧ (∀ c, c + 1 < N → fz c = (fr_S K d is c || fz (par c))) ∧ kl (N - 1) = false ∧ (∀ c, c + 1 < N → kl c = (kl (par c) || st_B K P d eS eR (par c)))
def pr_B (K P d eS eR : Nat → Nat) (o fz : Nat → Bool) (j : Nat) : Bool := (o j && fz j) || (decide (K j = 1) && decide (d j = 1)) || (decide (K j = 4) && decide (d j ≠ 0) && decide (cd_E eS eR (d (P j)) (P j) % 2 = 1))
def nw_B (K P d eS eR : Nat → Nat) (o fz kl : Nat → Bool) (j : Nat) : Bool := pr_B K P d eS eR o fz j && !kl j
/-- a set handed down, as the union of what lies within its members -/
theorem dn_u {N : Nat} {K P Q par : Nat → Nat} {w : Nat → Int32} (ht : tr_P N K P Q par w) (wf : wf_P N K P Q) (s f : Nat → Bool) (h0 : f (N - 1) = s (N - 1)) (hf : ∀ c, c + 1 < N → f c = (s c || f (par c))) :
    ∀ n j, N - j = n → j < N → (f j = true ↔ ∃ k, k < N ∧ s k = true ∧ bt (w k) j = true) := by
  intro n
  induction n using Nat.strongRecOn with
  | _ n ih =>
    intro j hn hj
    by_cases e : j + 1 < N
    · obtain ⟨hp, hpN, _⟩ := ht.1 j e
      rw [hf j e, Bool.or_eq_true, ih (N - par j) (by omega) (par j) rfl hpN]
      constructor
      · rintro (hs | ⟨k, hk, hs, hw⟩)
        · exact ⟨j, hj, hs, tr_self ht hj⟩
        · have : k ≠ j := fun z => by rw [z] at hw; have := tr_le ht wf j hj _ hw; omega
          exact ⟨k, hk, hs, by rw [ht.2.2.2.1 j e k hk this]; exact hw⟩
      · rintro ⟨k, hk, hs, hw⟩
        by_cases z : k = j
        · rw [z] at hs; exact Or.inl hs
        · rw [ht.2.2.2.1 j e k hk z] at hw
          exact Or.inr ⟨k, hk, hs, hw⟩
    · have e1 : j = N - 1 := by omega
      subst e1
      rw [h0]
      constructor
      · intro hs; exact ⟨N - 1, hj, hs, tr_self ht hj⟩
      · rintro ⟨k, hk, hs, hw⟩
        have := tr_le ht wf k hk _ hw
        have : k = N - 1 := by omega
        rw [this] at hs; exact hs
theorem fz_u {N : Nat} {K P Q par : Nat → Nat} {w : Nat → Int32} {eS eR d : Nat → Nat} {is fz kl : Nat → Bool} (ht : tr_P N K P Q par w) (wf : wf_P N K P Q) (h : fk_W N K P par d eS eR is fz kl) {j : Nat} (hj : j < N) :
    fz j = true ↔ ∃ k, k < N ∧ fr_S K d is k = true ∧ bt (w k) j = true := dn_u ht wf _ _ h.1 h.2.1 _ j rfl hj
theorem kl_u {N : Nat} {K P Q par : Nat → Nat} {w : Nat → Int32} {eS eR d : Nat → Nat} {is fz kl : Nat → Bool} (ht : tr_P N K P Q par w) (wf : wf_P N K P Q) (h : fk_W N K P par d eS eR is fz kl) {j : Nat} (hj : j < N) :
    (kl j || st_B K P d eS eR j) = true ↔ ∃ k, k < N ∧ st_B K P d eS eR k = true ∧ bt (w k) j = true := by
  refine dn_u (f := fun j => kl j || st_B K P d eS eR j) ht wf (st_B K P d eS eR) ?_ ?_ _ j rfl hj
  · rw [h.2.2.1]; rfl
  · intro c hc
    rw [h.2.2.2 c hc]
    cases kl (par c) <;> cases st_B K P d eS eR (par c) <;> cases st_B K P d eS eR c <;> rfl
theorem st_K {K P d eS eR : Nat → Nat} {k : Nat} (h : st_B K P d eS eR k = true) : (K k = 8 ∨ K k = 5) ∧ d k ≠ 0 := by
  unfold st_B at h
  simp only [Bool.or_eq_true, Bool.and_eq_true, decide_eq_true_eq] at h
  rcases h with ⟨⟨a, b⟩, c⟩ | ⟨⟨a, b⟩, c⟩
  · exact ⟨Or.inl a, b⟩
  · exact ⟨Or.inr a, b⟩
theorem pr_K {N : Nat} {K P Q : Nat → Nat} {o al fz : Nat → Bool} {d eS eR : Nat → Nat} (hon : on_W N K P Q o al) {j : Nat} (h : pr_B K P d eS eR o fz j = true) : K j = 1 ∨ K j = 4 := by
  unfold pr_B at h
  simp only [Bool.or_eq_true, Bool.and_eq_true, decide_eq_true_eq] at h
  rcases h with (⟨a, b⟩ | ⟨a, b⟩) | ⟨⟨a, b⟩, c⟩
  · exact (hon.2 j a).2
  · exact Or.inl a
  · exact Or.inr a
/-- not run: nothing within is run, and it is as frozen as the whole -/
theorem z2_d {N : Nat} {K P Q par : Nat → Nat} {w : Nat → Int32} {o al is fz kl : Nat → Bool} {eS eR d : Nat → Nat} {fi : Bool} (h : dm_W N K P Q par w o al is eS eR d fi) (hf : fk_W N K P par d eS eR is fz kl) :
    ∀ k, k < N → d k = 0 → ∀ j, bt (w k) j = true → d j = 0 ∧ fz j = fz k := by
  have ht := h.2.1
  have wf := h.2.2.1
  intro k
  induction k using Nat.strongRecOn with
  | _ k ih =>
    intro hk hd j hj
    rcases (tr_e ht hk).mp hj with e | ⟨h4, e⟩ | ⟨h7, e⟩
    · rw [e]; exact ⟨hd, rfl⟩
    · have hp := (wf k hk h4).1
      have hP := dm_P h hk h4
      rw [hd] at hP
      have hP0 : d (P k) = 0 := by rw [hP]; rfl
      have := ih (P k) hp (by omega) hP0 j e
      refine ⟨this.1, ?_⟩
      rw [this.2, hf.2.1 (P k) (by omega), ht.2.1 k hk h4]
      unfold fr_S; rw [hP0]; simp
    · have hq := (wf k hk (by omega)).2
      have hQ := dm_Q h hk h7
      rw [hd] at hQ
      have hQ0 : d (Q k) = 0 := by rw [hQ]; rfl
      have := ih (Q k) hq (by omega) hQ0 j e
      refine ⟨this.1, ?_⟩
      rw [this.2, hf.2.1 (Q k) (by omega), (ht.2.2.1 k hk h7).1]
      unfold fr_S; rw [hQ0]; simp
theorem z4_k {N : Nat} {K P Q par : Nat → Nat} {w : Nat → Int32} {eS eR d : Nat → Nat} {is fz kl : Nat → Bool} (ht : tr_P N K P Q par w) (wf : wf_P N K P Q) (hf : fk_W N K P par d eS eR is fz kl) :
    ∀ k, k < N → kl k = true → ∀ j, bt (w k) j = true → kl j = true := by
  intro k
  induction k using Nat.strongRecOn with
  | _ k ih =>
    intro hk hd j hj
    rcases (tr_e ht hk).mp hj with e | ⟨h4, e⟩ | ⟨h7, e⟩
    · rw [e]; exact hd
    · have hp := (wf k hk h4).1
      refine ih (P k) hp (by omega) ?_ j e
      rw [hf.2.2.2 (P k) (by omega), ht.2.1 k hk h4, hd]; rfl
    · have hq := (wf k hk (by omega)).2
      refine ih (Q k) hq (by omega) ?_ j e
      rw [hf.2.2.2 (Q k) (by omega), (ht.2.2.1 k hk h7).1, hd]; rfl
/-- run: frozen just where it is itself the one that freezes -/
theorem z1_f {N : Nat} {K P Q par : Nat → Nat} {w : Nat → Int32} {o al is fz kl : Nat → Bool} {eS eR d : Nat → Nat} {fi : Bool} (h : dm_W N K P Q par w o al is eS eR d fi) (hf : fk_W N K P par d eS eR is fz kl) :
    ∀ n k, N - k = n → k < N → d k ≠ 0 → fz k = fr_S K d is k := by
  have ht := h.2.1
  have wf := h.2.2.1
  intro n
  induction n using Nat.strongRecOn with
  | _ n ih =>
    intro k hn hk hd
    by_cases e : k + 1 < N
    · obtain ⟨hp, hpN, hcc⟩ := ht.1 k e
      have hdp : d (par k) ≠ 0 := by
        intro z
        have hself : bt (w (par k)) k = true := by
          rcases hcc with ⟨h4, e1⟩ | ⟨h7, e1⟩
          · exact (tr_e ht hpN).mpr (Or.inr (Or.inl ⟨h4, by rw [← e1]; exact tr_self ht hk⟩))
          · exact (tr_e ht hpN).mpr (Or.inr (Or.inr ⟨h7, by rw [← e1]; exact tr_self ht hk⟩))
        exact hd (z2_d h hf (par k) hpN z k hself).1
      have := ih (N - par k) (by omega) (par k) rfl hpN hdp
      rw [hf.2.1 k e, this]
      have hz : fr_S K d is (par k) = false := by
        cases q : fr_S K d is (par k)
        · rfl
        · exfalso
          unfold fr_S at q
          simp only [Bool.and_eq_true, decide_eq_true_eq] at q
          obtain ⟨⟨q1, q2⟩, q3⟩ := q
          rcases hcc with ⟨h4, e1⟩ | ⟨h7, e1⟩
          · have hP := dm_P h hpN h4
            rw [← e1, q1, q2, q3] at hP
            exact hd hP
          · omega
      rw [hz, Bool.or_false]
    · rw [show k = N - 1 by omega]; exact hf.1
/-- a part that is not run, of a statement that runs and doesn't freeze -/
theorem z3_n {N : Nat} {K P Q par : Nat → Nat} {w : Nat → Int32} {o al is fz kl : Nat → Bool} {eS eR d : Nat → Nat} {fi : Bool} (h : dm_W N K P Q par w o al is eS eR d fi) (hf : fk_W N K P par d eS eR is fz kl) {i c : Nat} (hi : i < N) (hd : d i ≠ 0) (h6 : K i ≠ 6) (hc : c < i) (hp : par c = i) (hdc : d c = 0) :
    ∀ j, bt (w c) j = true → pr_B K P d eS eR o fz j = false := by
  intro j hj
  have h2 := z2_d h hf c (by omega) hdc j hj
  have h1 := z1_f h hf _ i rfl hi hd
  have hfc : fz c = false := by
    rw [hf.2.1 c (by omega), hp, h1]
    unfold fr_S; rw [hdc]; simp [h6]
  unfold pr_B
  rw [h2.1, h2.2, hfc]; simp
theorem nw_pr {K P d eS eR : Nat → Nat} {o fz kl : Nat → Bool} {j : Nat} (h : pr_B K P d eS eR o fz j = false) : nw_B K P d eS eR o fz kl j = false := by unfold nw_B; rw [h]; rfl
/-- (L) what runs and doesn't pause leaves nothing on -/
theorem l_no {N : Nat} {K M P Q par ar : Nat → Nat} {w : Nat → Int32} {o al is fz kl : Nat → Bool} {eS eR d : Nat → Nat} {fi : Bool} (h : dm_W N K P Q par w o al is eS eR d fi) (hf : fk_W N K P par d eS eR is fz kl) (hc : ce_W N K M P Q o al is eS eR) (ha : ar_W N K M P Q ar) :
    ∀ k, k < N → d k ≠ 0 → cd_E eS eR (d k) k ≠ 2 → ∀ j, bt (w k) j = true → nw_B K P d eS eR o fz kl j = false := by
  have ht := h.2.1
  have wf := h.2.2.1
  have k9 := h.2.2.2.1
  have hon := h.2.2.2.2.1
  intro k
  induction k using Nat.strongRecOn with
  | _ k ih =>
    intro hk hd hcd j hj
    have hselfno : nw_B K P d eS eR o fz kl k = false := by
      apply nw_pr
      have hz := z1_f h hf _ k rfl hk hd
      cases q : pr_B K P d eS eR o fz k
      · rfl
      · exfalso
        unfold pr_B at q
        simp only [Bool.or_eq_true, Bool.and_eq_true, decide_eq_true_eq] at q
        rcases q with (⟨a, b⟩ | ⟨a, b⟩) | ⟨⟨a, b⟩, c⟩
        · rw [hz] at b
          unfold fr_S at b
          simp only [Bool.and_eq_true, decide_eq_true_eq] at b
          have := (hon.2 k a).2; omega
        · rcases rc_0 h hc hk hd (by omega) with ⟨_, _, e⟩ | ⟨e, _⟩
          · exact hcd e
          · exact e ⟨a, b⟩
        · obtain ⟨r1, r2⟩ := rc_4 h hc hk hd a
          apply hcd
          have hPN : P k < N := by have := (wf k hk (by omega)).1; omega
          have b1 : nz_C (cd_E eS eR (d (P k)) (P k)) := by
            unfold cd_E; split
            · exact (ce_S wf k9 hc ha _ hPN).1
            · exact (ce_R wf k9 hc ha _ hPN).1
          rw [r2]
          rcases b1 with e | e | e | e | e <;> rw [e] at c ⊢ <;> first | rfl | (exfalso; omega)
    by_cases h4 : ¬ 4 ≤ K k
    · rcases (tr_e ht hk).mp hj with e | ⟨h4', e⟩ | ⟨h7, e⟩
      · rw [e]; exact hselfno
      · omega
      · omega
    have h4 := Decidable.not_not.mp h4
    have hPk := (wf k hk h4).1
    have hQk := (wf k hk h4).2
    have pP := ht.2.1 k hk h4
    have goP : d (P k) ≠ 0 → cd_E eS eR (d (P k)) (P k) ≠ 2 → ∀ j, bt (w (P k)) j = true → nw_B K P d eS eR o fz kl j = false := fun a b => ih (P k) hPk (by omega) a b
    have goQ : d (Q k) ≠ 0 → cd_E eS eR (d (Q k)) (Q k) ≠ 2 → ∀ j, bt (w (Q k)) j = true → nw_B K P d eS eR o fz kl j = false := fun a b => ih (Q k) hQk (by omega) a b
    have noP : K k ≠ 6 → d (P k) = 0 → ∀ j, bt (w (P k)) j = true → nw_B K P d eS eR o fz kl j = false := fun a b j hj => nw_pr (z3_n h hf hk hd a hPk pP b j hj)
    have noQ : 7 ≤ K k → d (Q k) = 0 → ∀ j, bt (w (Q k)) j = true → nw_B K P d eS eR o fz kl j = false := fun a b j hj => nw_pr (z3_n h hf hk hd (by omega) hQk (ht.2.2.1 k hk a).1 b j hj)
    have b1 : nz_C (cd_E eS eR (d (P k)) (P k)) := by
      unfold cd_E; split
      · exact (ce_S wf k9 hc ha _ (by omega)).1
      · exact (ce_R wf k9 hc ha _ (by omega)).1
    have b2 : nz_C (cd_E eS eR (d (Q k)) (Q k)) := by
      unfold cd_E; split
      · exact (ce_S wf k9 hc ha _ (by omega)).1
      · exact (ce_R wf k9 hc ha _ (by omega)).1
    have hk9 := k9 k hk
    have main : (∀ j, bt (w (P k)) j = true → nw_B K P d eS eR o fz kl j = false) ∧ (7 ≤ K k → ∀ j, bt (w (Q k)) j = true → nw_B K P d eS eR o fz kl j = false) := by
      have hcs : K k = 4 ∨ K k = 5 ∨ K k = 6 ∨ K k = 7 ∨ K k = 8 ∨ K k = 9 := by omega
      rcases hcs with z | z | z | z | z | z
      · obtain ⟨r1, r2⟩ := rc_4 h hc hk hd z
        refine ⟨goP r1 (fun e => hcd ?_), fun q => by omega⟩
        rw [r2, e]; rfl
      · obtain ⟨r1, r2⟩ := rc_5 h hc hk hd z
        refine ⟨goP (by rw [r1]; exact hd) (fun e => hcd ?_), fun q => by omega⟩
        rw [r2, e]; rfl
      · rcases rc_6 h hc hk hd z with ⟨_, _, _, _, e⟩ | ⟨_, r1, r2⟩
        · exact absurd e hcd
        · exact ⟨goP (by rw [r1]; exact hd) (by rw [← r2]; exact hcd), fun q => by omega⟩
      · rcases rc_7 h hc ha hk hd z with ⟨r1, r2, r3, r4⟩ | ⟨r1, r2, r3, r4⟩ | ⟨r1, r2, r3⟩
        · exact ⟨goP r1 (by rw [r2]; decide), fun _ => goQ r3 (by rw [← r4]; exact hcd)⟩
        · exact ⟨goP r1 (by rw [← r4]; exact hcd), fun q => noQ q r3⟩
        · exact ⟨noP (by omega) r1, fun _ => goQ r2 (by rw [← r3]; exact hcd)⟩
      · have r8 := rc_8 h hc hk hd z
        by_cases zs : cd_E eS eR (d k) k / 4 = 0
        · have c1 : nz_C (if d (P k) = 0 then 1 else cd_E eS eR (d (P k)) (P k)) := by
            split
            · exact Or.inl rfl
            · exact b1
          have c2 : nz_C (if d (Q k) = 0 then 1 else cd_E eS eR (d (Q k)) (Q k)) := by
            split
            · exact Or.inl rfl
            · exact b2
          rw [r8] at hcd zs
          have both : (if d (P k) = 0 then 1 else cd_E eS eR (d (P k)) (P k)) = 1 ∧ (if d (Q k) = 0 then 1 else cd_E eS eR (d (Q k)) (Q k)) = 1 := by
            generalize (if d (P k) = 0 then 1 else cd_E eS eR (d (P k)) (P k)) = x at *
            generalize (if d (Q k) = 0 then 1 else cd_E eS eR (d (Q k)) (Q k)) = y at *
            rcases c1 with rfl | rfl | rfl | rfl | rfl <;> rcases c2 with rfl | rfl | rfl | rfl | rfl <;> revert hcd zs <;> decide
          refine ⟨?_, fun q => ?_⟩
          · by_cases e : d (P k) = 0
            · exact noP (by omega) e
            · have := both.1; rw [if_neg e] at this
              exact goP e (by rw [this]; decide)
          · by_cases e : d (Q k) = 0
            · exact noQ q e
            · have := both.2; rw [if_neg e] at this
              exact goQ e (by rw [this]; decide)
        · have hst : st_B K P d eS eR k = true := by
            unfold st_B
            rw [decide_eq_true z, decide_eq_true hd, decide_eq_true zs]; rfl
          have k1 : kl (P k) = true := by rw [hf.2.2.2 (P k) (by omega), pP, hst]; simp
          have k2 : 7 ≤ K k → kl (Q k) = true := fun q => by rw [hf.2.2.2 (Q k) (by omega), (ht.2.2.1 k hk q).1, hst]; simp
          refine ⟨fun j hj => ?_, fun q j hj => ?_⟩
          · unfold nw_B; rw [z4_k ht wf hf (P k) (by omega) k1 j hj]; simp
          · unfold nw_B; rw [z4_k ht wf hf (Q k) (by omega) (k2 q) j hj]; simp
      · rcases rc_9 h hc hk hd z with ⟨r1, r2, r3⟩ | ⟨r1, r2, r3⟩
        · exact ⟨goP r1 (by rw [← r3]; exact hcd), fun q => noQ q r2⟩
        · exact ⟨noP (by omega) r1, fun q => goQ r2 (by rw [← r3]; exact hcd)⟩
    rcases (tr_e ht hk).mp hj with e | ⟨_, e⟩ | ⟨h7, e⟩
    · rw [e]; exact hselfno
    · exact main.1 j e
    · exact main.2 h7 j e
end
section
/- (L1) what pauses leaves something on; the invariants after an instant -/
theorem l_yes {N : Nat} {K M P Q par ar : Nat → Nat} {w : Nat → Int32} {o al is fz kl : Nat → Bool} {eS eR d : Nat → Nat} {fi : Bool} (h : dm_W N K P Q par w o al is eS eR d fi) (hf : fk_W N K P par d eS eR is fz kl) (hc : ce_W N K M P Q o al is eS eR) (ha : ar_W N K M P Q ar) :
    ∀ k, k < N → d k ≠ 0 → cd_E eS eR (d k) k = 2 → ∃ j, bt (w k) j = true ∧ pr_B K P d eS eR o fz j = true ∧ ∀ m, m < N → bt (w k) m = true → bt (w m) j = true → st_B K P d eS eR m = false := by
  have ht := h.2.1
  have wf := h.2.2.1
  have k9 := h.2.2.2.1
  have hon := h.2.2.2.2.1
  have hal := h.2.2.2.2.2.2.2.1
  intro k
  induction k using Nat.strongRecOn with
  | _ k ih =>
    intro hk hd hcd
    have hstK : K k ≠ 8 → K k ≠ 5 → st_B K P d eS eR k = false := fun a b => by
      cases q : st_B K P d eS eR k
      · rfl
      · have := (st_K q).1; omega
    by_cases h4 : ¬ 4 ≤ K k
    · rcases rc_0 h hc hk hd (by omega) with ⟨e1, e2, _⟩ | ⟨_, e⟩
      · refine ⟨k, tr_self ht hk, ?_, fun m hm hkm hmk => ?_⟩
        · unfold pr_B; rw [decide_eq_true e1, decide_eq_true e2]; simp
        · have := tr_le ht wf k hk m hkm
          have := tr_le ht wf m hm k hmk
          rw [show m = k by omega]; exact hstK (by omega) (by omega)
      · exact absurd hcd e
    have h4 := Decidable.not_not.mp h4
    have hPk := (wf k hk h4).1
    have hQk := (wf k hk h4).2
    have b1 : nz_C (cd_E eS eR (d (P k)) (P k)) := by
      unfold cd_E; split
      · exact (ce_S wf k9 hc ha _ (by omega)).1
      · exact (ce_R wf k9 hc ha _ (by omega)).1
    have b2 : nz_C (cd_E eS eR (d (Q k)) (Q k)) := by
      unfold cd_E; split
      · exact (ce_S wf k9 hc ha _ (by omega)).1
      · exact (ce_R wf k9 hc ha _ (by omega)).1
    have goP : d (P k) ≠ 0 → cd_E eS eR (d (P k)) (P k) = 2 → st_B K P d eS eR k = false → ∃ j, bt (w k) j = true ∧ pr_B K P d eS eR o fz j = true ∧ ∀ m, m < N → bt (w k) m = true → bt (w m) j = true → st_B K P d eS eR m = false := by
      intro a b hs
      obtain ⟨j, j1, j2, j3⟩ := ih (P k) hPk (by omega) a b
      refine ⟨j, (tr_e ht hk).mpr (Or.inr (Or.inl ⟨h4, j1⟩)), j2, fun m hm hkm hmj => ?_⟩
      rcases (tr_e ht hk).mp hkm with e | ⟨_, e⟩ | ⟨h7, e⟩
      · rw [e]; exact hs
      · exact j3 m hm e hmj
      · exact absurd (tr_tr ht wf (Q k) (by omega) m j e hmj) (fun z => tr_dj ht wf hk h7 _ j rfl j1 z)
    have goQ : 7 ≤ K k → d (Q k) ≠ 0 → cd_E eS eR (d (Q k)) (Q k) = 2 → st_B K P d eS eR k = false → ∃ j, bt (w k) j = true ∧ pr_B K P d eS eR o fz j = true ∧ ∀ m, m < N → bt (w k) m = true → bt (w m) j = true → st_B K P d eS eR m = false := by
      intro h7 a b hs
      obtain ⟨j, j1, j2, j3⟩ := ih (Q k) hQk (by omega) a b
      refine ⟨j, (tr_e ht hk).mpr (Or.inr (Or.inr ⟨h7, j1⟩)), j2, fun m hm hkm hmj => ?_⟩
      rcases (tr_e ht hk).mp hkm with e | ⟨_, e⟩ | ⟨h7, e⟩
      · rw [e]; exact hs
      · exact absurd (tr_tr ht wf (P k) (by omega) m j e hmj) (fun z => tr_dj ht wf hk h7 _ j rfl z j1)
      · exact j3 m hm e hmj
    have hk9 := k9 k hk
    have hcs : K k = 4 ∨ K k = 5 ∨ K k = 6 ∨ K k = 7 ∨ K k = 8 ∨ K k = 9 := by omega
    rcases hcs with z | z | z | z | z | z
    · obtain ⟨r1, r2⟩ := rc_4 h hc hk hd z
      by_cases e1 : cd_E eS eR (d (P k)) (P k) = 1
      · refine ⟨k, tr_self ht hk, ?_, fun m hm hkm hmk => ?_⟩
        · unfold pr_B; rw [decide_eq_true z, decide_eq_true hd, e1]; simp
        · have := tr_le ht wf k hk m hkm
          have := tr_le ht wf m hm k hmk
          rw [show m = k by omega]; exact hstK (by omega) (by omega)
      · refine goP r1 ?_ (hstK (by omega) (by omega))
        rw [r2] at hcd
        rcases b1 with e | e | e | e | e <;> rw [e] at hcd e1 ⊢ <;> revert hcd e1 <;> decide
    · obtain ⟨r1, r2⟩ := rc_5 h hc hk hd z
      have e2 : cd_E eS eR (d (P k)) (P k) = 2 := by
        rw [r2] at hcd
        rcases b1 with e | e | e | e | e <;> rw [e] at hcd ⊢ <;> revert hcd <;> decide
      refine goP (by rw [r1]; exact hd) e2 ?_
      unfold st_B; rw [e2]; simp [z]
    · rcases rc_6 h hc hk hd z with ⟨f1, f2, f3, f4, _⟩ | ⟨_, r1, r2⟩
      · obtain ⟨j, jo, jw⟩ := (hal k hk).mp f3
        have hjN := (hon.2 j jo).1
        refine ⟨j, jw, ?_, fun m hm hkm hmj => ?_⟩
        · unfold pr_B
          rw [jo, (fz_u ht wf hf hjN).mpr ⟨k, hk, f1, jw⟩]; simp
        · cases q : st_B K P d eS eR m
          · rfl
          · exfalso
            have hs := st_K q
            rcases (tr_e ht hk).mp hkm with e | ⟨_, e⟩ | ⟨h7, e⟩
            · rw [e] at hs; omega
            · exact hs.2 (z2_d h hf (P k) (by omega) f4 m e).1
            · omega
      · exact goP (by rw [r1]; exact hd) (by rw [← r2]; exact hcd) (hstK (by omega) (by omega))
    · have hs := hstK (by omega) (by omega)
      rcases rc_7 h hc ha hk hd z with ⟨r1, r2, r3, r4⟩ | ⟨r1, r2, r3, r4⟩ | ⟨r1, r2, r3⟩
      · exact goQ (by omega) r3 (by rw [← r4]; exact hcd) hs
      · exact goP r1 (by rw [← r4]; exact hcd) hs
      · exact goQ (by omega) r2 (by rw [← r3]; exact hcd) hs
    · have hs : st_B K P d eS eR k = false := by unfold st_B; rw [hcd]; simp [z]
      have r8 := rc_8 h hc hk hd z
      rw [hcd] at r8
      by_cases e1 : d (P k) = 0
      · rw [if_pos e1] at r8
        by_cases e2 : d (Q k) = 0
        · rw [if_pos e2] at r8; exact absurd r8 (by decide)
        · rw [if_neg e2] at r8
          refine goQ (by omega) e2 ?_ hs
          rcases b2 with e | e | e | e | e <;> rw [e] at r8 ⊢ <;> revert r8 <;> decide
      · rw [if_neg e1] at r8
        by_cases e3 : cd_E eS eR (d (P k)) (P k) = 2
        · exact goP e1 e3 hs
        · by_cases e2 : d (Q k) = 0
          · rw [if_pos e2] at r8
            exfalso
            rcases b1 with e | e | e | e | e <;> rw [e] at r8 e3 <;> revert r8 e3 <;> decide
          · rw [if_neg e2] at r8
            refine goQ (by omega) e2 ?_ hs
            rcases b1 with e | e | e | e | e <;> rcases b2 with e' | e' | e' | e' | e' <;> rw [e] at r8 e3 <;> rw [e'] at r8 ⊢ <;> revert r8 e3 <;> decide
    · have hs := hstK (by omega) (by omega)
      rcases rc_9 h hc hk hd z with ⟨r1, r2, r3⟩ | ⟨r1, r2, r3⟩
      · exact goP r1 (by rw [← r3]; exact hcd) hs
      · exact goQ (by omega) r2 (by rw [← r3]; exact hcd) hs
/-- after an instant that goes on, the root is active -/
theorem i3_N {N : Nat} {K M P Q par ar : Nat → Nat} {w : Nat → Int32} {o al is fz kl : Nat → Bool} {eS eR d : Nat → Nat} {fi : Bool} (h : dm_W N K P Q par w o al is eS eR d fi) (hf : fk_W N K P par d eS eR is fz kl) (hc : ce_W N K M P Q o al is eS eR) (ha : ar_W N K M P Q ar)
    (hne : cd_E eS eR (d (N - 1)) (N - 1) ≠ 1) : ∃ j, nw_B K P d eS eR o fz kl j = true ∧ bt (w (N - 1)) j = true := by
  have ht := h.2.1
  have wf := h.2.2.1
  have k9 := h.2.2.2.1
  have hN := h.1
  have hd0 := h.2.2.2.2.2.2.2.2.1
  have hd : d (N - 1) ≠ 0 := by rw [hd0]; split <;> decide
  have bS := ce_S wf k9 hc ha (N - 1) (by omega)
  have bR := ce_R wf k9 hc ha (N - 1) (by omega)
  rw [ha.1] at bS bR
  have b : bd_C 0 (cd_E eS eR (d (N - 1)) (N - 1)) := by unfold cd_E; split; exact bS; exact bR
  have h2 : cd_E eS eR (d (N - 1)) (N - 1) = 2 := by
    obtain ⟨b1, b2⟩ := b
    have b2' : cd_E eS eR (d (N - 1)) (N - 1) ≤ 2 := b2
    rcases b1 with e | e | e | e | e <;> rw [e] at b2' hne ⊢ <;> first | rfl | (exfalso; omega)
  obtain ⟨j, j1, j2, j3⟩ := l_yes h hf hc ha (N - 1) (by omega) hd h2
  have hjN : j < N := by have := tr_le ht wf (N - 1) (by omega) j j1; omega
  refine ⟨j, ?_, j1⟩
  have hk0 : (kl j || st_B K P d eS eR j) = false := by
    cases q : (kl j || st_B K P d eS eR j)
    · rfl
    · obtain ⟨m, hm, hs, hw⟩ := (kl_u ht wf hf hjN).mp q
      have hmr : bt (w (N - 1)) m = true := by
        have g : ∀ n m, N - m = n → m < N → bt (w (N - 1)) m = true := by
          intro n
          induction n using Nat.strongRecOn with
          | _ n ih =>
            intro m hn hm
            by_cases e : m + 1 < N
            · obtain ⟨hp, hpN, _⟩ := ht.1 m e
              rw [ht.2.2.2.1 m e (N - 1) (by omega) (by omega)]
              exact ih (N - par m) (by omega) (par m) rfl hpN
            · rw [show m = N - 1 by omega]; exact tr_self ht (by omega)
        exact g _ m rfl hm
      rw [j3 m hm hmr hw] at hs; cases hs
  rw [Bool.or_eq_false_iff] at hk0
  unfold nw_B; rw [j2, hk0.1]; rfl
/-- after an instant, of the parts of a seq or a test not both are active -/
theorem i2_N {N : Nat} {K M P Q par ar : Nat → Nat} {w : Nat → Int32} {o al is fz kl : Nat → Bool} {eS eR d : Nat → Nat} {fi : Bool} (h : dm_W N K P Q par w o al is eS eR d fi) (hf : fk_W N K P par d eS eR is fz kl) (hc : ce_W N K M P Q o al is eS eR) (ha : ar_W N K M P Q ar)
    {i : Nat} (hi : i < N) (hk : K i = 7 ∨ K i = 9) {j j' : Nat} (h1 : nw_B K P d eS eR o fz kl j = true) (w1 : bt (w (P i)) j = true) (h2 : nw_B K P d eS eR o fz kl j' = true) (w2 : bt (w (Q i)) j' = true) : False := by
  have ht := h.2.1
  have wf := h.2.2.1
  have hPk := (wf i hi (by omega)).1
  have hQk := (wf i hi (by omega)).2
  have pP := ht.2.1 i hi (by omega)
  have pQ := (ht.2.2.1 i hi (by omega)).1
  have hal := h.2.2.2.2.2.2.2.1
  by_cases hd : d i = 0
  · have z : ∀ j, bt (w i) j = true → nw_B K P d eS eR o fz kl j = true → o j = true := by
      intro j hj hn
      have := z2_d h hf i hi hd j hj
      unfold nw_B pr_B at hn
      rw [this.1] at hn
      simp at hn
      exact hn.1.1
    have o1 := z j ((tr_e ht hi).mpr (Or.inr (Or.inl ⟨by omega, w1⟩))) h1
    have o2 := z j' ((tr_e ht hi).mpr (Or.inr (Or.inr ⟨by omega, w2⟩))) h2
    exact h.2.2.2.2.2.2.1 i hi hk ((hal _ (by omega)).mpr ⟨j, o1, w1⟩) ((hal _ (by omega)).mpr ⟨j', o2, w2⟩)
  · have noP : d (P i) = 0 → False := fun e => by
      have := nw_pr (kl := kl) (z3_n h hf hi hd (by omega) hPk pP e j w1)
      rw [this] at h1; cases h1
    have noQ : d (Q i) = 0 → False := fun e => by
      have := nw_pr (kl := kl) (z3_n h hf hi hd (by omega) hQk pQ e j' w2)
      rw [this] at h2; cases h2
    rcases hk with z | z
    · rcases rc_7 h hc ha hi hd z with ⟨r1, r2, r3, r4⟩ | ⟨r1, r2, r3, r4⟩ | ⟨r1, r2, r3⟩
      · have := l_no h hf hc ha (P i) (by omega) r1 (by rw [r2]; decide) j w1
        rw [this] at h1; cases h1
      · exact noQ r3
      · exact noP r1
    · rcases rc_9 h hc hi hd z with ⟨r1, r2, r3⟩ | ⟨r1, r2, r3⟩
      · exact noQ r2
      · exact noP r1
end
section
/- X: moveOn -/
def ad_I (x : Int32) (p : Nat) : Int32 := x ||| ((1 : Int32) <<< (nI p &&& 31))
theorem ad_b {x : Int32} {p j : Nat} (hp : p < 32) (hj : j < 32) : bt (ad_I x p) j = (bt x j || decide (j = p)) := by
  unfold ad_I; rw [b_or, bz_sh1 p hp j hj]
theorem xm_start {post : SX → Prop} {f_height f_made f_size f_on f_inFirst f_over f_instantsDone f_hadInstant f_lastPresent f_lastAbsent f_present f_absent f_startedNow f_resumedNow : Int32} {a_stack a_newKind a_newMark a_newP a_newQ a_newWithin a_kind a_mark a_partP a_partQ a_within a_mustStarted a_canStarted a_mustResumed a_canResumed : Nat → Int32} {p : Nat} (h : post (f_height, f_made, f_size, f_on, f_inFirst, f_over, f_instantsDone, f_hadInstant, f_lastPresent, f_lastAbsent, f_present, f_absent, ad_I f_startedNow p, f_resumedNow, a_stack, a_newKind, a_newMark, a_newP, a_newQ, a_newWithin, a_kind, a_mark, a_partP, a_partQ, a_within, a_mustStarted, a_canStarted, a_mustResumed, a_canResumed)) : wpX_start post (f_height, f_made, f_size, f_on, f_inFirst, f_over, f_instantsDone, f_hadInstant, f_lastPresent, f_lastAbsent, f_present, f_absent, f_startedNow, f_resumedNow, a_stack, a_newKind, a_newMark, a_newP, a_newQ, a_newWithin, a_kind, a_mark, a_partP, a_partQ, a_within, a_mustStarted, a_canStarted, a_mustResumed, a_canResumed) (nI p) := nm_e h
theorem xm_res {post : SX → Prop} {f_height f_made f_size f_on f_inFirst f_over f_instantsDone f_hadInstant f_lastPresent f_lastAbsent f_present f_absent f_startedNow f_resumedNow : Int32} {a_stack a_newKind a_newMark a_newP a_newQ a_newWithin a_kind a_mark a_partP a_partQ a_within a_mustStarted a_canStarted a_mustResumed a_canResumed : Nat → Int32} {p : Nat} (hp : p < 16) (h : post (f_height, f_made, f_size, f_on, f_inFirst, f_over, f_instantsDone, f_hadInstant, f_lastPresent, f_lastAbsent, f_present, f_absent, f_startedNow, (if ac_L f_on a_within p = true then ad_I f_resumedNow p else f_resumedNow), a_stack, a_newKind, a_newMark, a_newP, a_newQ, a_newWithin, a_kind, a_mark, a_partP, a_partQ, a_within, a_mustStarted, a_canStarted, a_mustResumed, a_canResumed)) : wpX_resumeIfActive post (f_height, f_made, f_size, f_on, f_inFirst, f_over, f_instantsDone, f_hadInstant, f_lastPresent, f_lastAbsent, f_present, f_absent, f_startedNow, f_resumedNow, a_stack, a_newKind, a_newMark, a_newP, a_newQ, a_newWithin, a_kind, a_mark, a_partP, a_partQ, a_within, a_mustStarted, a_canStarted, a_mustResumed, a_canResumed) (nI p) := by
  unfold wpX_resumeIfActive
  dsimp only
  refine bz_actb hp rfl (fun t => ?_) (fun t => ?_)
  · rw [if_pos t] at h; exact nm_e h
  · rw [if_neg (by rw [t]; decide)] at h; exact h
theorem pz_1792 : ∀ c, c < 32 → ((nI (64 * c) &&& 1792) = 0 ↔ c / 4 = 0) := by decide +kernel
theorem pz_64' {c : Nat} (h : c < 32) : (nI (64 * c) &&& 64) = 0 ↔ c % 2 = 0 := pz_64 c h 0 (by decide)
theorem pz_256' {c : Nat} (h : c < 32) : (nI (64 * c) &&& 256) = 0 ↔ c / 4 % 2 = 0 := pz_256 c h 0 (by decide)
def eS_T (K M P Q : Nat → Nat) (pr ab : Nat) (j : Nat) : Nat := (tv_S K M P Q pr ab true j).2
def eR_T (K M P Q : Nat → Nat) (pr ab : Nat) (o al : Nat → Bool) (j : Nat) : Nat := (tv_R K M P Q pr ab o al true j).2
theorem xm_codes {post : Int32 → Prop} {f_height f_made f_size f_on f_inFirst f_over f_instantsDone f_hadInstant f_lastPresent f_lastAbsent f_present f_absent f_startedNow f_resumedNow : Int32} {a_stack a_newKind a_newMark a_newP a_newQ a_newWithin a_kind a_mark a_partP a_partQ a_within a_mustStarted a_canStarted a_mustResumed a_canResumed : Nat → Int32} {N pr ab c : Nat} {K M P Q : Nat → Nat} (hN : N ≤ 16) (hc : c < N) (hg : pg_X N K M P Q a_kind a_mark a_partP a_partQ) {o al : Nat → Bool} (ht : tb_X K M P Q pr ab o al a_mustStarted a_canStarted a_mustResumed a_canResumed N)
    (h : post (nI (64 * (if bt f_startedNow c = true then eS_T K M P Q pr ab c else eR_T K M P Q pr ab o al c)))) : wpX_codesNow post (f_height, f_made, f_size, f_on, f_inFirst, f_over, f_instantsDone, f_hadInstant, f_lastPresent, f_lastAbsent, f_present, f_absent, f_startedNow, f_resumedNow, a_stack, a_newKind, a_newMark, a_newP, a_newQ, a_newWithin, a_kind, a_mark, a_partP, a_partQ, a_within, a_mustStarted, a_canStarted, a_mustResumed, a_canResumed) (nI c) := by
  have cc : (nI c).toNatClampNeg = c := nI_clamp (by omega)
  have vc : vp_in (nI c) 16 := vp_in_nI (by omega) (by omega)
  obtain ⟨t1, t2, t3, t4⟩ := ht c hc
  have o1 := tv_Sok hg pr ab true c hc
  have o2 := tv_Rok hg pr ab o al true c hc
  unfold wpX_codesNow
  dsimp only
  rw [cc, t1, t3]
  refine bz_hasb (n := c) (by omega) rfl (fun t => ⟨vc, nm_e ?_⟩) (fun t => ⟨vc, nm_e ?_⟩)
  · rw [if_pos t] at h
    have := pz_1984 _ o1.2 _ o1.1
    unfold pv_k; rw [this]; exact h
  · rw [if_neg (by rw [t]; decide)] at h
    have := pz_1984 _ o2.2 _ o2.1
    unfold pv_k; rw [this]; exact h
theorem xm_sie {post : SX → Prop} {f_height f_made f_size f_on f_inFirst f_over f_instantsDone f_hadInstant f_lastPresent f_lastAbsent f_present f_absent f_startedNow f_resumedNow : Int32} {a_stack a_newKind a_newMark a_newP a_newQ a_newWithin a_kind a_mark a_partP a_partQ a_within a_mustStarted a_canStarted a_mustResumed a_canResumed : Nat → Int32} {N pr ab c q : Nat} {K M P Q : Nat → Nat} (hN : N ≤ 16) (hc : c < N) (hg : pg_X N K M P Q a_kind a_mark a_partP a_partQ) {o al : Nat → Bool} (ht : tb_X K M P Q pr ab o al a_mustStarted a_canStarted a_mustResumed a_canResumed N)
    (h : post (f_height, f_made, f_size, f_on, f_inFirst, f_over, f_instantsDone, f_hadInstant, f_lastPresent, f_lastAbsent, f_present, f_absent, (if (if bt f_startedNow c = true then eS_T K M P Q pr ab c else eR_T K M P Q pr ab o al c) % 2 = 1 then ad_I f_startedNow q else f_startedNow), f_resumedNow, a_stack, a_newKind, a_newMark, a_newP, a_newQ, a_newWithin, a_kind, a_mark, a_partP, a_partQ, a_within, a_mustStarted, a_canStarted, a_mustResumed, a_canResumed)) : wpX_startIfEnded post (f_height, f_made, f_size, f_on, f_inFirst, f_over, f_instantsDone, f_hadInstant, f_lastPresent, f_lastAbsent, f_present, f_absent, f_startedNow, f_resumedNow, a_stack, a_newKind, a_newMark, a_newP, a_newQ, a_newWithin, a_kind, a_mark, a_partP, a_partQ, a_within, a_mustStarted, a_canStarted, a_mustResumed, a_canResumed) (nI c) (nI q) := by
  have l : (if bt f_startedNow c = true then eS_T K M P Q pr ab c else eR_T K M P Q pr ab o al c) < 32 := by
    split
    · exact (tv_Sok hg pr ab true c hc).2
    · exact (tv_Rok hg pr ab o al true c hc).2
  unfold wpX_startIfEnded
  dsimp only
  refine xm_codes hN hc hg ht ?_
  generalize (if bt f_startedNow c = true then eS_T K M P Q pr ab c else eR_T K M P Q pr ab o al c) = x at l h ⊢
  refine br_c (fun z => ?_) (fun z => ?_)
  · have := (pz_64' l).mp z
    rw [if_neg (by omega)] at h; exact h
  · have : ¬ x % 2 = 0 := fun y => z ((pz_64' l).mpr y)
    rw [if_pos (by omega)] at h; exact nm_e h
/-- how the two sets grow at statement i -/
def rs_W (N : Nat) (K P Q d : Nat → Nat) (i : Nat) (S R S' R' : Int32) : Prop := ∀ c, c < N →
  bt S' c = (bt S c || (decide (4 ≤ K i) && decide (c = P i) && decide (d (P i) = 1)) || (decide (7 ≤ K i) && decide (c = Q i) && decide (d (Q i) = 1))) ∧
  bt R' c = (bt R c || (decide (4 ≤ K i) && decide (c = P i) && decide (d (P i) = 2)) || (decide (7 ≤ K i) && decide (c = Q i) && decide (d (Q i) = 2)))
def hs_W (N : Nat) (K M : Nat → Nat) (is : Nat → Bool) (pr ab : Nat) : Prop := ∀ i, i < N → K i = 6 ∨ K i = 9 → is i = pr.testBit (M i) ∧ ab.testBit (M i) = !(is i)
theorem xm_rS {post : SX → Prop} {f_height f_made f_size f_on f_inFirst f_over f_instantsDone f_hadInstant f_lastPresent f_lastAbsent f_present f_absent f_startedNow f_resumedNow : Int32} {a_stack a_newKind a_newMark a_newP a_newQ a_newWithin a_kind a_mark a_partP a_partQ a_within a_mustStarted a_canStarted a_mustResumed a_canResumed : Nat → Int32} {N pr ab i : Nat} {K M P Q par d : Nat → Nat} {is : Nat → Bool} {fi : Bool} (hN : N ≤ 16) (hi : i < N) (hg : pg_X N K M P Q a_kind a_mark a_partP a_partQ)
    (ht : tb_X K M P Q pr ab (bt f_on) (ac_L f_on a_within) a_mustStarted a_canStarted a_mustResumed a_canResumed N) (hpr : f_present = nI pr) (hs : hs_W N K M is pr ab)
    (hd : dm_W N K P Q par a_within (bt f_on) (ac_L f_on a_within) is (eS_T K M P Q pr ab) (eR_T K M P Q pr ab (bt f_on) (ac_L f_on a_within)) d fi) (h1 : d i = 1)
    (h : ∀ S', rs_W N K P Q d i f_startedNow f_resumedNow S' f_resumedNow → post (f_height, f_made, f_size, f_on, f_inFirst, f_over, f_instantsDone, f_hadInstant, f_lastPresent, f_lastAbsent, f_present, f_absent, S', f_resumedNow, a_stack, a_newKind, a_newMark, a_newP, a_newQ, a_newWithin, a_kind, a_mark, a_partP, a_partQ, a_within, a_mustStarted, a_canStarted, a_mustResumed, a_canResumed)) : wpX_runPartsOfStarted post (f_height, f_made, f_size, f_on, f_inFirst, f_over, f_instantsDone, f_hadInstant, f_lastPresent, f_lastAbsent, f_present, f_absent, f_startedNow, f_resumedNow, a_stack, a_newKind, a_newMark, a_newP, a_newQ, a_newWithin, a_kind, a_mark, a_partP, a_partQ, a_within, a_mustStarted, a_canStarted, a_mustResumed, a_canResumed) (nI i) := by
  obtain ⟨g1, g2, g3, g4, g5, g6, g7, g8⟩ := hg i hi
  have hc : (nI i).toNatClampNeg = i := nI_clamp (by omega)
  have vi : vp_in (nI i) 16 := vp_in_nI (by omega) (by omega)
  unfold wpX_runPartsOfStarted
  dsimp only
  rw [hc, g1, g4, g5]
  refine ⟨vi, nm_e ⟨vi, nm_e ⟨vi, nm_e ?_⟩⟩⟩
  refine pk_lt (K i) 4 (fun z => ?_) (fun k4 => ?_)
  · refine h _ (fun c _ => ?_)
    rw [decide_eq_false (show ¬ 4 ≤ K i by omega), decide_eq_false (show ¬ 7 ≤ K i by omega)]
    simp
  have g8' := g8 k4
  have hP := dm_P hd hi k4
  rw [h1] at hP
  refine pk_lt 9 (K i) (fun z => absurd z (by omega)) (fun _ => ?_)
  have one : d (P i) = 1 → K i < 7 → ∀ c, c < N → bt (ad_I f_startedNow (P i)) c = (bt f_startedNow c || (decide (4 ≤ K i) && decide (c = P i) && decide (d (P i) = 1)) || (decide (7 ≤ K i) && decide (c = Q i) && decide (d (Q i) = 1))) ∧ bt f_resumedNow c = (bt f_resumedNow c || (decide (4 ≤ K i) && decide (c = P i) && decide (d (P i) = 2)) || (decide (7 ≤ K i) && decide (c = Q i) && decide (d (Q i) = 2))) := by
    intro e k7 c hc
    rw [ad_b (by omega) (by omega), e, decide_eq_true k4, decide_eq_false (show ¬ 7 ≤ K i by omega)]
    simp
  refine pk_eq (K i) 4 (fun z => ?_) (fun z4 => ?_)
  · refine xm_start (h _ (one ?_ (by omega)))
    rw [hP]; unfold wy_P; rw [if_neg (by decide), if_pos z]; split <;> rfl
  refine pk_eq (K i) 5 (fun z => ?_) (fun z5 => ?_)
  · refine xm_start (h _ (one ?_ (by omega)))
    rw [hP]; unfold wy_P; rw [if_neg (by decide), if_neg (by omega), if_pos z]
  refine pk_eq (K i) 6 (fun z => ?_) (fun z6 => ?_)
  · refine xm_start (h _ (one ?_ (by omega)))
    rw [hP]; unfold wy_P; rw [if_neg (by decide), if_neg (by omega), if_neg (by omega), if_pos z, if_neg (by simp)]
  have k7 : 7 ≤ K i := by omega
  have hQ := dm_Q hd hi k7
  rw [h1] at hQ
  refine pk_eq (K i) 7 (fun z => ?_) (fun z7 => ?_)
  · have dP : d (P i) = 1 := by rw [hP]; unfold wy_P; rw [if_neg (by decide), if_neg (by omega), if_neg (by omega), if_neg (by omega), if_pos (Or.inl z), if_pos (Or.inl rfl)]
    rw [dP] at hQ
    have hs2 : bt (ad_I f_startedNow (P i)) (P i) = true := by rw [ad_b (by omega) (by omega)]; simp
    refine xm_start (xm_sie hN (show P i < N by omega) hg ht (h _ (fun c hc => ?_)))
    rw [if_pos hs2]
    unfold wy_Q at hQ
    rw [if_neg (by decide), if_pos z, if_neg (by simp)] at hQ
    have e : cd_E (eS_T K M P Q pr ab) (eR_T K M P Q pr ab (bt f_on) (ac_L f_on a_within)) 1 (P i) = eS_T K M P Q pr ab (P i) := rfl
    rw [e] at hQ
    by_cases y : eS_T K M P Q pr ab (P i) % 2 = 1
    · rw [decide_eq_true y, if_pos rfl] at hQ
      rw [if_pos y, ad_b (by omega) (by omega), ad_b (by omega) (by omega), dP, hQ, decide_eq_true k4, decide_eq_true k7]
      simp
    · rw [decide_eq_false y, if_neg (by decide)] at hQ
      rw [if_neg y, ad_b (by omega) (by omega), dP, hQ, decide_eq_true k4, decide_eq_true k7]
      simp
  refine pk_eq (K i) 8 (fun z => ?_) (fun z8 => ?_)
  · have dP : d (P i) = 1 := by rw [hP]; unfold wy_P; rw [if_neg (by decide), if_neg (by omega), if_neg (by omega), if_neg (by omega), if_pos (Or.inr z), if_pos (Or.inl rfl)]
    have dQ : d (Q i) = 1 := by rw [hQ]; unfold wy_Q; rw [if_neg (by decide), if_neg (by omega), if_pos z, if_pos (Or.inl rfl)]
    refine xm_start (xm_start (h _ (fun c hc => ?_)))
    rw [ad_b (by omega) (by omega), ad_b (by omega) (by omega), dP, dQ, decide_eq_true k4, decide_eq_true k7]
    simp
  refine pk_eq (K i) 9 (fun z => ⟨vi, ?_⟩) (fun z9 => trivial)
  have hm9 := g3.1 (Or.inr (Or.inr z))
  have his := hs i hi (Or.inr z)
  unfold wy_P at hP
  unfold wy_Q at hQ
  rw [if_neg (by decide), if_neg (by omega), if_neg (by omega), if_neg (by omega), if_neg (by omega), if_pos rfl] at hP
  rw [if_neg (by decide), if_neg (by omega), if_neg (by omega), if_pos rfl] at hQ
  refine bz_hasb (n := M i) (by omega) hm9.1 (fun t => ?_) (fun t => ?_)
  · rw [hpr, bz_nI (by omega), ← his.1] at t
    rw [t, if_pos rfl] at hP hQ
    refine xm_start (h _ (fun c hc => ?_))
    rw [ad_b (by omega) (by omega), hP, hQ, decide_eq_true k4, decide_eq_true k7]
    simp
  · rw [hpr, bz_nI (by omega), ← his.1] at t
    rw [t, if_neg (by decide)] at hP hQ
    refine xm_start (h _ (fun c hc => ?_))
    rw [ad_b (by omega) (by omega), hP, hQ, decide_eq_true k4, decide_eq_true k7]
    simp
theorem xm_rR {post : SX → Prop} {f_height f_made f_size f_on f_inFirst f_over f_instantsDone f_hadInstant f_lastPresent f_lastAbsent f_present f_absent f_startedNow f_resumedNow : Int32} {a_stack a_newKind a_newMark a_newP a_newQ a_newWithin a_kind a_mark a_partP a_partQ a_within a_mustStarted a_canStarted a_mustResumed a_canResumed : Nat → Int32} {N pr ab i : Nat} {K M P Q par d : Nat → Nat} {is : Nat → Bool} {fi : Bool} (hN : N ≤ 16) (hi : i < N) (hg : pg_X N K M P Q a_kind a_mark a_partP a_partQ)
    (ht : tb_X K M P Q pr ab (bt f_on) (ac_L f_on a_within) a_mustStarted a_canStarted a_mustResumed a_canResumed N) (hab : f_absent = nI ab) (hs : hs_W N K M is pr ab)
    (hd : dm_W N K P Q par a_within (bt f_on) (ac_L f_on a_within) is (eS_T K M P Q pr ab) (eR_T K M P Q pr ab (bt f_on) (ac_L f_on a_within)) d fi) (h2 : d i = 2) (hSP : 4 ≤ K i → bt f_startedNow (P i) = false)
    (h : ∀ S' R', rs_W N K P Q d i f_startedNow f_resumedNow S' R' → post (f_height, f_made, f_size, f_on, f_inFirst, f_over, f_instantsDone, f_hadInstant, f_lastPresent, f_lastAbsent, f_present, f_absent, S', R', a_stack, a_newKind, a_newMark, a_newP, a_newQ, a_newWithin, a_kind, a_mark, a_partP, a_partQ, a_within, a_mustStarted, a_canStarted, a_mustResumed, a_canResumed)) : wpX_runPartsOfResumed post (f_height, f_made, f_size, f_on, f_inFirst, f_over, f_instantsDone, f_hadInstant, f_lastPresent, f_lastAbsent, f_present, f_absent, f_startedNow, f_resumedNow, a_stack, a_newKind, a_newMark, a_newP, a_newQ, a_newWithin, a_kind, a_mark, a_partP, a_partQ, a_within, a_mustStarted, a_canStarted, a_mustResumed, a_canResumed) (nI i) := by
  obtain ⟨g1, g2, g3, g4, g5, g6, g7, g8⟩ := hg i hi
  have hc : (nI i).toNatClampNeg = i := nI_clamp (by omega)
  have vi : vp_in (nI i) 16 := vp_in_nI (by omega) (by omega)
  unfold wpX_runPartsOfResumed
  dsimp only
  rw [hc, g1, g4, g5]
  refine ⟨vi, nm_e ⟨vi, nm_e ⟨vi, nm_e ?_⟩⟩⟩
  refine pk_lt (K i) 4 (fun z => ?_) (fun k4 => ?_)
  · refine h _ _ (fun c _ => ?_)
    rw [decide_eq_false (show ¬ 4 ≤ K i by omega), decide_eq_false (show ¬ 7 ≤ K i by omega)]
    simp
  have g8' := g8 k4
  have hP := dm_P hd hi k4
  rw [h2] at hP
  have aP2 := dm_al hd _ (P i) rfl (show P i < N by omega)
  have aQ2 := dm_al hd _ (Q i) rfl (show Q i < N by omega)
  refine pk_lt 9 (K i) (fun z => absurd z (by omega)) (fun _ => ?_)
  have hQP := hd.2.1.2.2.2.2.2 i hi
  refine pk_eq (K i) 4 (fun z => ?_) (fun z4 => ?_)
  · unfold wy_P at hP
    rw [if_neg (by decide), if_pos z] at hP
    refine bz_hasb (n := i) (by omega) rfl (fun t => ?_) (fun t => ?_)
    · rw [if_pos t] at hP
      refine xm_start (h _ _ (fun c hc => ?_))
      rw [ad_b (by omega) (by omega), hP, decide_eq_true k4, decide_eq_false (show ¬ 7 ≤ K i by omega)]
      simp
    · rw [if_neg (by rw [t]; decide)] at hP
      refine xm_res g6 (h _ _ (fun c hc => ?_))
      rw [if_pos (aP2 hP), ad_b (by omega) (by omega), hP, decide_eq_true k4, decide_eq_false (show ¬ 7 ≤ K i by omega)]
      simp
  refine pk_eq (K i) 5 (fun z => ?_) (fun z5 => ?_)
  · unfold wy_P at hP
    rw [if_neg (by decide), if_neg (by omega), if_pos z] at hP
    rw [hQP (by omega)]
    refine xm_res g6 (xm_res g6 (h _ _ (fun c hc => ?_)))
    rw [if_pos (aP2 hP), if_pos (aP2 hP), ad_b (by omega) (by omega), ad_b (by omega) (by omega), hP, decide_eq_true k4, decide_eq_false (show ¬ 7 ≤ K i by omega)]
    simp [Bool.or_assoc]
  refine pk_eq (K i) 6 (fun z => ⟨vi, ?_⟩) (fun z6 => ?_)
  · have hm6 := g3.1 (Or.inr (Or.inl z))
    have his := hs i hi (Or.inl z)
    unfold wy_P at hP
    rw [if_neg (by decide), if_neg (by omega), if_neg (by omega), if_pos z] at hP
    refine bz_hasb (n := M i) (by omega) hm6.1 (fun t => ?_) (fun t => ?_)
    · rw [hab, bz_nI (by omega), his.2] at t
      have t' : is i = false := by cases hh : is i; rfl; rw [hh] at t; cases t
      rw [t', if_neg (by simp)] at hP
      refine xm_res g6 (h _ _ (fun c hc => ?_))
      rw [if_pos (aP2 hP), ad_b (by omega) (by omega), hP, decide_eq_true k4, decide_eq_false (show ¬ 7 ≤ K i by omega)]
      simp
    · rw [hab, bz_nI (by omega), his.2] at t
      have t' : is i = true := by cases hh : is i; rw [hh] at t; cases t; rfl
      rw [t', if_pos (by simp)] at hP
      refine h _ _ (fun c hc => ?_)
      rw [hP, decide_eq_true k4, decide_eq_false (show ¬ 7 ≤ K i by omega)]
      simp
  have k7 : 7 ≤ K i := by omega
  have hQ := dm_Q hd hi k7
  rw [h2] at hQ
  have hI2 := hd.2.2.2.2.2.2.1 i hi
  refine pk_eq (K i) 7 (fun z => ?_) (fun z7 => ?_)
  · unfold wy_P at hP
    unfold wy_Q at hQ
    rw [if_neg (by decide), if_neg (by omega), if_neg (by omega), if_neg (by omega), if_pos (Or.inl z)] at hP
    rw [if_neg (by decide), if_pos z] at hQ
    cases aP : ac_L f_on a_within (P i)
    · rw [aP, if_neg (by simp)] at hP
      rw [aP, if_pos (by simp)] at hQ
      refine xm_res g7 (bz_actb g6 rfl (fun t => absurd t (by rw [aP]; decide)) (fun t => h _ _ (fun c hc => ?_)))
      rw [if_pos (aQ2 hQ), ad_b (by omega) (by omega), hP, hQ, decide_eq_true k4, decide_eq_true k7]
      simp
    · rw [aP, if_pos (by simp)] at hP
      rw [aP, if_neg (by simp), hP] at hQ
      have aQ : ac_L f_on a_within (Q i) = false := by
        cases hh : ac_L f_on a_within (Q i)
        · rfl
        · exact absurd hh (fun hh => hI2 (Or.inl z) aP hh)
      have e : cd_E (eS_T K M P Q pr ab) (eR_T K M P Q pr ab (bt f_on) (ac_L f_on a_within)) 2 (P i) = eR_T K M P Q pr ab (bt f_on) (ac_L f_on a_within) (P i) := rfl
      rw [e] at hQ
      refine xm_res g7 (bz_actb g6 rfl (fun t => xm_res g6 (xm_sie hN (show P i < N by omega) hg ht (h _ _ (fun c hc => ?_)))) (fun t => absurd t (by rw [aP]; decide)))
      rw [aP, aQ, if_pos rfl, if_neg (show ¬ (false = true) by decide), if_neg (show ¬ bt f_startedNow (P i) = true by rw [hSP k4]; decide)]
      by_cases y : eR_T K M P Q pr ab (bt f_on) (ac_L f_on a_within) (P i) % 2 = 1
      · rw [decide_eq_true y, if_pos rfl] at hQ
        rw [if_pos y, ad_b (by omega) (by omega), ad_b (by omega) (by omega), hP, hQ, decide_eq_true k4, decide_eq_true k7]
        simp
      · rw [decide_eq_false y, if_neg (by decide)] at hQ
        rw [if_neg y, ad_b (by omega) (by omega), hP, hQ, decide_eq_true k4, decide_eq_true k7]
        simp
  have two : ∀ c, c < N → d (P i) ≠ 1 → d (Q i) ≠ 1 → (ac_L f_on a_within (P i) = true ↔ d (P i) = 2) → (ac_L f_on a_within (Q i) = true ↔ d (Q i) = 2) →
      bt f_startedNow c = (bt f_startedNow c || (decide (4 ≤ K i) && decide (c = P i) && decide (d (P i) = 1)) || (decide (7 ≤ K i) && decide (c = Q i) && decide (d (Q i) = 1))) ∧
      bt (if ac_L f_on a_within (Q i) = true then ad_I (if ac_L f_on a_within (P i) = true then ad_I f_resumedNow (P i) else f_resumedNow) (Q i) else (if ac_L f_on a_within (P i) = true then ad_I f_resumedNow (P i) else f_resumedNow)) c = (bt f_resumedNow c || (decide (4 ≤ K i) && decide (c = P i) && decide (d (P i) = 2)) || (decide (7 ≤ K i) && decide (c = Q i) && decide (d (Q i) = 2))) := by
    intro c hc n1 n2 e1 e2
    rw [decide_eq_true k4, decide_eq_true k7, decide_eq_false n1, decide_eq_false n2]
    refine ⟨by simp, ?_⟩
    by_cases y1 : ac_L f_on a_within (P i) = true <;> by_cases y2 : ac_L f_on a_within (Q i) = true
    · rw [if_pos y1, if_pos y2, ad_b (by omega) (by omega), ad_b (by omega) (by omega), decide_eq_true (e1.mp y1), decide_eq_true (e2.mp y2)]
      simp
    · rw [if_pos y1, if_neg y2, ad_b (by omega) (by omega), decide_eq_true (e1.mp y1), decide_eq_false (fun q => y2 (e2.mpr q))]
      simp
    · rw [if_neg y1, if_pos y2, ad_b (by omega) (by omega), decide_eq_true (e2.mp y2), decide_eq_false (fun q => y1 (e1.mpr q))]
      simp
    · rw [if_neg y1, if_neg y2, decide_eq_false (fun q => y1 (e1.mpr q)), decide_eq_false (fun q => y2 (e2.mpr q))]
      simp
  refine pk_eq (K i) 8 (fun z => ?_) (fun z8 => ?_)
  · refine xm_res g6 (xm_res g7 (h _ _ (fun c hc => ?_)))
    unfold wy_P at hP
    unfold wy_Q at hQ
    rw [if_neg (by decide), if_neg (by omega), if_neg (by omega), if_neg (by omega), if_pos (Or.inr z)] at hP
    rw [if_neg (by decide), if_neg (by omega), if_pos z] at hQ
    refine two c hc ?_ ?_ ?_ ?_
    · rw [hP]; split <;> decide
    · rw [hQ]; split <;> decide
    · rw [hP]; cases ac_L f_on a_within (P i) <;> simp
    · rw [hQ]; cases ac_L f_on a_within (Q i) <;> simp
  refine pk_eq (K i) 9 (fun z => ?_) (fun z9 => trivial)
  refine xm_res g6 (xm_res g7 (h _ _ (fun c hc => ?_)))
  unfold wy_P at hP
  unfold wy_Q at hQ
  rw [if_neg (by decide), if_neg (by omega), if_neg (by omega), if_neg (by omega), if_neg (by omega), if_neg (show ¬ 2 = 1 by decide)] at hP
  rw [if_neg (by decide), if_neg (by omega), if_neg (by omega), if_neg (show ¬ 2 = 1 by decide)] at hQ
  refine two c hc ?_ ?_ ?_ ⟨fun aQ => ?_, aQ2⟩
  · rw [hP]; split <;> decide
  · rw [hQ]; split <;> decide
  · rw [hP]; cases ac_L f_on a_within (P i) <;> simp
  · rw [hQ]
    rw [if_neg (fun aP => hI2 (Or.inr z) aP aQ)]
end
section
/- X: onAfter, stoppedBy, the loop of moveOn -/
def vs_B (N : Nat) (par : Nat → Nat) (m c : Nat) : Bool := decide (c + 1 = N) || decide (m ≤ par c)
/-- the two sets when all from m on are done -/
def xI_W (N : Nat) (par d : Nat → Nat) (m : Nat) (S R : Int32) : Prop := ∀ c, c < N → bt S c = (vs_B N par m c && decide (d c = 1)) ∧ bt R c = (vs_B N par m c && decide (d c = 2))
theorem xI_s {N : Nat} {K P Q par : Nat → Nat} {w : Nat → Int32} {d : Nat → Nat} {i : Nat} {S R S' R' : Int32} (ht : tr_P N K P Q par w) (wf : wf_P N K P Q) (hi : i < N) (h : xI_W N par d (i + 1) S R) (hr : rs_W N K P Q d i S R S' R') : xI_W N par d i S' R' := by
  intro c hc
  obtain ⟨r1, r2⟩ := hr c hc
  obtain ⟨h1, h2⟩ := h c hc
  rw [r1, r2, h1, h2]
  have nP : 4 ≤ K i → P i + 1 ≠ N ∧ par (P i) = i := fun h4 => ⟨by have := (wf i hi h4).1; omega, ht.2.1 i hi h4⟩
  have nQ : 7 ≤ K i → Q i + 1 ≠ N ∧ par (Q i) = i := fun h7 => ⟨by have := (wf i hi (by omega)).2; omega, (ht.2.2.1 i hi h7).1⟩
  by_cases v : c + 1 = N ∨ i + 1 ≤ par c
  · have e1 : vs_B N par (i + 1) c = true := by unfold vs_B; simp only [Bool.or_eq_true, decide_eq_true_eq]; exact v
    have e2 : vs_B N par i c = true := by
      unfold vs_B; simp only [Bool.or_eq_true, decide_eq_true_eq]
      rcases v with v | v
      · exact Or.inl v
      · exact Or.inr (by omega)
    have n1 : (decide (4 ≤ K i) && decide (c = P i)) = false := by
      cases q : (decide (4 ≤ K i) && decide (c = P i))
      · rfl
      · simp only [Bool.and_eq_true, decide_eq_true_eq] at q
        have := nP q.1; rw [← q.2] at this; rcases v with v | v <;> omega
    have n2 : (decide (7 ≤ K i) && decide (c = Q i)) = false := by
      cases q : (decide (7 ≤ K i) && decide (c = Q i))
      · rfl
      · simp only [Bool.and_eq_true, decide_eq_true_eq] at q
        have := nQ q.1; rw [← q.2] at this; rcases v with v | v <;> omega
    rw [n1, n2, e1, e2]; simp
  · have e1 : vs_B N par (i + 1) c = false := by
      cases q : vs_B N par (i + 1) c
      · rfl
      · unfold vs_B at q; simp only [Bool.or_eq_true, decide_eq_true_eq] at q; exact absurd q v
    rw [e1]
    by_cases hp : par c = i
    · have e2 : vs_B N par i c = true := by unfold vs_B; simp [hp]
      rw [e2]
      obtain ⟨_, _, hcc⟩ := ht.1 c (by omega)
      rw [hp] at hcc
      rcases hcc with ⟨h4, e⟩ | ⟨h7, e⟩
      · rw [← e, decide_eq_true h4]
        by_cases q : 7 ≤ K i ∧ c = Q i
        · exact absurd (q.2 ▸ e) (ht.2.2.1 i hi q.1).2
        · have : (decide (7 ≤ K i) && decide (c = Q i)) = false := by
            cases qq : (decide (7 ≤ K i) && decide (c = Q i))
            · rfl
            · simp only [Bool.and_eq_true, decide_eq_true_eq] at qq; exact absurd qq q
          rw [this]; simp
      · have hne := (ht.2.2.1 i hi h7).2
        rw [← e, decide_eq_true h7, decide_eq_false (show ¬ c = P i by rw [e]; exact hne)]; simp
    · have e2 : vs_B N par i c = false := by
        cases q : vs_B N par i c
        · rfl
        · unfold vs_B at q; simp only [Bool.or_eq_true, decide_eq_true_eq] at q
          exfalso; rcases q with q | q
          · exact v (Or.inl q)
          · exact v (Or.inr (by omega))
      have n1 : (decide (4 ≤ K i) && decide (c = P i)) = false := by
        cases q : (decide (4 ≤ K i) && decide (c = P i))
        · rfl
        · simp only [Bool.and_eq_true, decide_eq_true_eq] at q
          have := nP q.1; rw [← q.2] at this; omega
      have n2 : (decide (7 ≤ K i) && decide (c = Q i)) = false := by
        cases q : (decide (7 ≤ K i) && decide (c = Q i))
        · rfl
        · simp only [Bool.and_eq_true, decide_eq_true_eq] at q
          have := nQ q.1; rw [← q.2] at this; omega
      rw [n1, n2, e2]; simp
def oa_B (K P d eS eR : Nat → Nat) (is o : Nat → Bool) (w : Nat → Int32) (k j : Nat) : Bool :=
  (decide (K k = 1) && decide (d k = 1) && decide (j = k)) || (decide (K k = 4) && decide (d k ≠ 0) && decide (cd_E eS eR (d (P k)) (P k) % 2 = 1) && decide (j = k)) || (fr_S K d is k && o j && bt (w k) j)
theorem xm_on {post : Int32 → Prop} {f_height f_made f_size f_on f_inFirst f_over f_instantsDone f_hadInstant f_lastPresent f_lastAbsent f_present f_absent f_startedNow f_resumedNow : Int32} {a_stack a_newKind a_newMark a_newP a_newQ a_newWithin a_kind a_mark a_partP a_partQ a_within a_mustStarted a_canStarted a_mustResumed a_canResumed : Nat → Int32} {N pr ab i : Nat} {K M P Q par d : Nat → Nat} {is : Nat → Bool} {fi : Bool} (hN : N ≤ 16) (hi : i < N) (hg : pg_X N K M P Q a_kind a_mark a_partP a_partQ)
    (ht : tb_X K M P Q pr ab (bt f_on) (ac_L f_on a_within) a_mustStarted a_canStarted a_mustResumed a_canResumed N) (hpr : f_present = nI pr) (hs : hs_W N K M is pr ab)
    (hd : dm_W N K P Q par a_within (bt f_on) (ac_L f_on a_within) is (eS_T K M P Q pr ab) (eR_T K M P Q pr ab (bt f_on) (ac_L f_on a_within)) d fi) (h0 : d i ≠ 0) (hx : xI_W N par d i f_startedNow f_resumedNow) (hv : vs_B N par i i = true)
    (h : ∀ r, (∀ j, j < 32 → bt r j = oa_B K P d (eS_T K M P Q pr ab) (eR_T K M P Q pr ab (bt f_on) (ac_L f_on a_within)) is (bt f_on) a_within i j) → post r) : wpX_onAfter post (f_height, f_made, f_size, f_on, f_inFirst, f_over, f_instantsDone, f_hadInstant, f_lastPresent, f_lastAbsent, f_present, f_absent, f_startedNow, f_resumedNow, a_stack, a_newKind, a_newMark, a_newP, a_newQ, a_newWithin, a_kind, a_mark, a_partP, a_partQ, a_within, a_mustStarted, a_canStarted, a_mustResumed, a_canResumed) (nI i) := by
  obtain ⟨g1, g2, g3, g4, g5, g6, g7, g8⟩ := hg i hi
  have hc : (nI i).toNatClampNeg = i := nI_clamp (by omega)
  have vi : vp_in (nI i) 16 := vp_in_nI (by omega) (by omega)
  obtain ⟨x1, x2⟩ := hx i hi
  rw [hv, Bool.true_and] at x1 x2
  unfold wpX_onAfter
  dsimp only
  rw [hc, g1]
  refine ⟨vi, nm_e ?_⟩
  refine pk_eq (K i) 1 (fun z => ?_) (fun z1 => ?_)
  · refine h _ (fun j hj => ?_)
    rw [b_and, bz_sh1 i (by omega) j hj]
    unfold oa_B fr_S
    rw [decide_eq_true z, decide_eq_false (show ¬ K i = 4 by omega), decide_eq_false (show ¬ K i = 6 by omega)]
    by_cases e : j = i
    · rw [e, x1]; simp
    · simp [e]
  refine pk_eq (K i) 4 (fun z => ⟨vi, ?_⟩) (fun z4 => ?_)
  · have g8' := g8 (by omega)
    have hPN : P i < N := by omega
    have xP := (hx (P i) hPN).1
    have vP : vs_B N par i (P i) = true := by unfold vs_B; rw [hd.2.1.2.1 i hi (by omega)]; simp
    rw [vP, Bool.true_and] at xP
    rw [g4]
    refine xm_codes hN hPN hg ht ?_
    have e : (if bt f_startedNow (P i) = true then eS_T K M P Q pr ab (P i) else eR_T K M P Q pr ab (bt f_on) (ac_L f_on a_within) (P i)) = cd_E (eS_T K M P Q pr ab) (eR_T K M P Q pr ab (bt f_on) (ac_L f_on a_within)) (d (P i)) (P i) := by
      unfold cd_E; rw [xP]; simp only [decide_eq_true_eq]
    have l : (if bt f_startedNow (P i) = true then eS_T K M P Q pr ab (P i) else eR_T K M P Q pr ab (bt f_on) (ac_L f_on a_within) (P i)) < 32 := by
      split
      · exact (tv_Sok hg pr ab true _ hPN).2
      · exact (tv_Rok hg pr ab _ _ true _ hPN).2
    rw [e] at l ⊢
    unfold oa_B fr_S at h
    generalize cd_E (eS_T K M P Q pr ab) (eR_T K M P Q pr ab (bt f_on) (ac_L f_on a_within)) (d (P i)) (P i) = x at l h ⊢
    refine br_c (fun y => ?_) (fun y => ?_)
    · have := (pz_64' l).mp y
      refine h _ (fun j hj => ?_)
      rw [b_0, decide_eq_false (show ¬ K i = 1 by omega), decide_eq_false (show ¬ K i = 6 by omega), decide_eq_false (show ¬ x % 2 = 1 by omega)]; simp
    · have : ¬ x % 2 = 0 := fun q => y ((pz_64' l).mpr q)
      refine h _ (fun j hj => ?_)
      rw [bz_sh1 i (by omega) j hj, decide_eq_false (show ¬ K i = 1 by omega), decide_eq_false (show ¬ K i = 6 by omega), decide_eq_true (show x % 2 = 1 by omega), decide_eq_true z, decide_eq_true h0]; simp
  refine pk_eq (K i) 6 (fun z => ?_) (fun z6 => ?_)
  · have hm6 := g3.1 (Or.inr (Or.inl z))
    have his := hs i hi (Or.inl z)
    unfold oa_B fr_S at h
    refine bz_hasb (n := i) (by omega) rfl (fun t => ⟨vi, bz_hasb (n := M i) (by omega) hm6.1 (fun t2 => ⟨vi, h _ (fun j hj => ?_)⟩) (fun t2 => h _ (fun j hj => ?_))⟩) (fun t => h _ (fun j hj => ?_))
    · rw [hpr, bz_nI (by omega), ← his.1] at t2
      rw [x2, decide_eq_true_eq] at t
      rw [b_and, t2, decide_eq_true t, decide_eq_true z, decide_eq_false (show ¬ K i = 1 by omega), decide_eq_false (show ¬ K i = 4 by omega)]; simp
    · rw [hpr, bz_nI (by omega), ← his.1] at t2
      rw [b_0, t2, decide_eq_false (show ¬ K i = 1 by omega), decide_eq_false (show ¬ K i = 4 by omega)]; simp
    · rw [x2] at t
      rw [b_0, t, decide_eq_false (show ¬ K i = 1 by omega), decide_eq_false (show ¬ K i = 4 by omega)]; simp
  · refine h _ (fun j hj => ?_)
    unfold oa_B fr_S
    rw [b_0, decide_eq_false z1, decide_eq_false z4, decide_eq_false z6]; simp
theorem xm_st {post : Int32 → Prop} {f_height f_made f_size f_on f_inFirst f_over f_instantsDone f_hadInstant f_lastPresent f_lastAbsent f_present f_absent f_startedNow f_resumedNow : Int32} {a_stack a_newKind a_newMark a_newP a_newQ a_newWithin a_kind a_mark a_partP a_partQ a_within a_mustStarted a_canStarted a_mustResumed a_canResumed : Nat → Int32} {N pr ab i : Nat} {K M P Q par d : Nat → Nat} {is : Nat → Bool} {fi : Bool} (hN : N ≤ 16) (hi : i < N) (hg : pg_X N K M P Q a_kind a_mark a_partP a_partQ)
    (ht : tb_X K M P Q pr ab (bt f_on) (ac_L f_on a_within) a_mustStarted a_canStarted a_mustResumed a_canResumed N)
    (hd : dm_W N K P Q par a_within (bt f_on) (ac_L f_on a_within) is (eS_T K M P Q pr ab) (eR_T K M P Q pr ab (bt f_on) (ac_L f_on a_within)) d fi) (h0 : d i ≠ 0) (hx : xI_W N par d i f_startedNow f_resumedNow) (hv : vs_B N par i i = true)
    (h : ∀ r, (∀ j, j < 32 → bt r j = (st_B K P d (eS_T K M P Q pr ab) (eR_T K M P Q pr ab (bt f_on) (ac_L f_on a_within)) i && bt (a_within i) j)) → post r) : wpX_stoppedBy post (f_height, f_made, f_size, f_on, f_inFirst, f_over, f_instantsDone, f_hadInstant, f_lastPresent, f_lastAbsent, f_present, f_absent, f_startedNow, f_resumedNow, a_stack, a_newKind, a_newMark, a_newP, a_newQ, a_newWithin, a_kind, a_mark, a_partP, a_partQ, a_within, a_mustStarted, a_canStarted, a_mustResumed, a_canResumed) (nI i) := by
  obtain ⟨g1, g2, g3, g4, g5, g6, g7, g8⟩ := hg i hi
  have hc : (nI i).toNatClampNeg = i := nI_clamp (by omega)
  have vi : vp_in (nI i) 16 := vp_in_nI (by omega) (by omega)
  have hno : K i ≠ 8 → K i ≠ 5 → ∀ j, j < 32 → bt 0 j = (st_B K P d (eS_T K M P Q pr ab) (eR_T K M P Q pr ab (bt f_on) (ac_L f_on a_within)) i && bt (a_within i) j) := fun a b j hj => by
    have : st_B K P d (eS_T K M P Q pr ab) (eR_T K M P Q pr ab (bt f_on) (ac_L f_on a_within)) i = false := by
      unfold st_B; rw [decide_eq_false a, decide_eq_false b]; simp
    rw [b_0, this]; rfl
  have key : ∀ c, c < N → vs_B N par i c = true → (if bt f_startedNow c = true then eS_T K M P Q pr ab c else eR_T K M P Q pr ab (bt f_on) (ac_L f_on a_within) c) = cd_E (eS_T K M P Q pr ab) (eR_T K M P Q pr ab (bt f_on) (ac_L f_on a_within)) (d c) c := by
    intro c hc hv
    have := (hx c hc).1
    rw [hv, Bool.true_and] at this
    unfold cd_E; rw [this]; simp only [decide_eq_true_eq]
  have kl : ∀ c, c < N → cd_E (eS_T K M P Q pr ab) (eR_T K M P Q pr ab (bt f_on) (ac_L f_on a_within)) (d c) c < 32 := by
    intro c hc
    unfold cd_E
    split
    · exact (tv_Sok hg pr ab true c hc).2
    · exact (tv_Rok hg pr ab _ _ true c hc).2
  have h30 : K i ≠ 8 → wX_stoppedBy_30 post (nI i) f_height f_made f_size f_on f_inFirst f_over f_instantsDone f_hadInstant f_lastPresent f_lastAbsent f_present f_absent f_startedNow f_resumedNow a_stack a_newKind a_newMark a_newP a_newQ a_newWithin a_kind a_mark a_partP a_partQ a_within a_mustStarted a_canStarted a_mustResumed a_canResumed := by
    intro z8
    unfold wX_stoppedBy_30
    rw [hc, g1]
    refine ⟨vi, pk_eq (K i) 5 (fun z => ⟨vi, ?_⟩) (fun z5 => h 0 (hno z8 z5))⟩
    have g8' := g8 (by omega)
    have hPN : P i < N := by omega
    have vP : vs_B N par i (P i) = true := by unfold vs_B; rw [hd.2.1.2.1 i hi (by omega)]; simp
    rw [g4]
    refine xm_codes hN hPN hg ht ?_
    rw [key (P i) hPN vP]
    have l := kl (P i) hPN
    unfold st_B at h
    generalize cd_E (eS_T K M P Q pr ab) (eR_T K M P Q pr ab (bt f_on) (ac_L f_on a_within)) (d (P i)) (P i) = x at l h ⊢
    refine br_c (fun y => ?_) (fun y => ⟨vi, ?_⟩)
    · have := (pz_256' l).mp y
      refine h _ (fun j hj => ?_)
      rw [b_0, decide_eq_false z8, decide_eq_false (show ¬ x / 4 % 2 = 1 by omega)]; simp
    · have : ¬ x / 4 % 2 = 0 := fun q => y ((pz_256' l).mpr q)
      refine h _ (fun j hj => ?_)
      rw [decide_eq_true z, decide_eq_true h0, decide_eq_true (show x / 4 % 2 = 1 by omega)]; simp
  unfold wpX_stoppedBy
  dsimp only
  rw [hc, g1]
  refine ⟨vi, pk_eq (K i) 8 (fun z => ?_) (fun z8 => h30 z8)⟩
  refine xm_codes hN hi hg ht ?_
  rw [key i hi hv]
  have l := kl i hi
  refine br_c (fun y => ?_) (fun y => ⟨vi, ?_⟩)
  · have y' := (pz_1792 _ l).mp y
    unfold wX_stoppedBy_30
    rw [hc, g1]
    refine ⟨vi, pk_eq (K i) 5 (fun z => absurd z (by omega)) (fun z5 => h 0 (fun j hj => ?_))⟩
    unfold st_B
    rw [b_0, decide_eq_false z5, y']; simp
  · have y' : ¬ _ := fun q => y ((pz_1792 _ l).mpr q)
    refine h _ (fun j hj => ?_)
    unfold st_B
    rw [decide_eq_true z, decide_eq_true h0, decide_eq_true y']; simp
def nx_W (N : Nat) (K P d eS eR : Nat → Nat) (is o : Nat → Bool) (w : Nat → Int32) (m : Nat) (x : Int32) : Prop := ∀ j, j < 32 → (bt x j = true ↔ ∃ k, m ≤ k ∧ k < N ∧ oa_B K P d eS eR is o w k j = true)
def sp_W (N : Nat) (K P d eS eR : Nat → Nat) (w : Nat → Int32) (m : Nat) (x : Int32) : Prop := ∀ j, j < 32 → (bt x j = true ↔ ∃ k, m ≤ k ∧ k < N ∧ st_B K P d eS eR k = true ∧ bt (w k) j = true)
theorem nx_s {N : Nat} {K P d eS eR : Nat → Nat} {is o : Nat → Bool} {w : Nat → Int32} {i : Nat} {x r : Int32} (hi : i < N) (h : nx_W N K P d eS eR is o w (i + 1) x) (hr : ∀ j, j < 32 → bt r j = oa_B K P d eS eR is o w i j) : nx_W N K P d eS eR is o w i (x ||| r) := by
  intro j hj
  rw [b_or, Bool.or_eq_true, h j hj, hr j hj]
  constructor
  · rintro (⟨k, a, b, c⟩ | c)
    · exact ⟨k, by omega, b, c⟩
    · exact ⟨i, by omega, hi, c⟩
  · rintro ⟨k, a, b, c⟩
    by_cases e : k = i
    · rw [e] at c; exact Or.inr c
    · exact Or.inl ⟨k, by omega, b, c⟩
theorem sp_s {N : Nat} {K P d eS eR : Nat → Nat} {w : Nat → Int32} {i : Nat} {x r : Int32} (hi : i < N) (h : sp_W N K P d eS eR w (i + 1) x) (hr : ∀ j, j < 32 → bt r j = (st_B K P d eS eR i && bt (w i) j)) : sp_W N K P d eS eR w i (x ||| r) := by
  intro j hj
  rw [b_or, Bool.or_eq_true, h j hj, hr j hj, Bool.and_eq_true]
  constructor
  · rintro (⟨k, a, b, c⟩ | c)
    · exact ⟨k, by omega, b, c⟩
    · exact ⟨i, by omega, hi, c⟩
  · rintro ⟨k, a, b, c⟩
    by_cases e : k = i
    · rw [e] at c; exact Or.inr c
    · exact Or.inl ⟨k, by omega, b, c⟩
theorem nx_f {N : Nat} {K P Q par : Nat → Nat} {w : Nat → Int32} {o al is fz kl : Nat → Bool} {eS eR d : Nat → Nat} {fi : Bool} (hN : N ≤ 16) (h : dm_W N K P Q par w o al is eS eR d fi) (hf : fk_W N K P par d eS eR is fz kl) {x y : Int32}
    (hx : nx_W N K P d eS eR is o w 0 x) (hy : sp_W N K P d eS eR w 0 y) : ∀ j, j < 32 → bt (x &&& (y ^^^ (-1))) j = (decide (j < N) && nw_B K P d eS eR o fz kl j) := by
  have ht := h.2.1
  have wf := h.2.2.1
  have hon := h.2.2.2.2.1
  intro j hj
  rw [b_and, b_xor, b_m1 j hj]
  by_cases hjN : j < N
  · rw [decide_eq_true hjN, Bool.true_and]
    have ex : bt x j = pr_B K P d eS eR o fz j := by
      rw [Bool.eq_iff_iff, hx j hj]
      unfold oa_B pr_B
      simp only [Bool.or_eq_true, Bool.and_eq_true, decide_eq_true_eq, fz_u ht wf hf hjN]
      constructor
      · rintro ⟨k, _, hk, (⟨⟨a, b⟩, c⟩ | ⟨⟨⟨a, b⟩, c⟩, e⟩) | ⟨⟨a, b⟩, c⟩⟩
        · rw [c]; exact Or.inl (Or.inr ⟨a, b⟩)
        · rw [e]; exact Or.inr ⟨⟨a, b⟩, c⟩
        · exact Or.inl (Or.inl ⟨b, k, hk, a, c⟩)
      · rintro ((⟨b, k, hk, a, c⟩ | ⟨a, b⟩) | ⟨⟨a, b⟩, c⟩)
        · exact ⟨k, by omega, hk, Or.inr ⟨⟨a, b⟩, c⟩⟩
        · exact ⟨j, by omega, hjN, Or.inl (Or.inl ⟨⟨a, b⟩, rfl⟩)⟩
        · exact ⟨j, by omega, hjN, Or.inl (Or.inr ⟨⟨⟨a, b⟩, c⟩, rfl⟩)⟩
    have ey : bt y j = (kl j || st_B K P d eS eR j) := by
      rw [Bool.eq_iff_iff, hy j hj, kl_u ht wf hf hjN]
      constructor
      · rintro ⟨k, _, hk⟩; exact ⟨k, hk⟩
      · rintro ⟨k, hk⟩; exact ⟨k, by omega, hk⟩
    rw [ex, ey]
    unfold nw_B
    cases q : pr_B K P d eS eR o fz j
    · rfl
    · have hk := pr_K hon q
      have : st_B K P d eS eR j = false := by
        cases q2 : st_B K P d eS eR j
        · rfl
        · have := (st_K q2).1; omega
      rw [this]; cases kl j <;> rfl
  · rw [decide_eq_false hjN, Bool.false_and]
    cases q : bt x j
    · rfl
    · exfalso
      obtain ⟨k, _, hk, hh⟩ := (hx j hj).mp q
      unfold oa_B at hh
      simp only [Bool.or_eq_true, Bool.and_eq_true, decide_eq_true_eq] at hh
      rcases hh with (⟨_, c⟩ | ⟨_, c⟩) | ⟨_, c⟩
      · omega
      · omega
      · have := tr_le ht wf k hk j c; omega
end
section
/- X: the loop of moveOn, moveOn -/
theorem xm_94 {post : SX → Prop} {J : Int32 → Int32 → Int32 → Int32 → Int32 → Int32 → Int32 → Int32 → Int32 → Int32 → Int32 → Int32 → Int32 → Int32 → Int32 → Int32 → Int32 → (Nat → Int32) → (Nat → Int32) → (Nat → Int32) → (Nat → Int32) → (Nat → Int32) → (Nat → Int32) → (Nat → Int32) → (Nat → Int32) → (Nat → Int32) → (Nat → Int32) → (Nat → Int32) → (Nat → Int32) → (Nat → Int32) → (Nat → Int32) → (Nat → Int32) → Prop}
    {f_height f_made f_size f_on f_inFirst f_over f_instantsDone f_hadInstant f_lastPresent f_lastAbsent f_present f_absent f_startedNow f_resumedNow : Int32} {a_stack a_newKind a_newMark a_newP a_newQ a_newWithin a_kind a_mark a_partP a_partQ a_within a_mustStarted a_canStarted a_mustResumed a_canResumed : Nat → Int32} {x2 x3 : Int32} {N pr ab i : Nat} {K M P Q par d : Nat → Nat} {is : Nat → Bool} {fi : Bool} (hN : N ≤ 16) (hi : i < N) (hg : pg_X N K M P Q a_kind a_mark a_partP a_partQ)
    (ht : tb_X K M P Q pr ab (bt f_on) (ac_L f_on a_within) a_mustStarted a_canStarted a_mustResumed a_canResumed N) (hpr : f_present = nI pr) (hs : hs_W N K M is pr ab)
    (hd : dm_W N K P Q par a_within (bt f_on) (ac_L f_on a_within) is (eS_T K M P Q pr ab) (eR_T K M P Q pr ab (bt f_on) (ac_L f_on a_within)) d fi) (hx : xI_W N par d i f_startedNow f_resumedNow) (hv : vs_B N par i i = true)
    (hnx : nx_W N K P d (eS_T K M P Q pr ab) (eR_T K M P Q pr ab (bt f_on) (ac_L f_on a_within)) is (bt f_on) a_within (i + 1) x2)
    (hsp : sp_W N K P d (eS_T K M P Q pr ab) (eR_T K M P Q pr ab (bt f_on) (ac_L f_on a_within)) a_within (i + 1) x3)
    (h : ∀ x2 x3, nx_W N K P d (eS_T K M P Q pr ab) (eR_T K M P Q pr ab (bt f_on) (ac_L f_on a_within)) is (bt f_on) a_within i x2 → sp_W N K P d (eS_T K M P Q pr ab) (eR_T K M P Q pr ab (bt f_on) (ac_L f_on a_within)) a_within i x3 → J x2 x3 (nI i + (-1)) f_height f_made f_size f_on f_inFirst f_over f_instantsDone f_hadInstant f_lastPresent f_lastAbsent f_present f_absent f_startedNow f_resumedNow a_stack a_newKind a_newMark a_newP a_newQ a_newWithin a_kind a_mark a_partP a_partQ a_within a_mustStarted a_canStarted a_mustResumed a_canResumed) :
    wX_moveOn_94 post J x2 x3 (nI i) f_height f_made f_size f_on f_inFirst f_over f_instantsDone f_hadInstant f_lastPresent f_lastAbsent f_present f_absent f_startedNow f_resumedNow a_stack a_newKind a_newMark a_newP a_newQ a_newWithin a_kind a_mark a_partP a_partQ a_within a_mustStarted a_canStarted a_mustResumed a_canResumed := by
  obtain ⟨y1, y2⟩ := hx i hi
  rw [hv, Bool.true_and] at y1 y2
  refine bz_hasb (n := i) (by omega) rfl (fun t => ?_) (fun t => nm_e (h _ _ ?_ ?_))
  · have h0 : d i ≠ 0 := by
      intro z
      rw [b_or, y1, y2, z] at t
      simp at t
    refine xm_on hN hi hg ht hpr hs hd h0 hx hv (fun r hr => nm_e ?_)
    refine xm_st hN hi hg ht hd h0 hx hv (fun r' hr' => nm_e (nm_e (h _ _ (nx_s hi hnx hr) (sp_s hi hsp hr'))))
  · have h0 : d i = 0 := by
      have := dm_012 hd _ i rfl hi
      rw [b_or, y1, y2, Bool.or_eq_false_iff, decide_eq_false_iff_not, decide_eq_false_iff_not] at t
      omega
    have e : oa_B K P d (eS_T K M P Q pr ab) (eR_T K M P Q pr ab (bt f_on) (ac_L f_on a_within)) is (bt f_on) a_within i = fun _ => false := by
      funext j
      unfold oa_B fr_S; rw [h0]; simp
    have := nx_s (r := 0) hi hnx (fun j hj => by rw [e, b_0])
    rw [Int32.or_zero] at this; exact this
  · have h0 : d i = 0 := by
      have := dm_012 hd _ i rfl hi
      rw [b_or, y1, y2, Bool.or_eq_false_iff, decide_eq_false_iff_not, decide_eq_false_iff_not] at t
      omega
    have e : st_B K P d (eS_T K M P Q pr ab) (eR_T K M P Q pr ab (bt f_on) (ac_L f_on a_within)) i = false := by
      unfold st_B; rw [h0]; simp
    have := sp_s (r := 0) hi hsp (fun j hj => by rw [e, b_0]; rfl)
    rw [Int32.or_zero] at this; exact this
theorem vs_i {N : Nat} {K P Q par : Nat → Nat} {w : Nat → Int32} (ht : tr_P N K P Q par w) {i m : Nat} (hi : i < N) (hm : m ≤ i + 1) : vs_B N par m i = true := by
  unfold vs_B
  simp only [Bool.or_eq_true, decide_eq_true_eq]
  by_cases e : i + 1 < N
  · have := (ht.1 i e).1; exact Or.inr (by omega)
  · exact Or.inl (by omega)
theorem vs_c {N : Nat} {K P Q par : Nat → Nat} {w : Nat → Int32} (ht : tr_P N K P Q par w) (wf : wf_P N K P Q) {i : Nat} (hi : i < N) (h4 : 4 ≤ K i) : vs_B N par (i + 1) (P i) = false := by
  have := (wf i hi h4).1
  unfold vs_B
  rw [ht.2.1 i hi h4, decide_eq_false (show ¬ P i + 1 = N by omega), decide_eq_false (show ¬ i + 1 ≤ i by omega)]; rfl
theorem xm_50 {post : SX → Prop} {f_height f_made f_size f_on f_inFirst f_over f_instantsDone f_hadInstant f_lastPresent f_lastAbsent f_present f_absent : Int32} {a_stack a_newKind a_newMark a_newP a_newQ a_newWithin a_kind a_mark a_partP a_partQ a_within a_mustStarted a_canStarted a_mustResumed a_canResumed : Nat → Int32} {N pr ab : Nat} {K M P Q par d : Nat → Nat} {is fz kl : Nat → Bool} {fi : Bool} (hN : N ≤ 16) (hg : pg_X N K M P Q a_kind a_mark a_partP a_partQ)
    (ht : tb_X K M P Q pr ab (bt f_on) (ac_L f_on a_within) a_mustStarted a_canStarted a_mustResumed a_canResumed N) (hpr : f_present = nI pr) (hab : f_absent = nI ab) (hs : hs_W N K M is pr ab)
    (hd : dm_W N K P Q par a_within (bt f_on) (ac_L f_on a_within) is (eS_T K M P Q pr ab) (eR_T K M P Q pr ab (bt f_on) (ac_L f_on a_within)) d fi)
    (hf : fk_W N K P par d (eS_T K M P Q pr ab) (eR_T K M P Q pr ab (bt f_on) (ac_L f_on a_within)) is fz kl)
    (h : ∀ x S R, (∀ j, j < 32 → bt x j = (decide (j < N) && nw_B K P d (eS_T K M P Q pr ab) (eR_T K M P Q pr ab (bt f_on) (ac_L f_on a_within)) (bt f_on) fz kl j)) → post (f_height, f_made, f_size, x, 0, f_over, f_instantsDone, f_hadInstant, f_lastPresent, f_lastAbsent, f_present, f_absent, S, R, a_stack, a_newKind, a_newMark, a_newP, a_newQ, a_newWithin, a_kind, a_mark, a_partP, a_partQ, a_within, a_mustStarted, a_canStarted, a_mustResumed, a_canResumed)) :
    ∀ m S R x2 x3, m ≤ N → xI_W N par d m S R → nx_W N K P d (eS_T K M P Q pr ab) (eR_T K M P Q pr ab (bt f_on) (ac_L f_on a_within)) is (bt f_on) a_within m x2 → sp_W N K P d (eS_T K M P Q pr ab) (eR_T K M P Q pr ab (bt f_on) (ac_L f_on a_within)) a_within m x3 →
    wX_moveOn_50 post (m + 1) x2 x3 (nI m + (-1)) f_height f_made f_size f_on f_inFirst f_over f_instantsDone f_hadInstant f_lastPresent f_lastAbsent f_present f_absent S R a_stack a_newKind a_newMark a_newP a_newQ a_newWithin a_kind a_mark a_partP a_partQ a_within a_mustStarted a_canStarted a_mustResumed a_canResumed := by
  have htr := hd.2.1
  have wf := hd.2.2.1
  intro m
  induction m with
  | zero =>
    intro S R x2 x3 _ hx hnx hsp
    exact br_t (by decide) (nm_e (h _ S R (nx_f hN hd hf hnx hsp)))
  | succ i ih =>
    intro S R x2 x3 hm hx hnx hsp
    have hi : i < N := by omega
    have hv1 := vs_i (m := i + 1) htr hi (by omega)
    have hv0 := vs_i (m := i) htr hi (by omega)
    obtain ⟨y1, y2⟩ := hx i hi
    rw [hv1, Bool.true_and] at y1 y2
    rw [pk_m1]
    refine br_f (nI_pos (by omega)) ?_
    have fin : ∀ S' R', xI_W N par d i S' R' → wX_moveOn_94 post (wX_moveOn_50 post (i + 1)) x2 x3 (nI i) f_height f_made f_size f_on f_inFirst f_over f_instantsDone f_hadInstant f_lastPresent f_lastAbsent f_present f_absent S' R' a_stack a_newKind a_newMark a_newP a_newQ a_newWithin a_kind a_mark a_partP a_partQ a_within a_mustStarted a_canStarted a_mustResumed a_canResumed := by
      intro S' R' hx'
      exact xm_94 hN hi hg ht hpr hs hd hx' hv0 hnx hsp (fun x2 x3 a b => ih S' R' x2 x3 (by omega) hx' a b)
    refine bz_hasb (n := i) (by omega) rfl (fun t => ?_) (fun t => ?_)
    · rw [y1, decide_eq_true_eq] at t
      exact xm_rS hN hi hg ht hpr hs hd t (fun S' hr => fin S' R (xI_s htr wf hi hx hr))
    · rw [y1, decide_eq_false_iff_not] at t
      refine bz_hasb (n := i) (by omega) rfl (fun t2 => ?_) (fun t2 => ?_)
      · rw [y2, decide_eq_true_eq] at t2
        refine xm_rR hN hi hg ht hab hs hd t2 (fun h4 => ?_) (fun S' R' hr => fin S' R' (xI_s htr wf hi hx hr))
        have := (hx (P i) (by have := (wf i hi h4).1; omega)).1
        rw [vs_c htr wf hi h4] at this
        rw [this]; rfl
      · rw [y2, decide_eq_false_iff_not] at t2
        have h0 : d i = 0 := by have := dm_012 hd _ i rfl hi; omega
        refine fin S R (xI_s htr wf hi hx (fun c hc => ?_))
        have eP : 4 ≤ K i → d (P i) = 0 := fun h4 => by rw [dm_P hd hi h4, h0]; rfl
        have eQ : 7 ≤ K i → d (Q i) = 0 := fun h7 => by rw [dm_Q hd hi h7, h0]; rfl
        by_cases h4 : 4 ≤ K i <;> by_cases h7 : 7 ≤ K i
        · rw [eP h4, eQ h7]; simp
        · rw [eP h4, decide_eq_false h7]; simp
        · omega
        · rw [decide_eq_false h4, decide_eq_false h7]; simp
theorem xm_p {post : SX → Prop} {f_height f_made f_size f_on f_inFirst f_over f_instantsDone f_hadInstant f_lastPresent f_lastAbsent f_present f_absent f_startedNow f_resumedNow : Int32} {a_stack a_newKind a_newMark a_newP a_newQ a_newWithin a_kind a_mark a_partP a_partQ a_within a_mustStarted a_canStarted a_mustResumed a_canResumed : Nat → Int32} {N pr ab : Nat} {K M P Q par d : Nat → Nat} {is fz kl : Nat → Bool} {fi : Bool} (hN : N ≤ 16) (hsz : f_size = nI N) (hfi : f_inFirst = bo_I fi) (hg : pg_X N K M P Q a_kind a_mark a_partP a_partQ)
    (ht : tb_X K M P Q pr ab (bt f_on) (ac_L f_on a_within) a_mustStarted a_canStarted a_mustResumed a_canResumed N) (hpr : f_present = nI pr) (hab : f_absent = nI ab) (hs : hs_W N K M is pr ab)
    (hd : dm_W N K P Q par a_within (bt f_on) (ac_L f_on a_within) is (eS_T K M P Q pr ab) (eR_T K M P Q pr ab (bt f_on) (ac_L f_on a_within)) d fi)
    (hf : fk_W N K P par d (eS_T K M P Q pr ab) (eR_T K M P Q pr ab (bt f_on) (ac_L f_on a_within)) is fz kl)
    (h : ∀ x S R, (∀ j, j < 32 → bt x j = (decide (j < N) && nw_B K P d (eS_T K M P Q pr ab) (eR_T K M P Q pr ab (bt f_on) (ac_L f_on a_within)) (bt f_on) fz kl j)) → post (f_height, f_made, f_size, x, 0, f_over, f_instantsDone, f_hadInstant, f_lastPresent, f_lastAbsent, f_present, f_absent, S, R, a_stack, a_newKind, a_newMark, a_newP, a_newQ, a_newWithin, a_kind, a_mark, a_partP, a_partQ, a_within, a_mustStarted, a_canStarted, a_mustResumed, a_canResumed)) : wpX_moveOn post (f_height, f_made, f_size, f_on, f_inFirst, f_over, f_instantsDone, f_hadInstant, f_lastPresent, f_lastAbsent, f_present, f_absent, f_startedNow, f_resumedNow, a_stack, a_newKind, a_newMark, a_newP, a_newQ, a_newWithin, a_kind, a_mark, a_partP, a_partQ, a_within, a_mustStarted, a_canStarted, a_mustResumed, a_canResumed) := by
  have hN1 := hd.1
  have htr := hd.2.1
  have hd0 := hd.2.2.2.2.2.2.2.2.1
  have hz : nI N - 1 = nI (N - 1) := pk_sub (a := N) (b := 1) hN1
  have hz2 : nI N + (-1) = nI (N - 1) := by
    have := pk_m1 (N - 1)
    rw [show N - 1 + 1 = N by omega] at this; exact this
  have n0 : nx_W N K P d (eS_T K M P Q pr ab) (eR_T K M P Q pr ab (bt f_on) (ac_L f_on a_within)) is (bt f_on) a_within N 0 := by
    intro j hj; rw [b_0]
    constructor
    · intro z; cases z
    · rintro ⟨k, a, b, _⟩; omega
  have s0 : sp_W N K P d (eS_T K M P Q pr ab) (eR_T K M P Q pr ab (bt f_on) (ac_L f_on a_within)) a_within N 0 := by
    intro j hj; rw [b_0]
    constructor
    · intro z; cases z
    · rintro ⟨k, a, b, _⟩; omega
  have hvN : ∀ c, c < N → vs_B N par N c = decide (c = N - 1) := by
    intro c hc
    unfold vs_B
    by_cases e : c + 1 < N
    · have := (htr.1 c e).2.1
      rw [decide_eq_false (show ¬ c + 1 = N by omega), decide_eq_false (show ¬ N ≤ par c by omega), decide_eq_false (show ¬ c = N - 1 by omega)]; rfl
    · rw [decide_eq_true (show c + 1 = N by omega), decide_eq_true (show c = N - 1 by omega)]; rfl
  have x1 : fi = true → xI_W N par d N ((1 : Int32) <<< (nI (N - 1) &&& 31)) 0 := by
    intro e c hc
    rw [e, if_pos rfl] at hd0
    rw [bz_sh1 (N - 1) (by omega) c (by omega), b_0, hvN c hc]
    by_cases z : c = N - 1
    · rw [z, hd0]; simp
    · simp [z]
  have x2 : fi = false → xI_W N par d N 0 ((1 : Int32) <<< (nI (N - 1) &&& 31)) := by
    intro e c hc
    rw [e, if_neg (by decide)] at hd0
    rw [bz_sh1 (N - 1) (by omega) c (by omega), b_0, hvN c hc]
    by_cases z : c = N - 1
    · rw [z, hd0]; simp
    · simp [z]
  unfold wpX_moveOn
  dsimp only
  rw [hsz]
  refine nm_r hz ?_
  rw [hfi]
  have hcase : ∀ S R, xI_W N par d N S R → wX_moveOn_50 post (N + 1) 0 0 (nI (N - 1)) f_height f_made (nI N) f_on (bo_I fi) f_over f_instantsDone f_hadInstant f_lastPresent f_lastAbsent f_present f_absent S R a_stack a_newKind a_newMark a_newP a_newQ a_newWithin a_kind a_mark a_partP a_partQ a_within a_mustStarted a_canStarted a_mustResumed a_canResumed := by
    intro S R hx
    have := xm_50 (f_inFirst := f_inFirst) hN hg ht hpr hab hs hd hf h N S R 0 0 (by omega) hx n0 s0
    rw [hz2, hsz, hfi] at this
    exact this
  refine bo_br fi (fun z => ?_) (fun z => ?_)
  · refine br_t (by rw [z]; rfl) (nm_e ⟨N + 1, ?_⟩)
    exact hcase _ _ (x2 z)
  · refine br_f (by rw [z]; decide) ⟨N + 1, ?_⟩
    exact hcase _ _ (x1 z)
end
section
/- Y: code, pass, spread -/
theorem yc_code {post : Int32 → Prop} {g_made g_depth g_size g_begun g_over g_ticks g_present g_absent g_any g_lastPresent g_lastAbsent : Int32} {b_sorts b_numbers b_firsts b_seconds b_stack b_around b_on b_alive b_mustEmit b_canEmit b_mustEnd b_canEnd b_done b_frozen b_killed b_after : Nat → Int32} {N pr ab c dc : Nat} {K M P Q : Nat → Nat} {o al : Nat → Bool} (hN : N ≤ 16) (hc : c < N) (ht : tb_Y K M P Q pr ab o al b_mustEmit b_canEmit b_mustEnd b_canEnd N) (hD : b_done c = nI dc) (h2 : dc ≤ 2) (ha : dc = 2 → al c = true)
    (h : post (if dc = 0 then -1 else de_I (cd_E (eS_T K M P Q pr ab) (eR_T K M P Q pr ab o al) dc c))) : wpY_code post (g_made, g_depth, g_size, g_begun, g_over, g_ticks, g_present, g_absent, g_any, g_lastPresent, g_lastAbsent, b_sorts, b_numbers, b_firsts, b_seconds, b_stack, b_around, b_on, b_alive, b_mustEmit, b_canEmit, b_mustEnd, b_canEnd, b_done, b_frozen, b_killed, b_after) (nI c) := by
  have cc : (nI c).toNatClampNeg = c := nI_clamp (by omega)
  have c16 : (nI (16 + c)).toNatClampNeg = 16 + c := nI_clamp (by omega)
  have vc : vp_in (nI c) 16 := vp_in_nI (by omega) (by omega)
  unfold wpY_code
  dsimp only
  rw [cc, hD, e16, c16]
  obtain ⟨t1, t2⟩ := ht c hc
  refine ⟨vc, pk_eq dc 0 (fun z => ?_) (fun z => ⟨vc, pk_eq dc 1 (fun y => ⟨vp_in_nI (by omega) (by omega), ?_⟩) (fun y => ⟨vp_in_nI (by omega) (by omega), ?_⟩)⟩)⟩
  · rw [if_pos z] at h; exact h
  · rw [if_neg z, y] at h
    have e := t1.1
    unfold qu_at at e
    simp only [Prod.mk.injEq] at e
    rw [e.2.2.1]; exact h
  · rw [if_neg z] at h
    have e2 : dc = 2 := by omega
    rw [e2] at h
    have e := (t2 (ha e2)).1
    unfold qu_at at e
    simp only [Prod.mk.injEq] at e
    rw [e.2.2.1]; exact h
theorem yc_mv {N pr ab c dc : Nat} {K M P Q : Nat → Nat} {o al : Nat → Bool} {me ce mn cn : Nat → Int32} (hc : c < N) (ht : tb_Y K M P Q pr ab o al me ce mn cn N) (h0 : dc ≠ 0) (h2 : dc ≤ 2) (ha : dc = 2 → al c = true) : mv_C (cd_E (eS_T K M P Q pr ab) (eR_T K M P Q pr ab o al) dc c) := by
  obtain ⟨t1, t2⟩ := ht c hc
  unfold cd_E
  split
  · exact t1.2.2.2
  · exact (t2 (ha (by omega))).2.2.2
def pd_W (N : Nat) (K P Q d : Nat → Nat) (i : Nat) (D D' : Nat → Int32) : Prop := ∀ c, c < N → D' c = if 4 ≤ K i ∧ c = P i then nI (d (P i)) else if 7 ≤ K i ∧ c = Q i then nI (d (Q i)) else D c
theorem pd_00 {N : Nat} {K P Q d : Nat → Nat} {i : Nat} {D : Nat → Int32} (zP : 4 ≤ K i → D (P i) = nI 0) (zQ : 7 ≤ K i → D (Q i) = nI 0) (hP : 4 ≤ K i → d (P i) = 0) (hQ : 7 ≤ K i → d (Q i) = 0) : pd_W N K P Q d i D D := by
  intro c hc
  split
  · rename_i h; rw [h.2, zP h.1, hP h.1]
  · split
    · rename_i h; rw [h.2, zQ h.1, hQ h.1]
    · rfl
theorem pd_10 {N : Nat} {K P Q d : Nat → Nat} {i : Nat} {D : Nat → Int32} {v : Int32} (zQ : 7 ≤ K i → D (Q i) = nI 0) (h4 : 4 ≤ K i) (hQ : 7 ≤ K i → d (Q i) = 0) (hv : v = nI (d (P i))) : pd_W N K P Q d i D (upd D (P i) v) := by
  intro c hc
  split
  · rename_i h; rw [h.2, pk_us, hv]
  · rename_i h
    rw [pk_un (fun e => h ⟨h4, e⟩)]
    split
    · rename_i h; rw [h.2, zQ h.1, hQ h.1]
    · rfl
theorem pd_01 {N : Nat} {K P Q d : Nat → Nat} {i : Nat} {D : Nat → Int32} {v : Int32} (zP : 4 ≤ K i → D (P i) = nI 0) (hne : Q i ≠ P i) (h7 : 7 ≤ K i) (hP : d (P i) = 0) (hv : v = nI (d (Q i))) : pd_W N K P Q d i D (upd D (Q i) v) := by
  intro c hc
  split
  · rename_i h; rw [h.2, pk_un (Ne.symm hne), zP h.1, hP]
  · split
    · rename_i h; rw [h.2, pk_us, hv]
    · rename_i h; rw [pk_un (fun e => h ⟨h7, e⟩)]
theorem pd_11 {N : Nat} {K P Q d : Nat → Nat} {i : Nat} {D : Nat → Int32} {v v' : Int32} (hne : Q i ≠ P i) (h7 : 7 ≤ K i) (hv : v = nI (d (P i))) (hv' : v' = nI (d (Q i))) : pd_W N K P Q d i D (upd (upd D (P i) v) (Q i) v') := by
  intro c hc
  split
  · rename_i h; rw [h.2, pk_un (Ne.symm hne), pk_us, hv]
  · rename_i hp
    split
    · rename_i h; rw [h.2, pk_us, hv']
    · rename_i h; rw [pk_un (fun e => h ⟨h7, e⟩), pk_un (fun e => hp ⟨by omega, e⟩)]
theorem yp_52 {post : SY → Prop} {g_made g_depth g_size g_begun g_over g_ticks g_present g_absent g_any g_lastPresent g_lastAbsent : Int32} {b_sorts b_numbers b_firsts b_seconds b_stack b_around b_on b_alive b_mustEmit b_canEmit b_mustEnd b_canEnd b_done b_frozen b_killed b_after : Nat → Int32} {z0 : Int32} {N pr ab i : Nat} {K M P Q par d : Nat → Nat} {w : Nat → Int32} {o al is : Nat → Bool} {fi : Bool} (hN : N ≤ 16) (hi : i < N) (hg : pg_Y N K M P Q b_sorts b_numbers b_firsts b_seconds)
    (ht : tb_Y K M P Q pr ab o al b_mustEmit b_canEmit b_mustEnd b_canEnd N) (ho : b_on i = bo_I (o i)) (hal : ∀ j, j < N → b_alive j = bo_I (al j))
    (hd : dm_W N K P Q par w o al is (eS_T K M P Q pr ab) (eR_T K M P Q pr ab o al) d fi) (hz : K i = 6 ∨ K i = 9 → z0 = bo_I (is i))
    (zP : 4 ≤ K i → b_done (P i) = nI 0) (zQ : 7 ≤ K i → b_done (Q i) = nI 0)
    (h : ∀ D, pd_W N K P Q d i b_done D → post (g_made, g_depth, g_size, g_begun, g_over, g_ticks, g_present, g_absent, g_any, g_lastPresent, g_lastAbsent, b_sorts, b_numbers, b_firsts, b_seconds, b_stack, b_around, b_on, b_alive, b_mustEmit, b_canEmit, b_mustEnd, b_canEnd, D, (if fr_S K d is i = true then upd b_frozen i 1 else b_frozen), b_killed, b_after)) :
    wY_pass_52 post (nI i) (nI (K i)) (nI (P i)) (nI (if 7 ≤ K i then Q i else 0)) (nI (d i)) z0 g_made g_depth g_size g_begun g_over g_ticks g_present g_absent g_any g_lastPresent g_lastAbsent b_sorts b_numbers b_firsts b_seconds b_stack b_around b_on b_alive b_mustEmit b_canEmit b_mustEnd b_canEnd b_done b_frozen b_killed b_after := by
  obtain ⟨g1, g2, g3, g4, g5, g6, g7, g8⟩ := hg i hi
  have hc : (nI i).toNatClampNeg = i := nI_clamp (by omega)
  have cP : (nI (P i)).toNatClampNeg = P i := nI_clamp (by omega)
  have cQ : (nI (Q i)).toNatClampNeg = Q i := nI_clamp (by omega)
  have vi : vp_in (nI i) 16 := vp_in_nI (by omega) (by omega)
  have vP : vp_in (nI (P i)) 16 := vp_in_nI g6 (by omega)
  have vQ : vp_in (nI (Q i)) 16 := vp_in_nI g7 (by omega)
  have h012 := dm_012 hd _ i rfl hi
  have nf : K i ≠ 6 → fr_S K d is i = false := fun z => by unfold fr_S; rw [decide_eq_false z]; rfl
  have go : fr_S K d is i = false → ∀ D, pd_W N K P Q d i b_done D → post (g_made, g_depth, g_size, g_begun, g_over, g_ticks, g_present, g_absent, g_any, g_lastPresent, g_lastAbsent, b_sorts, b_numbers, b_firsts, b_seconds, b_stack, b_around, b_on, b_alive, b_mustEmit, b_canEmit, b_mustEnd, b_canEnd, D, b_frozen, b_killed, b_after) := fun e D hD => by
    have := h D hD
    rw [e, if_neg (by decide)] at this; exact this
  unfold wY_pass_52
  refine pk_eq (d i) 0 (fun z => ?_) (fun z0' => ?_)
  · refine go (by unfold fr_S; rw [z]; simp) _ (pd_00 zP zQ (fun h4 => ?_) (fun h7 => ?_))
    · rw [dm_P hd hi h4, z]; rfl
    · rw [dm_Q hd hi h7, z]; rfl
  refine pk_le 4 (K i) (fun k4 => ?_) (fun z => go (nf (by omega)) _ (pd_00 zP zQ (fun h4 => by omega) (fun h7 => by omega)))
  have g8' := g8 k4
  have dP := dm_P hd hi k4
  have aP := hal (P i) (by omega)
  have aQ := hal (Q i) (by omega)
  have aP2 := dm_al hd _ (P i) rfl (show P i < N by omega)
  unfold wy_P at dP
  rw [if_neg z0'] at dP
  rw [hc, cP, ho]
  refine pk_eq (K i) 4 (fun z => ⟨vi, ?_⟩) (fun z4 => ?_)
  · rw [if_pos z] at dP
    have g := go (nf (by omega))
    refine bo_br (o i) (fun t => ⟨vP, nm_e ?_⟩) (fun t => ⟨vP, nm_e ?_⟩)
    · rw [if_neg (by rw [t]; decide)] at dP
      exact g _ (pd_10 zQ k4 (fun q => by omega) (by rw [dP]))
    · rw [if_pos t] at dP
      exact g _ (pd_10 zQ k4 (fun q => by omega) (by rw [dP]; rfl))
  rw [if_neg z4] at dP
  refine pk_eq (K i) 5 (fun z => ⟨vP, nm_e ?_⟩) (fun z5 => ?_)
  · rw [if_pos z] at dP
    exact go (nf (by omega)) _ (pd_10 zQ k4 (fun q => by omega) (by rw [dP]))
  rw [if_neg z5] at dP
  refine pk_eq (K i) 6 (fun z => ?_) (fun z6 => ?_)
  · rw [if_pos z] at dP
    rw [hz (Or.inl z)]
    refine pk_eq (d i) 2 (fun z2 => bo_br (is i) (fun t => ⟨vP, nm_e ?_⟩) (fun t => ⟨vi, nm_e ?_⟩)) (fun z2 => ⟨vP, nm_e ?_⟩)
    · rw [if_neg (by rw [t]; simp)] at dP
      exact go (by unfold fr_S; rw [t]; simp) _ (pd_10 zQ k4 (fun q => by omega) (by rw [dP]))
    · rw [if_pos ⟨z2, t⟩] at dP
      have hfr : fr_S K d is i = true := by unfold fr_S; rw [z, z2, t]; rfl
      have := h _ (pd_00 (D := b_done) (N := N) zP zQ (fun _ => dP) (fun q => by omega))
      rw [if_pos hfr] at this
      exact this
    · rw [if_neg (fun q => z2 q.1)] at dP
      exact go (by unfold fr_S; rw [decide_eq_false z2]; simp) _ (pd_10 zQ k4 (fun q => by omega) (by rw [dP]))
  rw [if_neg z6] at dP
  have g := go (nf z6)
  have k7 : 7 ≤ K i := by omega
  have dQ := dm_Q hd hi k7
  have hne := (hd.2.1.2.2.1 i hi k7).2
  unfold wy_Q at dQ
  rw [if_neg z0'] at dQ
  rw [if_pos k7, aP]
  refine pk_eq (K i) 7 (fun z => ?_) (fun z7 => ?_)
  · rw [if_pos (Or.inl z)] at dP
    rw [if_pos z] at dQ
    have k203 : d (P i) ≠ 0 → ¬ (d i = 2 ∧ al (P i) = false) → wY_pass_203 post (nI (P i)) (nI (Q i)) g_made g_depth g_size g_begun g_over g_ticks g_present g_absent g_any g_lastPresent g_lastAbsent b_sorts b_numbers b_firsts b_seconds b_stack b_around b_on b_alive b_mustEmit b_canEmit b_mustEnd b_canEnd (upd b_done (P i) (nI (d (P i)))) b_frozen b_killed b_after := by
      intro hp0 hn
      rw [if_neg hn] at dQ
      have l2 := dm_012 hd _ (P i) rfl (show P i < N by omega)
      have hmv := yc_mv (show P i < N by omega) ht hp0 l2 aP2
      refine yc_code (dc := d (P i)) hN (show P i < N by omega) ht pk_us l2 aP2 ?_
      rw [if_neg hp0]
      rw [yz_01 hmv]
      generalize cd_E (eS_T K M P Q pr ab) (eR_T K M P Q pr ab o al) (d (P i)) (P i) = x at dQ hmv ⊢
      refine br_c (fun y => ⟨vQ, ?_⟩) (fun y => ?_)
      · rw [decide_eq_true y, if_pos rfl] at dQ
        rw [cQ]
        exact nm_e (g _ (pd_11 hne k7 rfl (by rw [dQ]; rfl)))
      · rw [decide_eq_false y, if_neg (by decide)] at dQ
        exact g _ (pd_10 zQ k4 (fun _ => dQ) rfl)
    refine pk_eq (d i) 1 (fun z1 => ⟨vP, ?_⟩) (fun z1 => ⟨vP, bo_br _ (fun t => ?_) (fun t => ⟨vP, ?_⟩)⟩)
    · rw [if_pos (Or.inl z1)] at dP
      rw [cP, ← dP]
      refine nm_e (pk_eq (d (P i)) 2 (fun q => absurd q (by omega)) (fun _ => k203 (by omega) (by omega)))
    · rw [if_neg (by rw [t]; simp; exact z1)] at dP
      have e2 : d i = 2 := by omega
      rw [if_pos ⟨e2, t⟩] at dQ
      unfold wY_pass_177
      rw [cP, aP, cQ]
      refine pk_eq (d i) 2 (fun _ => ⟨vP, bo_br _ (fun _ => ⟨vQ, nm_e (g _ (pd_01 zP hne k7 dP (by rw [dQ]; rfl)))⟩) (fun q => absurd q (by rw [t]; decide))⟩) (fun q => absurd e2 q)
    · rw [if_pos (Or.inr t)] at dP
      rw [cP, ← dP]
      refine nm_e ?_
      unfold wY_pass_177
      rw [cP, aP]
      refine pk_eq (d (P i)) 2 (fun _ => ⟨vP, bo_br _ (fun q => absurd q (by rw [t]; decide)) (fun _ => k203 (by omega) (by rw [t]; simp))⟩) (fun _ => k203 (by omega) (by rw [t]; simp))
  rw [if_neg z7] at dQ
  refine pk_eq (K i) 8 (fun z => ?_) (fun z8 => ?_)
  · rw [if_pos (Or.inr z)] at dP
    rw [if_pos z] at dQ
    have k251 : ∀ D : Nat → Int32, (d (Q i) = 0 → pd_W N K P Q d i b_done D) → (d (Q i) = d i → pd_W N K P Q d i b_done (upd D (Q i) (nI (d i)))) → wY_pass_251 post (nI (Q i)) (nI (d i)) g_made g_depth g_size g_begun g_over g_ticks g_present g_absent g_any g_lastPresent g_lastAbsent b_sorts b_numbers b_firsts b_seconds b_stack b_around b_on b_alive b_mustEmit b_canEmit b_mustEnd b_canEnd D b_frozen b_killed b_after := by
      intro D h0 h1
      unfold wY_pass_251
      rw [cQ, aQ]
      refine pk_eq (d i) 1 (fun z1 => ⟨vQ, nm_e ?_⟩) (fun z1 => ⟨vQ, bo_br _ (fun t => ?_) (fun t => ⟨vQ, nm_e ?_⟩)⟩)
      · rw [if_pos (Or.inl z1)] at dQ
        exact g _ (h1 dQ)
      · rw [if_neg (by rw [t]; simp; exact z1)] at dQ
        exact g _ (h0 dQ)
      · rw [if_pos (Or.inr t)] at dQ
        exact g _ (h1 dQ)
    have k243 : d (P i) = d i → wY_pass_243 post (nI (P i)) (nI (Q i)) (nI (d i)) g_made g_depth g_size g_begun g_over g_ticks g_present g_absent g_any g_lastPresent g_lastAbsent b_sorts b_numbers b_firsts b_seconds b_stack b_around b_on b_alive b_mustEmit b_canEmit b_mustEnd b_canEnd b_done b_frozen b_killed b_after := by
      intro e
      unfold wY_pass_243
      rw [cP]
      refine ⟨vP, nm_e (k251 _ (fun q => pd_10 zQ k4 (fun _ => q) (by rw [e])) (fun q => pd_11 hne k7 (by rw [e]) (by rw [q])))⟩
    refine pk_eq (d i) 1 (fun z1 => ?_) (fun z1 => ⟨vP, bo_br _ (fun t => ?_) (fun t => ?_)⟩)
    · rw [if_pos (Or.inl z1)] at dP; exact k243 dP
    · rw [if_neg (by rw [t]; simp; exact z1)] at dP
      exact k251 _ (fun q => pd_00 zP zQ (fun _ => dP) (fun _ => q)) (fun q => pd_01 zP hne k7 dP (by rw [q]))
    · rw [if_pos (Or.inr t)] at dP; exact k243 dP
  have z9 : K i = 9 := by omega
  rw [if_neg (by omega)] at dP
  rw [if_neg z8] at dQ
  rw [hz (Or.inr z9), cQ]
  refine pk_eq (d i) 1 (fun z1 => bo_br (is i) (fun t => ⟨vQ, nm_e ?_⟩) (fun t => ⟨vP, nm_e ?_⟩)) (fun z1 => ⟨vP, bo_br _ (fun t => ⟨vQ, nm_e ?_⟩) (fun t => ⟨vP, nm_e ?_⟩)⟩)
  · rw [if_pos z1, t, if_neg (by decide)] at dP dQ
    exact g _ (pd_01 zP hne k7 dP (by rw [dQ]))
  · rw [if_pos z1, t, if_pos rfl] at dP dQ
    exact g _ (pd_10 zQ k4 (fun _ => dQ) (by rw [dP]))
  · rw [if_neg z1, t, if_neg (by decide)] at dP dQ
    exact g _ (pd_01 zP hne k7 dP (by rw [dQ]))
  · rw [if_neg z1, t, if_pos rfl] at dP dQ
    exact g _ (pd_10 zQ k4 (fun _ => dQ) (by rw [dP]))
theorem yp_p {post : SY → Prop} {g_made g_depth g_size g_begun g_over g_ticks g_absent g_any g_lastPresent g_lastAbsent : Int32} {b_sorts b_numbers b_firsts b_seconds b_stack b_around b_on b_alive b_mustEmit b_canEmit b_mustEnd b_canEnd b_done b_frozen b_killed b_after : Nat → Int32} {N pr ab i : Nat} {K M P Q par d : Nat → Nat} {w : Nat → Int32} {o al is : Nat → Bool} {fi : Bool} (hN : N ≤ 16) (hi : i < N) (hg : pg_Y N K M P Q b_sorts b_numbers b_firsts b_seconds)
    (ht : tb_Y K M P Q pr ab o al b_mustEmit b_canEmit b_mustEnd b_canEnd N) (ho : b_on i = bo_I (o i)) (hal : ∀ j, j < N → b_alive j = bo_I (al j))
    (hd : dm_W N K P Q par w o al is (eS_T K M P Q pr ab) (eR_T K M P Q pr ab o al) d fi) (hs : hs_W N K M is pr ab)
    (hD : b_done i = nI (d i)) (zP : 4 ≤ K i → b_done (P i) = nI 0) (zQ : 7 ≤ K i → b_done (Q i) = nI 0)
    (h : ∀ D, pd_W N K P Q d i b_done D → post (g_made, g_depth, g_size, g_begun, g_over, g_ticks, nI pr, g_absent, g_any, g_lastPresent, g_lastAbsent, b_sorts, b_numbers, b_firsts, b_seconds, b_stack, b_around, b_on, b_alive, b_mustEmit, b_canEmit, b_mustEnd, b_canEnd, D, (if fr_S K d is i = true then upd b_frozen i 1 else b_frozen), b_killed, b_after)) :
    wpY_pass post (g_made, g_depth, g_size, g_begun, g_over, g_ticks, nI pr, g_absent, g_any, g_lastPresent, g_lastAbsent, b_sorts, b_numbers, b_firsts, b_seconds, b_stack, b_around, b_on, b_alive, b_mustEmit, b_canEmit, b_mustEnd, b_canEnd, b_done, b_frozen, b_killed, b_after) (nI i) := by
  have hg' := hg i hi
  obtain ⟨g1, g2, g3, g4, g5, g6, g7, g8⟩ := hg'
  have hc : (nI i).toNatClampNeg = i := nI_clamp (by omega)
  have vi : vp_in (nI i) 32 := vp_in_nI (by omega) (by omega)
  have vi16 : vp_in (nI i) 16 := vp_in_nI (by omega) (by omega)
  have key := fun z0 hz => yp_52 (g_present := nI pr) (z0 := z0) hN hi hg ht ho hal hd hz zP zQ h
  unfold wpY_pass
  dsimp only
  rw [hc, g1, g4, g5, hD]
  refine ⟨vi, nm_e ⟨vi, nm_e ⟨vi, nm_e ⟨vi16, nm_e ⟨vi, ?_⟩⟩⟩⟩⟩
  by_cases e : K i = 6 ∨ K i = 9
  · have his := (hs i hi e).1
    have hm : b_numbers i = nI (M i) ∧ M i < 6 := g3.1 (by omega)
    refine bz_yb (n := M i) (by omega) hm.1 (fun t => key _ (fun _ => ?_)) (fun t => key _ (fun _ => ?_))
    · rw [bz_nI (by omega), ← his] at t; rw [t]; rfl
    · rw [bz_nI (by omega), ← his] at t; rw [t]; rfl
  · exact br_c (fun _ => key _ (fun q => absurd q e)) (fun _ => key _ (fun q => absurd q e))
end
section
/- Y: spread, finish -/
def pb_W (N : Nat) (K P Q : Nat → Nat) (i : Nat) (b : Bool) (A A' : Nat → Int32) : Prop := ∀ c, c < N → A' c = if (4 ≤ K i ∧ c = P i) ∨ (7 ≤ K i ∧ c = Q i) then bo_I b else A c
theorem pb_f {N : Nat} {K P Q : Nat → Nat} {i : Nat} {A : Nat → Int32} (zP : 4 ≤ K i → A (P i) = 0) (zQ : 7 ≤ K i → A (Q i) = 0) : pb_W N K P Q i false A A := by
  intro c hc
  split
  · rename_i h
    rcases h with h | h
    · rw [h.2, zP h.1]; rfl
    · rw [h.2, zQ h.1]; rfl
  · rfl
theorem pb_1 {N : Nat} {K P Q : Nat → Nat} {i : Nat} {A : Nat → Int32} (h4 : 4 ≤ K i) (h7 : ¬ 7 ≤ K i) : pb_W N K P Q i true A (upd A (P i) 1) := by
  intro c hc
  split
  · rename_i h
    rcases h with h | h
    · rw [h.2, pk_us]; rfl
    · exact absurd h.1 h7
  · rename_i h; exact pk_un (fun e => h (Or.inl ⟨h4, e⟩))
theorem pb_2 {N : Nat} {K P Q : Nat → Nat} {i : Nat} {A : Nat → Int32} (h7 : 7 ≤ K i) : pb_W N K P Q i true A (upd (upd A (P i) 1) (Q i) 1) := by
  intro c hc
  by_cases e : c = Q i
  · rw [if_pos (Or.inr ⟨h7, e⟩), e, pk_us]; rfl
  · rw [pk_un e]
    by_cases e2 : c = P i
    · rw [if_pos (Or.inl ⟨by omega, e2⟩), e2, pk_us]; rfl
    · rw [pk_un e2, if_neg (by rintro (h | h); exact e2 h.2; exact e h.2)]
theorem ys_75 {post : SY → Prop} {g_made g_depth g_size g_begun g_over g_ticks g_present g_absent g_any g_lastPresent g_lastAbsent : Int32} {b_sorts b_numbers b_firsts b_seconds b_stack b_around b_on b_alive b_mustEmit b_canEmit b_mustEnd b_canEnd b_done b_frozen b_killed b_after : Nat → Int32} {N i q : Nat} {K P Q : Nat → Nat} {f b : Bool} (h4 : 4 ≤ K i) (k9 : K i ≤ 9) (hi : i < 16) (pi : P i < i) (qi : Q i < i) (hq : 7 ≤ K i → q = Q i) (hF : b_frozen i = bo_I f)
    (lP : 4 ≤ K i → b_killed (P i) = 0) (lQ : 7 ≤ K i → b_killed (Q i) = 0) (fP : 4 ≤ K i → b_frozen (P i) = 0) (fQ : 7 ≤ K i → b_frozen (Q i) = 0)
    (h : ∀ L F, pb_W N K P Q i b b_killed L → pb_W N K P Q i f b_frozen F → post (g_made, g_depth, g_size, g_begun, g_over, g_ticks, g_present, g_absent, g_any, g_lastPresent, g_lastAbsent, b_sorts, b_numbers, b_firsts, b_seconds, b_stack, b_around, b_on, b_alive, b_mustEmit, b_canEmit, b_mustEnd, b_canEnd, b_done, F, L, b_after)) :
    wY_spread_75 post (nI i) (nI (K i)) (nI (P i)) (nI q) (bo_I b) g_made g_depth g_size g_begun g_over g_ticks g_present g_absent g_any g_lastPresent g_lastAbsent b_sorts b_numbers b_firsts b_seconds b_stack b_around b_on b_alive b_mustEmit b_canEmit b_mustEnd b_canEnd b_done b_frozen b_killed b_after := by
  have hc : (nI i).toNatClampNeg = i := nI_clamp (by omega)
  have cP : (nI (P i)).toNatClampNeg = P i := nI_clamp (by omega)
  have cQ : (nI (Q i)).toNatClampNeg = Q i := nI_clamp (by omega)
  have vi : vp_in (nI i) 16 := vp_in_nI (by omega) (by omega)
  have vP : vp_in (nI (P i)) 16 := vp_in_nI (by omega) (by omega)
  have vQ : vp_in (nI (Q i)) 16 := vp_in_nI (by omega) (by omega)
  by_cases k7 : 7 ≤ K i
  · have hq' := hq k7
    subst hq'
    have k124 : ∀ L, pb_W N K P Q i b b_killed L → wY_spread_124 post (nI i) (nI (K i)) (nI (Q i)) g_made g_depth g_size g_begun g_over g_ticks g_present g_absent g_any g_lastPresent g_lastAbsent b_sorts b_numbers b_firsts b_seconds b_stack b_around b_on b_alive b_mustEmit b_canEmit b_mustEnd b_canEnd b_done (if f = true then upd b_frozen (P i) 1 else b_frozen) L b_after := by
      intro L hL
      unfold wY_spread_124
      rw [hc, cQ]
      have e : (if f = true then upd b_frozen (P i) 1 else b_frozen) i = bo_I f := by
        split
        · rw [pk_un (by omega)]; exact hF
        · exact hF
      rw [e]
      refine ⟨vi, bo_br f (fun t => ?_) (fun t => pk_le (K i) 6 (fun z => absurd z (by omega)) (fun _ => ⟨vQ, nm_e ?_⟩))⟩
      · rw [if_neg (by rw [t]; decide)]
        exact h _ _ hL (by rw [t]; exact pb_f fP fQ)
      · rw [if_pos t]
        exact h _ _ hL (by rw [t]; exact pb_2 k7)
    have k105 : wY_spread_105 post (nI i) (nI (K i)) (nI (Q i)) (bo_I b) g_made g_depth g_size g_begun g_over g_ticks g_present g_absent g_any g_lastPresent g_lastAbsent b_sorts b_numbers b_firsts b_seconds b_stack b_around b_on b_alive b_mustEmit b_canEmit b_mustEnd b_canEnd b_done (if f = true then upd b_frozen (P i) 1 else b_frozen) (if b = true then upd b_killed (P i) 1 else b_killed) b_after := by
      unfold wY_spread_105
      rw [cQ]
      refine bo_br b (fun t => ?_) (fun t => pk_le (K i) 6 (fun z => absurd z (by omega)) (fun _ => ⟨vQ, nm_e ?_⟩))
      · rw [if_neg (show ¬ b = true by rw [t]; decide)]
        exact k124 _ (by rw [t]; exact pb_f lP lQ)
      · rw [if_pos t]
        exact k124 _ (by rw [t]; exact pb_2 k7)
    have k89 : wY_spread_89 post (nI i) (nI (K i)) (nI (P i)) (nI (Q i)) (bo_I b) g_made g_depth g_size g_begun g_over g_ticks g_present g_absent g_any g_lastPresent g_lastAbsent b_sorts b_numbers b_firsts b_seconds b_stack b_around b_on b_alive b_mustEmit b_canEmit b_mustEnd b_canEnd b_done b_frozen (if b = true then upd b_killed (P i) 1 else b_killed) b_after := by
      unfold wY_spread_89
      rw [hc, cP, hF]
      refine ⟨vi, bo_br f (fun t => ?_) (fun t => ⟨vP, nm_e ?_⟩)⟩
      · rw [if_neg (show ¬ f = true by rw [t]; decide)] at k105; exact k105
      · rw [if_pos t] at k105; exact k105
    unfold wY_spread_75
    rw [cP]
    refine bo_br b (fun t => ?_) (fun t => ⟨vP, nm_e ?_⟩)
    · rw [if_neg (show ¬ b = true by rw [t]; decide)] at k89; exact k89
    · rw [if_pos t] at k89; exact k89
  · have k124 : ∀ L, pb_W N K P Q i b b_killed L → wY_spread_124 post (nI i) (nI (K i)) (nI q) g_made g_depth g_size g_begun g_over g_ticks g_present g_absent g_any g_lastPresent g_lastAbsent b_sorts b_numbers b_firsts b_seconds b_stack b_around b_on b_alive b_mustEmit b_canEmit b_mustEnd b_canEnd b_done (if f = true then upd b_frozen (P i) 1 else b_frozen) L b_after := by
      intro L hL
      unfold wY_spread_124
      rw [hc]
      have e : (if f = true then upd b_frozen (P i) 1 else b_frozen) i = bo_I f := by
        split
        · rw [pk_un (by omega)]; exact hF
        · exact hF
      rw [e]
      refine ⟨vi, bo_br f (fun t => ?_) (fun t => pk_le (K i) 6 (fun z => ?_) (fun z => absurd z (by omega)))⟩
      · rw [if_neg (by rw [t]; decide)]
        exact h _ _ hL (by rw [t]; exact pb_f fP fQ)
      · rw [if_pos t]
        exact h _ _ hL (by rw [t]; exact pb_1 h4 k7)
    have k105 : wY_spread_105 post (nI i) (nI (K i)) (nI q) (bo_I b) g_made g_depth g_size g_begun g_over g_ticks g_present g_absent g_any g_lastPresent g_lastAbsent b_sorts b_numbers b_firsts b_seconds b_stack b_around b_on b_alive b_mustEmit b_canEmit b_mustEnd b_canEnd b_done (if f = true then upd b_frozen (P i) 1 else b_frozen) (if b = true then upd b_killed (P i) 1 else b_killed) b_after := by
      unfold wY_spread_105
      refine bo_br b (fun t => ?_) (fun t => pk_le (K i) 6 (fun z => ?_) (fun z => absurd z (by omega)))
      · rw [if_neg (show ¬ b = true by rw [t]; decide)]
        exact k124 _ (by rw [t]; exact pb_f lP lQ)
      · rw [if_pos t]
        exact k124 _ (by rw [t]; exact pb_1 h4 k7)
    have k89 : wY_spread_89 post (nI i) (nI (K i)) (nI (P i)) (nI q) (bo_I b) g_made g_depth g_size g_begun g_over g_ticks g_present g_absent g_any g_lastPresent g_lastAbsent b_sorts b_numbers b_firsts b_seconds b_stack b_around b_on b_alive b_mustEmit b_canEmit b_mustEnd b_canEnd b_done b_frozen (if b = true then upd b_killed (P i) 1 else b_killed) b_after := by
      unfold wY_spread_89
      rw [hc, cP, hF]
      refine ⟨vi, bo_br f (fun t => ?_) (fun t => ⟨vP, nm_e ?_⟩)⟩
      · rw [if_neg (show ¬ f = true by rw [t]; decide)] at k105; exact k105
      · rw [if_pos t] at k105; exact k105
    unfold wY_spread_75
    rw [cP]
    refine bo_br b (fun t => ?_) (fun t => ⟨vP, nm_e ?_⟩)
    · rw [if_neg (show ¬ b = true by rw [t]; decide)] at k89; exact k89
    · rw [if_pos t] at k89; exact k89
theorem mv_g1 {c : Nat} (h : mv_C c) : 1 < de_I c ↔ c / 4 ≠ 0 := by
  rcases h with rfl | rfl | rfl | rfl | rfl | rfl <;> decide
theorem mv_e2 {c : Nat} (h : mv_C c) : de_I c = 2 ↔ c / 4 % 2 = 1 := by
  rcases h with rfl | rfl | rfl | rfl | rfl | rfl <;> decide
theorem ys_p {post : SY → Prop} {g_made g_depth g_size g_begun g_over g_ticks g_present g_absent g_any g_lastPresent g_lastAbsent : Int32} {b_sorts b_numbers b_firsts b_seconds b_stack b_around b_on b_alive b_mustEmit b_canEmit b_mustEnd b_canEnd b_done b_frozen b_killed b_after : Nat → Int32} {N pr ab i : Nat} {K M P Q par d : Nat → Nat} {w : Nat → Int32} {o al is : Nat → Bool} {fi f k : Bool} (hN : N ≤ 16) (hi : i < N) (hg : pg_Y N K M P Q b_sorts b_numbers b_firsts b_seconds)
    (ht : tb_Y K M P Q pr ab o al b_mustEmit b_canEmit b_mustEnd b_canEnd N)
    (hd : dm_W N K P Q par w o al is (eS_T K M P Q pr ab) (eR_T K M P Q pr ab o al) d fi)
    (hD : b_done i = nI (d i)) (hDP : 4 ≤ K i → b_done (P i) = nI (d (P i))) (hF : b_frozen i = bo_I f) (hL : b_killed i = bo_I k)
    (lP : 4 ≤ K i → b_killed (P i) = 0) (lQ : 7 ≤ K i → b_killed (Q i) = 0) (fP : 4 ≤ K i → b_frozen (P i) = 0) (fQ : 7 ≤ K i → b_frozen (Q i) = 0)
    (h : ∀ L F, pb_W N K P Q i (k || st_B K P d (eS_T K M P Q pr ab) (eR_T K M P Q pr ab o al) i) b_killed L → pb_W N K P Q i f b_frozen F → post (g_made, g_depth, g_size, g_begun, g_over, g_ticks, g_present, g_absent, g_any, g_lastPresent, g_lastAbsent, b_sorts, b_numbers, b_firsts, b_seconds, b_stack, b_around, b_on, b_alive, b_mustEmit, b_canEmit, b_mustEnd, b_canEnd, b_done, F, L, b_after)) :
    wpY_spread post (g_made, g_depth, g_size, g_begun, g_over, g_ticks, g_present, g_absent, g_any, g_lastPresent, g_lastAbsent, b_sorts, b_numbers, b_firsts, b_seconds, b_stack, b_around, b_on, b_alive, b_mustEmit, b_canEmit, b_mustEnd, b_canEnd, b_done, b_frozen, b_killed, b_after) (nI i) := by
  obtain ⟨g1, g2, g3, g4, g5, g6, g7, g8⟩ := hg i hi
  have hc : (nI i).toNatClampNeg = i := nI_clamp (by omega)
  have vi : vp_in (nI i) 32 := vp_in_nI (by omega) (by omega)
  have vi16 : vp_in (nI i) 16 := vp_in_nI (by omega) (by omega)
  have l2 := dm_012 hd _ i rfl hi
  have ai2 := dm_al hd _ i rfl hi
  unfold wpY_spread
  dsimp only
  rw [hc, g1, g4, g5]
  refine ⟨vi, nm_e ⟨vi, nm_e ⟨vi, nm_e ?_⟩⟩⟩
  refine yc_code (dc := d i) hN hi ht hD l2 ai2 ?_
  refine pk_le 4 (K i) (fun k4 => ⟨vi16, ?_⟩) (fun z => ?_)
  · have g8' := g8 k4
    have k75 : ∀ b, (k || st_B K P d (eS_T K M P Q pr ab) (eR_T K M P Q pr ab o al) i) = b → wY_spread_75 post (nI i) (nI (K i)) (nI (P i)) (nI (if 7 ≤ K i then Q i else 0)) (bo_I b) g_made g_depth g_size g_begun g_over g_ticks g_present g_absent g_any g_lastPresent g_lastAbsent b_sorts b_numbers b_firsts b_seconds b_stack b_around b_on b_alive b_mustEmit b_canEmit b_mustEnd b_canEnd b_done b_frozen b_killed b_after := by
      intro b hb
      rw [hb] at h
      exact ys_75 (N := N) (Q := Q) k4 g2 (by omega) g8'.1 g8'.2 (fun k7 => if_pos k7) hF lP lQ fP fQ h
    have k56 : k = false → (K i = 8 → d i = 0 ∨ cd_E (eS_T K M P Q pr ab) (eR_T K M P Q pr ab o al) (d i) i / 4 = 0) → wY_spread_56 post (nI i) (nI (K i)) (nI (P i)) (nI (if 7 ≤ K i then Q i else 0)) g_made g_depth g_size g_begun g_over g_ticks g_present g_absent g_any g_lastPresent g_lastAbsent b_sorts b_numbers b_firsts b_seconds b_stack b_around b_on b_alive b_mustEmit b_canEmit b_mustEnd b_canEnd b_done b_frozen b_killed b_after := by
      intro hk0 h8
      unfold wY_spread_56
      refine pk_eq (K i) 5 (fun z => ?_) (fun z5 => ?_)
      · have lP2 := dm_012 hd _ (P i) rfl (show P i < N by omega)
        have aP2 := dm_al hd _ (P i) rfl (show P i < N by omega)
        have dPi : d (P i) = d i := by
          rw [dm_P hd hi k4]; unfold wy_P
          by_cases q : d i = 0
          · rw [if_pos q, q]
          · rw [if_neg q, if_neg (by omega), if_pos z]
        refine yc_code (dc := d (P i)) hN (show P i < N by omega) ht (hDP k4) lP2 aP2 ?_
        by_cases q : d (P i) = 0
        · rw [if_pos q]
          refine br_f (by decide) ?_
          have := k75 false (by rw [hk0]; unfold st_B; rw [decide_eq_false (show ¬ K i = 8 by omega), ← dPi, q]; simp)
          exact this
        · rw [if_neg q]
          have hmv := yc_mv (show P i < N by omega) ht q lP2 aP2
          rw [mv_e2 hmv]
          refine br_c (fun y => ?_) (fun y => ?_)
          · have := k75 true (by unfold st_B; rw [decide_eq_true z, decide_eq_true y, decide_eq_true (show d i ≠ 0 by omega)]; simp)
            exact this
          · have := k75 false (by rw [hk0]; unfold st_B; rw [decide_eq_false (show ¬ K i = 8 by omega), decide_eq_false y]; simp)
            exact this
      · have e : st_B K P d (eS_T K M P Q pr ab) (eR_T K M P Q pr ab o al) i = false := by
          unfold st_B; rw [decide_eq_false z5]
          by_cases q : K i = 8
          · rcases h8 q with q2 | q2 <;> rw [q2] <;> simp
          · rw [decide_eq_false q]; simp
        have := k75 false (by rw [hk0, e]; rfl)
        exact this
    rw [hL]
    refine bo_br k (fun t => ?_) (fun t => ?_)
    · refine pk_eq (K i) 8 (fun z => ?_) (fun z8 => k56 t (fun q => absurd q z8))
      by_cases q : d i = 0
      · rw [if_pos q]
        exact br_f (by decide) (k56 t (fun _ => Or.inl q))
      · rw [if_neg q]
        have hmv := yc_mv hi ht q l2 ai2
        rw [mv_g1 hmv]
        refine br_c (fun y => ?_) (fun y => k56 t (fun _ => Or.inr (Decidable.not_not.mp y)))
        have := k75 true (by unfold st_B; rw [decide_eq_true z, decide_eq_true y, decide_eq_true q]; simp)
        exact this
    · have := k75 true (by rw [t]; rfl)
      exact this
  · have := h b_killed b_frozen (fun c hc => by rw [if_neg (by omega)]) (fun c hc => by rw [if_neg (by omega)])
    exact this
/-- Y's three arrays when all from m on are done -/
def yI_W (N : Nat) (par d : Nat → Nat) (fz kl : Nat → Bool) (m : Nat) (D F L : Nat → Int32) : Prop := ∀ c, c < N →
  D c = nI (if vs_B N par m c = true then d c else 0) ∧ L c = bo_I (vs_B N par m c && kl c) ∧ F c = bo_I (if m ≤ c then fz c else decide (c + 1 < N) && decide (m ≤ par c) && fz (par c))
theorem yI_s {N : Nat} {K P Q par : Nat → Nat} {w : Nat → Int32} {d eS eR : Nat → Nat} {is fz kl : Nat → Bool} {i : Nat} {D F L D' F' L' F1 : Nat → Int32} (ht : tr_P N K P Q par w) (wf : wf_P N K P Q) (hf : fk_W N K P par d eS eR is fz kl) (hi : i < N) (h : yI_W N par d fz kl (i + 1) D F L)
    (hD : pd_W N K P Q d i D D') (hF1 : F1 i = bo_I (fz i)) (hF2 : ∀ c, c ≠ i → F1 c = F c) (hL : pb_W N K P Q i (kl i || st_B K P d eS eR i) L L') (hF : pb_W N K P Q i (fz i) F1 F') : yI_W N par d fz kl i D' F' L' := by
  intro c hc
  obtain ⟨h1, h2, h3⟩ := h c hc
  rw [hD c hc, hL c hc, hF c hc]
  have hcase : (c + 1 < N ∧ par c = i) ∨ ¬ (c + 1 < N ∧ par c = i) := Classical.em _
  rcases hcase with ⟨hcN, hp⟩ | hn
  · obtain ⟨_, _, hcc⟩ := ht.1 c hcN
    have hci := (ht.1 c hcN).1
    rw [hp] at hcc hci
    have hv : vs_B N par i c = true := by unfold vs_B; simp [hp]
    have hch : (4 ≤ K i ∧ c = P i) ∨ (7 ≤ K i ∧ c = Q i) := hcc
    have hkl := hf.2.2.2 c hcN
    rw [hp] at hkl
    rw [if_pos hch, if_pos hch, hv, if_pos rfl, Bool.true_and, hkl, if_neg (show ¬ i ≤ c by omega), decide_eq_true hcN, hp, decide_eq_true (show i ≤ i by omega)]
    refine ⟨?_, rfl, by simp⟩
    split
    · rename_i q; rw [q.2]
    · rename_i q
      rcases hch with q2 | q2
      · exact absurd q2 q
      · rw [if_pos q2, q2.2]
  · have nP : ¬ (4 ≤ K i ∧ c = P i) := fun q => hn ⟨by have := (wf i hi q.1).1; omega, by rw [q.2]; exact ht.2.1 i hi q.1⟩
    have nQ : ¬ (7 ≤ K i ∧ c = Q i) := fun q => hn ⟨by have := (wf i hi (by omega)).2; omega, by rw [q.2]; exact (ht.2.2.1 i hi q.1).1⟩
    have nn : ¬ ((4 ≤ K i ∧ c = P i) ∨ (7 ≤ K i ∧ c = Q i)) := fun q => q.elim nP nQ
    have hv : vs_B N par (i + 1) c = vs_B N par i c := by
      unfold vs_B
      by_cases e : c + 1 = N
      · rw [decide_eq_true e]; rfl
      · have : par c ≠ i := fun q => hn ⟨by omega, q⟩
        by_cases e2 : i + 1 ≤ par c
        · rw [decide_eq_true e2, decide_eq_true (show i ≤ par c by omega)]
        · rw [decide_eq_false e2, decide_eq_false (show ¬ i ≤ par c by omega)]
    rw [if_neg nP, if_neg nQ, if_neg nn, if_neg nn, h1, h2, hv]
    refine ⟨rfl, rfl, ?_⟩
    by_cases e : c = i
    · rw [e, hF1, if_pos (by omega)]
    · rw [hF2 c e, h3]
      by_cases e2 : i + 1 ≤ c
      · rw [if_pos e2, if_pos (by omega)]
      · rw [if_neg e2, if_neg (by omega)]
        by_cases e3 : c + 1 < N
        · have : par c ≠ i := fun q => hn ⟨e3, q⟩
          by_cases e4 : i + 1 ≤ par c
          · rw [decide_eq_true e4, decide_eq_true (show i ≤ par c by omega)]
          · rw [decide_eq_false e4, decide_eq_false (show ¬ i ≤ par c by omega)]
        · rw [decide_eq_false e3]; rfl
end
section
/- Y: the loops of finish -/
theorem yn_216 {post : SY → Prop} {g_made g_depth g_size g_begun g_over g_ticks g_present g_absent g_any g_lastPresent g_lastAbsent : Int32} {b_sorts b_numbers b_firsts b_seconds b_stack b_around b_alive b_mustEmit b_canEmit b_mustEnd b_canEnd b_done b_frozen b_killed b_after : Nat → Int32} {N : Nat} {nw o : Nat → Bool} (hN : N ≤ 16) (hs : g_size = nI N) (hA : ∀ j, j < N → b_after j = bo_I (nw j)) (hoN : ∀ j, o j = true → j < N)
    (hp : ∀ B, (∀ j, j < 16 → B j = bo_I (decide (j < N) && nw j)) → post (g_made, g_depth, g_size, 1, g_over, g_ticks + 1, g_present, g_absent, g_any, g_lastPresent, g_lastAbsent, b_sorts, b_numbers, b_firsts, b_seconds, b_stack, b_around, B, b_alive, b_mustEmit, b_canEmit, b_mustEnd, b_canEnd, b_done, b_frozen, b_killed, b_after)) :
    ∀ t i B, i + t = N → (∀ j, j < i → B j = bo_I (nw j)) → (∀ j, i ≤ j → j < 16 → B j = bo_I (o j)) → wY_finish_216 post g_made g_depth g_size g_begun g_over g_ticks g_present g_absent g_any g_lastPresent g_lastAbsent (t + 1) (nI i) b_sorts b_numbers b_firsts b_seconds b_stack b_around B b_alive b_mustEmit b_canEmit b_mustEnd b_canEnd b_done b_frozen b_killed b_after := by
  intro t
  induction t with
  | zero =>
    intro i B hi h1 h2
    refine br_t ?_ (nm_e (hp B (fun j hj => ?_)))
    · rw [hs]; exact nI_le (by omega) (by omega)
    · by_cases e : j < N
      · rw [h1 j (by omega), decide_eq_true e, Bool.true_and]
      · rw [h2 j (by omega) hj, decide_eq_false e, Bool.false_and]
        cases q : o j
        · rfl
        · exact absurd (hoN j q) e
  | succ t ih =>
    intro i B hi h1 h2
    have hc : (nI i).toNatClampNeg = i := nI_clamp (by omega)
    have vi : vp_in (nI i) 16 := vp_in_nI (by omega) (by omega)
    refine br_f ?_ ⟨vi, vi, ?_⟩
    · rw [hs]; exact nI_ge (by omega) (by omega)
    rw [hc, hA i (by omega), bo_nar]
    refine nm_e (nm_r (nI_1 i) (ih (i + 1) _ (by omega) (lt_s (fun j hj => ?_) pk_us) (fun j hj h16 => ?_)))
    · rw [pk_un (by omega)]; exact h1 j hj
    · rw [pk_un (by omega)]; exact h2 j (by omega) h16
theorem yn_192 {post : SY → Prop} {J : Int32 → (Nat → Int32) → (Nat → Int32) → (Nat → Int32) → (Nat → Int32) → (Nat → Int32) → (Nat → Int32) → (Nat → Int32) → (Nat → Int32) → (Nat → Int32) → (Nat → Int32) → (Nat → Int32) → (Nat → Int32) → (Nat → Int32) → (Nat → Int32) → (Nat → Int32) → (Nat → Int32) → Prop} {g_made g_depth g_size g_begun g_over g_ticks g_present g_absent g_any g_lastPresent g_lastAbsent : Int32} {b_sorts b_numbers b_firsts b_seconds b_stack b_around b_on b_alive b_mustEmit b_canEmit b_mustEnd b_canEnd b_done b_frozen b_killed : Nat → Int32} {A : Nat → Int32} {i : Nat} {nw : Nat → Bool} {b k : Bool} (hi : i < 16) (hL : b_killed i = bo_I k) (hA : ∀ j, j < i → A j = bo_I (nw j)) (hb : A i = bo_I b) (hn : nw i = (b && !k))
    (h : ∀ A', (∀ j, j < i + 1 → A' j = bo_I (nw j)) → J (nI (i + 1)) b_sorts b_numbers b_firsts b_seconds b_stack b_around b_on b_alive b_mustEmit b_canEmit b_mustEnd b_canEnd b_done b_frozen b_killed A') : wY_finish_192 post J (nI i) g_made g_depth g_size g_begun g_over g_ticks g_present g_absent g_any g_lastPresent g_lastAbsent b_sorts b_numbers b_firsts b_seconds b_stack b_around b_on b_alive b_mustEmit b_canEmit b_mustEnd b_canEnd b_done b_frozen b_killed A := by
  have hc : (nI i).toNatClampNeg = i := nI_clamp (by omega)
  have vi : vp_in (nI i) 16 := vp_in_nI (by omega) (by omega)
  unfold wY_finish_192
  rw [hc, hL]
  refine ⟨vi, bo_br k (fun t => nm_r (nI_1 i) (h _ (lt_s hA ?_))) (fun t => ⟨vi, nm_e (nm_r (nI_1 i) (h _ (lt_s (fun j hj => ?_) ?_)))⟩)⟩
  · rw [hb, hn, t]; simp
  · rw [pk_un (by omega)]; exact hA j hj
  · rw [pk_us, hn, t]; simp; rfl
theorem yn_153 {post : SY → Prop} {J : Int32 → (Nat → Int32) → (Nat → Int32) → (Nat → Int32) → (Nat → Int32) → (Nat → Int32) → (Nat → Int32) → (Nat → Int32) → (Nat → Int32) → (Nat → Int32) → (Nat → Int32) → (Nat → Int32) → (Nat → Int32) → (Nat → Int32) → (Nat → Int32) → (Nat → Int32) → (Nat → Int32) → Prop} {g_made g_depth g_size g_begun g_over g_ticks g_present g_absent g_any g_lastPresent g_lastAbsent : Int32} {b_sorts b_numbers b_firsts b_seconds b_stack b_around b_on b_alive b_mustEmit b_canEmit b_mustEnd b_canEnd b_done b_frozen b_killed : Nat → Int32} {A : Nat → Int32} {N pr ab i : Nat} {K M P Q par d : Nat → Nat} {w : Nat → Int32} {o al is nw : Nat → Bool} {fi b k : Bool} (hN : N ≤ 16) (hi : i < N) (hg : pg_Y N K M P Q b_sorts b_numbers b_firsts b_seconds)
    (ht : tb_Y K M P Q pr ab o al b_mustEmit b_canEmit b_mustEnd b_canEnd N)
    (hd : dm_W N K P Q par w o al is (eS_T K M P Q pr ab) (eR_T K M P Q pr ab o al) d fi) (hD : ∀ c, c < N → b_done c = nI (d c))
    (hL : b_killed i = bo_I k) (hA : ∀ j, j < i → A j = bo_I (nw j)) (hb : A i = bo_I b)
    (hn : nw i = ((b || (decide (K i = 4) && decide (d i ≠ 0) && decide (cd_E (eS_T K M P Q pr ab) (eR_T K M P Q pr ab o al) (d (P i)) (P i) % 2 = 1))) && !k))
    (h : ∀ A', (∀ j, j < i + 1 → A' j = bo_I (nw j)) → J (nI (i + 1)) b_sorts b_numbers b_firsts b_seconds b_stack b_around b_on b_alive b_mustEmit b_canEmit b_mustEnd b_canEnd b_done b_frozen b_killed A') : wY_finish_153 post J (nI i) g_made g_depth g_size g_begun g_over g_ticks g_present g_absent g_any g_lastPresent g_lastAbsent b_sorts b_numbers b_firsts b_seconds b_stack b_around b_on b_alive b_mustEmit b_canEmit b_mustEnd b_canEnd b_done b_frozen b_killed A := by
  obtain ⟨g1, g2, g3, g4, g5, g6, g7, g8⟩ := hg i hi
  have hc : (nI i).toNatClampNeg = i := nI_clamp (by omega)
  have vi : vp_in (nI i) 16 := vp_in_nI (by omega) (by omega)
  have vi32 : vp_in (nI i) 32 := vp_in_nI (by omega) (by omega)
  have l2 := dm_012 hd _ i rfl hi
  unfold wY_finish_153
  rw [hc, g1, hD i hi, g4]
  refine ⟨vi32, pk_eq (K i) 4 (fun z => ⟨vi, ?_⟩) (fun z => ?_)⟩
  · refine pk_le (d i) 0 (fun y => ?_) (fun y => ⟨vi32, ?_⟩)
    · refine yn_192 (by omega) hL hA hb ?_ h
      rw [hn, show d i = 0 by omega]; simp
    · have g8' := g8 (by omega)
      have hPN : P i < N := by omega
      have lP2 := dm_012 hd _ (P i) rfl hPN
      have aP2 := dm_al hd _ (P i) rfl hPN
      have dP : d (P i) ≠ 0 := by
        rw [dm_P hd hi (by omega)]; unfold wy_P
        rw [if_neg (by omega), if_pos z]; split <;> omega
      have hmv := yc_mv hPN ht dP lP2 aP2
      refine yc_code (dc := d (P i)) hN hPN ht (hD _ hPN) lP2 aP2 ?_
      rw [if_neg dP, yz_01 hmv]
      rw [decide_eq_true z, decide_eq_true (show d i ≠ 0 by omega)] at hn
      generalize cd_E (eS_T K M P Q pr ab) (eR_T K M P Q pr ab o al) (d (P i)) (P i) = x at hn hmv ⊢
      refine br_c (fun q => ⟨vi, nm_e ?_⟩) (fun q => ?_)
      · rw [decide_eq_true q] at hn
        refine yn_192 (b := true) (by omega) hL (fun j hj => ?_) pk_us ?_ h
        · rw [pk_un (by omega)]; exact hA j hj
        · rw [hn]; simp
      · rw [decide_eq_false q] at hn
        refine yn_192 (by omega) hL hA hb ?_ h
        rw [hn]; simp
  · refine yn_192 (by omega) hL hA hb ?_ h
    rw [hn, decide_eq_false z]; simp
theorem yn_89 {post : SY → Prop} {g_made g_depth g_size g_begun g_over g_ticks g_present g_absent g_any g_lastPresent g_lastAbsent : Int32} {b_sorts b_numbers b_firsts b_seconds b_stack b_around b_on b_alive b_mustEmit b_canEmit b_mustEnd b_canEnd b_done b_frozen b_killed : Nat → Int32} {N pr ab : Nat} {K M P Q par d : Nat → Nat} {w : Nat → Int32} {o al is fz kl : Nat → Bool} {fi : Bool} (hN : N ≤ 16) (hs : g_size = nI N) (hg : pg_Y N K M P Q b_sorts b_numbers b_firsts b_seconds)
    (ht : tb_Y K M P Q pr ab o al b_mustEmit b_canEmit b_mustEnd b_canEnd N) (ho : ∀ j, j < 16 → b_on j = bo_I (o j))
    (hd : dm_W N K P Q par w o al is (eS_T K M P Q pr ab) (eR_T K M P Q pr ab o al) d fi) (hD : ∀ c, c < N → b_done c = nI (d c)) (hF : ∀ c, c < N → b_frozen c = bo_I (fz c)) (hL : ∀ c, c < N → b_killed c = bo_I (kl c))
    (hp : ∀ A B, (∀ j, j < 16 → B j = bo_I (decide (j < N) && nw_B K P d (eS_T K M P Q pr ab) (eR_T K M P Q pr ab o al) o fz kl j)) → post (g_made, g_depth, g_size, 1, g_over, g_ticks + 1, g_present, g_absent, g_any, g_lastPresent, g_lastAbsent, b_sorts, b_numbers, b_firsts, b_seconds, b_stack, b_around, B, b_alive, b_mustEmit, b_canEmit, b_mustEnd, b_canEnd, b_done, b_frozen, b_killed, A)) :
    ∀ t i A, i + t = N → (∀ j, j < i → A j = bo_I (nw_B K P d (eS_T K M P Q pr ab) (eR_T K M P Q pr ab o al) o fz kl j)) → wY_finish_89 post g_made g_depth g_size g_begun g_over g_ticks g_present g_absent g_any g_lastPresent g_lastAbsent (t + 1) (nI i) b_sorts b_numbers b_firsts b_seconds b_stack b_around b_on b_alive b_mustEmit b_canEmit b_mustEnd b_canEnd b_done b_frozen b_killed A := by
  intro t
  induction t with
  | zero =>
    intro i A hi hA
    refine br_t ?_ ⟨N + 1, yn_216 (o := o) hN hs ((show i = N by omega) ▸ hA) (fun j q => (hd.2.2.2.2.1.2 j q).1) (fun B hB => hp A B hB) N 0 b_on (by omega) (fun j hj => absurd hj (by omega)) (fun j _ hj => ho j hj)⟩
    rw [hs]; exact nI_le (by omega) (by omega)
  | succ t ih =>
    intro i A hi hA
    have hiN : i < N := by omega
    obtain ⟨g1, g2, g3, g4, g5, g6, g7, g8⟩ := hg i hiN
    have hc : (nI i).toNatClampNeg = i := nI_clamp (by omega)
    have vi : vp_in (nI i) 16 := vp_in_nI (by omega) (by omega)
    have vi32 : vp_in (nI i) 32 := vp_in_nI (by omega) (by omega)
    have l2 := dm_012 hd _ i rfl hiN
    have h2 : ∀ A', (∀ j, j < i + 1 → A' j = bo_I (nw_B K P d (eS_T K M P Q pr ab) (eR_T K M P Q pr ab o al) o fz kl j)) → wY_finish_89 post g_made g_depth g_size g_begun g_over g_ticks g_present g_absent g_any g_lastPresent g_lastAbsent (t + 1) (nI (i + 1)) b_sorts b_numbers b_firsts b_seconds b_stack b_around b_on b_alive b_mustEmit b_canEmit b_mustEnd b_canEnd b_done b_frozen b_killed A' := fun A' h => ih (i + 1) A' (by omega) h
    have k153 : ∀ A' b, (∀ j, j < i → A' j = A j) → A' i = bo_I b → ((o i && fz i) || (decide (K i = 1) && decide (d i = 1))) = b → wY_finish_153 post (wY_finish_89 post g_made g_depth g_size g_begun g_over g_ticks g_present g_absent g_any g_lastPresent g_lastAbsent (t + 1)) (nI i) g_made g_depth g_size g_begun g_over g_ticks g_present g_absent g_any g_lastPresent g_lastAbsent b_sorts b_numbers b_firsts b_seconds b_stack b_around b_on b_alive b_mustEmit b_canEmit b_mustEnd b_canEnd b_done b_frozen b_killed A' := by
      intro A' b e1 e2 e3
      refine yn_153 (b := b) (k := kl i) hN hiN hg ht hd hD (hL i hiN) (fun j hj => by rw [e1 j hj]; exact hA j hj) e2 ?_ h2
      unfold nw_B pr_B; rw [e3]
    have k125 : ∀ b, (o i && fz i) = b → wY_finish_125 post (wY_finish_89 post g_made g_depth g_size g_begun g_over g_ticks g_present g_absent g_any g_lastPresent g_lastAbsent (t + 1)) (nI i) (bo_I b) (nI i) g_made g_depth g_size g_begun g_over g_ticks g_present g_absent g_any g_lastPresent g_lastAbsent b_sorts b_numbers b_firsts b_seconds b_stack b_around b_on b_alive b_mustEmit b_canEmit b_mustEnd b_canEnd b_done b_frozen b_killed A := by
      intro b hb
      unfold wY_finish_125
      rw [hc, bo_nar, g1, hD i hiN]
      refine ⟨vi, nm_e ⟨vi32, pk_eq (K i) 1 (fun z => ⟨vi, pk_eq (d i) 1 (fun y => ⟨vi, nm_e ?_⟩) (fun y => ?_)⟩) (fun z => ?_)⟩⟩
      · refine k153 _ true (fun j hj => ?_) pk_us ?_
        · rw [pk_un (by omega), pk_un (by omega)]
        · rw [decide_eq_true z, decide_eq_true y]; simp
      · refine k153 _ b (fun j hj => pk_un (by omega)) pk_us ?_
        rw [decide_eq_false y, hb]; simp
      · refine k153 _ b (fun j hj => pk_un (by omega)) pk_us ?_
        rw [decide_eq_false z, hb]; simp
    refine br_f ?_ ⟨vi, ?_⟩
    · rw [hs]; exact nI_ge (by omega) (by omega)
    rw [hc, ho i (by omega), hF i hiN]
    refine bo_br (o i) (fun z => ?_) (fun z => ⟨vi, bo_br (fz i) (fun y => ?_) (fun y => ?_)⟩)
    · have := k125 false (by rw [z]; rfl)
      exact this
    · have := k125 false (by rw [z, y]; rfl)
      exact this
    · have := k125 true (by rw [z, y]; rfl)
      exact this
theorem yn_67 {post : SY → Prop} {g_made g_depth g_size g_begun g_over g_ticks g_absent g_any g_lastPresent g_lastAbsent : Int32} {b_sorts b_numbers b_firsts b_seconds b_stack b_around b_on b_alive b_mustEmit b_canEmit b_mustEnd b_canEnd : Nat → Int32} {N pr ab : Nat} {K M P Q par d : Nat → Nat} {w : Nat → Int32} {o al is fz kl : Nat → Bool} {fi : Bool} (hN : N ≤ 16) (hsz : g_size = nI N) (hg : pg_Y N K M P Q b_sorts b_numbers b_firsts b_seconds)
    (ht : tb_Y K M P Q pr ab o al b_mustEmit b_canEmit b_mustEnd b_canEnd N) (ho : ∀ j, j < 16 → b_on j = bo_I (o j)) (hal : ∀ j, j < N → b_alive j = bo_I (al j)) (hs : hs_W N K M is pr ab)
    (hd : dm_W N K P Q par w o al is (eS_T K M P Q pr ab) (eR_T K M P Q pr ab o al) d fi) (hf : fk_W N K P par d (eS_T K M P Q pr ab) (eR_T K M P Q pr ab o al) is fz kl)
    (hp : ∀ D F L A B, (∀ j, j < 16 → B j = bo_I (decide (j < N) && nw_B K P d (eS_T K M P Q pr ab) (eR_T K M P Q pr ab o al) o fz kl j)) → post (g_made, g_depth, g_size, 1, g_over, g_ticks + 1, nI pr, g_absent, g_any, g_lastPresent, g_lastAbsent, b_sorts, b_numbers, b_firsts, b_seconds, b_stack, b_around, B, b_alive, b_mustEmit, b_canEmit, b_mustEnd, b_canEnd, D, F, L, A)) :
    ∀ m D F L A, m ≤ N → yI_W N par d fz kl m D F L → wY_finish_67 post (m + 1) (nI m + (-1)) g_made g_depth g_size g_begun g_over g_ticks (nI pr) g_absent g_any g_lastPresent g_lastAbsent b_sorts b_numbers b_firsts b_seconds b_stack b_around b_on b_alive b_mustEmit b_canEmit b_mustEnd b_canEnd D F L A := by
  have htr := hd.2.1
  have wf := hd.2.2.1
  intro m
  induction m with
  | zero =>
    intro D F L A _ h
    refine br_t (by decide) ⟨N + 1, ?_⟩
    have v0 : ∀ c, c < N → vs_B N par 0 c = true := fun c hc => by unfold vs_B; simp
    refine yn_89 hN hsz hg ht ho hd (fun c hc => ?_) (fun c hc => ?_) (fun c hc => ?_) (fun A B hB => hp D F L A B hB) N 0 A (by omega) (fun j hj => absurd hj (by omega))
    · have := (h c hc).1; rw [v0 c hc, if_pos rfl] at this; exact this
    · have := (h c hc).2.2; rw [if_pos (by omega)] at this; exact this
    · have := (h c hc).2.1; rw [v0 c hc, Bool.true_and] at this; exact this
  | succ i ih =>
    intro D F L A hm h
    have hi : i < N := by omega
    have hv1 := vs_i (m := i + 1) htr hi (by omega)
    rw [pk_m1]
    refine br_f (nI_pos (by omega)) ?_
    obtain ⟨d1, d2, d3⟩ := h i hi
    rw [hv1, if_pos rfl] at d1
    rw [hv1, Bool.true_and] at d2
    rw [if_neg (by omega)] at d3
    have vQ : 7 ≤ K i → vs_B N par (i + 1) (Q i) = false := fun h7 => by
      have := (wf i hi (by omega)).2
      unfold vs_B
      rw [(htr.2.2.1 i hi h7).1, decide_eq_false (show ¬ Q i + 1 = N by omega), decide_eq_false (show ¬ i + 1 ≤ i by omega)]; rfl
    have zP : 4 ≤ K i → D (P i) = nI 0 ∧ L (P i) = 0 ∧ F (P i) = 0 := fun h4 => by
      have hp := (wf i hi h4).1
      obtain ⟨e1, e2, e3⟩ := h (P i) (by omega)
      rw [vs_c htr wf hi h4] at e1 e2
      rw [if_neg (by omega), htr.2.1 i hi h4, decide_eq_false (show ¬ i + 1 ≤ i by omega)] at e3
      exact ⟨e1, e2, by rw [e3]; simp; rfl⟩
    have zQ : 7 ≤ K i → D (Q i) = nI 0 ∧ L (Q i) = 0 ∧ F (Q i) = 0 := fun h7 => by
      have hp := (wf i hi (by omega)).2
      obtain ⟨e1, e2, e3⟩ := h (Q i) (by omega)
      rw [vQ h7] at e1 e2
      rw [if_neg (by omega), (htr.2.2.1 i hi h7).1, decide_eq_false (show ¬ i + 1 ≤ i by omega)] at e3
      exact ⟨e1, e2, by rw [e3]; simp; rfl⟩
    refine yp_p hN hi hg ht (ho i (by omega)) hal hd hs d1 (fun h4 => (zP h4).1) (fun h7 => (zQ h7).1) (fun D' hD' => ?_)
    have hfz : fz i = (fr_S K d is i || (decide (i + 1 < N) && fz (par i))) := by
      by_cases e : i + 1 < N
      · rw [hf.2.1 i e, decide_eq_true e, Bool.true_and]
      · have hi1 : i = N - 1 := by omega
        rw [decide_eq_false e, Bool.false_and, Bool.or_false, hi1]; exact hf.1
    have hF1 : (if fr_S K d is i = true then upd F i 1 else F) i = bo_I (fz i) := by
      rw [hfz]
      split
      · rename_i q; rw [pk_us, q]; rfl
      · rename_i q
        have : fr_S K d is i = false := by cases hh : fr_S K d is i; rfl; exact absurd hh q
        rw [this, Bool.false_or, d3]
        by_cases e : i + 1 < N
        · have := (htr.1 i e).1
          rw [decide_eq_true (show i + 1 ≤ par i by omega), Bool.and_true]
        · rw [decide_eq_false e]; rfl
    have hF2 : ∀ c, c ≠ i → (if fr_S K d is i = true then upd F i 1 else F) c = F c := by
      intro c hc
      split
      · exact pk_un hc
      · rfl
    have nPi : 4 ≤ K i → P i ≠ i := fun h4 => by have := (wf i hi h4).1; omega
    have nQi : 7 ≤ K i → Q i ≠ i := fun h7 => by have := (wf i hi (by omega)).2; omega
    refine ys_p (f := fz i) (k := kl i) hN hi hg ht hd ?_ (fun h4 => ?_) hF1 d2 (fun h4 => (zP h4).2.1) (fun h7 => (zQ h7).2.1) (fun h4 => ?_) (fun h7 => ?_) (fun L' F' hL' hF' => nm_e ?_)
    · rw [hD' i hi, if_neg (fun q => nPi q.1 q.2.symm), if_neg (fun q => nQi q.1 q.2.symm)]; exact d1
    · rw [hD' (P i) (by have := (wf i hi h4).1; omega), if_pos ⟨h4, rfl⟩]
    · rw [hF2 _ (nPi h4)]; exact (zP h4).2.2
    · rw [hF2 _ (nQi h7)]; exact (zQ h7).2.2
    · exact ih D' F' L' A (by omega) (yI_s htr wf hf hi h hD' hF1 hF2 hL' hF')
theorem yn_2 {post : SY → Prop} {g_made g_depth g_size g_begun g_over g_ticks g_absent g_any g_lastPresent g_lastAbsent : Int32} {b_sorts b_numbers b_firsts b_seconds b_stack b_around b_on b_alive b_mustEmit b_canEmit b_mustEnd b_canEnd b_after : Nat → Int32} {N pr ab : Nat} {K M P Q par d : Nat → Nat} {w : Nat → Int32} {o al is fz kl : Nat → Bool} {fi : Bool} (hN : N ≤ 16) (hsz : g_size = nI N) (hb : g_begun = bo_I (!fi)) (hg : pg_Y N K M P Q b_sorts b_numbers b_firsts b_seconds)
    (ht : tb_Y K M P Q pr ab o al b_mustEmit b_canEmit b_mustEnd b_canEnd N) (ho : ∀ j, j < 16 → b_on j = bo_I (o j)) (hal : ∀ j, j < N → b_alive j = bo_I (al j)) (hs : hs_W N K M is pr ab)
    (hd : dm_W N K P Q par w o al is (eS_T K M P Q pr ab) (eR_T K M P Q pr ab o al) d fi) (hf : fk_W N K P par d (eS_T K M P Q pr ab) (eR_T K M P Q pr ab o al) is fz kl)
    (hp : ∀ D F L A B, (∀ j, j < 16 → B j = bo_I (decide (j < N) && nw_B K P d (eS_T K M P Q pr ab) (eR_T K M P Q pr ab o al) o fz kl j)) → post (g_made, g_depth, g_size, 1, g_over, g_ticks + 1, nI pr, g_absent, g_any, g_lastPresent, g_lastAbsent, b_sorts, b_numbers, b_firsts, b_seconds, b_stack, b_around, B, b_alive, b_mustEmit, b_canEmit, b_mustEnd, b_canEnd, D, F, L, A)) :
    ∀ t i D F L, i + t = N → (∀ c, c < i → D c = 0 ∧ F c = 0 ∧ L c = 0) → wY_finish_2 post g_made g_depth g_size g_begun g_over g_ticks (nI pr) g_absent g_any g_lastPresent g_lastAbsent (t + 1) (nI i) b_sorts b_numbers b_firsts b_seconds b_stack b_around b_on b_alive b_mustEmit b_canEmit b_mustEnd b_canEnd D F L b_after := by
  have hN1 := hd.1
  have htr := hd.2.1
  have hd0 := hd.2.2.2.2.2.2.2.2.1
  intro t
  induction t with
  | zero =>
    intro i D F L hi h
    have hz : g_size - 1 = nI (N - 1) := by rw [hsz]; exact pk_sub (a := N) (b := 1) hN1
    have hz2 : nI (N - 1) = nI N + (-1) := by
      have := pk_m1 (N - 1)
      rw [show N - 1 + 1 = N by omega] at this; exact this.symm
    have vN : vp_in (nI (N - 1)) 16 := vp_in_nI (by omega) (by omega)
    have cN : (nI (N - 1)).toNatClampNeg = N - 1 := nI_clamp (by omega)
    have hinv : ∀ v, v = nI (d (N - 1)) → yI_W N par d fz kl N (upd D (N - 1) v) F L := by
      intro v hv c hc
      obtain ⟨z1, z2, z3⟩ := h c (by omega)
      by_cases e : c + 1 < N
      · have hv0 : vs_B N par N c = false := by
          have := (htr.1 c e).2.1
          unfold vs_B
          rw [decide_eq_false (show ¬ c + 1 = N by omega), decide_eq_false (show ¬ N ≤ par c by omega)]; rfl
        have := (htr.1 c e).2.1
        rw [hv0, pk_un (by omega), z1, z2, z3, if_neg (show ¬ false = true by decide), if_neg (show ¬ N ≤ c by omega), decide_eq_false (show ¬ N ≤ par c by omega), Bool.and_false, Bool.false_and, Bool.false_and]
        exact ⟨rfl, rfl, rfl⟩
      · have hc1 : c = N - 1 := by omega
        have hv1 : vs_B N par N c = true := by unfold vs_B; rw [decide_eq_true (show c + 1 = N by omega)]; rfl
        rw [hv1, z2, z3, hc1, pk_us, hv, if_pos rfl, if_neg (by omega), hf.2.2.1, decide_eq_false (show ¬ N - 1 + 1 < N by omega)]
        exact ⟨rfl, rfl, rfl⟩
    have fin : ∀ v, v = nI (d (N - 1)) → wY_finish_67 post (N + 1) (nI (N - 1)) g_made g_depth g_size g_begun g_over g_ticks (nI pr) g_absent g_any g_lastPresent g_lastAbsent b_sorts b_numbers b_firsts b_seconds b_stack b_around b_on b_alive b_mustEmit b_canEmit b_mustEnd b_canEnd (upd D (N - 1) v) F L b_after := by
      intro v hv
      have := yn_67 (g_begun := g_begun) hN hsz hg ht ho hal hs hd hf hp N _ _ _ b_after (by omega) (hinv v hv)
      rw [← hz2] at this
      exact this
    refine br_t ?_ ?_
    · rw [hsz]; exact nI_le (by omega) (by omega)
    rw [hb, hz, cN]
    rw [hb] at fin
    refine bo_br (!fi) (fun z => ⟨vN, nm_e (nm_e ⟨N + 1, ?_⟩)⟩) (fun z => ⟨vN, nm_e (nm_e ⟨N + 1, ?_⟩)⟩)
    · refine fin _ ?_
      rw [hd0, show fi = true by cases fi; exact absurd z (by decide); rfl]; rfl
    · refine fin _ ?_
      rw [hd0, show fi = false by cases fi; rfl; exact absurd z (by decide)]; rfl
  | succ t ih =>
    intro i D F L hi h
    have hc : (nI i).toNatClampNeg = i := nI_clamp (by omega)
    have vi : vp_in (nI i) 16 := vp_in_nI (by omega) (by omega)
    refine br_f ?_ ⟨vi, ?_⟩
    · rw [hsz]; exact nI_ge (by omega) (by omega)
    rw [hc]
    refine nm_e ⟨vi, nm_e ⟨vi, nm_e (nm_r (nI_1 i) (ih (i + 1) _ _ _ (by omega) (lt_s (fun c hc => ?_) ⟨pk_us, pk_us, pk_us⟩)))⟩⟩
    rw [pk_un (by omega), pk_un (by omega), pk_un (by omega)]; exact h c hc
theorem yn_p {post : SY → Prop} {g_made g_depth g_size g_begun g_over g_ticks g_absent g_any g_lastPresent g_lastAbsent : Int32} {b_sorts b_numbers b_firsts b_seconds b_stack b_around b_on b_alive b_mustEmit b_canEmit b_mustEnd b_canEnd b_done b_frozen b_killed b_after : Nat → Int32} {N pr ab : Nat} {K M P Q par d : Nat → Nat} {w : Nat → Int32} {o al is fz kl : Nat → Bool} {fi : Bool} (hN : N ≤ 16) (hsz : g_size = nI N) (hb : g_begun = bo_I (!fi)) (hg : pg_Y N K M P Q b_sorts b_numbers b_firsts b_seconds)
    (ht : tb_Y K M P Q pr ab o al b_mustEmit b_canEmit b_mustEnd b_canEnd N) (ho : ∀ j, j < 16 → b_on j = bo_I (o j)) (hal : ∀ j, j < N → b_alive j = bo_I (al j)) (hs : hs_W N K M is pr ab)
    (hd : dm_W N K P Q par w o al is (eS_T K M P Q pr ab) (eR_T K M P Q pr ab o al) d fi) (hf : fk_W N K P par d (eS_T K M P Q pr ab) (eR_T K M P Q pr ab o al) is fz kl)
    (hp : ∀ D F L A B, (∀ j, j < 16 → B j = bo_I (decide (j < N) && nw_B K P d (eS_T K M P Q pr ab) (eR_T K M P Q pr ab o al) o fz kl j)) → post (g_made, g_depth, g_size, 1, g_over, g_ticks + 1, nI pr, g_absent, g_any, g_lastPresent, g_lastAbsent, b_sorts, b_numbers, b_firsts, b_seconds, b_stack, b_around, B, b_alive, b_mustEmit, b_canEmit, b_mustEnd, b_canEnd, D, F, L, A)) : wpY_finish post (g_made, g_depth, g_size, g_begun, g_over, g_ticks, nI pr, g_absent, g_any, g_lastPresent, g_lastAbsent, b_sorts, b_numbers, b_firsts, b_seconds, b_stack, b_around, b_on, b_alive, b_mustEmit, b_canEmit, b_mustEnd, b_canEnd, b_done, b_frozen, b_killed, b_after) :=
  ⟨N + 1, yn_2 hN hsz hb hg ht ho hal hs hd hf hp N 0 _ _ _ (by omega) (fun c hc => absurd hc (by omega))⟩
end
section
/- must lies within can; the codes' equations; the instant's ghosts -/
def sb_N (a b : Nat) : Prop := ∀ i, a.testBit i = true → b.testBit i = true
theorem sb_a {a b : Nat} : sb_N a b ↔ a &&& b = a := by
  constructor
  · intro h
    apply Nat.eq_of_testBit_eq
    intro i
    rw [Nat.testBit_and]
    cases q : a.testBit i
    · rfl
    · rw [h i q]; rfl
  · intro h i q
    have := congrArg (fun n => n.testBit i) h
    rw [Nat.testBit_and, q] at this
    simpa using this
theorem sb_or {a b c d : Nat} (h : sb_N a c) (k : sb_N b d) : sb_N (a ||| b) (c ||| d) := by
  intro i q
  rw [Nat.testBit_or, Bool.or_eq_true] at q ⊢
  rcases q with q | q
  · exact Or.inl (h i q)
  · exact Or.inr (k i q)
theorem sb_or1 {a c d : Nat} (h : sb_N a c) : sb_N a (c ||| d) := by
  intro i q
  rw [Nat.testBit_or, Bool.or_eq_true]; exact Or.inl (h i q)
theorem sb_0 {a : Nat} : sb_N 0 a := by intro i q; rw [Nat.zero_testBit] at q; cases q
theorem sb_r {a : Nat} : sb_N a a := fun _ q => q
theorem sz_o : ∀ c, c < 32 → ∀ d, d < 32 → c &&& d = c → co_o c &&& co_o d = co_o c := by decide +kernel
theorem sz_t : ∀ c, c < 32 → ∀ d, d < 32 → c &&& d = c → co_t c &&& co_t d = co_t c := by decide +kernel
theorem sz_1 : ∀ c, c < 32 → ∀ d, d < 32 → c &&& d = c → c % 2 = 1 → d % 2 = 1 ∧ (c - 1) &&& (d - 1) = c - 1 := by decide +kernel
theorem sz_2 : ∀ c, c < 32 → ∀ d, d < 32 → c &&& d = c → ¬ c % 2 = 1 → d % 2 = 1 → c &&& (d - 1) = c := by decide +kernel
theorem sz_g : ∀ c, c < 32 → ∀ d, d < 32 → ∀ m, m < 5 → (co_g c d).testBit m = ((c.testBit m && decide (d % 2 ^ (m + 1) ≠ 0)) || (d.testBit m && decide (c % 2 ^ (m + 1) ≠ 0))) := by decide +kernel
theorem sz_m' : ∀ m, m < 5 → ∀ c, c < 32 → ∀ d, d < 32 → c &&& d = c → d % 2 ^ (m + 1) = 0 → c % 2 ^ (m + 1) = 0 := by decide +kernel
theorem sz_m {c d : Nat} (h1 : c < 32) (h2 : d < 32) (h : c &&& d = c) (m : Nat) (hm : m < 5) (h3 : c % 2 ^ (m + 1) ≠ 0) : d % 2 ^ (m + 1) ≠ 0 := fun z => h3 (sz_m' m hm c h1 d h2 h z)
def sb_V (v w : Nat × Nat) : Prop := sb_N v.1 w.1 ∧ sb_N v.2 w.2
theorem sv_o {v w : Nat × Nat} (h1 : vv_ok v) (h2 : vv_ok w) (h : sb_V v w) : sb_V (vo_v v) (vo_v w) := ⟨h.1, sb_a.mpr (sz_o _ h1.2 _ h2.2 (sb_a.mp h.2))⟩
theorem sv_t {v w : Nat × Nat} (h1 : vv_ok v) (h2 : vv_ok w) (h : sb_V v w) : sb_V (vt_r v) (vt_r w) := ⟨h.1, sb_a.mpr (sz_t _ h1.2 _ h2.2 (sb_a.mp h.2))⟩
theorem sv_i {v w v' w' : Nat × Nat} (h1 : vv_ok v) (h2 : vv_ok w) (h : sb_V v w) (h' : sb_V v' w') : sb_V (vi_t v v') (vi_t w w') := by
  have ha := sb_a.mp h.2
  unfold vi_t
  by_cases q : v.2 % 2 = 1
  · obtain ⟨e1, e2⟩ := sz_1 _ h1.2 _ h2.2 ha q
    rw [if_pos q, if_pos e1]
    exact ⟨sb_or h.1 h'.1, sb_or (sb_a.mpr e2) h'.2⟩
  · rw [if_neg q]
    by_cases q2 : w.2 % 2 = 1
    · rw [if_pos q2]
      exact ⟨sb_or1 h.1, sb_or1 (sb_a.mpr (sz_2 _ h1.2 _ h2.2 ha q q2))⟩
    · rw [if_neg q2]; exact h
theorem sv_g {v w v' w' : Nat × Nat} (h1 : vv_ok v) (h2 : vv_ok w) (h3 : vv_ok v') (h4 : vv_ok w') (h : sb_V v w) (h' : sb_V v' w') : sb_V (vg_t v v') (vg_t w w') := by
  refine ⟨sb_or h.1 h'.1, fun m q => ?_⟩
  have ha := sb_a.mp h.2
  have ha' := sb_a.mp h'.2
  unfold vg_t at q ⊢
  dsimp only at q ⊢
  by_cases hm : m < 5
  · rw [sz_g _ h1.2 _ h3.2 m hm] at q
    rw [sz_g _ h2.2 _ h4.2 m hm]
    simp only [Bool.or_eq_true, Bool.and_eq_true, decide_eq_true_eq] at q ⊢
    rcases q with ⟨a, b⟩ | ⟨a, b⟩
    · exact Or.inl ⟨h.2 m a, sz_m h3.2 h4.2 ha' m hm b⟩
    · exact Or.inr ⟨h'.2 m a, sz_m h1.2 h2.2 ha m hm b⟩
  · have l := pz_gok _ h1.2 _ h3.2
    have : (co_g v.2 v'.2).testBit m = false := Nat.testBit_lt_two_pow (Nat.lt_of_lt_of_le l (Nat.pow_le_pow_right (n := 2) (by decide) (show 5 ≤ m by omega)))
    rw [this] at q; cases q
theorem sv_b {m pr ab : Nat} {v w v' w' : Nat × Nat} (h : sb_V v w) (h' : sb_V v' w') : sb_V (vb_r m pr ab true v v') (vb_r m pr ab false w w') := by
  unfold vb_r
  split
  · exact h
  · split
    · exact h'
    · rw [if_pos rfl]; exact ⟨sb_0, sb_0⟩
theorem sv_h {m pr ab : Nat} {v w : Nat × Nat} (h : sb_V v w) : sb_V (vh_b m pr ab true v) (vh_b m pr ab false w) := by
  unfold vh_b
  split
  · exact ⟨sb_r, sb_r⟩
  · split
    · exact h
    · rw [if_pos rfl]; exact ⟨sb_0, sb_0⟩
theorem sv_SS {k m pr ab : Nat} {v w v' w' : Nat × Nat} (o1 : 4 ≤ k → vv_ok v) (o2 : 4 ≤ k → vv_ok w) (o3 : 4 ≤ k → vv_ok v') (o4 : 4 ≤ k → vv_ok w') (h : 4 ≤ k → sb_V v w) (h' : 4 ≤ k → sb_V v' w') : sb_V (sv_S k m pr ab true v v') (sv_S k m pr ab false w w') := by
  have hr : ∀ x : Nat × Nat, sb_V x x := fun x => ⟨sb_r, sb_r⟩
  unfold sv_S
  split
  · exact hr _
  split
  · exact hr _
  split
  · exact hr _
  split
  · exact sv_o (o1 (by omega)) (o2 (by omega)) (h (by omega))
  split
  · exact sv_t (o1 (by omega)) (o2 (by omega)) (h (by omega))
  split
  · exact h (by omega)
  split
  · exact sv_i (o1 (by omega)) (o2 (by omega)) (h (by omega)) (h' (by omega))
  split
  · exact sv_g (o1 (by omega)) (o2 (by omega)) (o3 (by omega)) (o4 (by omega)) (h (by omega)) (h' (by omega))
  split
  · exact sv_b (h (by omega)) (h' (by omega))
  · exact hr _
theorem sv_RR {k m pr ab : Nat} {oi ai aP : Bool} {s1 s2 s3 s4 r1 r2 r3 r4 : Nat × Nat} (o1 : 4 ≤ k → vv_ok s1 ∧ vv_ok s2 ∧ vv_ok s3 ∧ vv_ok s4) (o2 : 4 ≤ k → vv_ok r1 ∧ vv_ok r2 ∧ vv_ok r3 ∧ vv_ok r4) (h1 : 4 ≤ k → sb_V s1 s2) (h2 : 4 ≤ k → sb_V s3 s4) (h3 : 4 ≤ k → sb_V r1 r2) (h4 : 4 ≤ k → sb_V r3 r4) :
    sb_V (sv_R k m pr ab true oi ai aP s1 s3 r1 r3) (sv_R k m pr ab false oi ai aP s2 s4 r2 r4) := by
  have hr : ∀ x : Nat × Nat, sb_V x x := fun x => ⟨sb_r, sb_r⟩
  unfold sv_R
  split
  · exact hr _
  split
  · have a := o1 (by omega); have b := o2 (by omega)
    split
    · exact sv_o a.1 a.2.1 (h1 (by omega))
    · exact sv_o b.1 b.2.1 (h3 (by omega))
  split
  · have b := o2 (by omega)
    exact sv_t b.1 b.2.1 (h3 (by omega))
  split
  · exact sv_h (h3 (by omega))
  split
  · have b := o2 (by omega)
    split
    · exact sv_i b.1 b.2.1 (h3 (by omega)) (h2 (by omega))
    · exact h4 (by omega)
  split
  · have b := o2 (by omega)
    exact sv_g b.1 b.2.1 b.2.2.1 b.2.2.2 (h3 (by omega)) (h4 (by omega))
  split
  · split
    · exact h3 (by omega)
    · exact h4 (by omega)
  · exact hr _
theorem tv_SS {N : Nat} {K M P Q : Nat → Nat} {kX mX pX qX : Nat → Int32} (h : pg_X N K M P Q kX mX pX qX) (pr ab : Nat) : ∀ i, i < N → sb_V (tv_S K M P Q pr ab true i) (tv_S K M P Q pr ab false i) := by
  intro i
  induction i using Nat.strongRecOn with
  | _ i ih =>
    intro hi
    rw [tv_Se (pg_wf h) pr ab true hi, tv_Se (pg_wf h) pr ab false hi]
    have wf := pg_wf h i hi
    have hP : 4 ≤ K i → P i < N := fun h4 => by have := (wf h4).1; omega
    have hQ : 4 ≤ K i → Q i < N := fun h4 => by have := (wf h4).2; omega
    exact sv_SS (fun h4 => tv_Sok h pr ab true _ (hP h4)) (fun h4 => tv_Sok h pr ab false _ (hP h4)) (fun h4 => tv_Sok h pr ab true _ (hQ h4)) (fun h4 => tv_Sok h pr ab false _ (hQ h4)) (fun h4 => ih _ (wf h4).1 (hP h4)) (fun h4 => ih _ (wf h4).2 (hQ h4))
theorem tv_RR {N : Nat} {K M P Q : Nat → Nat} {kX mX pX qX : Nat → Int32} (h : pg_X N K M P Q kX mX pX qX) (pr ab : Nat) (o al : Nat → Bool) : ∀ i, i < N → sb_V (tv_R K M P Q pr ab o al true i) (tv_R K M P Q pr ab o al false i) := by
  intro i
  induction i using Nat.strongRecOn with
  | _ i ih =>
    intro hi
    rw [tv_Re (pg_wf h) pr ab o al true hi, tv_Re (pg_wf h) pr ab o al false hi]
    have wf := pg_wf h i hi
    have hP : 4 ≤ K i → P i < N := fun h4 => by have := (wf h4).1; omega
    have hQ : 4 ≤ K i → Q i < N := fun h4 => by have := (wf h4).2; omega
    exact sv_RR (fun h4 => ⟨tv_Sok h pr ab true _ (hP h4), tv_Sok h pr ab false _ (hP h4), tv_Sok h pr ab true _ (hQ h4), tv_Sok h pr ab false _ (hQ h4)⟩) (fun h4 => ⟨tv_Rok h pr ab o al true _ (hP h4), tv_Rok h pr ab o al false _ (hP h4), tv_Rok h pr ab o al true _ (hQ h4), tv_Rok h pr ab o al false _ (hQ h4)⟩)
      (fun h4 => tv_SS h pr ab _ (hP h4)) (fun h4 => tv_SS h pr ab _ (hQ h4)) (fun h4 => ih _ (wf h4).1 (hP h4)) (fun h4 => ih _ (wf h4).2 (hQ h4))
theorem rt_S {N : Nat} {K M P Q : Nat → Nat} {kX mX pX qX : Nat → Int32} (h : pg_X N K M P Q kX mX pX qX) (hN1 : 1 ≤ N) (o al : Nat → Bool) (fi : Bool) (pr ab : Nat) : sb_N (rt_m K M P Q N o al fi pr ab) (rt_c K M P Q N o al fi pr ab) := by
  unfold rt_m rt_c rt_v
  split
  · exact (tv_SS h pr ab _ (by omega)).1
  · exact (tv_RR h pr ab o al _ (by omega)).1
def dj_N (a b : Nat) : Prop := ∀ i, a.testBit i = true → b.testBit i = true → False
theorem fx_dj {rm rc : Nat → Nat → Nat} (hs : ∀ pr ab, sb_N (rm pr ab) (rc pr ab)) (hc : ∀ pr ab, rc pr ab < 64) : ∀ n pr ab, pr < 64 → ab < 64 → dj_N pr ab → dj_N (fx_r rm rc n pr ab).1 (fx_r rm rc n pr ab).2 := by
  intro n
  induction n with
  | zero => intro pr ab _ _ h; exact h
  | succ n ih =>
    intro pr ab h1 h2 h
    unfold fx_r
    split
    · exact h
    · refine ih _ _ (fx_ss rm rc h1 h2).1 (fx_ss rm rc h1 h2).2 (fun i a b => ?_)
      unfold fx_s at a b
      dsimp only at a b
      rw [Nat.testBit_or, Bool.or_eq_true, Nat.testBit_and, Bool.and_eq_true, fx_ub h1 h2] at a b
      rw [fx_ct (hc pr ab)] at b
      simp only [Bool.and_eq_true, decide_eq_true_eq, Bool.not_eq_true', Bool.or_eq_false_iff] at a b
      rcases a with a | ⟨⟨a0, a1, a2⟩, a3⟩
      · rcases b with b | ⟨⟨b0, b1, b2⟩, b3⟩
        · exact h i a b
        · rw [a] at b1; cases b1
      · rcases b with b | ⟨_, _, b3⟩
        · rw [b] at a2; cases a2
        · have := hs pr ab i a3; rw [this] at b3; cases b3
def is_T (M : Nat → Nat) (pr i : Nat) : Bool := pr.testBit (M i)
/-- all signals known: each is just one of present and absent -/
theorem kn_hs {N pr ab : Nat} {K M P Q : Nat → Nat} {kX mX pX qX : Nat → Int32} (h : pg_X N K M P Q kX mX pX qX) (hd : dj_N pr ab) (hk : (pr ||| ab) = 63) : hs_W N K M (is_T M pr) pr ab := by
  intro i hi hc
  refine ⟨rfl, ?_⟩
  show ab.testBit (M i) = !(pr.testBit (M i))
  have hm : M i < 6 := ((h i hi).2.2.1.1 (by omega)).2
  have : (pr ||| ab).testBit (M i) = true := by
    rw [hk]; exact (by decide : ∀ m, m < 6 → (63 : Nat).testBit m = true) _ hm
  rw [Nat.testBit_or] at this
  cases q : pr.testBit (M i)
  · rw [q, Bool.false_or] at this; exact this
  · cases q2 : ab.testBit (M i)
    · rfl
    · exact absurd q2 (fun q2 => hd _ q q2)
theorem kn_ce {N pr ab : Nat} {K M P Q : Nat → Nat} {kX mX pX qX : Nat → Int32} (h : pg_X N K M P Q kX mX pX qX) (o al : Nat → Bool) (hs : hs_W N K M (is_T M pr) pr ab) : ce_W N K M P Q o al (is_T M pr) (eS_T K M P Q pr ab) (eR_T K M P Q pr ab o al) := by
  intro i hi
  have eS : eS_T K M P Q pr ab i = (sv_S (K i) (M i) pr ab true (tv_S K M P Q pr ab true (P i)) (tv_S K M P Q pr ab true (Q i))).2 := by
    unfold eS_T; rw [tv_Se (pg_wf h) pr ab true hi]
  have eR : eR_T K M P Q pr ab o al i = (sv_R (K i) (M i) pr ab true (o i) (al i) (al (P i)) (tv_S K M P Q pr ab true (P i)) (tv_S K M P Q pr ab true (Q i)) (tv_R K M P Q pr ab o al true (P i)) (tv_R K M P Q pr ab o al true (Q i))).2 := by
    unfold eR_T; rw [tv_Re (pg_wf h) pr ab o al true hi]
  rw [eS, eR]
  unfold eS_T eR_T is_T
  refine ⟨fun z => ?_, fun z => ?_, fun z => ?_, fun z => ?_, fun z => ?_, fun z => ?_, fun z => ?_, fun z => ?_, fun z => ?_, fun z => ?_, fun z => ⟨fun k => ?_, fun k => ?_, fun k => ?_, fun k => ?_, fun k => ?_, fun k => ?_, fun k => ?_⟩⟩
  · rcases z with z | z <;> rw [z] <;> rfl
  · rw [z]; rfl
  · rw [z]; rfl
  · rw [z]; rfl
  · rw [z]; rfl
  · rw [z]; rfl
  · rw [z]
    show (vi_t _ _).2 = _
    unfold vi_t co_i; split <;> rfl
  · rw [z]; rfl
  · rw [z]
    show (vb_r _ _ _ _ _ _).2 = _
    have hx : ab.testBit (M i) = !(pr.testBit (M i)) := (hs i hi (Or.inr z)).2
    unfold vb_r
    cases q : pr.testBit (M i)
    · rw [q] at hx
      rw [hx]; rfl
    · rfl
  · rw [z]; rfl
  · rw [z]
    unfold sv_R
    rw [if_neg (by decide), if_neg (by omega), if_neg (by omega), if_neg (by omega), if_neg (by omega), if_neg (by omega), if_neg (by omega)]
  · rw [z, k]
    show (if o i = true then vo_v _ else vo_v _).2 = _
    split <;> rfl
  · rw [z, k]; rfl
  · rw [z, k]
    show (vh_b _ _ _ _ _).2 = _
    have hx : ab.testBit (M i) = !(pr.testBit (M i)) := (hs i hi (Or.inl k)).2
    unfold vh_b
    cases q : pr.testBit (M i)
    · rw [q] at hx
      rw [hx]; rfl
    · rfl
  · rw [z, k]
    show (if al (P i) = true then vi_t _ _ else _).2 = _
    split
    · unfold vi_t co_i; split <;> rfl
    · rfl
  · rw [z, k]; rfl
  · rw [z, k]
    show (if al (P i) = true then tv_R K M P Q pr ab o al true (P i) else tv_R K M P Q pr ab o al true (Q i)).2 = _
    split <;> rfl
end
section
/- one instant, on each side -/
def pr_W (N : Nat) (K M P Q par ar : Nat → Nat) (kX mX pX qX wX kY mY pY qY : Nat → Int32) : Prop := 1 ≤ N ∧ N ≤ 16 ∧ pg_X N K M P Q kX mX pX qX ∧ pg_Y N K M P Q kY mY pY qY ∧ tr_P N K P Q par wX ∧ ar_W N K M P Q ar
def on_R (N : Nat) (K P Q : Nat → Nat) (x : Int32) (w b : Nat → Int32) : Prop := (∀ j, j < 16 → b j = bo_I (bt x j)) ∧ (∀ i, bt x i = true → i < N ∧ (K i = 1 ∨ K i = 4)) ∧ (∀ i, i < N → K i = 7 ∨ K i = 9 → ac_L x w (P i) = true → ac_L x w (Q i) = true → False)
theorem on_RW {N : Nat} {K M P Q par ar : Nat → Nat} {kX mX pX qX wX kY mY pY qY b : Nat → Int32} {x : Int32} (h : pr_W N K M P Q par ar kX mX pX qX wX kY mY pY qY) (ho : on_R N K P Q x wX b) : on_W N K P Q (bt x) (ac_L x wX) :=
  ⟨fun _ hi => tr_al h.2.2.2.2.1 h.2.1 x hi, ho.2.1⟩
/-- the ghosts of an instant -/
theorem gh_x {N pr ab : Nat} {K M P Q par ar : Nat → Nat} {kX mX pX qX wX kY mY pY qY b : Nat → Int32} {x : Int32} {fi : Bool} (h : pr_W N K M P Q par ar kX mX pX qX wX kY mY pY qY) (ho : on_R N K P Q x wX b) (hr : fi = false → ac_L x wX (N - 1) = true) :
    ∃ d fz kl, dm_W N K P Q par wX (bt x) (ac_L x wX) (is_T M pr) (eS_T K M P Q pr ab) (eR_T K M P Q pr ab (bt x) (ac_L x wX)) d fi ∧ fk_W N K P par d (eS_T K M P Q pr ab) (eR_T K M P Q pr ab (bt x) (ac_L x wX)) (is_T M pr) fz kl := by
  have hon := on_RW h ho
  obtain ⟨h1, h16, hx, hy, ht, ha⟩ := h
  have hp : ∀ c, c + 1 < N → c < par c := fun c hc => (ht.1 c hc).1
  obtain ⟨d, d0, d1⟩ := dn_x (N := N) (par := par) (fun c w => if c = P (par c) then wy_P (K (par c)) (bt x (par c)) (ac_L x wX c) (is_T M pr (par c)) w else wy_Q (K (par c)) (ac_L x wX (P (par c))) (ac_L x wX c) (is_T M pr (par c)) (decide (cd_E (eS_T K M P Q pr ab) (eR_T K M P Q pr ab (bt x) (ac_L x wX)) (wy_P (K (par c)) (bt x (par c)) (ac_L x wX (P (par c))) (is_T M pr (par c)) w) (P (par c)) % 2 = 1)) w) (if fi = true then 1 else 2) h1 hp
  obtain ⟨fz, f0, f1⟩ := dn_x (N := N) (par := par) (fun c b => fr_S K d (is_T M pr) c || b) (fr_S K d (is_T M pr) (N - 1)) h1 hp
  obtain ⟨kl, k0, k1⟩ := dn_x (N := N) (par := par) (fun c b => b || st_B K P d (eS_T K M P Q pr ab) (eR_T K M P Q pr ab (bt x) (ac_L x wX)) (par c)) false h1 hp
  refine ⟨d, fz, kl, ⟨h1, ht, pg_wf hx, fun i hi => (hx i hi).2.1, hon, hr, ho.2.2, fun i hi => ?_, d0, d1⟩, f0, f1, k0, k1⟩
  rw [ac_ex]
  constructor
  · rintro ⟨j, _, a, b⟩; exact ⟨j, a, b⟩
  · rintro ⟨j, a, b⟩
    refine ⟨j, ?_, a, b⟩
    rcases Nat.lt_or_ge j 32 with q | q
    · exact q
    · rw [b_big q] at a; cases a
/-- what holds of the new set -/
theorem on_N {N pr ab : Nat} {K M P Q par ar : Nat → Nat} {kX mX pX qX wX kY mY pY qY B : Nat → Int32} {x x' : Int32} {fi : Bool} {d : Nat → Nat} {fz kl : Nat → Bool} (h : pr_W N K M P Q par ar kX mX pX qX wX kY mY pY qY) (hs : hs_W N K M (is_T M pr) pr ab)
    (hd : dm_W N K P Q par wX (bt x) (ac_L x wX) (is_T M pr) (eS_T K M P Q pr ab) (eR_T K M P Q pr ab (bt x) (ac_L x wX)) d fi) (hf : fk_W N K P par d (eS_T K M P Q pr ab) (eR_T K M P Q pr ab (bt x) (ac_L x wX)) (is_T M pr) fz kl)
    (hx : ∀ j, j < 32 → bt x' j = (decide (j < N) && nw_B K P d (eS_T K M P Q pr ab) (eR_T K M P Q pr ab (bt x) (ac_L x wX)) (bt x) fz kl j))
    (hB : ∀ j, j < 16 → B j = bo_I (decide (j < N) && nw_B K P d (eS_T K M P Q pr ab) (eR_T K M P Q pr ab (bt x) (ac_L x wX)) (bt x) fz kl j)) :
    on_R N K P Q x' wX B ∧ ((rt_v K M P Q N (bt x) (ac_L x wX) fi true pr ab).2 % 2 ≠ 1 → ac_L x' wX (N - 1) = true) := by
  obtain ⟨h1, h16, hgx, hy, ht, ha⟩ := h
  have hce := kn_ce hgx (bt x) (ac_L x wX) hs
  have lt32 : ∀ {y : Int32} {j : Nat}, bt y j = true → j < 32 := by
    intro y j q
    rcases Nat.lt_or_ge j 32 with q2 | q2
    · exact q2
    · rw [b_big q2] at q; cases q
  have hn : ∀ j, bt x' j = true → j < N ∧ nw_B K P d (eS_T K M P Q pr ab) (eR_T K M P Q pr ab (bt x) (ac_L x wX)) (bt x) fz kl j = true := by
    intro j q
    rw [hx j (lt32 q), Bool.and_eq_true, decide_eq_true_eq] at q
    exact q
  refine ⟨⟨fun j hj => by rw [hB j hj, hx j (by omega)], fun i q => ?_, fun i hi hk a b => ?_⟩, fun hne => ?_⟩
  · have := hn i q
    refine ⟨this.1, ?_⟩
    have h2 := this.2
    unfold nw_B at h2
    rw [Bool.and_eq_true] at h2
    exact pr_K hd.2.2.2.2.1 h2.1
  · rw [ac_ex] at a b
    obtain ⟨j, _, j1, j2⟩ := a
    obtain ⟨j', _, j3, j4⟩ := b
    exact i2_N hd hf hce ha hi hk (hn j j1).2 j2 (hn j' j3).2 j4
  · have hc1 : cd_E (eS_T K M P Q pr ab) (eR_T K M P Q pr ab (bt x) (ac_L x wX)) (d (N - 1)) (N - 1) ≠ 1 := by
      intro e
      apply hne
      have hd0 := hd.2.2.2.2.2.2.2.2.1
      rw [hd0] at e
      unfold rt_v
      cases fi
      · have : (tv_R K M P Q pr ab (bt x) (ac_L x wX) true (N - 1)).2 = 1 := e
        show (tv_R K M P Q pr ab (bt x) (ac_L x wX) true (N - 1)).2 % 2 = 1
        rw [this]
      · have : (tv_S K M P Q pr ab true (N - 1)).2 = 1 := e
        show (tv_S K M P Q pr ab true (N - 1)).2 % 2 = 1
        rw [this]
    obtain ⟨j, j1, j2⟩ := i3_N hd hf hce ha hc1
    have hjN : j < N := by have := tr_le ht (pg_wf hgx) (N - 1) (by omega) j j2; omega
    rw [ac_ex]
    exact ⟨j, by omega, by rw [hx j (by omega), j1, decide_eq_true hjN]; rfl, j2⟩
theorem rt_dj {N pr ab inp : Nat} {K M P Q : Nat → Nat} {kX mX pX qX : Nat → Int32} {o al : Nat → Bool} {fi : Bool} (hx : pg_X N K M P Q kX mX pX qX) (h1 : 1 ≤ N) (hi : inp < 64) (hpa : (pr, ab) = fx_r (rt_m K M P Q N o al fi) (rt_c K M P Q N o al fi) 7 inp 0) : pr < 64 ∧ ab < 64 ∧ dj_N pr ab := by
  have e1 := fx_64 (rt_m K M P Q N o al fi) (rt_c K M P Q N o al fi) 7 inp 0 hi (by decide)
  have e2 := fx_dj (rm := rt_m K M P Q N o al fi) (rc := rt_c K M P Q N o al fi) (fun pr ab => rt_S hx h1 o al fi pr ab) (fun pr ab => (rt_ok hx h1 o al fi false pr ab).1) 7 inp 0 hi (by decide) (fun i _ b => by rw [Nat.zero_testBit] at b; cases b)
  rw [← hpa] at e1 e2
  exact ⟨e1.1, e1.2, e2⟩
theorem xt_tick {post : Int32 → SX → Prop} {f_height f_made f_size f_on f_inFirst f_over f_instantsDone f_hadInstant f_lastPresent f_lastAbsent f_present f_absent f_startedNow f_resumedNow : Int32} {a_stack a_newKind a_newMark a_newP a_newQ a_newWithin a_kind a_mark a_partP a_partQ a_within a_mustStarted a_canStarted a_mustResumed a_canResumed : Nat → Int32} {N pr ab inp : Nat} {K M P Q par d : Nat → Nat} {fz kl : Nat → Bool} {fi : Bool} {e : Int32} (hi : inp < 64) (he : e &&& 63 = nI inp) (hN : N ≤ 16) (hN1 : 1 ≤ N) (hs : f_size = nI N) (hfi : f_inFirst = bo_I fi) (hov : f_over = 0) (hg : pg_X N K M P Q a_kind a_mark a_partP a_partQ)
    (hpa : (pr, ab) = fx_r (rt_m K M P Q N (bt f_on) (ac_L f_on a_within) fi) (rt_c K M P Q N (bt f_on) (ac_L f_on a_within) fi) 7 inp 0)
    (hgh : (pr ||| ab) = 63 → dm_W N K P Q par a_within (bt f_on) (ac_L f_on a_within) (is_T M pr) (eS_T K M P Q pr ab) (eR_T K M P Q pr ab (bt f_on) (ac_L f_on a_within)) d fi ∧ fk_W N K P par d (eS_T K M P Q pr ab) (eR_T K M P Q pr ab (bt f_on) (ac_L f_on a_within)) (is_T M pr) fz kl)
    (h2 : oc_V K M P Q N (bt f_on) (ac_L f_on a_within) fi pr ab = 2 → ∀ ms cs mr cr, post 2 (f_height, f_made, f_size, f_on, f_inFirst, f_over, f_instantsDone, 1, nI pr, nI ab, nI pr, nI ab, f_startedNow, f_resumedNow, a_stack, a_newKind, a_newMark, a_newP, a_newQ, a_newWithin, a_kind, a_mark, a_partP, a_partQ, a_within, ms, cs, mr, cr))
    (h : (pr ||| ab) = 63 → ∀ x S R ms cs mr cr, (∀ j, j < 32 → bt x j = (decide (j < N) && nw_B K P d (eS_T K M P Q pr ab) (eR_T K M P Q pr ab (bt f_on) (ac_L f_on a_within)) (bt f_on) fz kl j)) → post (nI (oc_V K M P Q N (bt f_on) (ac_L f_on a_within) fi pr ab)) (f_height, f_made, f_size, x, 0, bo_I (decide (oc_V K M P Q N (bt f_on) (ac_L f_on a_within) fi pr ab = 0)), f_instantsDone + 1, 1, nI pr, nI ab, nI pr, nI ab, S, R, a_stack, a_newKind, a_newMark, a_newP, a_newQ, a_newWithin, a_kind, a_mark, a_partP, a_partQ, a_within, ms, cs, mr, cr)) :
    wpX_tick post (f_height, f_made, f_size, f_on, f_inFirst, f_over, f_instantsDone, f_hadInstant, f_lastPresent, f_lastAbsent, f_present, f_absent, f_startedNow, f_resumedNow, a_stack, a_newKind, a_newMark, a_newP, a_newQ, a_newWithin, a_kind, a_mark, a_partP, a_partQ, a_within, a_mustStarted, a_canStarted, a_mustResumed, a_canResumed) e := by
  obtain ⟨l1, l2, l3⟩ := rt_dj hg hN1 hi hpa
  unfold wpX_tick
  dsimp only
  refine br_t hov ?_
  refine xf_p hi he hN hN1 hs hfi hg rfl rfl (fun pr' ab' ms cs mr cr hpa' ht => ?_)
  rw [← hpa, Prod.mk.injEq] at hpa'
  obtain ⟨rfl, rfl⟩ := hpa'
  refine xo_out hN hN1 hs hfi l1 l2 hg ht ?_
  have loc : oc_V K M P Q N (bt f_on) (ac_L f_on a_within) fi pr' ab' ≤ 2 := by unfold oc_V; split <;> (try split) <;> omega
  refine pk_eq (oc_V K M P Q N (bt f_on) (ac_L f_on a_within) fi pr' ab') 2 (fun z => ?_) (fun z => ?_)
  · have := h2 z ms cs mr cr
    rw [z]; exact this
  · have hk : (pr' ||| ab') = 63 := by
      apply Classical.byContradiction
      intro q
      apply z
      unfold oc_V; rw [if_neg q]
    obtain ⟨hd, hf⟩ := hgh hk
    refine xm_p hN hs hfi hg ht rfl rfl (kn_hs hg l3 hk) hd hf (fun x S R hx => ?_)
    have hh := h hk x S R ms cs mr cr hx
    refine pk_eq (oc_V K M P Q N (bt f_on) (ac_L f_on a_within) fi pr' ab') 0 (fun y => ?_) (fun y => ?_)
    · rw [decide_eq_true y] at hh
      exact ⟨rfl, rfl, nm_e hh⟩
    · rw [decide_eq_false y] at hh
      exact ⟨rfl, rfl, nm_e hh⟩
theorem yt_tick {post : Int32 → SY → Prop} {g_made g_depth g_size g_begun g_over g_ticks g_present g_absent g_any g_lastPresent g_lastAbsent : Int32} {b_sorts b_numbers b_firsts b_seconds b_stack b_around b_on b_alive b_mustEmit b_canEmit b_mustEnd b_canEnd b_done b_frozen b_killed b_after : Nat → Int32} {N pr ab inp : Nat} {K M P Q par d : Nat → Nat} {w : Nat → Int32} {o al fz kl : Nat → Bool} {fi : Bool} {e : Int32} {kX mX pX qX : Nat → Int32} (hgx : pg_X N K M P Q kX mX pX qX) (hi : inp < 64) (he : e &&& 63 = nI inp) (hN : N ≤ 16) (hN1 : 1 ≤ N) (hs : g_size = nI N) (hb : g_begun = bo_I (!fi)) (hov : g_over = 0) (hg : pg_Y N K M P Q b_sorts b_numbers b_firsts b_seconds)
    (hon : on_W N K P Q o al) (ho : ∀ j, j < 16 → b_on j = bo_I (o j)) (hra : fi = false → al (N - 1) = true)
    (hpa : (pr, ab) = fx_r (rt_m K M P Q N o al fi) (rt_c K M P Q N o al fi) 7 inp 0)
    (hgh : (pr ||| ab) = 63 → dm_W N K P Q par w o al (is_T M pr) (eS_T K M P Q pr ab) (eR_T K M P Q pr ab o al) d fi ∧ fk_W N K P par d (eS_T K M P Q pr ab) (eR_T K M P Q pr ab o al) (is_T M pr) fz kl)
    (h2 : oc_V K M P Q N o al fi pr ab = 2 → ∀ A me ce mn cn, post 2 (g_made, g_depth, g_size, g_begun, g_over, g_ticks, nI pr, nI ab, 1, nI pr, nI ab, b_sorts, b_numbers, b_firsts, b_seconds, b_stack, b_around, b_on, A, me, ce, mn, cn, b_done, b_frozen, b_killed, b_after))
    (h : oc_V K M P Q N o al fi pr ab ≠ 2 → ∀ A me ce mn cn D F L A' B, (∀ j, j < 16 → B j = bo_I (decide (j < N) && nw_B K P d (eS_T K M P Q pr ab) (eR_T K M P Q pr ab o al) o fz kl j)) → post (nI (oc_V K M P Q N o al fi pr ab)) (g_made, g_depth, g_size, 1, bo_I (decide (oc_V K M P Q N o al fi pr ab = 0)), g_ticks + 1, nI pr, nI ab, 1, nI pr, nI ab, b_sorts, b_numbers, b_firsts, b_seconds, b_stack, b_around, B, A, me, ce, mn, cn, D, F, L, A')) :
    wpY_tick post (g_made, g_depth, g_size, g_begun, g_over, g_ticks, g_present, g_absent, g_any, g_lastPresent, g_lastAbsent, b_sorts, b_numbers, b_firsts, b_seconds, b_stack, b_around, b_on, b_alive, b_mustEmit, b_canEmit, b_mustEnd, b_canEnd, b_done, b_frozen, b_killed, b_after) e := by
  obtain ⟨l1, l2, l3⟩ := rt_dj hgx hN1 hi hpa
  unfold wpY_tick
  dsimp only
  refine br_t hov ?_
  refine yf_p hi he hN hN1 hs hb hg hon ho hra rfl rfl (fun pr' ab' A me ce mn cn hpa' hA ht => ?_)
  rw [← hpa, Prod.mk.injEq] at hpa'
  obtain ⟨rfl, rfl⟩ := hpa'
  refine yo_out hN hN1 l1 l2 ht hra ?_
  have loc : oc_V K M P Q N o al fi pr' ab' ≤ 2 := by unfold oc_V; split <;> (try split) <;> omega
  refine pk_eq (oc_V K M P Q N o al fi pr' ab') 2 (fun z => ?_) (fun z => ?_)
  · have := h2 z A me ce mn cn
    rw [z]; exact this
  · have hk : (pr' ||| ab') = 63 := by
      apply Classical.byContradiction
      intro q
      apply z
      unfold oc_V; rw [if_neg q]
    obtain ⟨hd, hf⟩ := hgh hk
    refine yn_p hN hs hb hg ht ho hA (kn_hs hgx l3 hk) hd hf (fun D F L A' B hB => ?_)
    have hh := h z A me ce mn cn D F L A' B hB
    refine pk_eq (oc_V K M P Q N o al fi pr' ab') 0 (fun y => ?_) (fun y => ?_)
    · rw [decide_eq_true y] at hh
      exact hh
    · rw [decide_eq_false y] at hh
      exact hh
end
section
/- the relation -/
def ch_W (K P Q : Nat → Nat) (i c : Nat) : Prop := (4 ≤ K i ∧ c = P i) ∨ (7 ≤ K i ∧ c = Q i)
def bu_W (m h : Nat) (K M P Q sk : Nat → Nat) (nk nm np nq nw bs bn bf bc xs ys : Nat → Int32) : Prop :=
  m ≤ 16 ∧ h ≤ m ∧ (h = 0 → m = 0) ∧ pg_X m K M P Q nk nm np nq ∧ pg_Y m K M P Q (fun i => bs (16 + i)) (fun i => bn (16 + i)) (fun i => bf (16 + i)) (fun i => bc (16 + i)) ∧
  (∀ j, j < h → xs j = nI (sk j) ∧ ys j = nI (sk j) ∧ sk j < m) ∧ (∀ i j, i < h → j < h → sk i = sk j → i = j) ∧ (0 < h → sk (h - 1) + 1 = m) ∧
  (∀ i, i < m → ∀ j, bt (nw i) j = (decide (j = i) || (decide (4 ≤ K i) && bt (nw (P i)) j) || (decide (7 ≤ K i) && bt (nw (Q i)) j))) ∧
  (∀ i, i < m → K i < 7 → Q i = P i) ∧ (∀ i, i < m → 7 ≤ K i → Q i ≠ P i) ∧
  (∀ j, j < h → ∀ k, k < m → bt (nw k) (sk j) = true → k = sk j) ∧
  (∀ c, c < m → (∃ j, j < h ∧ sk j = c) ∨ ∃ i, i < m ∧ ch_W K P Q i c) ∧
  (∀ i, i < m → ∀ c, ch_W K P Q i c → ∀ k, k < m → k ≠ c → bt (nw k) c = bt (nw k) i)
def rb_W (f_height f_made : Int32) (a_stack a_newKind a_newMark a_newP a_newQ a_newWithin : Nat → Int32) (g_made g_depth : Int32) (b_sorts b_numbers b_firsts b_seconds b_stack : Nat → Int32) : Prop :=
  ∃ m h K M P Q sk, f_made = nI m ∧ g_made = nI m ∧ f_height = nI h ∧ g_depth = nI h ∧ bu_W m h K M P Q sk a_newKind a_newMark a_newP a_newQ a_newWithin b_sorts b_numbers b_firsts b_seconds a_stack b_stack
def rp_W (f_size f_on f_inFirst f_over : Int32) (a_kind a_mark a_partP a_partQ a_within : Nat → Int32) (g_size g_begun g_over : Int32) (b_sorts b_numbers b_firsts b_seconds b_on : Nat → Int32) : Prop :=
  ∃ N K M P Q par ar fi ov, f_size = nI N ∧ g_size = nI N ∧ f_inFirst = bo_I fi ∧ g_begun = bo_I (!fi) ∧ f_over = bo_I ov ∧ g_over = bo_I ov ∧ pr_W N K M P Q par ar a_kind a_mark a_partP a_partQ a_within b_sorts b_numbers b_firsts b_seconds ∧ on_R N K P Q f_on a_within b_on ∧ (fi = false → ov = false → ac_L f_on a_within (N - 1) = true)
def rh_W (f_hadInstant f_lastPresent f_lastAbsent g_any g_lastPresent g_lastAbsent : Int32) : Prop := (∃ hb, f_hadInstant = bo_I hb ∧ g_any = bo_I hb) ∧ f_lastPresent = g_lastPresent ∧ f_lastAbsent = g_lastAbsent
/-- the relation at the head of a turn -/
def i_Rel (_ : Nat) (u : SX) (v : SY) : Prop := match u, v with
  | (f_height, f_made, f_size, f_on, f_inFirst, f_over, f_instantsDone, f_hadInstant, f_lastPresent, f_lastAbsent, f_present, f_absent, f_startedNow, f_resumedNow, a_stack, a_newKind, a_newMark, a_newP, a_newQ, a_newWithin, a_kind, a_mark, a_partP, a_partQ, a_within, a_mustStarted, a_canStarted, a_mustResumed, a_canResumed), (g_made, g_depth, g_size, g_begun, g_over, g_ticks, g_present, g_absent, g_any, g_lastPresent, g_lastAbsent, b_sorts, b_numbers, b_firsts, b_seconds, b_stack, b_around, b_on, b_alive, b_mustEmit, b_canEmit, b_mustEnd, b_canEnd, b_done, b_frozen, b_killed, b_after) =>
    rp_W f_size f_on f_inFirst f_over a_kind a_mark a_partP a_partQ a_within g_size g_begun g_over b_sorts b_numbers b_firsts b_seconds b_on ∧
    rb_W f_height f_made a_stack a_newKind a_newMark a_newP a_newQ a_newWithin g_made g_depth b_sorts b_numbers b_firsts b_seconds b_stack ∧
    f_instantsDone = g_ticks ∧ rh_W f_hadInstant f_lastPresent f_lastAbsent g_any g_lastPresent g_lastAbsent
theorem i_up {k : Nat} {u : SX} {v : SY} (h : i_Rel k u v) : i_Rel (k + 3) u v := h
theorem bu_0 {nk nm np nq nw bs bn bf bc xs ys : Nat → Int32} : bu_W 0 0 (fun _ => 0) (fun _ => 0) (fun _ => 0) (fun _ => 0) (fun _ => 0) nk nm np nq nw bs bn bf bc xs ys :=
  ⟨by omega, by omega, fun _ => rfl, fun i hi => absurd hi (by omega), fun i hi => absurd hi (by omega), fun j hj => absurd hj (by omega), fun i j hi => absurd hi (by omega), fun h => absurd h (by omega), fun i hi => absurd hi (by omega), fun i hi => absurd hi (by omega), fun i hi => absurd hi (by omega), fun j hj => absurd hj (by omega), fun c hc => absurd hc (by omega), fun i hi => absurd hi (by omega)⟩
theorem rb_0 {a_stack a_newKind a_newMark a_newP a_newQ a_newWithin b_sorts b_numbers b_firsts b_seconds b_stack : Nat → Int32} : rb_W 0 0 a_stack a_newKind a_newMark a_newP a_newQ a_newWithin 0 0 b_sorts b_numbers b_firsts b_seconds b_stack :=
  ⟨0, 0, _, _, _, _, _, nI_0.symm, nI_0.symm, nI_0.symm, nI_0.symm, bu_0⟩
theorem on_0 {N : Nat} {K P Q : Nat → Nat} {w b : Nat → Int32} (h : ∀ j, j < 16 → b j = 0) : on_R N K P Q 0 w b := by
  refine ⟨fun j hj => ?_, fun i q => ?_, fun i _ _ q => ?_⟩
  · rw [h j hj, b_0]; rfl
  · rw [b_0] at q; cases q
  · rw [ac_ex] at q
    obtain ⟨j, _, q, _⟩ := q
    rw [b_0] at q; cases q
theorem i_vc0 : wpX_init (fun u => wpY_init (fun v => i_Rel 0 u v)) := by
  refine nm_e (nm_e ?_)
  refine ⟨⟨1, fun _ => 0, fun _ => 0, fun _ => 0, fun _ => 0, fun _ => 0, fun _ => 0, true, false, by decide, by decide, rfl, rfl, rfl, rfl, ⟨by omega, by omega, ?_, ?_, ?_, ?_⟩, on_0 (fun _ _ => rfl), fun h => by cases h⟩, rb_0, rfl, ⟨false, rfl, rfl⟩, rfl, rfl⟩
  · intro i hi
    have : i = 0 := by omega
    subst this
    exact ⟨by decide, by decide, ⟨fun h => absurd h (by decide), fun h => absurd h (by decide)⟩, by decide, by decide, by decide, by decide, fun h => absurd h (by decide)⟩
  · intro i hi
    have : i = 0 := by omega
    subst this
    exact ⟨by decide, by decide, ⟨fun h => absurd h (by decide), fun h => absurd h (by decide)⟩, by decide, by decide, by decide, by decide, fun h => absurd h (by decide)⟩
  · refine ⟨fun c hc => by omega, fun i hi h4 => absurd (show 4 ≤ 0 from h4) (by decide), fun i hi h7 => absurd (show 7 ≤ 0 from h7) (by decide), fun c hc => by omega, fun i hi j => ?_, fun i hi h => rfl⟩
    have : i = 0 := by omega
    subst this
    show bt (upd (fun _ => 0) 0 1 0) j = _
    rw [pk_us]
    rcases Nat.lt_or_ge j 32 with q | q
    · rw [bz_one j q]; simp
    · rw [b_big q, decide_eq_false (show ¬ j = 0 by omega)]; simp
  · exact ⟨rfl, fun i hi h => absurd (show 4 ≤ 0 from h) (by decide), fun i hi h => rfl, fun i hi h => absurd (show 0 = 3 from h) (by decide)⟩
theorem i_vc_depth {k : Nat} {u : SX} {v : SY} (I : i_Rel k u v) (hk : k + 3 ≤ 1536) : wpX_depth (fun r => wpY_depth (fun r' => r' = r ∧ i_Rel (k + 3) u v) v) u := by
  obtain ⟨f_height, f_made, f_size, f_on, f_inFirst, f_over, f_instantsDone, f_hadInstant, f_lastPresent, f_lastAbsent, f_present, f_absent, f_startedNow, f_resumedNow, a_stack, a_newKind, a_newMark, a_newP, a_newQ, a_newWithin, a_kind, a_mark, a_partP, a_partQ, a_within, a_mustStarted, a_canStarted, a_mustResumed, a_canResumed⟩ := u
  obtain ⟨g_made, g_depth, g_size, g_begun, g_over, g_ticks, g_present, g_absent, g_any, g_lastPresent, g_lastAbsent, b_sorts, b_numbers, b_firsts, b_seconds, b_stack, b_around, b_on, b_alive, b_mustEmit, b_canEmit, b_mustEnd, b_canEnd, b_done, b_frozen, b_killed, b_after⟩ := v
  obtain ⟨hp, ⟨m, h, K, M, P, Q, sk, e1, e2, e3, e4, hb⟩, ht, hh⟩ := I
  exact ⟨e4.trans e3.symm, hp, ⟨m, h, K, M, P, Q, sk, e1, e2, e3, e4, hb⟩, ht, hh⟩
theorem i_vc_discard {k : Nat} {u : SX} {v : SY} (I : i_Rel k u v) (hk : k + 3 ≤ 1536) : wpX_discard (fun r u' => wpY_discard (fun r' v' => r' = r ∧ i_Rel (k + 3) u' v') v) u := by
  obtain ⟨f_height, f_made, f_size, f_on, f_inFirst, f_over, f_instantsDone, f_hadInstant, f_lastPresent, f_lastAbsent, f_present, f_absent, f_startedNow, f_resumedNow, a_stack, a_newKind, a_newMark, a_newP, a_newQ, a_newWithin, a_kind, a_mark, a_partP, a_partQ, a_within, a_mustStarted, a_canStarted, a_mustResumed, a_canResumed⟩ := u
  obtain ⟨g_made, g_depth, g_size, g_begun, g_over, g_ticks, g_present, g_absent, g_any, g_lastPresent, g_lastAbsent, b_sorts, b_numbers, b_firsts, b_seconds, b_stack, b_around, b_on, b_alive, b_mustEmit, b_canEmit, b_mustEnd, b_canEnd, b_done, b_frozen, b_killed, b_after⟩ := v
  obtain ⟨hp, ⟨m, h, K, M, P, Q, sk, e1, e2, e3, e4, hb⟩, ht, hh⟩ := I
  exact ⟨e4.trans e3.symm, hp, rb_0, ht, hh⟩
theorem i_vc_ended {k : Nat} {u : SX} {v : SY} (I : i_Rel k u v) (hk : k + 3 ≤ 1536) : wpX_ended (fun r => wpY_ended (fun r' => r' = r ∧ i_Rel (k + 3) u v) v) u := by
  obtain ⟨f_height, f_made, f_size, f_on, f_inFirst, f_over, f_instantsDone, f_hadInstant, f_lastPresent, f_lastAbsent, f_present, f_absent, f_startedNow, f_resumedNow, a_stack, a_newKind, a_newMark, a_newP, a_newQ, a_newWithin, a_kind, a_mark, a_partP, a_partQ, a_within, a_mustStarted, a_canStarted, a_mustResumed, a_canResumed⟩ := u
  obtain ⟨g_made, g_depth, g_size, g_begun, g_over, g_ticks, g_present, g_absent, g_any, g_lastPresent, g_lastAbsent, b_sorts, b_numbers, b_firsts, b_seconds, b_stack, b_around, b_on, b_alive, b_mustEmit, b_canEmit, b_mustEnd, b_canEnd, b_done, b_frozen, b_killed, b_after⟩ := v
  have I' := I
  obtain ⟨⟨N, K, M, P, Q, par, ar, fi, ov, e1, e2, e3, e4, e5, e6, _⟩, _⟩ := I
  subst e5 e6
  exact bo_br ov (fun z => br_t (by rw [z]; rfl) ⟨rfl, I'⟩) (fun z => br_f (by rw [z]; decide) ⟨rfl, I'⟩)
theorem i_vc_instants {k : Nat} {u : SX} {v : SY} (I : i_Rel k u v) (hk : k + 3 ≤ 1536) : wpX_instants (fun r => wpY_instants (fun r' => r' = r ∧ i_Rel (k + 3) u v) v) u := by
  obtain ⟨f_height, f_made, f_size, f_on, f_inFirst, f_over, f_instantsDone, f_hadInstant, f_lastPresent, f_lastAbsent, f_present, f_absent, f_startedNow, f_resumedNow, a_stack, a_newKind, a_newMark, a_newP, a_newQ, a_newWithin, a_kind, a_mark, a_partP, a_partQ, a_within, a_mustStarted, a_canStarted, a_mustResumed, a_canResumed⟩ := u
  obtain ⟨g_made, g_depth, g_size, g_begun, g_over, g_ticks, g_present, g_absent, g_any, g_lastPresent, g_lastAbsent, b_sorts, b_numbers, b_firsts, b_seconds, b_stack, b_around, b_on, b_alive, b_mustEmit, b_canEmit, b_mustEnd, b_canEnd, b_done, b_frozen, b_killed, b_after⟩ := v
  exact ⟨I.2.2.1.symm, I⟩
theorem i_vc_status {k : Nat} {u : SX} {v : SY} (I : i_Rel k u v) (hk : k + 3 ≤ 1536) (v1 : Int32) : wpX_status (fun r => wpY_status (fun r' => r' = r ∧ i_Rel (k + 3) u v) v v1) u v1 := by
  obtain ⟨f_height, f_made, f_size, f_on, f_inFirst, f_over, f_instantsDone, f_hadInstant, f_lastPresent, f_lastAbsent, f_present, f_absent, f_startedNow, f_resumedNow, a_stack, a_newKind, a_newMark, a_newP, a_newQ, a_newWithin, a_kind, a_mark, a_partP, a_partQ, a_within, a_mustStarted, a_canStarted, a_mustResumed, a_canResumed⟩ := u
  obtain ⟨g_made, g_depth, g_size, g_begun, g_over, g_ticks, g_present, g_absent, g_any, g_lastPresent, g_lastAbsent, b_sorts, b_numbers, b_firsts, b_seconds, b_stack, b_around, b_on, b_alive, b_mustEmit, b_canEmit, b_mustEnd, b_canEnd, b_done, b_frozen, b_killed, b_after⟩ := v
  have I' := I
  obtain ⟨_, _, _, ⟨hb, e1, e2⟩, e3, e4⟩ := I
  subst e1 e2 e3 e4
  refine bo_br hb (fun z => br_t (by rw [z]; rfl) ⟨rfl, I'⟩) (fun z => ?_)
  have hne : ¬ bo_I hb = 0 := by rw [z]; decide
  rcases pk_ix v1 (n := 6) (by decide) with q | q | ⟨j, hj, rfl⟩
  · exact br_t q (br_t rfl (br_f hne (br_t q (br_f (by decide) ⟨rfl, I'⟩))))
  · have q0 : ¬ v1 < 0 := by
      intro h0
      rw [Int32.lt_iff_toInt_lt] at h0
      rw [Int32.le_iff_toInt_le, nI_toInt (by decide)] at q
      have : (0 : Int32).toInt = 0 := by decide
      omega
    have q5 : ¬ v1 ≤ 5 := by
      intro h0
      rw [Int32.le_iff_toInt_le] at h0 q
      rw [nI_toInt (by decide)] at q
      have : (5 : Int32).toInt = 5 := by decide
      omega
    exact br_f q0 (br_t q (br_t rfl (br_f hne (br_f q0 (br_f q5 (br_f (by decide) ⟨rfl, I'⟩))))))
  · have q0 : ¬ nI j < 0 := nI_pos (by omega)
    have q6 : ¬ (6 : Int32) ≤ nI j := nI_ge (b := 6) (by omega) (by decide)
    have q5 : nI j ≤ 5 := nI_le (b := 5) (by omega) (by decide)
    refine br_f q0 (br_f q6 (br_f (by decide) ?_))
    refine bz_hasb (n := j) (by omega) rfl (fun t => ?_) (fun t => bz_hasb (n := j) (by omega) rfl (fun t2 => ?_) (fun t2 => ?_))
    · exact br_f hne (br_f q0 (br_t q5 (br_t rfl (bz_yb (n := j) (by omega) rfl (fun _ => ⟨rfl, I'⟩) (fun q => absurd q (by rw [t]; decide))))))
    · exact br_f hne (br_f q0 (br_t q5 (br_t rfl (bz_yb (n := j) (by omega) rfl (fun q => absurd q (by rw [t]; decide)) (fun _ => bz_yb (n := j) (by omega) rfl (fun _ => ⟨rfl, I'⟩) (fun q => absurd q (by rw [t2]; decide)))))))
    · exact br_f hne (br_f q0 (br_t q5 (br_t rfl (bz_yb (n := j) (by omega) rfl (fun q => absurd q (by rw [t]; decide)) (fun _ => bz_yb (n := j) (by omega) rfl (fun q => absurd q (by rw [t2]; decide)) (fun _ => ⟨rfl, I'⟩))))))
theorem i_vc_active {k : Nat} {u : SX} {v : SY} (I : i_Rel k u v) (hk : k + 3 ≤ 1536) (v1 : Int32) : wpX_active (fun r => wpY_active (fun r' => r' = r ∧ i_Rel (k + 3) u v) v v1) u v1 := by
  obtain ⟨f_height, f_made, f_size, f_on, f_inFirst, f_over, f_instantsDone, f_hadInstant, f_lastPresent, f_lastAbsent, f_present, f_absent, f_startedNow, f_resumedNow, a_stack, a_newKind, a_newMark, a_newP, a_newQ, a_newWithin, a_kind, a_mark, a_partP, a_partQ, a_within, a_mustStarted, a_canStarted, a_mustResumed, a_canResumed⟩ := u
  obtain ⟨g_made, g_depth, g_size, g_begun, g_over, g_ticks, g_present, g_absent, g_any, g_lastPresent, g_lastAbsent, b_sorts, b_numbers, b_firsts, b_seconds, b_stack, b_around, b_on, b_alive, b_mustEmit, b_canEmit, b_mustEnd, b_canEnd, b_done, b_frozen, b_killed, b_after⟩ := v
  have I' := I
  obtain ⟨⟨N, K, M, P, Q, par, ar, fi, ov, e1, e2, e3, e4, e5, e6, hp, ho, _⟩, _⟩ := I
  subst e1 e2
  have h16 := hp.2.1
  rcases pk_ix v1 (n := N) (by omega) with q | q | ⟨j, hj, rfl⟩
  · exact br_t q (br_t q ⟨rfl, I'⟩)
  · have q0 : ¬ v1 < 0 := by
      intro h0
      rw [Int32.lt_iff_toInt_lt] at h0
      rw [Int32.le_iff_toInt_le, nI_toInt (by omega)] at q
      have : (0 : Int32).toInt = 0 := by decide
      omega
    have q1 : ¬ v1 < nI N := Int32.not_lt.mpr q
    exact br_f q0 (br_f q1 (br_f q0 (br_f q1 ⟨rfl, I'⟩)))
  · have q0 : ¬ nI j < 0 := nI_pos (by omega)
    have q1 : nI j < nI N := nI_lt hj (by omega)
    have hc : (nI j).toNatClampNeg = j := nI_clamp (by omega)
    have vj : vp_in (nI j) 16 := vp_in_nI (by omega) (by omega)
    have hy : ∀ r, r = bo_I (bt f_on j) → wpY_active (fun r' => r' = r ∧ i_Rel (k + 3) (f_height, f_made, nI N, f_on, f_inFirst, f_over, f_instantsDone, f_hadInstant, f_lastPresent, f_lastAbsent, f_present, f_absent, f_startedNow, f_resumedNow, a_stack, a_newKind, a_newMark, a_newP, a_newQ, a_newWithin, a_kind, a_mark, a_partP, a_partQ, a_within, a_mustStarted, a_canStarted, a_mustResumed, a_canResumed) (g_made, g_depth, nI N, g_begun, g_over, g_ticks, g_present, g_absent, g_any, g_lastPresent, g_lastAbsent, b_sorts, b_numbers, b_firsts, b_seconds, b_stack, b_around, b_on, b_alive, b_mustEmit, b_canEmit, b_mustEnd, b_canEnd, b_done, b_frozen, b_killed, b_after)) (g_made, g_depth, nI N, g_begun, g_over, g_ticks, g_present, g_absent, g_any, g_lastPresent, g_lastAbsent, b_sorts, b_numbers, b_firsts, b_seconds, b_stack, b_around, b_on, b_alive, b_mustEmit, b_canEmit, b_mustEnd, b_canEnd, b_done, b_frozen, b_killed, b_after) (nI j) := by
      intro r hr
      unfold wpY_active
      dsimp only
      rw [hc, ho.1 j (by omega)]
      refine br_f q0 (br_t q1 ⟨vj, bo_br _ (fun t => ⟨?_, I'⟩) (fun t => ⟨?_, I'⟩)⟩)
      · rw [hr, t]; rfl
      · rw [hr, t]; rfl
    refine br_f q0 (br_t q1 (bz_hasb (n := j) (by omega) rfl (fun t => ?_) (fun t => ?_)))
    · exact hy 1 (by rw [t]; rfl)
    · exact hy 0 (by rw [t]; rfl)
theorem yr_17 {post : SY → Prop} {g_made g_depth g_size g_begun g_over g_ticks g_present g_absent g_any g_lastPresent g_lastAbsent : Int32} {b_sorts b_numbers b_firsts b_seconds b_stack b_around b_alive b_mustEmit b_canEmit b_mustEnd b_canEnd b_done b_frozen b_killed b_after : Nat → Int32} (h : ∀ B, (∀ j, j < 16 → B j = 0) → post (g_made, g_depth, g_size, g_begun, g_over, g_ticks, g_present, g_absent, g_any, g_lastPresent, g_lastAbsent, b_sorts, b_numbers, b_firsts, b_seconds, b_stack, b_around, B, b_alive, b_mustEmit, b_canEmit, b_mustEnd, b_canEnd, b_done, b_frozen, b_killed, b_after)) : ∀ t i B, i + t = 16 → (∀ j, j < i → B j = 0) → wY_restart_17 post g_made g_depth g_size g_begun g_over g_ticks g_present g_absent g_any g_lastPresent g_lastAbsent (t + 1) (nI i) b_sorts b_numbers b_firsts b_seconds b_stack b_around B b_alive b_mustEmit b_canEmit b_mustEnd b_canEnd b_done b_frozen b_killed b_after := by
  intro t
  induction t with
  | zero =>
    intro i B hi hB
    exact br_t (nI_le (a := 16) (by omega) (by omega)) (h B (fun j hj => hB j (by omega)))
  | succ t ih =>
    intro i B hi hB
    have hc : (nI i).toNatClampNeg = i := nI_clamp (by omega)
    refine br_f (nI_ge (b := 16) (by omega) (by decide)) ⟨vp_in_nI (by omega) (by omega), ?_⟩
    rw [hc]
    refine nm_e (nm_r (nI_1 i) (ih (i + 1) _ (by omega) (lt_s (fun j hj => ?_) pk_us)))
    rw [pk_un (by omega)]; exact hB j hj
theorem yr_p {post : SY → Prop} {g_made g_depth g_size g_begun g_over g_ticks g_present g_absent g_any g_lastPresent g_lastAbsent : Int32} {b_sorts b_numbers b_firsts b_seconds b_stack b_around b_on b_alive b_mustEmit b_canEmit b_mustEnd b_canEnd b_done b_frozen b_killed b_after : Nat → Int32} (h : ∀ B, (∀ j, j < 16 → B j = 0) → post (g_made, g_depth, g_size, 0, 0, 0, g_present, g_absent, g_any, g_lastPresent, g_lastAbsent, b_sorts, b_numbers, b_firsts, b_seconds, b_stack, b_around, B, b_alive, b_mustEmit, b_canEmit, b_mustEnd, b_canEnd, b_done, b_frozen, b_killed, b_after)) : wpY_restart post (g_made, g_depth, g_size, g_begun, g_over, g_ticks, g_present, g_absent, g_any, g_lastPresent, g_lastAbsent, b_sorts, b_numbers, b_firsts, b_seconds, b_stack, b_around, b_on, b_alive, b_mustEmit, b_canEmit, b_mustEnd, b_canEnd, b_done, b_frozen, b_killed, b_after) :=
  ⟨17, yr_17 h 16 0 b_on (by omega) (fun j hj => absurd hj (by omega))⟩
theorem i_vc_restart {k : Nat} {u : SX} {v : SY} (I : i_Rel k u v) (hk : k + 3 ≤ 1536) : wpX_restart (fun u' => wpY_restart (fun v' => i_Rel (k + 3) u' v') v) u := by
  obtain ⟨f_height, f_made, f_size, f_on, f_inFirst, f_over, f_instantsDone, f_hadInstant, f_lastPresent, f_lastAbsent, f_present, f_absent, f_startedNow, f_resumedNow, a_stack, a_newKind, a_newMark, a_newP, a_newQ, a_newWithin, a_kind, a_mark, a_partP, a_partQ, a_within, a_mustStarted, a_canStarted, a_mustResumed, a_canResumed⟩ := u
  obtain ⟨g_made, g_depth, g_size, g_begun, g_over, g_ticks, g_present, g_absent, g_any, g_lastPresent, g_lastAbsent, b_sorts, b_numbers, b_firsts, b_seconds, b_stack, b_around, b_on, b_alive, b_mustEmit, b_canEmit, b_mustEnd, b_canEnd, b_done, b_frozen, b_killed, b_after⟩ := v
  obtain ⟨⟨N, K, M, P, Q, par, ar, fi, ov, e1, e2, e3, e4, e5, e6, hp, ho, hr⟩, hb, ht, hh⟩ := I
  have : wpY_restart (fun v' => i_Rel (k + 3) (f_height, f_made, f_size, 0, 1, 0, 0, f_hadInstant, f_lastPresent, f_lastAbsent, f_present, f_absent, f_startedNow, f_resumedNow, a_stack, a_newKind, a_newMark, a_newP, a_newQ, a_newWithin, a_kind, a_mark, a_partP, a_partQ, a_within, a_mustStarted, a_canStarted, a_mustResumed, a_canResumed) v') (g_made, g_depth, g_size, g_begun, g_over, g_ticks, g_present, g_absent, g_any, g_lastPresent, g_lastAbsent, b_sorts, b_numbers, b_firsts, b_seconds, b_stack, b_around, b_on, b_alive, b_mustEmit, b_canEmit, b_mustEnd, b_canEnd, b_done, b_frozen, b_killed, b_after) :=
    yr_p (fun B hB => ⟨⟨N, K, M, P, Q, par, ar, true, false, e1, e2, rfl, rfl, rfl, rfl, hp, on_0 hB, fun h => by cases h⟩, hb, rfl, hh⟩)
  exact this
theorem in_63 (e : Int32) : ∃ n, n < 64 ∧ e &&& 63 = nI n := by
  have h := b_and e 63
  refine ⟨(e &&& 63).toBitVec.toNat, ?_, ?_⟩
  · rw [Int32.toBitVec_and, BitVec.toNat_and]
    exact Nat.lt_of_le_of_lt Nat.and_le_right (by decide)
  · apply Int32.toBitVec_inj.1
    show (e &&& 63).toBitVec = BitVec.ofNat 32 _
    rw [BitVec.ofNat_toNat]; simp
theorem i_vc_tick {k : Nat} {u : SX} {v : SY} (I : i_Rel k u v) (hk : k + 3 ≤ 1536) (v1 : Int32) : wpX_tick (fun r u' => wpY_tick (fun r' v' => r' = r ∧ i_Rel (k + 3) u' v') v v1) u v1 := by
  obtain ⟨f_height, f_made, f_size, f_on, f_inFirst, f_over, f_instantsDone, f_hadInstant, f_lastPresent, f_lastAbsent, f_present, f_absent, f_startedNow, f_resumedNow, a_stack, a_newKind, a_newMark, a_newP, a_newQ, a_newWithin, a_kind, a_mark, a_partP, a_partQ, a_within, a_mustStarted, a_canStarted, a_mustResumed, a_canResumed⟩ := u
  obtain ⟨g_made, g_depth, g_size, g_begun, g_over, g_ticks, g_present, g_absent, g_any, g_lastPresent, g_lastAbsent, b_sorts, b_numbers, b_firsts, b_seconds, b_stack, b_around, b_on, b_alive, b_mustEmit, b_canEmit, b_mustEnd, b_canEnd, b_done, b_frozen, b_killed, b_after⟩ := v
  have I' := I
  obtain ⟨⟨N, K, M, P, Q, par, ar, fi, ov, e1, e2, e3, e4, e5, e6, hp, ho, hr⟩, hb, htk, hh⟩ := I
  cases ov
  · obtain ⟨inp, hi, he⟩ := in_63 v1
    have hN1 := hp.1
    have hN := hp.2.1
    have hgx := hp.2.2.1
    have hgy := hp.2.2.2.1
    have hon := on_RW hp ho
    have hr' : fi = false → ac_L f_on a_within (N - 1) = true := fun h => hr h rfl
    generalize hpa : fx_r (rt_m K M P Q N (bt f_on) (ac_L f_on a_within) fi) (rt_c K M P Q N (bt f_on) (ac_L f_on a_within) fi) 7 inp 0 = pa
    obtain ⟨pr, ab⟩ := pa
    obtain ⟨l1, l2, l3⟩ := rt_dj hgx hN1 hi hpa.symm
    obtain ⟨d, fz, kl, hd, hf⟩ := gh_x (pr := pr) (ab := ab) hp ho hr'
    refine xt_tick hi he hN hN1 e1 e3 e5 hgx hpa.symm (fun _ => ⟨hd, hf⟩) (fun hoc ms cs mr cr => ?_) (fun h63 x S R ms cs mr cr hx => ?_)
    · refine yt_tick hgx hi he hN hN1 e2 e4 e6 hgy hon ho.1 hr' hpa.symm (fun _ => ⟨hd, hf⟩) (fun _ A me ce mn cn => ⟨rfl, ?_⟩) (fun q => absurd hoc q)
      exact ⟨⟨N, K, M, P, Q, par, ar, fi, false, e1, e2, e3, e4, e5, e6, hp, ho, hr⟩, hb, htk, ⟨true, rfl, rfl⟩, rfl, rfl⟩
    · refine yt_tick hgx hi he hN hN1 e2 e4 e6 hgy hon ho.1 hr' hpa.symm (fun _ => ⟨hd, hf⟩) (fun hoc A me ce mn cn => ?_) (fun _ A me ce mn cn D F L A' B hB => ⟨rfl, ?_⟩)
      · unfold oc_V at hoc
        rw [if_pos h63] at hoc
        split at hoc <;> omega
      · have hn := on_N hp (kn_hs hgx l3 h63) hd hf hx hB
        refine ⟨⟨N, K, M, P, Q, par, ar, false, decide (oc_V K M P Q N (bt f_on) (ac_L f_on a_within) fi pr ab = 0), e1, e2, rfl, rfl, rfl, rfl, hp, hn.1, fun _ q => hn.2 ?_⟩, hb, ?_, ⟨true, rfl, rfl⟩, rfl, rfl⟩
        · rw [decide_eq_false_iff_not] at q
          intro z
          apply q
          unfold oc_V
          rw [if_pos h63, if_pos z]
        · rw [htk]
  · have hne : ¬ f_over = 0 := by rw [e5]; decide
    have hne' : ¬ g_over = 0 := by rw [e6]; decide
    exact br_f hne (br_f hne' ⟨rfl, I'⟩)
theorem i_vc_look {k : Nat} {u : SX} {v : SY} (I : i_Rel k u v) (hk : k + 3 ≤ 1536) (v1 : Int32) : wpX_look (fun r u' => wpY_look (fun r' v' => r' = r ∧ i_Rel (k + 3) u' v') v v1) u v1 := by
  obtain ⟨f_height, f_made, f_size, f_on, f_inFirst, f_over, f_instantsDone, f_hadInstant, f_lastPresent, f_lastAbsent, f_present, f_absent, f_startedNow, f_resumedNow, a_stack, a_newKind, a_newMark, a_newP, a_newQ, a_newWithin, a_kind, a_mark, a_partP, a_partQ, a_within, a_mustStarted, a_canStarted, a_mustResumed, a_canResumed⟩ := u
  obtain ⟨g_made, g_depth, g_size, g_begun, g_over, g_ticks, g_present, g_absent, g_any, g_lastPresent, g_lastAbsent, b_sorts, b_numbers, b_firsts, b_seconds, b_stack, b_around, b_on, b_alive, b_mustEmit, b_canEmit, b_mustEnd, b_canEnd, b_done, b_frozen, b_killed, b_after⟩ := v
  have I' := I
  obtain ⟨⟨N, K, M, P, Q, par, ar, fi, ov, e1, e2, e3, e4, e5, e6, hp, ho, hr⟩, hb, htk, hh⟩ := I
  cases ov
  · obtain ⟨inp, hi, he⟩ := in_63 v1
    have hN1 := hp.1
    have hN := hp.2.1
    have hgx := hp.2.2.1
    have hgy := hp.2.2.2.1
    have hon := on_RW hp ho
    have hr' : fi = false → ac_L f_on a_within (N - 1) = true := fun h => hr h rfl
    unfold wpX_look
    dsimp only
    refine br_t e5 ?_
    refine xf_p hi he hN hN1 e1 e3 hgx rfl rfl (fun pr ab ms cs mr cr hpa ht => ?_)
    obtain ⟨l1, l2, l3⟩ := rt_dj hgx hN1 hi hpa
    refine xo_out hN hN1 e1 e3 l1 l2 hgx ht ?_
    unfold wpY_look
    dsimp only
    refine br_t e6 ?_
    refine yf_p hi he hN hN1 e2 e4 hgy hon ho.1 hr' rfl rfl (fun pr' ab' A me ce mn cn hpa' hA hty => ?_)
    rw [← hpa, Prod.mk.injEq] at hpa'
    obtain ⟨rfl, rfl⟩ := hpa'
    refine yo_out hN hN1 l1 l2 hty hr' ⟨rfl, ?_⟩
    exact ⟨⟨N, K, M, P, Q, par, ar, fi, false, e1, e2, e3, e4, e5, e6, hp, ho, hr⟩, hb, htk, hh⟩
  · have hne : ¬ f_over = 0 := by rw [e5]; decide
    have hne' : ¬ g_over = 0 := by rw [e6]; decide
    exact br_f hne (br_f hne' ⟨rfl, I'⟩)
theorem i_vc_emitted {k : Nat} {u : SX} {v : SY} (I : i_Rel k u v) (hk : k + 3 ≤ 1536) (v1 : Int32) : wpX_emitted (fun r u' => wpY_emitted (fun r' v' => r' = r ∧ i_Rel (k + 3) u' v') v v1) u v1 := by
  obtain ⟨f_height, f_made, f_size, f_on, f_inFirst, f_over, f_instantsDone, f_hadInstant, f_lastPresent, f_lastAbsent, f_present, f_absent, f_startedNow, f_resumedNow, a_stack, a_newKind, a_newMark, a_newP, a_newQ, a_newWithin, a_kind, a_mark, a_partP, a_partQ, a_within, a_mustStarted, a_canStarted, a_mustResumed, a_canResumed⟩ := u
  obtain ⟨g_made, g_depth, g_size, g_begun, g_over, g_ticks, g_present, g_absent, g_any, g_lastPresent, g_lastAbsent, b_sorts, b_numbers, b_firsts, b_seconds, b_stack, b_around, b_on, b_alive, b_mustEmit, b_canEmit, b_mustEnd, b_canEnd, b_done, b_frozen, b_killed, b_after⟩ := v
  have I' := I
  obtain ⟨⟨N, K, M, P, Q, par, ar, fi, ov, e1, e2, e3, e4, e5, e6, hp, ho, hr⟩, hb, htk, hh⟩ := I
  cases ov
  · obtain ⟨inp, hi, he⟩ := in_63 v1
    have hN1 := hp.1
    have hN := hp.2.1
    have hgx := hp.2.2.1
    have hgy := hp.2.2.2.1
    have hon := on_RW hp ho
    have hr' : fi = false → ac_L f_on a_within (N - 1) = true := fun h => hr h rfl
    unfold wpX_emitted
    dsimp only
    refine br_t e5 ?_
    refine xf_p hi he hN hN1 e1 e3 hgx rfl rfl (fun pr ab ms cs mr cr hpa ht => ?_)
    unfold wpY_emitted
    dsimp only
    refine br_t e6 ?_
    refine yf_p hi he hN hN1 e2 e4 hgy hon ho.1 hr' rfl rfl (fun pr' ab' A me ce mn cn hpa' hA hty => ?_)
    rw [← hpa, Prod.mk.injEq] at hpa'
    obtain ⟨rfl, rfl⟩ := hpa'
    exact ⟨rfl, ⟨N, K, M, P, Q, par, ar, fi, false, e1, e2, e3, e4, e5, e6, hp, ho, hr⟩, hb, htk, hh⟩
  · have hne : ¬ f_over = 0 := by rw [e5]; decide
    have hne' : ¬ g_over = 0 := by rw [e6]; decide
    exact br_f hne (br_f hne' ⟨rfl, I'⟩)
end
section
/- building -/
def un_F (f : Nat → Nat) (m x : Nat) : Nat → Nat := fun j => if j = m then x else f j
theorem un_s {f : Nat → Nat} {m x : Nat} : un_F f m x m = x := if_pos rfl
theorem un_n {f : Nat → Nat} {m x j : Nat} (h : j ≠ m) : un_F f m x j = f j := if_neg h
theorem bu_le {m : Nat} {K P Q : Nat → Nat} {nw : Nat → Int32} (wf : wf_P m K P Q) (he : ∀ i, i < m → ∀ j, bt (nw i) j = (decide (j = i) || (decide (4 ≤ K i) && bt (nw (P i)) j) || (decide (7 ≤ K i) && bt (nw (Q i)) j))) : ∀ i, i < m → ∀ j, bt (nw i) j = true → j ≤ i := by
  intro i
  induction i using Nat.strongRecOn with
  | _ i ih =>
    intro hi j hj
    rw [he i hi j] at hj
    simp only [Bool.or_eq_true, Bool.and_eq_true, decide_eq_true_eq] at hj
    rcases hj with (e | ⟨h4, e⟩) | ⟨h7, e⟩
    · omega
    · have := (wf i hi h4).1
      have := ih (P i) this (by omega) j e
      omega
    · have := (wf i hi (by omega)).2
      have := ih (Q i) this (by omega) j e
      omega
theorem bu_push {m h h0 k mm p q : Nat} {K M P Q sk : Nat → Nat} {nk nm np nq nw bs bn bf bc xs ys : Nat → Int32} {mx wm : Int32} (hb : bu_W m h K M P Q sk nk nm np nq nw bs bn bf bc xs ys) (hm : m < 16) (hh : h0 ≤ h) (k9 : k ≤ 9) (hmk : mk_W k mm mx) (p16 : p < 16) (q16 : q < 16) (hQP : k < 7 → q = p) (hne : 7 ≤ k → q ≠ p)
    (hch : ∀ c, ((4 ≤ k ∧ c = p) ∨ (7 ≤ k ∧ c = q)) ↔ ∃ j, h0 ≤ j ∧ j < h ∧ sk j = c)
    (hw : ∀ j, bt wm j = (decide (j = m) || (decide (4 ≤ k) && bt (nw p) j) || (decide (7 ≤ k) && bt (nw q) j))) :
    bu_W (m + 1) (h0 + 1) (un_F K m k) (un_F M m mm) (un_F P m p) (un_F Q m q) (un_F sk h0 m) (upd nk m (nI k)) (upd nm m mx) (upd np m (nI p)) (upd nq m (nI q)) (upd nw m wm) (upd bs (16 + m) (nI k)) (upd bn (16 + m) mx) (upd bf (16 + m) (nI p)) (upd bc (16 + m) (nI (if 7 ≤ k then q else 0))) (upd xs h0 (nI m)) (upd ys h0 (nI m)) := by
  obtain ⟨b1, b2, b3, b4, b5, b6, b7, b8, b9, b10, b11, b12, b13, b14⟩ := hb
  have wf : wf_P m K P Q := pg_wf b4
  have le := bu_le wf b9
  have hpm : 4 ≤ k → p < m ∧ ∃ j, h0 ≤ j ∧ j < h ∧ sk j = p := fun h4 => by
    obtain ⟨j, j1, j2, j3⟩ := (hch p).mp (Or.inl ⟨h4, rfl⟩)
    exact ⟨by rw [← j3]; exact (b6 j j2).2.2, j, j1, j2, j3⟩
  have hqm : 7 ≤ k → q < m ∧ ∃ j, h0 ≤ j ∧ j < h ∧ sk j = q := fun h7 => by
    obtain ⟨j, j1, j2, j3⟩ := (hch q).mp (Or.inr ⟨h7, rfl⟩)
    exact ⟨by rw [← j3]; exact (b6 j j2).2.2, j, j1, j2, j3⟩
  have hpq : 4 ≤ k → p < m ∧ q < m := fun h4 => ⟨(hpm h4).1, by
    by_cases h7 : 7 ≤ k
    · exact (hqm h7).1
    · rw [hQP (by omega)]; exact (hpm h4).1⟩
  have chm : ∀ i c, i < m → ch_W K P Q i c → c < i ∧ bt (nw i) c = true := by
    intro i c hi hc
    rcases hc with ⟨h4, e⟩ | ⟨h7, e⟩
    · have := (wf i hi h4).1
      refine ⟨by omega, ?_⟩
      rw [b9 i hi c, e, b9 (P i) (by omega) (P i), decide_eq_true h4]; simp
    · have := (wf i hi (by omega)).2
      refine ⟨by omega, ?_⟩
      rw [b9 i hi c, e, b9 (Q i) (by omega) (Q i), decide_eq_true h7]; simp
  have self : ∀ i, i < m → bt (nw i) i = true := fun i hi => by rw [b9 i hi i]; simp
  refine ⟨by omega, by omega, fun z => by omega, ?_, ?_, ?_, ?_, ?_, ?_, ?_, ?_, ?_, ?_, ?_⟩
  · refine lt_s (fun i hi => ?_) ?_
    · have n : i ≠ m := by omega
      rw [pk_un n, pk_un n, pk_un n, pk_un n, un_n n, un_n n, un_n n, un_n n]; exact b4 i hi
    · rw [pk_us, pk_us, pk_us, pk_us, un_s, un_s, un_s, un_s]
      exact ⟨rfl, k9, hmk, rfl, rfl, p16, q16, hpq⟩
  · refine lt_s (fun i hi => ?_) ?_
    · have n : i ≠ m := by omega
      have n' : 16 + i ≠ 16 + m := by omega
      dsimp only
      rw [pk_un n', pk_un n', pk_un n', pk_un n', un_n n, un_n n, un_n n, un_n n]; exact b5 i hi
    · dsimp only
      rw [pk_us, pk_us, pk_us, pk_us, un_s, un_s, un_s, un_s]
      exact ⟨rfl, k9, hmk, rfl, rfl, p16, q16, hpq⟩
  · refine lt_s (fun j hj => ?_) ?_
    · have n : j ≠ h0 := by omega
      rw [pk_un n, pk_un n, un_n n]
      obtain ⟨x1, x2, x3⟩ := b6 j (by omega)
      exact ⟨x1, x2, by omega⟩
    · rw [pk_us, pk_us, un_s]
      exact ⟨rfl, rfl, by omega⟩
  · intro i j hi hj e
    by_cases e1 : i = h0 <;> by_cases e2 : j = h0
    · omega
    · rw [e1, un_s, un_n e2] at e
      have := (b6 j (by omega)).2.2; omega
    · rw [e2, un_s, un_n e1] at e
      have := (b6 i (by omega)).2.2; omega
    · rw [un_n e1, un_n e2] at e
      exact b7 i j (by omega) (by omega) e
  · intro _
    rw [show h0 + 1 - 1 = h0 by omega, un_s]
  · refine lt_s (fun i hi j => ?_) (fun j => ?_)
    · have n : i ≠ m := by omega
      rw [pk_un n, un_n n, un_n n, un_n n, b9 i hi j]
      by_cases h4 : 4 ≤ K i
      · have := wf i hi h4
        rw [pk_un (show P i ≠ m by omega), pk_un (show Q i ≠ m by omega)]
      · rw [decide_eq_false h4, decide_eq_false (show ¬ 7 ≤ K i by omega)]; simp
    · rw [pk_us, un_s, un_s, un_s, hw j]
      by_cases h4 : 4 ≤ k
      · have := hpq h4
        rw [pk_un (show p ≠ m by omega), pk_un (show q ≠ m by omega)]
      · rw [decide_eq_false h4, decide_eq_false (show ¬ 7 ≤ k by omega)]; simp
  · refine lt_s (fun i hi => ?_) ?_
    · have n : i ≠ m := by omega
      rw [un_n n, un_n n, un_n n]; exact b10 i hi
    · rw [un_s, un_s, un_s]; exact hQP
  · refine lt_s (fun i hi => ?_) ?_
    · have n : i ≠ m := by omega
      rw [un_n n, un_n n, un_n n]; exact b11 i hi
    · rw [un_s, un_s, un_s]; exact hne
  · intro j hj k' hk' hbt
    by_cases ek : k' = m
    · by_cases ej : j = h0
      · rw [ej, un_s]; exact ek
      · exfalso
        rw [ek, pk_us, un_n ej, hw] at hbt
        have hj' : j < h := by omega
        have := (b6 j hj').2.2
        simp only [Bool.or_eq_true, Bool.and_eq_true, decide_eq_true_eq] at hbt
        rcases hbt with (e | ⟨h4, e⟩) | ⟨h7, e⟩
        · omega
        · obtain ⟨hp1, j', j1, j2, j3⟩ := hpm h4
          have := b12 j hj' p hp1 e
          rw [← j3] at this
          have := b7 j' j j2 hj' this
          omega
        · obtain ⟨hp1, j', j1, j2, j3⟩ := hqm h7
          have := b12 j hj' q hp1 e
          rw [← j3] at this
          have := b7 j' j j2 hj' this
          omega
    · rw [pk_un ek] at hbt
      by_cases ej : j = h0
      · rw [ej, un_s] at hbt
        have := le k' (by omega) m hbt
        omega
      · rw [un_n ej] at hbt ⊢
        exact b12 j (by omega) k' (by omega) hbt
  · intro c hc
    by_cases ec : c = m
    · exact Or.inl ⟨h0, by omega, by rw [un_s, ec]⟩
    · rcases b13 c (by omega) with ⟨j, j1, j2⟩ | ⟨i, i1, i2⟩
      · by_cases ej : j < h0
        · exact Or.inl ⟨j, by omega, by rw [un_n (by omega)]; exact j2⟩
        · refine Or.inr ⟨m, by omega, ?_⟩
          unfold ch_W
          rw [un_s, un_s, un_s]
          exact (hch c).mpr ⟨j, by omega, j1, j2⟩
      · refine Or.inr ⟨i, by omega, ?_⟩
        have n : i ≠ m := by omega
        unfold ch_W at i2 ⊢
        rw [un_n n, un_n n, un_n n]; exact i2
  · intro i hi c hc k' hk' hkc
    by_cases ei : i = m
    · unfold ch_W at hc
      rw [ei, un_s, un_s, un_s] at hc
      obtain ⟨j, j1, j2, j3⟩ := (hch c).mp hc
      have hcm := (b6 j j2).2.2
      rw [j3] at hcm
      rw [ei]
      by_cases ek : k' = m
      · rw [ek, pk_us, hw, hw]
        have : (decide (4 ≤ k) && bt (nw p) c) = true ∨ (decide (7 ≤ k) && bt (nw q) c) = true := by
          rcases hc with ⟨h4, e⟩ | ⟨h7, e⟩
          · left; rw [decide_eq_true h4, e, self p (hpm h4).1]; rfl
          · right; rw [decide_eq_true h7, e, self q (hqm h7).1]; rfl
        rcases this with e | e <;> rw [e] <;> simp
      · rw [pk_un ek]
        have f1 : bt (nw k') c = false := by
          cases z : bt (nw k') c
          · rfl
          · rw [← j3] at z
            have := b12 j j2 k' (by omega) z
            exact absurd (this.trans j3) hkc
        have f2 : bt (nw k') m = false := by
          cases z : bt (nw k') m
          · rfl
          · have := le k' (by omega) m z; omega
        rw [f1, f2]
    · have hc' : ch_W K P Q i c := by
        unfold ch_W at hc ⊢
        rw [un_n ei, un_n ei, un_n ei] at hc; exact hc
      have hi' : i < m := by omega
      obtain ⟨ci, cb⟩ := chm i c hi' hc'
      by_cases ek : k' = m
      · rw [ek, pk_us, hw, hw, decide_eq_false (show ¬ c = m by omega), decide_eq_false ei]
        have e1 : (decide (4 ≤ k) && bt (nw p) c) = (decide (4 ≤ k) && bt (nw p) i) := by
          by_cases h4 : 4 ≤ k
          · obtain ⟨hp1, j', j1, j2, j3⟩ := hpm h4
            rw [b14 i hi' c hc' p hp1 ?_]
            intro e
            rw [← e, ← j3] at cb
            have := b12 j' j2 i hi' cb
            rw [j3, e] at this
            omega
          · rw [decide_eq_false h4]; rfl
        have e2 : (decide (7 ≤ k) && bt (nw q) c) = (decide (7 ≤ k) && bt (nw q) i) := by
          by_cases h7 : 7 ≤ k
          · obtain ⟨hp1, j', j1, j2, j3⟩ := hqm h7
            rw [b14 i hi' c hc' q hp1 ?_]
            intro e
            rw [← e, ← j3] at cb
            have := b12 j' j2 i hi' cb
            rw [j3, e] at this
            omega
          · rw [decide_eq_false h7]; rfl
        rw [e1, e2]
      · rw [pk_un ek]
        exact b14 i hi' c hc' k' (by omega) hkc
end
section
/- simple, one, two -/
theorem xb_push {post : Int32 → SX → Prop} {f_height f_made f_size f_on f_inFirst f_over f_instantsDone f_hadInstant f_lastPresent f_lastAbsent f_present f_absent f_startedNow f_resumedNow : Int32} {a_stack a_newKind a_newMark a_newP a_newQ a_newWithin a_kind a_mark a_partP a_partQ a_within a_mustStarted a_canStarted a_mustResumed a_canResumed : Nat → Int32} {m h0 : Nat} {k mk p q ip : Int32} (hm : m < 16) (hh : h0 < 16) (e1 : f_made = nI m) (e2 : f_height = nI h0)
    (h : post (nI m) (nI (h0 + 1), nI (m + 1), f_size, f_on, f_inFirst, f_over, f_instantsDone, f_hadInstant, f_lastPresent, f_lastAbsent, f_present, f_absent, f_startedNow, f_resumedNow, upd a_stack h0 (nI m), upd a_newKind m k, upd a_newMark m mk, upd a_newP m p, upd a_newQ m q, upd a_newWithin m (ip ||| ((1 : Int32) <<< (nI m &&& 31))), a_kind, a_mark, a_partP, a_partQ, a_within, a_mustStarted, a_canStarted, a_mustResumed, a_canResumed)) : wpX_push post (f_height, f_made, f_size, f_on, f_inFirst, f_over, f_instantsDone, f_hadInstant, f_lastPresent, f_lastAbsent, f_present, f_absent, f_startedNow, f_resumedNow, a_stack, a_newKind, a_newMark, a_newP, a_newQ, a_newWithin, a_kind, a_mark, a_partP, a_partQ, a_within, a_mustStarted, a_canStarted, a_mustResumed, a_canResumed) k mk p q ip := by
  subst e1 e2
  have cm : (nI m).toNatClampNeg = m := nI_clamp (by omega)
  have ch : (nI h0).toNatClampNeg = h0 := nI_clamp (by omega)
  have vm : vp_in (nI m) 16 := vp_in_nI hm (by omega)
  have vh : vp_in (nI h0) 16 := vp_in_nI hh (by omega)
  unfold wpX_push
  dsimp only
  rw [cm, ch]
  exact ⟨vm, nm_e ⟨vm, nm_e ⟨vm, nm_e ⟨vm, nm_e ⟨vm, nm_e (nm_r (nI_1 m) ⟨vh, nm_e (nm_r (nI_1 h0) h)⟩)⟩⟩⟩⟩⟩
theorem yb_make {post : Int32 → SY → Prop} {g_made g_depth g_size g_begun g_over g_ticks g_present g_absent g_any g_lastPresent g_lastAbsent : Int32} {b_sorts b_numbers b_firsts b_seconds b_stack b_around b_on b_alive b_mustEmit b_canEmit b_mustEnd b_canEnd b_done b_frozen b_killed b_after : Nat → Int32} {m h0 : Nat} {k mk p q : Int32} (hm : m < 16) (hh : h0 < 16) (e1 : g_made = nI m) (e2 : g_depth = nI h0)
    (h : post (nI m) (nI (m + 1), nI (h0 + 1), g_size, g_begun, g_over, g_ticks, g_present, g_absent, g_any, g_lastPresent, g_lastAbsent, upd b_sorts (16 + m) k, upd b_numbers (16 + m) mk, upd b_firsts (16 + m) p, upd b_seconds (16 + m) q, upd b_stack h0 (nI m), b_around, b_on, b_alive, b_mustEmit, b_canEmit, b_mustEnd, b_canEnd, b_done, b_frozen, b_killed, b_after)) : wpY_make post (g_made, g_depth, g_size, g_begun, g_over, g_ticks, g_present, g_absent, g_any, g_lastPresent, g_lastAbsent, b_sorts, b_numbers, b_firsts, b_seconds, b_stack, b_around, b_on, b_alive, b_mustEmit, b_canEmit, b_mustEnd, b_canEnd, b_done, b_frozen, b_killed, b_after) k mk p q := by
  subst e1 e2
  have cm : (nI (16 + m)).toNatClampNeg = 16 + m := nI_clamp (by omega)
  have ch : (nI h0).toNatClampNeg = h0 := nI_clamp (by omega)
  have vm : vp_in (nI (16 + m)) 32 := vp_in_nI (by omega) (by omega)
  have vh : vp_in (nI h0) 16 := vp_in_nI hh (by omega)
  unfold wpY_make
  dsimp only
  rw [e16, cm, ch]
  exact ⟨vm, nm_e ⟨vm, nm_e ⟨vm, nm_e ⟨vm, nm_e ⟨vh, nm_e (nm_r (nI_1 h0) (nm_r (nI_1 m) h))⟩⟩⟩⟩⟩
theorem rp_u {f_size f_on f_inFirst f_over : Int32} {a_kind a_mark a_partP a_partQ a_within : Nat → Int32} {g_size g_begun g_over : Int32} {b_sorts b_numbers b_firsts b_seconds b_on : Nat → Int32} {m : Nat} {a b c d : Int32}
    (h : rp_W f_size f_on f_inFirst f_over a_kind a_mark a_partP a_partQ a_within g_size g_begun g_over b_sorts b_numbers b_firsts b_seconds b_on) :
    rp_W f_size f_on f_inFirst f_over a_kind a_mark a_partP a_partQ a_within g_size g_begun g_over (upd b_sorts (16 + m) a) (upd b_numbers (16 + m) b) (upd b_firsts (16 + m) c) (upd b_seconds (16 + m) d) b_on := by
  obtain ⟨N, K, M, P, Q, par, ar, fi, ov, e1, e2, e3, e4, e5, e6, ⟨p1, p2, p3, p4, p5, p6⟩, ho, hr⟩ := h
  refine ⟨N, K, M, P, Q, par, ar, fi, ov, e1, e2, e3, e4, e5, e6, ⟨p1, p2, p3, fun i hi => ?_, p5, p6⟩, ho, hr⟩
  have n : i ≠ 16 + m := by omega
  rw [pk_un n, pk_un n, pk_un n, pk_un n]; exact p4 i hi
theorem bw_0 {m : Nat} (hm : m < 16) {x : Int32} {k : Nat} {u v : Int32} (h4 : 4 ≤ k → x = u ∧ (7 ≤ k → False)) (h0 : ¬ 4 ≤ k → x = 0) : ∀ j, bt (x ||| ((1 : Int32) <<< (nI m &&& 31))) j = (decide (j = m) || (decide (4 ≤ k) && bt u j) || (decide (7 ≤ k) && bt v j)) := by
  intro j
  rcases Nat.lt_or_ge j 32 with q | q
  · rw [b_or, bz_sh1 m (by omega) j q]
    by_cases z : 4 ≤ k
    · have := h4 z
      rw [this.1, decide_eq_true z, decide_eq_false this.2]
      cases bt u j <;> simp
    · rw [h0 z, b_0, decide_eq_false z, decide_eq_false (show ¬ 7 ≤ k by omega)]; simp
  · rw [b_big q, b_big q, b_big q, decide_eq_false (show ¬ j = m by omega)]; simp
theorem bw_2 {m : Nat} (hm : m < 16) {k : Nat} {u v : Int32} (h7 : 7 ≤ k) : ∀ j, bt ((u ||| v) ||| ((1 : Int32) <<< (nI m &&& 31))) j = (decide (j = m) || (decide (4 ≤ k) && bt u j) || (decide (7 ≤ k) && bt v j)) := by
  intro j
  rcases Nat.lt_or_ge j 32 with q | q
  · rw [b_or, b_or, bz_sh1 m (by omega) j q, decide_eq_true h7, decide_eq_true (show 4 ≤ k by omega)]
    cases bt u j <;> cases bt v j <;> simp
  · rw [b_big q, b_big q, b_big q, decide_eq_false (show ¬ j = m by omega)]; simp
theorem ge_0 {x : Int32} {n : Nat} (hn : n < 2 ^ 31) (h : nI n ≤ x) : ¬ x < 0 := by
  intro h0
  rw [Int32.lt_iff_toInt_lt] at h0
  rw [Int32.le_iff_toInt_le, nI_toInt hn] at h
  have : (0 : Int32).toInt = 0 := by decide
  omega
theorem ge_n {x : Int32} {a b : Nat} (hn : b < 2 ^ 31) (hab : a < b) (h : nI b ≤ x) : ¬ x ≤ nI a := by
  intro h0
  rw [Int32.le_iff_toInt_le, nI_toInt (by omega)] at h0
  rw [Int32.le_iff_toInt_le, nI_toInt hn] at h
  omega
theorem ge_l {x : Int32} {a b : Nat} (hn : b < 2 ^ 31) (hab : a < b) (h : nI b ≤ x) : nI a < x := by
  rw [Int32.lt_iff_toInt_lt, nI_toInt (by omega)]
  rw [Int32.le_iff_toInt_le, nI_toInt hn] at h
  omega
/-- a signal, or not: both sides' tests -/
theorem sg_x (x : Int32) : (∃ m, m < 6 ∧ x = nI m) ∨ ((∀ A B : Prop, A → wpX_isSignal (fun r => (r = 0 → A) ∧ (¬ r = 0 → B)) x) ∧ (∀ (u : SY) (A B : Prop), B → wpY_noSignal (fun r => (r = 0 → A) ∧ (¬ r = 0 → B)) u x)) := by
  rcases pk_ix x (n := 6) (by decide) with q | q | ⟨j, hj, rfl⟩
  · refine Or.inr ⟨fun A B a => br_t q (br_t rfl a), fun u A B b => ?_⟩
    obtain ⟨g_made, g_depth, g_size, g_begun, g_over, g_ticks, g_present, g_absent, g_any, g_lastPresent, g_lastAbsent, b_sorts, b_numbers, b_firsts, b_seconds, b_stack, b_around, b_on, b_alive, b_mustEmit, b_canEmit, b_mustEnd, b_canEnd, b_done, b_frozen, b_killed, b_after⟩ := u
    exact br_t q (br_f (by decide) b)
  · have q0 := ge_0 (by decide) q
    have q5 : ¬ x ≤ 5 := ge_n (a := 5) (by decide) (by decide) q
    refine Or.inr ⟨fun A B a => br_f q0 (br_t q (br_t rfl a)), fun u A B b => ?_⟩
    obtain ⟨g_made, g_depth, g_size, g_begun, g_over, g_ticks, g_present, g_absent, g_any, g_lastPresent, g_lastAbsent, b_sorts, b_numbers, b_firsts, b_seconds, b_stack, b_around, b_on, b_alive, b_mustEmit, b_canEmit, b_mustEnd, b_canEnd, b_done, b_frozen, b_killed, b_after⟩ := u
    exact br_f q0 (br_f q5 (br_f (by decide) b))
  · exact Or.inl ⟨j, hj, rfl⟩
theorem sg_X {m : Nat} (hm : m < 6) {A B : Prop} (b : B) : wpX_isSignal (fun r => (r = 0 → A) ∧ (¬ r = 0 → B)) (nI m) :=
  br_f (nI_pos (by omega)) (br_f (nI_ge (b := 6) (by omega) (by decide)) (br_f (by decide) b))
theorem sg_Y {m : Nat} (hm : m < 6) {u : SY} {A B : Prop} (a : A) : wpY_noSignal (fun r => (r = 0 → A) ∧ (¬ r = 0 → B)) u (nI m) := by
  obtain ⟨g_made, g_depth, g_size, g_begun, g_over, g_ticks, g_present, g_absent, g_any, g_lastPresent, g_lastAbsent, b_sorts, b_numbers, b_firsts, b_seconds, b_stack, b_around, b_on, b_alive, b_mustEmit, b_canEmit, b_mustEnd, b_canEnd, b_done, b_frozen, b_killed, b_after⟩ := u
  exact br_f (nI_pos (by omega)) (br_t (nI_le (b := 5) (by omega) (by decide)) (br_t rfl a))
theorem fi_simple {k : Nat} {f_height f_made f_size f_on f_inFirst f_over f_instantsDone f_hadInstant f_lastPresent f_lastAbsent f_present f_absent f_startedNow f_resumedNow : Int32} {a_stack a_newKind a_newMark a_newP a_newQ a_newWithin a_kind a_mark a_partP a_partQ a_within a_mustStarted a_canStarted a_mustResumed a_canResumed : Nat → Int32} {g_made g_depth g_size g_begun g_over g_ticks g_present g_absent g_any g_lastPresent g_lastAbsent : Int32} {b_sorts b_numbers b_firsts b_seconds b_stack b_around b_on b_alive b_mustEmit b_canEmit b_mustEnd b_canEnd b_done b_frozen b_killed b_after : Nat → Int32} (I : i_Rel k (f_height, f_made, f_size, f_on, f_inFirst, f_over, f_instantsDone, f_hadInstant, f_lastPresent, f_lastAbsent, f_present, f_absent, f_startedNow, f_resumedNow, a_stack, a_newKind, a_newMark, a_newP, a_newQ, a_newWithin, a_kind, a_mark, a_partP, a_partQ, a_within, a_mustStarted, a_canStarted, a_mustResumed, a_canResumed) (g_made, g_depth, g_size, g_begun, g_over, g_ticks, g_present, g_absent, g_any, g_lastPresent, g_lastAbsent, b_sorts, b_numbers, b_firsts, b_seconds, b_stack, b_around, b_on, b_alive, b_mustEmit, b_canEmit, b_mustEnd, b_canEnd, b_done, b_frozen, b_killed, b_after)) {j mm : Nat} {v2 : Int32} (hj : j < 4) (hmk : mk_W j mm v2)
    (HY : ∀ post, wY_simple_38 post (nI j) v2 g_made g_depth g_size g_begun g_over g_ticks g_present g_absent g_any g_lastPresent g_lastAbsent b_sorts b_numbers b_firsts b_seconds b_stack b_around b_on b_alive b_mustEmit b_canEmit b_mustEnd b_canEnd b_done b_frozen b_killed b_after → wpY_simple post (g_made, g_depth, g_size, g_begun, g_over, g_ticks, g_present, g_absent, g_any, g_lastPresent, g_lastAbsent, b_sorts, b_numbers, b_firsts, b_seconds, b_stack, b_around, b_on, b_alive, b_mustEmit, b_canEmit, b_mustEnd, b_canEnd, b_done, b_frozen, b_killed, b_after) (nI j) v2) :
    wX_simple_41 (fun r u' => wpY_simple (fun r' v' => r' = r ∧ i_Rel (k + 3) u' v') (g_made, g_depth, g_size, g_begun, g_over, g_ticks, g_present, g_absent, g_any, g_lastPresent, g_lastAbsent, b_sorts, b_numbers, b_firsts, b_seconds, b_stack, b_around, b_on, b_alive, b_mustEmit, b_canEmit, b_mustEnd, b_canEnd, b_done, b_frozen, b_killed, b_after) (nI j) v2) (nI j) v2 f_height f_made f_size f_on f_inFirst f_over f_instantsDone f_hadInstant f_lastPresent f_lastAbsent f_present f_absent f_startedNow f_resumedNow a_stack a_newKind a_newMark a_newP a_newQ a_newWithin a_kind a_mark a_partP a_partQ a_within a_mustStarted a_canStarted a_mustResumed a_canResumed := by
  have I' := I
  obtain ⟨hp, ⟨m, h, K, M, P, Q, sk, e1, e2, e3, e4, hb⟩, ht, hh⟩ := I
  have b1 := hb.1
  have b2 := hb.2.1
  unfold wX_simple_41
  refine pk_eq m 16 (fun z => ?_) (fun z => ?_) e1
  · exact HY _ (br_t (by rw [e2, z]; rfl) ⟨rfl, I'⟩)
  · have hm : m < 16 := by omega
    refine xb_push hm (show h < 16 by omega) e1 e3 (HY _ (br_f (fun q => z ?_) ?_))
    · rw [e2] at q; exact (nI_eq (b := 16) (by omega) (by decide)).mp q
    · have key := bu_push (h0 := h) (k := j) (mm := mm) (p := 0) (q := 0) (mx := v2) (wm := 0 ||| ((1 : Int32) <<< (nI m &&& 31))) hb hm (by omega) (by omega) hmk (by omega) (by omega) (fun _ => rfl) (fun q => by omega)
        (fun c => ⟨fun q => by omega, fun ⟨j', q1, q2, _⟩ => by omega⟩) (bw_0 hm (fun q => by omega) (fun _ => rfl))
      rw [if_neg (show ¬ 7 ≤ j by omega)] at key
      have e0 : (0 : Int32) + nI j = nI j := Int32.zero_add _
      refine yb_make hm (show h < 16 by omega) e2 e4 ⟨rfl, rp_u hp, ?_, ht, hh⟩
      rw [e0]
      exact ⟨m + 1, h + 1, _, _, _, _, _, rfl, rfl, rfl, rfl, key⟩
theorem i_vc_simple {k : Nat} {u : SX} {v : SY} (I : i_Rel k u v) (hk : k + 3 ≤ 1536) (v1 : Int32) (v2 : Int32) : wpX_simple (fun r u' => wpY_simple (fun r' v' => r' = r ∧ i_Rel (k + 3) u' v') v v1 v2) u v1 v2 := by
  obtain ⟨f_height, f_made, f_size, f_on, f_inFirst, f_over, f_instantsDone, f_hadInstant, f_lastPresent, f_lastAbsent, f_present, f_absent, f_startedNow, f_resumedNow, a_stack, a_newKind, a_newMark, a_newP, a_newQ, a_newWithin, a_kind, a_mark, a_partP, a_partQ, a_within, a_mustStarted, a_canStarted, a_mustResumed, a_canResumed⟩ := u
  obtain ⟨g_made, g_depth, g_size, g_begun, g_over, g_ticks, g_present, g_absent, g_any, g_lastPresent, g_lastAbsent, b_sorts, b_numbers, b_firsts, b_seconds, b_stack, b_around, b_on, b_alive, b_mustEmit, b_canEmit, b_mustEnd, b_canEnd, b_done, b_frozen, b_killed, b_after⟩ := v
  rcases pk_ix v1 (n := 4) (by decide) with q | q | ⟨j, hj, rfl⟩
  · exact br_t q (br_t q ⟨rfl, I⟩)
  · have q0 := ge_0 (by decide) q
    exact br_f q0 (br_f (ge_n (a := 3) (by decide) (by decide) q) (br_f q0 (br_t (ge_l (a := 3) (by decide) (by decide) q) ⟨rfl, I⟩)))
  · have q0 : ¬ nI j < 0 := nI_pos (by omega)
    have q3 : nI j ≤ 3 := nI_le (b := 3) (by omega) (by decide)
    have q3' : ¬ 3 < nI j := nI_nlt (a := 3) (by omega) (by decide)
    by_cases z2 : j = 2
    · have c2 : nI j = 2 := by rw [z2]; rfl
      have c3 : ¬ nI j = 3 := by rw [z2]; decide
      rcases sg_x v2 with ⟨m, hm, rfl⟩ | ⟨sx, sy⟩
      · refine br_f q0 (br_t q3 (br_t c2 (sg_X hm (br_f c3 ?_))))
        exact fi_simple I (mm := m) hj ⟨fun _ => ⟨rfl, hm⟩, fun q => by omega⟩ (fun post hp => br_f q0 (br_f q3' (br_t c2 (sg_Y hm (br_f c3 hp)))))
      · refine br_f q0 (br_t q3 (br_t c2 (sx _ _ ?_)))
        exact br_f q0 (br_f q3' (br_t c2 (sy _ _ _ ⟨rfl, I⟩)))
    · have c2 : ¬ nI j = 2 := fun q => z2 ((nI_eq (b := 2) (by omega) (by decide)).mp q)
      by_cases z3 : j = 3
      · have c3 : nI j = 3 := by rw [z3]; rfl
        rcases pk_ix v2 (n := 3) (by decide) with r | r | ⟨m, hm, rfl⟩
        · exact br_f q0 (br_t q3 (br_f c2 (br_t c3 (br_t r (br_f q0 (br_f q3' (br_f c2 (br_t c3 (br_t r ⟨rfl, I⟩)))))))))
        · have r0 := ge_0 (by decide) r
          have r2 : ¬ v2 ≤ 2 := ge_n (a := 2) (by decide) (by decide) r
          exact br_f q0 (br_t q3 (br_f c2 (br_t c3 (br_f r0 (br_f r2 (br_f q0 (br_f q3' (br_f c2 (br_t c3 (br_f r0 (br_f r2 ⟨rfl, I⟩)))))))))))
        · have r0 : ¬ nI m < 0 := nI_pos (by omega)
          have r2 : nI m ≤ 2 := nI_le (b := 2) (by omega) (by decide)
          refine br_f q0 (br_t q3 (br_f c2 (br_t c3 (br_f r0 (br_t r2 ?_)))))
          exact fi_simple I (mm := m) hj ⟨fun q => by omega, fun _ => ⟨rfl, hm⟩⟩ (fun post hp => br_f q0 (br_f q3' (br_f c2 (br_t c3 (br_f r0 (br_t r2 hp))))))
      · have c3 : ¬ nI j = 3 := fun q => z3 ((nI_eq (b := 3) (by omega) (by decide)).mp q)
        refine br_f q0 (br_t q3 (br_f c2 (br_f c3 ?_)))
        exact fi_simple I (mm := 0) hj ⟨fun q => by omega, fun q => by omega⟩ (fun post hp => br_f q0 (br_f q3' (br_f c2 (br_f c3 hp))))
theorem fi_one {k : Nat} {f_height f_made f_size f_on f_inFirst f_over f_instantsDone f_hadInstant f_lastPresent f_lastAbsent f_present f_absent f_startedNow f_resumedNow : Int32} {a_stack a_newKind a_newMark a_newP a_newQ a_newWithin a_kind a_mark a_partP a_partQ a_within a_mustStarted a_canStarted a_mustResumed a_canResumed : Nat → Int32} {g_made g_depth g_size g_begun g_over g_ticks g_present g_absent g_any g_lastPresent g_lastAbsent : Int32} {b_sorts b_numbers b_firsts b_seconds b_stack b_around b_on b_alive b_mustEmit b_canEmit b_mustEnd b_canEnd b_done b_frozen b_killed b_after : Nat → Int32} (I : i_Rel k (f_height, f_made, f_size, f_on, f_inFirst, f_over, f_instantsDone, f_hadInstant, f_lastPresent, f_lastAbsent, f_present, f_absent, f_startedNow, f_resumedNow, a_stack, a_newKind, a_newMark, a_newP, a_newQ, a_newWithin, a_kind, a_mark, a_partP, a_partQ, a_within, a_mustStarted, a_canStarted, a_mustResumed, a_canResumed) (g_made, g_depth, g_size, g_begun, g_over, g_ticks, g_present, g_absent, g_any, g_lastPresent, g_lastAbsent, b_sorts, b_numbers, b_firsts, b_seconds, b_stack, b_around, b_on, b_alive, b_mustEmit, b_canEmit, b_mustEnd, b_canEnd, b_done, b_frozen, b_killed, b_after)) {j mm : Nat} {v2 : Int32} (hj : j < 3) (hmk : mk_W (4 + j) mm v2)
    (HY : ∀ post, wY_one_24 post (nI j) v2 g_made g_depth g_size g_begun g_over g_ticks g_present g_absent g_any g_lastPresent g_lastAbsent b_sorts b_numbers b_firsts b_seconds b_stack b_around b_on b_alive b_mustEmit b_canEmit b_mustEnd b_canEnd b_done b_frozen b_killed b_after → wpY_one post (g_made, g_depth, g_size, g_begun, g_over, g_ticks, g_present, g_absent, g_any, g_lastPresent, g_lastAbsent, b_sorts, b_numbers, b_firsts, b_seconds, b_stack, b_around, b_on, b_alive, b_mustEmit, b_canEmit, b_mustEnd, b_canEnd, b_done, b_frozen, b_killed, b_after) (nI j) v2) :
    wX_one_28 (fun r u' => wpY_one (fun r' v' => r' = r ∧ i_Rel (k + 3) u' v') (g_made, g_depth, g_size, g_begun, g_over, g_ticks, g_present, g_absent, g_any, g_lastPresent, g_lastAbsent, b_sorts, b_numbers, b_firsts, b_seconds, b_stack, b_around, b_on, b_alive, b_mustEmit, b_canEmit, b_mustEnd, b_canEnd, b_done, b_frozen, b_killed, b_after) (nI j) v2) (nI j) v2 f_height f_made f_size f_on f_inFirst f_over f_instantsDone f_hadInstant f_lastPresent f_lastAbsent f_present f_absent f_startedNow f_resumedNow a_stack a_newKind a_newMark a_newP a_newQ a_newWithin a_kind a_mark a_partP a_partQ a_within a_mustStarted a_canStarted a_mustResumed a_canResumed := by
  have I' := I
  obtain ⟨hp, ⟨m, h, K, M, P, Q, sk, e1, e2, e3, e4, hb⟩, ht, hh⟩ := I
  have b1 := hb.1
  have b2 := hb.2.1
  unfold wX_one_28
  refine pk_eq m 16 (fun z => ?_) (fun z => ?_) e1
  · exact HY _ (br_t (by rw [e2, z]; rfl) ⟨rfl, I'⟩)
  · have hm : m < 16 := by omega
    have ny : ¬ g_made = 16 := fun q => z (by rw [e2] at q; exact (nI_eq (b := 16) (by omega) (by decide)).mp q)
    refine pk_le 1 h (fun l => ?_) (fun l => ?_) rfl e3
    · have hz : nI h - 1 = nI (h - 1) := pk_sub (a := h) (b := 1) l
      have ch : (nI (h - 1)).toNatClampNeg = h - 1 := nI_clamp (by omega)
      have vh : vp_in (nI (h - 1)) 16 := vp_in_nI (by omega) (by omega)
      obtain ⟨s1, s2, s3⟩ := hb.2.2.2.2.2.1 (h - 1) (by omega)
      have hxs : f_height - 1 = nI (h - 1) := by rw [e3, hz]
      have hys : g_depth - 1 = nI (h - 1) := by rw [e4, hz]
      have cs : (nI (sk (h - 1))).toNatClampNeg = sk (h - 1) := nI_clamp (by omega)
      rw [hxs, ch, s1]
      refine ⟨vh, nm_e (nm_e ⟨vp_in_nI (by omega) (by omega), ?_⟩)⟩
      rw [cs]
      refine xb_push hm (show h - 1 < 16 by omega) e1 rfl (HY _ (br_f ny (br_t ?_ ?_)))
      · rw [e4]; exact nI_le (a := 1) l (by omega)
      · rw [hys]
        have key := bu_push (h0 := h - 1) (k := 4 + j) (mm := mm) (p := sk (h - 1)) (q := sk (h - 1)) (mx := v2) (wm := a_newWithin (sk (h - 1)) ||| ((1 : Int32) <<< (nI m &&& 31))) hb hm (by omega) (by omega) hmk (by omega) (by omega) (fun _ => rfl) (fun q => by omega)
          (fun c => ⟨fun q => ⟨h - 1, by omega, by omega, by rcases q with q | q; exact q.2.symm; omega⟩, fun ⟨j', q1, q2, q3⟩ => Or.inl ⟨by omega, by rw [← q3, show j' = h - 1 by omega]⟩⟩) (bw_0 hm (fun _ => ⟨rfl, fun q => by omega⟩) (fun q => by omega))
        rw [if_neg (show ¬ 7 ≤ 4 + j by omega)] at key
        have e0 : (4 : Int32) + nI j = nI (4 + j) := nI_add 4 j
        refine nm_e ⟨vh, ?_⟩
        rw [ch, s2]
        refine yb_make hm (show h - 1 < 16 by omega) e2 rfl ⟨rfl, rp_u hp, ?_, ht, hh⟩
        rw [e0]
        exact ⟨m + 1, h - 1 + 1, _, _, _, _, _, rfl, rfl, rfl, rfl, key⟩
    · refine HY _ (br_f ny (br_f ?_ ⟨rfl, I'⟩))
      rw [e4]; exact nI_ge (b := 1) l (by decide)
theorem i_vc_one {k : Nat} {u : SX} {v : SY} (I : i_Rel k u v) (hk : k + 3 ≤ 1536) (v1 : Int32) (v2 : Int32) : wpX_one (fun r u' => wpY_one (fun r' v' => r' = r ∧ i_Rel (k + 3) u' v') v v1 v2) u v1 v2 := by
  obtain ⟨f_height, f_made, f_size, f_on, f_inFirst, f_over, f_instantsDone, f_hadInstant, f_lastPresent, f_lastAbsent, f_present, f_absent, f_startedNow, f_resumedNow, a_stack, a_newKind, a_newMark, a_newP, a_newQ, a_newWithin, a_kind, a_mark, a_partP, a_partQ, a_within, a_mustStarted, a_canStarted, a_mustResumed, a_canResumed⟩ := u
  obtain ⟨g_made, g_depth, g_size, g_begun, g_over, g_ticks, g_present, g_absent, g_any, g_lastPresent, g_lastAbsent, b_sorts, b_numbers, b_firsts, b_seconds, b_stack, b_around, b_on, b_alive, b_mustEmit, b_canEmit, b_mustEnd, b_canEnd, b_done, b_frozen, b_killed, b_after⟩ := v
  rcases pk_ix v1 (n := 3) (by decide) with q | q | ⟨j, hj, rfl⟩
  · exact br_t q (br_t q ⟨rfl, I⟩)
  · have q0 := ge_0 (by decide) q
    exact br_f q0 (br_f (ge_n (a := 2) (by decide) (by decide) q) (br_f q0 (br_t (ge_l (a := 2) (by decide) (by decide) q) ⟨rfl, I⟩)))
  · have q0 : ¬ nI j < 0 := nI_pos (by omega)
    have q3 : nI j ≤ 2 := nI_le (b := 2) (by omega) (by decide)
    have q3' : ¬ 2 < nI j := nI_nlt (a := 2) (by omega) (by decide)
    have e0 : (4 : Int32) + nI j = nI (4 + j) := nI_add 4 j
    by_cases z2 : j = 2
    · have c2 : nI j = 2 := by rw [z2]; rfl
      have c6 : (4 : Int32) + nI j = 6 := by rw [z2]; decide
      rcases sg_x v2 with ⟨m, hm, rfl⟩ | ⟨sx, sy⟩
      · refine br_f q0 (br_t q3 (br_t c6 (sg_X hm ?_)))
        exact fi_one I (mm := m) hj ⟨fun _ => ⟨rfl, hm⟩, fun q => by omega⟩ (fun post hp => br_f q0 (br_f q3' (br_t c2 (sg_Y hm hp))))
      · refine br_f q0 (br_t q3 (br_t c6 (sx _ _ ?_)))
        exact br_f q0 (br_f q3' (br_t c2 (sy _ _ _ ⟨rfl, I⟩)))
    · have c2 : ¬ nI j = 2 := fun q => z2 ((nI_eq (b := 2) (by omega) (by decide)).mp q)
      have c6 : ¬ (4 : Int32) + nI j = 6 := fun q => by
        rw [e0] at q
        have := (nI_eq (b := 6) (by omega) (by decide)).mp q; omega
      refine br_f q0 (br_t q3 (br_f c6 ?_))
      exact fi_one I (mm := 0) hj ⟨fun q => by omega, fun q => by omega⟩ (fun post hp => br_f q0 (br_f q3' (br_f c2 hp)))
theorem fi_two {k : Nat} {f_height f_made f_size f_on f_inFirst f_over f_instantsDone f_hadInstant f_lastPresent f_lastAbsent f_present f_absent f_startedNow f_resumedNow : Int32} {a_stack a_newKind a_newMark a_newP a_newQ a_newWithin a_kind a_mark a_partP a_partQ a_within a_mustStarted a_canStarted a_mustResumed a_canResumed : Nat → Int32} {g_made g_depth g_size g_begun g_over g_ticks g_present g_absent g_any g_lastPresent g_lastAbsent : Int32} {b_sorts b_numbers b_firsts b_seconds b_stack b_around b_on b_alive b_mustEmit b_canEmit b_mustEnd b_canEnd b_done b_frozen b_killed b_after : Nat → Int32} (I : i_Rel k (f_height, f_made, f_size, f_on, f_inFirst, f_over, f_instantsDone, f_hadInstant, f_lastPresent, f_lastAbsent, f_present, f_absent, f_startedNow, f_resumedNow, a_stack, a_newKind, a_newMark, a_newP, a_newQ, a_newWithin, a_kind, a_mark, a_partP, a_partQ, a_within, a_mustStarted, a_canStarted, a_mustResumed, a_canResumed) (g_made, g_depth, g_size, g_begun, g_over, g_ticks, g_present, g_absent, g_any, g_lastPresent, g_lastAbsent, b_sorts, b_numbers, b_firsts, b_seconds, b_stack, b_around, b_on, b_alive, b_mustEmit, b_canEmit, b_mustEnd, b_canEnd, b_done, b_frozen, b_killed, b_after)) {j mm : Nat} {v2 : Int32} (hj : j < 3) (hmk : mk_W (7 + j) mm v2)
    (HY : ∀ post, wY_two_24 post (nI j) v2 g_made g_depth g_size g_begun g_over g_ticks g_present g_absent g_any g_lastPresent g_lastAbsent b_sorts b_numbers b_firsts b_seconds b_stack b_around b_on b_alive b_mustEmit b_canEmit b_mustEnd b_canEnd b_done b_frozen b_killed b_after → wpY_two post (g_made, g_depth, g_size, g_begun, g_over, g_ticks, g_present, g_absent, g_any, g_lastPresent, g_lastAbsent, b_sorts, b_numbers, b_firsts, b_seconds, b_stack, b_around, b_on, b_alive, b_mustEmit, b_canEmit, b_mustEnd, b_canEnd, b_done, b_frozen, b_killed, b_after) (nI j) v2) :
    wX_two_29 (fun r u' => wpY_two (fun r' v' => r' = r ∧ i_Rel (k + 3) u' v') (g_made, g_depth, g_size, g_begun, g_over, g_ticks, g_present, g_absent, g_any, g_lastPresent, g_lastAbsent, b_sorts, b_numbers, b_firsts, b_seconds, b_stack, b_around, b_on, b_alive, b_mustEmit, b_canEmit, b_mustEnd, b_canEnd, b_done, b_frozen, b_killed, b_after) (nI j) v2) (nI j) v2 f_height f_made f_size f_on f_inFirst f_over f_instantsDone f_hadInstant f_lastPresent f_lastAbsent f_present f_absent f_startedNow f_resumedNow a_stack a_newKind a_newMark a_newP a_newQ a_newWithin a_kind a_mark a_partP a_partQ a_within a_mustStarted a_canStarted a_mustResumed a_canResumed := by
  have I' := I
  obtain ⟨hp, ⟨m, h, K, M, P, Q, sk, e1, e2, e3, e4, hb⟩, ht, hh⟩ := I
  have b1 := hb.1
  have b2 := hb.2.1
  unfold wX_two_29
  refine pk_eq m 16 (fun z => ?_) (fun z => ?_) e1
  · exact HY _ (br_t (by rw [e2, z]; rfl) ⟨rfl, I'⟩)
  · have hm : m < 16 := by omega
    have ny : ¬ g_made = 16 := fun q => z (by rw [e2] at q; exact (nI_eq (b := 16) (by omega) (by decide)).mp q)
    refine pk_le 2 h (fun l => ?_) (fun l => ?_) rfl e3
    · have hz : nI h - 1 = nI (h - 1) := pk_sub (a := h) (b := 1) (by omega)
      have hz2 : nI h - 2 = nI (h - 2) := pk_sub (a := h) (b := 2) l
      have ch : (nI (h - 1)).toNatClampNeg = h - 1 := nI_clamp (by omega)
      have vh : vp_in (nI (h - 1)) 16 := vp_in_nI (by omega) (by omega)
      have ch2 : (nI (h - 2)).toNatClampNeg = h - 2 := nI_clamp (by omega)
      have vh2 : vp_in (nI (h - 2)) 16 := vp_in_nI (by omega) (by omega)
      obtain ⟨s1, s2, s3⟩ := hb.2.2.2.2.2.1 (h - 1) (by omega)
      obtain ⟨t1, t2, t3⟩ := hb.2.2.2.2.2.1 (h - 2) (by omega)
      have hinj := hb.2.2.2.2.2.2.1 (h - 1) (h - 2) (by omega) (by omega)
      have hxs : f_height - 1 = nI (h - 1) := by rw [e3, hz]
      have hxs2 : f_height - 2 = nI (h - 2) := by rw [e3, hz2]
      have hys : g_depth - 2 = nI (h - 2) := by rw [e4, hz2]
      have hys1 : nI (h - 2) + 1 = nI (h - 1) := by rw [nI_1, show h - 2 + 1 = h - 1 by omega]
      have cs : (nI (sk (h - 1))).toNatClampNeg = sk (h - 1) := nI_clamp (by omega)
      have ct : (nI (sk (h - 2))).toNatClampNeg = sk (h - 2) := nI_clamp (by omega)
      rw [hxs, hxs2, ch, ch2, s1, t1]
      refine ⟨vh2, nm_e ⟨vh, nm_e (nm_e ⟨vp_in_nI (by omega) (by omega), vp_in_nI (by omega) (by omega), ?_⟩)⟩⟩
      rw [cs, ct]
      refine xb_push hm (show h - 2 < 16 by omega) e1 rfl (HY _ (br_f ny (br_t ?_ ?_)))
      · rw [e4]; exact nI_le (a := 2) l (by omega)
      · rw [hys]
        have key := bu_push (h0 := h - 2) (k := 7 + j) (mm := mm) (p := sk (h - 2)) (q := sk (h - 1)) (mx := v2) (wm := (a_newWithin (sk (h - 2)) ||| a_newWithin (sk (h - 1))) ||| ((1 : Int32) <<< (nI m &&& 31))) hb hm (by omega) (by omega) hmk (by omega) (by omega) (fun q => by omega) (fun q e => by have := hinj e; omega)
          (fun c => ⟨fun q => by
            rcases q with q | q
            · exact ⟨h - 2, by omega, by omega, q.2.symm⟩
            · exact ⟨h - 1, by omega, by omega, q.2.symm⟩, fun ⟨j', q1, q2, q3⟩ => by
            by_cases e : j' = h - 2
            · exact Or.inl ⟨by omega, by rw [← q3, e]⟩
            · exact Or.inr ⟨by omega, by rw [← q3, show j' = h - 1 by omega]⟩⟩) (bw_2 hm (by omega))
        rw [if_pos (show 7 ≤ 7 + j by omega)] at key
        have e0 : (7 : Int32) + nI j = nI (7 + j) := nI_add 7 j
        refine nm_e ⟨vh2, ?_⟩
        rw [hys1]
        refine ⟨vh, ?_⟩
        rw [ch, ch2, s2, t2]
        refine yb_make hm (show h - 2 < 16 by omega) e2 rfl ⟨rfl, rp_u hp, ?_, ht, hh⟩
        rw [e0]
        exact ⟨m + 1, h - 2 + 1, _, _, _, _, _, rfl, rfl, rfl, rfl, key⟩
    · refine HY _ (br_f ny (br_f ?_ ⟨rfl, I'⟩))
      rw [e4]; exact nI_ge (b := 2) l (by decide)
theorem i_vc_two {k : Nat} {u : SX} {v : SY} (I : i_Rel k u v) (hk : k + 3 ≤ 1536) (v1 : Int32) (v2 : Int32) : wpX_two (fun r u' => wpY_two (fun r' v' => r' = r ∧ i_Rel (k + 3) u' v') v v1 v2) u v1 v2 := by
  obtain ⟨f_height, f_made, f_size, f_on, f_inFirst, f_over, f_instantsDone, f_hadInstant, f_lastPresent, f_lastAbsent, f_present, f_absent, f_startedNow, f_resumedNow, a_stack, a_newKind, a_newMark, a_newP, a_newQ, a_newWithin, a_kind, a_mark, a_partP, a_partQ, a_within, a_mustStarted, a_canStarted, a_mustResumed, a_canResumed⟩ := u
  obtain ⟨g_made, g_depth, g_size, g_begun, g_over, g_ticks, g_present, g_absent, g_any, g_lastPresent, g_lastAbsent, b_sorts, b_numbers, b_firsts, b_seconds, b_stack, b_around, b_on, b_alive, b_mustEmit, b_canEmit, b_mustEnd, b_canEnd, b_done, b_frozen, b_killed, b_after⟩ := v
  rcases pk_ix v1 (n := 3) (by decide) with q | q | ⟨j, hj, rfl⟩
  · exact br_t q (br_t q ⟨rfl, I⟩)
  · have q0 := ge_0 (by decide) q
    exact br_f q0 (br_f (ge_n (a := 2) (by decide) (by decide) q) (br_f q0 (br_t (ge_l (a := 2) (by decide) (by decide) q) ⟨rfl, I⟩)))
  · have q0 : ¬ nI j < 0 := nI_pos (by omega)
    have q3 : nI j ≤ 2 := nI_le (b := 2) (by omega) (by decide)
    have q3' : ¬ 2 < nI j := nI_nlt (a := 2) (by omega) (by decide)
    have e0 : (7 : Int32) + nI j = nI (7 + j) := nI_add 7 j
    by_cases z2 : j = 2
    · have c2 : nI j = 2 := by rw [z2]; rfl
      have c6 : (7 : Int32) + nI j = 9 := by rw [z2]; decide
      rcases sg_x v2 with ⟨m, hm, rfl⟩ | ⟨sx, sy⟩
      · refine br_f q0 (br_t q3 (br_t c6 (sg_X hm ?_)))
        exact fi_two I (mm := m) hj ⟨fun _ => ⟨rfl, hm⟩, fun q => by omega⟩ (fun post hp => br_f q0 (br_f q3' (br_t c2 (sg_Y hm hp))))
      · refine br_f q0 (br_t q3 (br_t c6 (sx _ _ ?_)))
        exact br_f q0 (br_f q3' (br_t c2 (sy _ _ _ ⟨rfl, I⟩)))
    · have c2 : ¬ nI j = 2 := fun q => z2 ((nI_eq (b := 2) (by omega) (by decide)).mp q)
      have c6 : ¬ (7 : Int32) + nI j = 9 := fun q => by
        rw [e0] at q
        have := (nI_eq (b := 9) (by omega) (by decide)).mp q; omega
      refine br_f q0 (br_t q3 (br_f c6 ?_))
      exact fi_two I (mm := 0) hj ⟨fun q => by omega, fun q => by omega⟩ (fun post hp => br_f q0 (br_f q3' (br_f c2 hp)))
end
section
/- program: the tree of what was put together, the exits' traps -/
theorem bu_tr {m : Nat} {K M P Q sk : Nat → Nat} {nk nm np nq nw bs bn bf bc xs ys : Nat → Int32} (hb : bu_W m 1 K M P Q sk nk nm np nq nw bs bn bf bc xs ys) : ∃ par, tr_P m K P Q par nw := by
  obtain ⟨b1, b2, b3, b4, b5, b6, b7, b8, b9, b10, b11, b12, b13, b14⟩ := hb
  have wf : wf_P m K P Q := pg_wf b4
  have le := bu_le wf b9
  have root : sk 0 + 1 = m := b8 (by decide)
  have chm : ∀ i c, i < m → ch_W K P Q i c → c < i ∧ bt (nw i) c = true := by
    intro i c hi hc
    rcases hc with ⟨h4, e⟩ | ⟨h7, e⟩
    · have := (wf i hi h4).1
      refine ⟨by omega, ?_⟩
      rw [b9 i hi c, e, b9 (P i) (by omega) (P i), decide_eq_true h4]; simp
    · have := (wf i hi (by omega)).2
      refine ⟨by omega, ?_⟩
      rw [b9 i hi c, e, b9 (Q i) (by omega) (Q i), decide_eq_true h7]; simp
  have hex : ∀ c, ∃ i, c + 1 < m → i < m ∧ ch_W K P Q i c := by
    intro c
    by_cases hc : c + 1 < m
    · rcases b13 c (by omega) with ⟨j, j1, j2⟩ | ⟨i, i1, i2⟩
      · have : j = 0 := by omega
        rw [this] at j2; omega
      · exact ⟨i, fun _ => ⟨i1, i2⟩⟩
    · exact ⟨0, fun h => absurd h hc⟩
  obtain ⟨par, hpar⟩ : ∃ par : Nat → Nat, ∀ c, c + 1 < m → par c < m ∧ ch_W K P Q (par c) c := ⟨fun c => Classical.choose (hex c), fun c => Classical.choose_spec (hex c)⟩
  have uniq : ∀ i c, i < m → ch_W K P Q i c → par c = i := by
    intro i c hi hc
    obtain ⟨ci, cb⟩ := chm i c hi hc
    obtain ⟨hp, hpc⟩ := hpar c (by omega)
    obtain ⟨ci', cb'⟩ := chm (par c) c hp hpc
    have e1 := b14 (par c) hp c hpc i hi (by omega)
    have e2 := b14 i hi c hc (par c) hp (by omega)
    rw [cb] at e1
    rw [cb'] at e2
    have l1 := le i hi _ e1.symm
    have l2 := le (par c) hp _ e2.symm
    omega
  refine ⟨par, fun c hc => ?_, fun i hi h4 => uniq i _ hi (Or.inl ⟨h4, rfl⟩), fun i hi h7 => ⟨uniq i _ hi (Or.inr ⟨h7, rfl⟩), b11 i hi h7⟩, fun c hc k hk hkc => ?_, b9, b10⟩
  · obtain ⟨hp, hpc⟩ := hpar c hc
    exact ⟨(chm _ c hp hpc).1, hp, hpc⟩
  · obtain ⟨hp, hpc⟩ := hpar c hc
    exact b14 _ hp c hpc k hk hkc
def ct_N (f : Nat → Bool) : Nat → Nat
  | 0 => 0
  | n + 1 => ct_N f n + (if f n = true then 1 else 0)
theorem ct_c {f g : Nat → Bool} : ∀ n, (∀ k, k < n → f k = g k) → ct_N f n = ct_N g n := by
  intro n
  induction n with
  | zero => intro _; rfl
  | succ n ih =>
    intro h
    show ct_N f n + _ = ct_N g n + _
    rw [ih (fun k hk => h k (by omega)), h n (by omega)]
theorem ct_1 {f g : Nat → Bool} {i : Nat} (hg : g i = false) : ∀ n, i < n → (∀ k, k < n → k ≠ i → f k = g k) → ct_N f n = ct_N g n + (if f i = true then 1 else 0) := by
  intro n
  induction n with
  | zero => intro h; omega
  | succ n ih =>
    intro hi h
    show ct_N f n + _ = ct_N g n + _ + _
    by_cases e : i = n
    · rw [ct_c n (fun k hk => h k (by omega) (by omega)), ← e, hg]; simp
    · rw [ih (by omega) (fun k hk hne => h k (by omega) hne), h n (by omega) (Ne.symm e)]; omega
theorem ct_0 {f : Nat → Bool} : ∀ n, (∀ k, k < n → f k = false) → ct_N f n = 0 := by
  intro n
  induction n with
  | zero => intro _; rfl
  | succ n ih =>
    intro h
    show ct_N f n + _ = 0
    rw [ih (fun k hk => h k (by omega)), h n (by omega)]; rfl
/-- traps strictly around -/
def ta_B (K : Nat → Nat) (w : Nat → Int32) (c k : Nat) : Bool := decide (K k = 5) && decide (k ≠ c) && bt (w k) c
theorem ar_c {N : Nat} {K P Q par ar : Nat → Nat} {w : Nat → Int32} (ht : tr_P N K P Q par w) (wf : wf_P N K P Q) (h0 : ar (N - 1) = 0) (h : ∀ c, c + 1 < N → ar c = ar (par c) + (if K (par c) = 5 then 1 else 0)) :
    ∀ n c, N - c = n → c < N → ct_N (ta_B K w c) N = ar c := by
  intro n
  induction n using Nat.strongRecOn with
  | _ n ih =>
    intro c hn hc
    by_cases e : c + 1 < N
    · obtain ⟨hp, hpN, _⟩ := ht.1 c e
      rw [h c e, ← ih (N - par c) (by omega) (par c) rfl hpN]
      have hself : bt (w (par c)) (par c) = true := tr_self ht hpN
      have e1 := ct_1 (f := ta_B K w c) (g := ta_B K w (par c)) (i := par c) (by unfold ta_B; simp) N hpN (fun k hk hne => ?_)
      · rw [e1]
        congr 1
        unfold ta_B
        rw [ht.2.2.2.1 c e (par c) hpN (by omega), hself, decide_eq_true (show par c ≠ c by omega)]
        by_cases z : K (par c) = 5
        · rw [decide_eq_true z, if_pos z]; simp
        · rw [decide_eq_false z, if_neg z]; simp
      · unfold ta_B
        rw [decide_eq_true hne]
        by_cases z : k = c
        · have : bt (w k) (par c) = false := by
            cases q : bt (w k) (par c)
            · rfl
            · rw [z] at q; have := tr_le ht wf c hc _ q; omega
          rw [this, decide_eq_false (show ¬ (k ≠ c) by omega)]; simp
        · rw [ht.2.2.2.1 c e k hk z, decide_eq_true z]
    · have hc1 : c = N - 1 := by omega
      rw [hc1, h0]
      refine ct_0 N (fun k hk => ?_)
      unfold ta_B
      by_cases z : k = N - 1
      · rw [decide_eq_false (show ¬ (k ≠ N - 1) by omega)]; simp
      · have : bt (w k) (N - 1) = false := by
          cases q : bt (w k) (N - 1)
          · rfl
          · have := tr_le ht wf k hk _ q; omega
        rw [this]; simp
/- X: the exits -/
theorem xe_4 {post : Int32 → Prop} {f_height f_made f_size f_on f_inFirst f_over f_instantsDone f_hadInstant f_lastPresent f_lastAbsent f_present f_absent f_startedNow f_resumedNow : Int32} {a_stack a_newKind a_newMark a_newP a_newQ a_newWithin a_kind a_mark a_partP a_partQ a_within a_mustStarted a_canStarted a_mustResumed a_canResumed : Nat → Int32} {m c : Nat} {K M P Q : Nat → Nat} (hm : m ≤ 16) (hc : c < m) (e1 : f_made = nI m) (hg : pg_X m K M P Q a_newKind a_newMark a_newP a_newQ)
    (h : post (nI (ct_N (fun k => decide (K k = 5) && bt (a_newWithin k) c) m))) :
    ∀ t i, i + t = m → wX_trapsAround_4 post (nI c) f_height f_made f_size f_on f_inFirst f_over f_instantsDone f_hadInstant f_lastPresent f_lastAbsent f_present f_absent f_startedNow f_resumedNow a_stack a_newKind a_newMark a_newP a_newQ a_newWithin a_kind a_mark a_partP a_partQ a_within a_mustStarted a_canStarted a_mustResumed a_canResumed (t + 1) (nI (ct_N (fun k => decide (K k = 5) && bt (a_newWithin k) c) i)) (nI i) := by
  intro t
  induction t with
  | zero =>
    intro i hi
    have : i = m := by omega
    subst this
    exact br_t (by rw [e1]; exact nI_le (by omega) (by omega)) h
  | succ t ih =>
    intro i hi
    have hcl : (nI i).toNatClampNeg = i := nI_clamp (by omega)
    have vi : vp_in (nI i) 16 := vp_in_nI (by omega) (by omega)
    refine br_f (by rw [e1]; exact nI_ge (by omega) (by omega)) ⟨vi, ?_⟩
    rw [hcl, (hg i (by omega)).1]
    have k9 := (hg i (by omega)).2.1
    have step : ∀ b, (decide (K i = 5) && bt (a_newWithin i) c) = b → ct_N (fun k => decide (K k = 5) && bt (a_newWithin k) c) (i + 1) = ct_N (fun k => decide (K k = 5) && bt (a_newWithin k) c) i + (if b = true then 1 else 0) := by
      intro b hb
      show ct_N (fun k => decide (K k = 5) && bt (a_newWithin k) c) i + (if (decide (K i = 5) && bt (a_newWithin i) c) = true then 1 else 0) = _
      rw [hb]
    refine pk_eq (K i) 5 (fun z => ⟨vi, bz_hasb (n := c) (by omega) rfl (fun q => nm_r (nI_1 _) (nm_r (nI_1 i) ?_)) (fun q => nm_r (nI_1 i) ?_)⟩) (fun z => nm_r (nI_1 i) ?_)
    · have := ih (i + 1) (by omega)
      rw [step true (by rw [decide_eq_true z, q]; rfl), if_pos rfl] at this
      exact this
    · have := ih (i + 1) (by omega)
      rw [step false (by rw [q]; simp), if_neg (by decide)] at this
      exact this
    · have := ih (i + 1) (by omega)
      rw [step false (by rw [decide_eq_false z]; rfl), if_neg (by decide)] at this
      exact this
theorem xe_t {post : Int32 → Prop} {f_height f_made f_size f_on f_inFirst f_over f_instantsDone f_hadInstant f_lastPresent f_lastAbsent f_present f_absent f_startedNow f_resumedNow : Int32} {a_stack a_newKind a_newMark a_newP a_newQ a_newWithin a_kind a_mark a_partP a_partQ a_within a_mustStarted a_canStarted a_mustResumed a_canResumed : Nat → Int32} {m c : Nat} {K M P Q : Nat → Nat} (hm : m ≤ 16) (hc : c < m) (e1 : f_made = nI m) (hg : pg_X m K M P Q a_newKind a_newMark a_newP a_newQ)
    (h : post (nI (ct_N (fun k => decide (K k = 5) && bt (a_newWithin k) c) m))) : wpX_trapsAround post (f_height, f_made, f_size, f_on, f_inFirst, f_over, f_instantsDone, f_hadInstant, f_lastPresent, f_lastAbsent, f_present, f_absent, f_startedNow, f_resumedNow, a_stack, a_newKind, a_newMark, a_newP, a_newQ, a_newWithin, a_kind, a_mark, a_partP, a_partQ, a_within, a_mustStarted, a_canStarted, a_mustResumed, a_canResumed) (nI c) := ⟨m + 1, xe_4 hm hc e1 hg h m 0 (by omega)⟩
theorem ct_le (f : Nat → Bool) : ∀ n, ct_N f n ≤ n := by
  intro n
  induction n with
  | zero => exact Nat.le_refl _
  | succ n ih =>
    show ct_N f n + _ ≤ n + 1
    split <;> omega
theorem xe_2 {post : Int32 → Prop} {f_height f_made f_size f_on f_inFirst f_over f_instantsDone f_hadInstant f_lastPresent f_lastAbsent f_present f_absent f_startedNow f_resumedNow : Int32} {a_stack a_newKind a_newMark a_newP a_newQ a_newWithin a_kind a_mark a_partP a_partQ a_within a_mustStarted a_canStarted a_mustResumed a_canResumed : Nat → Int32} {m : Nat} {K M P Q : Nat → Nat} {B : Bool} (hm : m ≤ 16) (e1 : f_made = nI m) (hg : pg_X m K M P Q a_newKind a_newMark a_newP a_newQ)
    (hB : B = true ↔ ∀ i, i < m → K i = 3 → M i + 1 ≤ ct_N (fun k => decide (K k = 5) && bt (a_newWithin k) i) m) (h : post (bo_I B)) :
    ∀ t i, i + t = m → (∀ j, j < i → K j = 3 → M j + 1 ≤ ct_N (fun k => decide (K k = 5) && bt (a_newWithin k) j) m) → wX_everyExitHasItsTraps_2 post f_height f_made f_size f_on f_inFirst f_over f_instantsDone f_hadInstant f_lastPresent f_lastAbsent f_present f_absent f_startedNow f_resumedNow a_stack a_newKind a_newMark a_newP a_newQ a_newWithin a_kind a_mark a_partP a_partQ a_within a_mustStarted a_canStarted a_mustResumed a_canResumed (t + 1) (nI i) := by
  intro t
  induction t with
  | zero =>
    intro i hi hj
    have : i = m := by omega
    subst this
    refine br_t (by rw [e1]; exact nI_le (by omega) (by omega)) ?_
    rw [hB.mpr hj] at h; exact h
  | succ t ih =>
    intro i hi hj
    have hi' : i < m := by omega
    have hcl : (nI i).toNatClampNeg = i := nI_clamp (by omega)
    have vi : vp_in (nI i) 16 := vp_in_nI (by omega) (by omega)
    refine br_f (by rw [e1]; exact nI_ge (by omega) (by omega)) ⟨vi, ?_⟩
    rw [hcl, (hg i hi').1]
    have k9 := (hg i hi').2.1
    have hmk := (hg i hi').2.2.1
    refine pk_eq (K i) 3 (fun z => ?_) (fun z => nm_r (nI_1 i) (ih (i + 1) (by omega) (lt_s hj (fun q => absurd q z))))
    obtain ⟨em, m3⟩ := hmk.2 z
    refine xe_t hm hi' e1 hg ⟨vi, ?_⟩
    rw [em, nI_1]
    have lc := ct_le (fun k => decide (K k = 5) && bt (a_newWithin k) i) m
    refine pk_le (M i + 1) (ct_N (fun k => decide (K k = 5) && bt (a_newWithin k) i) m) (fun q => nm_r (nI_1 i) (ih (i + 1) (by omega) (lt_s hj (fun _ => q)))) (fun q => ?_)
    have : B = false := by
      cases hb : B
      · rfl
      · have := hB.mp hb i hi' z; omega
    rw [this] at h; exact h
theorem xe_p {post : Int32 → Prop} {f_height f_made f_size f_on f_inFirst f_over f_instantsDone f_hadInstant f_lastPresent f_lastAbsent f_present f_absent f_startedNow f_resumedNow : Int32} {a_stack a_newKind a_newMark a_newP a_newQ a_newWithin a_kind a_mark a_partP a_partQ a_within a_mustStarted a_canStarted a_mustResumed a_canResumed : Nat → Int32} {m : Nat} {K M P Q : Nat → Nat} {B : Bool} (hm : m ≤ 16) (e1 : f_made = nI m) (hg : pg_X m K M P Q a_newKind a_newMark a_newP a_newQ)
    (hB : B = true ↔ ∀ i, i < m → K i = 3 → M i + 1 ≤ ct_N (fun k => decide (K k = 5) && bt (a_newWithin k) i) m) (h : post (bo_I B)) : wpX_everyExitHasItsTraps post (f_height, f_made, f_size, f_on, f_inFirst, f_over, f_instantsDone, f_hadInstant, f_lastPresent, f_lastAbsent, f_present, f_absent, f_startedNow, f_resumedNow, a_stack, a_newKind, a_newMark, a_newP, a_newQ, a_newWithin, a_kind, a_mark, a_partP, a_partQ, a_within, a_mustStarted, a_canStarted, a_mustResumed, a_canResumed) :=
  ⟨m + 1, xe_2 hm e1 hg hB h m 0 (by omega) (fun j hj => absurd hj (by omega))⟩
/- Y: the exits -/
theorem ye_21 {post : Int32 → SY → Prop} {g_made g_depth g_size g_begun g_over g_ticks g_present g_absent g_any g_lastPresent g_lastAbsent : Int32} {b_sorts b_numbers b_firsts b_seconds b_stack b_on b_alive b_mustEmit b_canEmit b_mustEnd b_canEnd b_done b_frozen b_killed b_after : Nat → Int32} {m : Nat} {K M P Q par ar : Nat → Nat} {w : Nat → Int32} {B : Bool} (hm : m ≤ 16) (hg : pg_Y m K M P Q (fun i => b_sorts (16 + i)) (fun i => b_numbers (16 + i)) (fun i => b_firsts (16 + i)) (fun i => b_seconds (16 + i)))
    (ht : tr_P m K P Q par w) (wf : wf_P m K P Q) (har : ∀ c, c + 1 < m → ar c = ar (par c) + (if K (par c) = 5 then 1 else 0)) (hal : ∀ c, c < m → ar c ≤ 16)
    (hB : B = true ↔ ∀ i, i < m → K i = 3 → M i < ar i) (h : ∀ A, post (bo_I B) (g_made, g_depth, g_size, g_begun, g_over, g_ticks, g_present, g_absent, g_any, g_lastPresent, g_lastAbsent, b_sorts, b_numbers, b_firsts, b_seconds, b_stack, A, b_on, b_alive, b_mustEmit, b_canEmit, b_mustEnd, b_canEnd, b_done, b_frozen, b_killed, b_after)) :
    ∀ t A b, t ≤ m → (∀ c, c < m → vs_B m par t c = true → A c = nI (ar c)) → (b = true ↔ ∀ i, t ≤ i → i < m → K i = 3 → M i < ar i) → wY_exitsFit_21 post g_made g_depth g_size g_begun g_over g_ticks g_present g_absent g_any g_lastPresent g_lastAbsent (t + 1) (bo_I b) (nI t + (-1)) b_sorts b_numbers b_firsts b_seconds b_stack A b_on b_alive b_mustEmit b_canEmit b_mustEnd b_canEnd b_done b_frozen b_killed b_after := by
  intro t
  induction t with
  | zero =>
    intro A b _ hA hb
    refine br_t (by decide) ?_
    have : b = B := by
      rw [Bool.eq_iff_iff, hb, hB]
      constructor
      · intro q i hi; exact q i (by omega) hi
      · intro q i _ hi; exact q i hi
    rw [this]
    exact ⟨by cases B <;> rfl, h A⟩
  | succ i ih =>
    intro A b hi hA hb
    have hi' : i < m := by omega
    obtain ⟨g1, g2, g3, g4, g5, g6, g7, g8⟩ := hg i hi'
    dsimp only at g1 g3 g4 g5
    have hcl : (nI i).toNatClampNeg = i := nI_clamp (by omega)
    have hc16 : (nI (16 + i)).toNatClampNeg = 16 + i := nI_clamp (by omega)
    have vi : vp_in (nI i) 16 := vp_in_nI (by omega) (by omega)
    have vi32 : vp_in (nI (16 + i)) 32 := vp_in_nI (by omega) (by omega)
    have cP : (nI (P i)).toNatClampNeg = P i := nI_clamp (by omega)
    have cQ : (nI (Q i)).toNatClampNeg = Q i := nI_clamp (by omega)
    have vP : vp_in (nI (P i)) 16 := vp_in_nI g6 (by omega)
    have vQ : vp_in (nI (Q i)) 16 := vp_in_nI g7 (by omega)
    have hAi := hA i hi' (vs_i ht hi' (by omega))
    have lar := hal i hi'
    rw [pk_m1]
    refine br_f (nI_pos (by omega)) ?_
    rw [e16, hc16, hcl, g1, hAi, g4]
    refine ⟨vi32, nm_e ⟨vi, nm_e ?_⟩⟩
    have k98 : ∀ A', (∀ c, c < m → vs_B m par i c = true → A' c = nI (ar c)) → wY_exitsFit_98 post (wY_exitsFit_21 post g_made g_depth g_size g_begun g_over g_ticks g_present g_absent g_any g_lastPresent g_lastAbsent (i + 1)) (bo_I b) (nI i) (nI (K i)) (nI (ar i)) g_made g_depth g_size g_begun g_over g_ticks g_present g_absent g_any g_lastPresent g_lastAbsent b_sorts b_numbers b_firsts b_seconds b_stack A' b_on b_alive b_mustEmit b_canEmit b_mustEnd b_canEnd b_done b_frozen b_killed b_after := by
      intro A' hA'
      unfold wY_exitsFit_98
      rw [e16, hc16]
      refine pk_eq (K i) 3 (fun z => ⟨vi32, ?_⟩) (fun z => nm_e (ih A' b (by omega) hA' ?_))
      · obtain ⟨em, m3⟩ := g3.2 z
        rw [em]
        refine pk_lt (M i) (ar i) (fun q => nm_e (ih A' b (by omega) hA' ?_)) (fun q => nm_e (ih A' false (by omega) hA' ?_))
        · rw [hb]
          constructor
          · intro f i' h1 h2 h3
            by_cases e : i' = i
            · rw [e]; exact q
            · exact f i' (by omega) h2 h3
          · intro f i' h1 h2 h3; exact f i' (by omega) h2 h3
        · constructor
          · intro f; cases f
          · intro f; have := f i (by omega) hi' z; omega
      · rw [hb]
        constructor
        · intro f i' h1 h2 h3
          by_cases e : i' = i
          · rw [e] at h3; exact absurd h3 z
          · exact f i' (by omega) h2 h3
        · intro f i' h1 h2 h3; exact f i' (by omega) h2 h3
    have vst : ∀ c, c < m → vs_B m par i c = true → vs_B m par (i + 1) c = true ∨ (c + 1 < m ∧ par c = i) := by
      intro c hc q
      unfold vs_B at q ⊢
      simp only [Bool.or_eq_true, decide_eq_true_eq] at q ⊢
      rcases q with q | q
      · exact Or.inl (Or.inl q)
      · by_cases e : par c = i
        · by_cases e2 : c + 1 = m
          · exact Or.inl (Or.inl e2)
          · exact Or.inr ⟨by omega, e⟩
        · exact Or.inl (Or.inr (by omega))
    refine pk_le (K i) 3 (fun z => ?_) (fun z => ⟨vi32, ?_⟩)
    · unfold wY_exitsFit_76
      refine pk_le (K i) 6 (fun _ => k98 A (fun c hc q => ?_)) (fun q => absurd q (by omega))
      rcases vst c hc q with q2 | ⟨q2, q3⟩
      · exact hA c hc q2
      · have := (ht.1 c q2).2.2
        rw [q3] at this; rcases this with this | this <;> omega
    · have g8' := g8 (by omega)
      have hne : 7 ≤ K i → Q i ≠ P i := fun h7 => (ht.2.2.1 i hi' h7).2
      have arP : ar (P i) = ar i + (if K i = 5 then 1 else 0) := by
        rw [har (P i) (by omega), ht.2.1 i hi' (by omega)]
      have arQ : 7 ≤ K i → ar (Q i) = ar i := fun h7 => by
        rw [har (Q i) (by omega), (ht.2.2.1 i hi' h7).1, if_neg (by omega)]; rfl
      have k75 : ∀ x, x = nI (ar (P i)) → wY_exitsFit_75 post (wY_exitsFit_21 post g_made g_depth g_size g_begun g_over g_ticks g_present g_absent g_any g_lastPresent g_lastAbsent (i + 1)) (bo_I b) (nI i) (nI (K i)) (nI (ar i)) x (nI (P i)) g_made g_depth g_size g_begun g_over g_ticks g_present g_absent g_any g_lastPresent g_lastAbsent b_sorts b_numbers b_firsts b_seconds b_stack A b_on b_alive b_mustEmit b_canEmit b_mustEnd b_canEnd b_done b_frozen b_killed b_after := by
        intro x hx
        unfold wY_exitsFit_75
        rw [cP]
        refine ⟨vP, nm_e ?_⟩
        unfold wY_exitsFit_76
        rw [e16, hc16, g5]
        refine pk_le (K i) 6 (fun y => k98 _ (fun c hc q => ?_)) (fun y => ⟨vi32, ?_⟩)
        · by_cases e : c = P i
          · rw [e, pk_us, hx]
          · rw [pk_un e]
            rcases vst c hc q with q2 | ⟨q2, q3⟩
            · exact hA c hc q2
            · have := (ht.1 c q2).2.2
              rw [q3] at this
              rcases this with this | this
              · exact absurd this.2 e
              · omega
        · rw [if_pos (show 7 ≤ K i by omega), cQ]
          refine ⟨vQ, nm_e (k98 _ (fun c hc q => ?_))⟩
          by_cases e2 : c = Q i
          · rw [e2, pk_us, arQ (by omega)]
          · rw [pk_un e2]
            by_cases e : c = P i
            · rw [e, pk_us, hx]
            · rw [pk_un e]
              rcases vst c hc q with q2 | ⟨q2, q3⟩
              · exact hA c hc q2
              · have := (ht.1 c q2).2.2
                rw [q3] at this
                rcases this with this | this
                · exact absurd this.2 e
                · exact absurd this.2 e2
      refine pk_eq (K i) 5 (fun y => k75 _ ?_) (fun y => k75 _ ?_)
      · rw [arP, if_pos y, nI_1]
      · rw [arP, if_neg y]; rfl
theorem ye_p {post : Int32 → SY → Prop} {g_made g_depth g_size g_begun g_over g_ticks g_present g_absent g_any g_lastPresent g_lastAbsent : Int32} {b_sorts b_numbers b_firsts b_seconds b_stack b_around b_on b_alive b_mustEmit b_canEmit b_mustEnd b_canEnd b_done b_frozen b_killed b_after : Nat → Int32} {m : Nat} {K M P Q par ar : Nat → Nat} {w : Nat → Int32} {B : Bool} (hm1 : 1 ≤ m) (hm : m ≤ 16) (e1 : g_made = nI m) (hg : pg_Y m K M P Q (fun i => b_sorts (16 + i)) (fun i => b_numbers (16 + i)) (fun i => b_firsts (16 + i)) (fun i => b_seconds (16 + i)))
    (ht : tr_P m K P Q par w) (wf : wf_P m K P Q) (h0 : ar (m - 1) = 0) (har : ∀ c, c + 1 < m → ar c = ar (par c) + (if K (par c) = 5 then 1 else 0)) (hal : ∀ c, c < m → ar c ≤ 16)
    (hB : B = true ↔ ∀ i, i < m → K i = 3 → M i < ar i) (h : ∀ A, post (bo_I B) (g_made, g_depth, g_size, g_begun, g_over, g_ticks, g_present, g_absent, g_any, g_lastPresent, g_lastAbsent, b_sorts, b_numbers, b_firsts, b_seconds, b_stack, A, b_on, b_alive, b_mustEmit, b_canEmit, b_mustEnd, b_canEnd, b_done, b_frozen, b_killed, b_after)) : wpY_exitsFit post (g_made, g_depth, g_size, g_begun, g_over, g_ticks, g_present, g_absent, g_any, g_lastPresent, g_lastAbsent, b_sorts, b_numbers, b_firsts, b_seconds, b_stack, b_around, b_on, b_alive, b_mustEmit, b_canEmit, b_mustEnd, b_canEnd, b_done, b_frozen, b_killed, b_after) := by
  have hz : g_made - 1 = nI (m - 1) := by rw [e1]; exact pk_sub (a := m) (b := 1) hm1
  have hz2 : nI (m - 1) = nI m + (-1) := by
    have := pk_m1 (m - 1)
    rw [show m - 1 + 1 = m by omega] at this; exact this.symm
  have cm : (nI (m - 1)).toNatClampNeg = m - 1 := nI_clamp (by omega)
  unfold wpY_exitsFit
  dsimp only
  rw [hz, cm]
  refine ⟨vp_in_nI (by omega) (by omega), nm_e (nm_r hz2 ⟨m + 1, ?_⟩)⟩
  refine ye_21 (ar := ar) hm hg ht wf har hal hB h m _ true (by omega) (fun c hc q => ?_) ⟨fun _ i h1 h2 => by omega, fun _ => rfl⟩
  have : c = m - 1 := by
    unfold vs_B at q
    simp only [Bool.or_eq_true, decide_eq_true_eq] at q
    rcases q with q | q
    · omega
    · by_cases e : c + 1 < m
      · have := (ht.1 c e).2.1; omega
      · omega
  rw [this, pk_us, h0]; rfl
end
section
/- program: the copies, and the whole call -/
theorem xg_31 {post : Int32 → SX → Prop} {f_height f_made f_size f_on f_inFirst f_over f_instantsDone f_hadInstant f_lastPresent f_lastAbsent f_present f_absent f_startedNow f_resumedNow : Int32} {a_stack a_newKind a_newMark a_newP a_newQ a_newWithin a_mustStarted a_canStarted a_mustResumed a_canResumed : Nat → Int32} {m : Nat} (hm : m ≤ 16) (hs : f_size = nI m)
    (h : ∀ kk mk pp qq ww, (∀ j, j < m → kk j = a_newKind j ∧ mk j = a_newMark j ∧ pp j = a_newP j ∧ qq j = a_newQ j ∧ ww j = a_newWithin j) → post f_size (0, 0, f_size, 0, 1, 0, 0, f_hadInstant, f_lastPresent, f_lastAbsent, f_present, f_absent, f_startedNow, f_resumedNow, a_stack, a_newKind, a_newMark, a_newP, a_newQ, a_newWithin, kk, mk, pp, qq, ww, a_mustStarted, a_canStarted, a_mustResumed, a_canResumed)) :
    ∀ t i kk mk pp qq ww, i + t = m → (∀ j, j < i → kk j = a_newKind j ∧ mk j = a_newMark j ∧ pp j = a_newP j ∧ qq j = a_newQ j ∧ ww j = a_newWithin j) → wX_program_31 post f_height f_made f_size f_on f_inFirst f_over f_instantsDone f_hadInstant f_lastPresent f_lastAbsent f_present f_absent f_startedNow f_resumedNow (t + 1) (nI i) a_stack a_newKind a_newMark a_newP a_newQ a_newWithin kk mk pp qq ww a_mustStarted a_canStarted a_mustResumed a_canResumed := by
  intro t
  induction t with
  | zero =>
    intro i kk mk pp qq ww hi hc
    have : i = m := by omega
    subst this
    exact br_t (by rw [hs]; exact nI_le (by omega) (by omega)) (h kk mk pp qq ww hc)
  | succ t ih =>
    intro i kk mk pp qq ww hi hc
    have hcl : (nI i).toNatClampNeg = i := nI_clamp (by omega)
    have vi : vp_in (nI i) 16 := vp_in_nI (by omega) (by omega)
    refine br_f (by rw [hs]; exact nI_ge (by omega) (by omega)) ⟨vi, vi, ?_⟩
    rw [hcl]
    refine nm_e ⟨vi, vi, nm_e ⟨vi, vi, nm_e ⟨vi, vi, nm_e ⟨vi, vi, nm_e (nm_r (nI_1 i) (ih (i + 1) _ _ _ _ _ (by omega) (lt_s (fun j hj => ?_) ⟨pk_us, pk_us, pk_us, pk_us, pk_us⟩)))⟩⟩⟩⟩
    have n : j ≠ i := by omega
    rw [pk_un n, pk_un n, pk_un n, pk_un n, pk_un n]; exact hc j hj
theorem yg_23 {post : Int32 → SY → Prop} {g_made g_depth g_size g_begun g_over g_ticks g_present g_absent g_any g_lastPresent g_lastAbsent : Int32} {b_stack b_around b_on b_alive b_mustEmit b_canEmit b_mustEnd b_canEnd b_done b_frozen b_killed b_after : Nat → Int32} {s0 n0 f0 c0' : Nat → Int32} {m : Nat} (hm : m ≤ 16) (hs : g_made = nI m)
    (h : ∀ ss nn ff cc B, (∀ j, j < m → ss j = s0 (16 + j) ∧ nn j = n0 (16 + j) ∧ ff j = f0 (16 + j) ∧ cc j = c0' (16 + j)) → (∀ j, j < 16 → B j = 0) → post g_made (0, 0, g_made, 0, 0, 0, g_present, g_absent, g_any, g_lastPresent, g_lastAbsent, ss, nn, ff, cc, b_stack, b_around, B, b_alive, b_mustEmit, b_canEmit, b_mustEnd, b_canEnd, b_done, b_frozen, b_killed, b_after)) :
    ∀ t i ss nn ff cc, i + t = m → (∀ j, j < i → ss j = s0 (16 + j) ∧ nn j = n0 (16 + j) ∧ ff j = f0 (16 + j) ∧ cc j = c0' (16 + j)) → (∀ j, ss (16 + j) = s0 (16 + j) ∧ nn (16 + j) = n0 (16 + j) ∧ ff (16 + j) = f0 (16 + j) ∧ cc (16 + j) = c0' (16 + j)) →
    wY_program_23 post g_made g_depth g_size g_begun g_over g_ticks g_present g_absent g_any g_lastPresent g_lastAbsent (t + 1) (nI i) ss nn ff cc b_stack b_around b_on b_alive b_mustEmit b_canEmit b_mustEnd b_canEnd b_done b_frozen b_killed b_after := by
  intro t
  induction t with
  | zero =>
    intro i ss nn ff cc hi hc hk
    have : i = m := by omega
    subst this
    exact br_t (by rw [hs]; exact nI_le (by omega) (by omega)) (yr_p (fun B hB => h ss nn ff cc B hc hB))
  | succ t ih =>
    intro i ss nn ff cc hi hc hk
    have hcl : (nI i).toNatClampNeg = i := nI_clamp (by omega)
    have hc16 : (nI (16 + i)).toNatClampNeg = 16 + i := nI_clamp (by omega)
    have vi : vp_in (nI i) 32 := vp_in_nI (by omega) (by omega)
    have v16 : vp_in (nI (16 + i)) 32 := vp_in_nI (by omega) (by omega)
    refine br_f (by rw [hs]; exact nI_ge (by omega) (by omega)) ?_
    rw [e16, hcl, hc16]
    obtain ⟨k1, k2, k3, k4⟩ := hk i
    rw [k1, k2, k3, k4]
    refine ⟨v16, vi, nm_e ⟨v16, vi, nm_e ⟨v16, vi, nm_e ⟨v16, vi, nm_e (nm_r (nI_1 i) (ih (i + 1) _ _ _ _ (by omega) (lt_s (fun j hj => ?_) ⟨pk_us, pk_us, pk_us, pk_us⟩) (fun j => ?_)))⟩⟩⟩⟩
    · have n : j ≠ i := by omega
      rw [pk_un n, pk_un n, pk_un n, pk_un n]; exact hc j hj
    · have n : 16 + j ≠ i := by omega
      rw [pk_un n, pk_un n, pk_un n, pk_un n]; exact hk j
theorem tr_cg {N : Nat} {K P Q par : Nat → Nat} {w w' : Nat → Int32} (h : tr_P N K P Q par w) (wf : wf_P N K P Q) (he : ∀ j, j < N → w' j = w j) : tr_P N K P Q par w' := by
  refine ⟨h.1, h.2.1, h.2.2.1, fun c hc k hk hkc => ?_, fun i hi j => ?_, h.2.2.2.2.2⟩
  · rw [he k hk]; exact h.2.2.2.1 c hc k hk hkc
  · rw [he i hi, h.2.2.2.2.1 i hi j]
    by_cases h4 : 4 ≤ K i
    · have := wf i hi h4
      rw [he (P i) (by omega), he (Q i) (by omega)]
    · rw [decide_eq_false h4, decide_eq_false (show ¬ 7 ≤ K i by omega)]; simp
theorem i_vc_program {k : Nat} {u : SX} {v : SY} (I : i_Rel k u v) (hk : k + 3 ≤ 1536) : wpX_program (fun r u' => wpY_program (fun r' v' => r' = r ∧ i_Rel (k + 3) u' v') v) u := by
  obtain ⟨f_height, f_made, f_size, f_on, f_inFirst, f_over, f_instantsDone, f_hadInstant, f_lastPresent, f_lastAbsent, f_present, f_absent, f_startedNow, f_resumedNow, a_stack, a_newKind, a_newMark, a_newP, a_newQ, a_newWithin, a_kind, a_mark, a_partP, a_partQ, a_within, a_mustStarted, a_canStarted, a_mustResumed, a_canResumed⟩ := u
  obtain ⟨g_made, g_depth, g_size, g_begun, g_over, g_ticks, g_present, g_absent, g_any, g_lastPresent, g_lastAbsent, b_sorts, b_numbers, b_firsts, b_seconds, b_stack, b_around, b_on, b_alive, b_mustEmit, b_canEmit, b_mustEnd, b_canEnd, b_done, b_frozen, b_killed, b_after⟩ := v
  have I' := I
  obtain ⟨hp, ⟨m, h, K, M, P, Q, sk, e1, e2, e3, e4, hb⟩, htk, hh⟩ := I
  have b1 := hb.1
  have b2 := hb.2.1
  unfold wpX_program
  dsimp only
  refine pk_eq h 1 (fun z => ?_) (fun z => ?_) e3
  · subst z
    have hgx := hb.2.2.2.1
    have hgy := hb.2.2.2.2.1
    have wf := pg_wf hgx
    have d1 : g_depth = 1 := e4
    obtain ⟨par, ht⟩ := bu_tr hb
    obtain ⟨ar, a0, a1⟩ := dn_x (N := m) (par := par) (fun c a => a + (if K (par c) = 5 then 1 else 0)) 0 b2 (fun c hc => (ht.1 c hc).1)
    have hcn := ar_c ht wf a0 a1
    have hal : ∀ c, c < m → ar c ≤ 16 := fun c hc => by
      have := ct_le (ta_B K a_newWithin c) m
      rw [hcn _ c rfl hc] at this; omega
    have hcnt : ∀ c, c < m → K c = 3 → ct_N (fun k => decide (K k = 5) && bt (a_newWithin k) c) m = ar c := by
      intro c hc h3
      rw [← hcn _ c rfl hc]
      refine ct_c m (fun k hk => ?_)
      unfold ta_B
      by_cases e : k = c
      · rw [e, decide_eq_false (show ¬ K c = 5 by omega)]; simp
      · rw [decide_eq_true (show k ≠ c from e)]; simp
    generalize hBd : decide (∀ i, i < m → K i = 3 → M i < ar i) = B
    have hB : B = true ↔ ∀ i, i < m → K i = 3 → M i < ar i := by rw [← hBd, decide_eq_true_eq]
    have hBx : B = true ↔ ∀ i, i < m → K i = 3 → M i + 1 ≤ ct_N (fun k => decide (K k = 5) && bt (a_newWithin k) i) m := by
      rw [hB]
      constructor
      · intro f i hi h3; rw [hcnt i hi h3]; exact f i hi h3
      · intro f i hi h3; have := f i hi h3; rw [hcnt i hi h3] at this; exact this
    refine xe_p b1 e1 hgx hBx ?_
    refine bo_br B (fun q => ?_) (fun q => ?_)
    · unfold wpY_program
      dsimp only
      refine br_t d1 (ye_p (par := par) (ar := ar) b2 b1 e2 hgy ht wf a0 a1 hal hB (fun A => ?_))
      refine br_t (by rw [q]; rfl) ⟨rfl, ?_⟩
      exact ⟨hp, ⟨m, 1, K, M, P, Q, sk, e1, e2, e3, e4, hb⟩, htk, hh⟩
    · refine ⟨m + 1, ?_⟩
      refine xg_31 b1 e1 (fun kk mk pp qq ww hcp => ?_) m 0 _ _ _ _ _ (by omega) (fun j hj => absurd hj (by omega))
      unfold wpY_program
      dsimp only
      refine br_t d1 (ye_p (par := par) (ar := ar) b2 b1 e2 hgy ht wf a0 a1 hal hB (fun A => ?_))
      refine br_f (by rw [q]; decide) ⟨m + 1, ?_⟩
      refine yg_23 (s0 := b_sorts) (n0 := b_numbers) (f0 := b_firsts) (c0' := b_seconds) b1 e2 (fun ss nn ff cc B' hcy hz => ⟨e2.trans e1.symm, ?_⟩) m 0 _ _ _ _ (by omega) (fun j hj => absurd hj (by omega)) (fun j => ⟨rfl, rfl, rfl, rfl⟩)
      have wl : ∀ j, j < m → ww j = a_newWithin j := fun j hj => (hcp j hj).2.2.2.2
      refine ⟨⟨m, K, M, P, Q, par, ar, true, false, e1, e2, rfl, rfl, rfl, rfl, ⟨b2, b1, fun i hi => ?_, fun i hi => ?_, tr_cg ht wf wl, a0, fun i hi h4 => ?_, fun i hi h7 => ?_, fun i hi h3 => ⟨hB.mp q i hi h3, ((hgx i hi).2.2.1.2 h3).2⟩⟩, on_0 hz, fun f => by cases f⟩, rb_0, rfl, hh⟩
      · obtain ⟨c1, c2, c3, c4, c5⟩ := hcp i hi
        rw [c1, c2, c3, c4]; exact hgx i hi
      · obtain ⟨c1, c2, c3, c4⟩ := hcy i hi
        rw [c1, c2, c3, c4]; exact hgy i hi
      · have := (wf i hi h4).1
        rw [a1 (P i) (by omega), ht.2.1 i hi h4]
      · have := (wf i hi (by omega)).2
        rw [a1 (Q i) (by omega), (ht.2.2.1 i hi h7).1, if_neg (by omega)]; rfl
  · have d1 : ¬ g_depth = 1 := fun q => z (by rw [e4] at q; exact (nI_eq (b := 1) (by omega) (by decide)).mp q)
    exact br_f d1 ⟨rfl, I'⟩
end
