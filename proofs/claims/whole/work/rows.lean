section
/- rows pasted from kit/rows -/
theorem pk_us {f : Nat → Int32} {k : Nat} {x : Int32} : upd f k x k = x := if_pos rfl
theorem pk_un {f : Nat → Int32} {k j : Nat} {x : Int32} (h : j ≠ k) : upd f k x j = f j := if_neg h
theorem pk_sub {a b : Nat} (h : b ≤ a) : nI a - nI b = nI (a - b) := by
  obtain ⟨c, rfl⟩ : ∃ c, a = c + b := ⟨a - b, by omega⟩
  rw [← nI_add, Int32.add_sub_cancel, Nat.add_sub_cancel]
theorem pk_m1 (n : Nat) : nI (n + 1) + (-1) = nI n := by
  rw [← nI_1, Int32.add_assoc, show (1 : Int32) + (-1) = 0 from rfl, Int32.add_zero]
theorem pk_mul (a b : Nat) : nI a * nI b = nI (a * b) := (Int32.ofNat_mul a b).symm
theorem pk_ix (x : Int32) {n : Nat} (hn : n < 2 ^ 31) : x < 0 ∨ nI n ≤ x ∨ ∃ j : Nat, j < n ∧ x = nI j := by
  by_cases h : x < 0
  · exact Or.inl h
  · obtain ⟨j, hj, rfl⟩ := nI_of h
    by_cases h2 : j < n
    · exact Or.inr (Or.inr ⟨j, h2, rfl⟩)
    · exact Or.inr (Or.inl (nI_le (by omega) hj))
theorem pk_le {x y : Int32} {A B : Prop} (a b : Nat) (f : a ≤ b → A) (g : b < a → B) (hx : x = nI a := by rfl) (hy : y = nI b := by rfl) (ha : a < 2 ^ 31 := by omega) (hb : b < 2 ^ 31 := by omega) : (x ≤ y → A) ∧ (¬ x ≤ y → B) := by
  subst hx hy
  rw [nI_leI ha hb]
  exact ⟨f, fun z => g (by omega)⟩
theorem pk_lt {x y : Int32} {A B : Prop} (a b : Nat) (f : a < b → A) (g : b ≤ a → B) (hx : x = nI a := by rfl) (hy : y = nI b := by rfl) (ha : a < 2 ^ 31 := by omega) (hb : b < 2 ^ 31 := by omega) : (x < y → A) ∧ (¬ x < y → B) := by
  subst hx hy
  rw [nI_ltI ha hb]
  exact ⟨f, fun z => g (by omega)⟩
theorem pk_eq {x y : Int32} {A B : Prop} (a b : Nat) (f : a = b → A) (g : a ≠ b → B) (hx : x = nI a := by rfl) (hy : y = nI b := by rfl) (ha : a < 2 ^ 31 := by omega) (hb : b < 2 ^ 31 := by omega) : (x = y → A) ∧ (¬ x = y → B) := by
  subst hx hy
  rw [nI_eq ha hb]
  exact ⟨f, g⟩
theorem pk_in {x : Int32} (n N : Nat) (h : n < N) (hx : x = nI n := by rfl) (hN : N < 2 ^ 31 := by omega) : vp_in x N := by
  subst hx
  exact vp_in_nI h hN
theorem pk_cl {x : Int32} (n : Nat) (hx : x = nI n := by rfl) (h : n < 2 ^ 31 := by omega) : x.toNatClampNeg = n := by
  subst hx
  exact nI_clamp h
theorem pk_tn {n : Nat} (h : n < 2 ^ 32) : (nI n).toBitVec.toNat = n := Nat.mod_eq_of_lt h
theorem pk_loop {σ : Type} (W : Nat → Nat → σ → Prop) (I : Nat → σ → Prop) (e i0 : Nat) (s : σ) (hi : i0 ≤ e) (h0 : I i0 s) (hx : ∀ n s, I e s → W (n + 1) e s)
    (hs : ∀ n i s, i < e → I i s → (∀ s', I (i + 1) s' → W n (i + 1) s') → W (n + 1) i s) : ∃ n, W n i0 s :=
  ⟨e + 1, loop_i W I e hx hs (e + 1) i0 s hi (by omega) h0⟩
theorem pk_loopD {σ : Type} (W : Nat → Nat → σ → Prop) (I : Nat → σ → Prop) (hx : ∀ n s, I 0 s → W (n + 1) 0 s)
    (hs : ∀ n i s, I (i + 1) s → (∀ s', I i s' → W n i s') → W (n + 1) (i + 1) s) : ∀ (e : Nat) (s : σ), I e s → W (e + 1) e s := by
  intro e
  induction e with
  | zero => exact fun s h => hx 0 s h
  | succ e ih => exact fun s h => hs (e + 1) e s h (fun s' h' => ih s' h')
def bt (x : Int32) (i : Nat) : Bool := x.toBitVec.getLsbD i
theorem b_ext {x y : Int32} (h : ∀ i, i < 32 → bt x i = bt y i) : x = y := Int32.toBitVec_inj.mp (BitVec.eq_of_getLsbD_eq (fun i hi => h i hi))
theorem b_or (x y : Int32) (i : Nat) : bt (x ||| y) i = (bt x i || bt y i) := by unfold bt; rw [Int32.toBitVec_or, BitVec.getLsbD_or]
theorem b_and (x y : Int32) (i : Nat) : bt (x &&& y) i = (bt x i && bt y i) := by unfold bt; rw [Int32.toBitVec_and, BitVec.getLsbD_and]
theorem b_xor (x y : Int32) (i : Nat) : bt (x ^^^ y) i = (bt x i ^^ bt y i) := by unfold bt; rw [Int32.toBitVec_xor, BitVec.getLsbD_xor]
theorem b_big {x : Int32} {i : Nat} (h : 32 ≤ i) : bt x i = false := BitVec.getLsbD_of_ge _ _ h
theorem b_m1 : ∀ i, i < 32 → bt (-1) i = true := by decide +kernel
theorem b_0 (i : Nat) : bt 0 i = false := BitVec.getLsbD_zero
theorem s_l : ∀ n, n < 32 → ((nI n &&& 31).toBitVec.smod 32).toNat = n := by decide +kernel
theorem b_shl (n : Nat) (hn : n < 32) (x : Int32) {i : Nat} (hi : i < 32) : bt (x <<< (nI n &&& 31)) i = (decide (n ≤ i) && bt x (i - n)) := by
  unfold bt
  rw [Int32.toBitVec_shiftLeft]
  show (x.toBitVec <<< ((nI n &&& 31).toBitVec.smod 32).toNat).getLsbD i = _
  rw [s_l n hn, BitVec.getLsbD_shiftLeft]
  rcases Nat.lt_or_ge i n with h | h
  · simp [h, Nat.not_le.mpr h]
  · simp [hi, h, Nat.not_lt.mpr h]
theorem b_sshr (n : Nat) (hn : n < 32) (x : Int32) {i : Nat} (hi : i < 32) : bt (x >>> (nI n &&& 31)) i = if n + i < 32 then bt x (n + i) else bt x 31 := by
  unfold bt
  rw [Int32.toBitVec_shiftRight]
  show (x.toBitVec.sshiftRight ((nI n &&& 31).toBitVec.smod 32).toNat).getLsbD i = _
  rw [s_l n hn, BitVec.getLsbD_sshiftRight, BitVec.msb_eq_getLsbD_last]
  simp [hi]
theorem nx_and (a b : Nat) : nI a &&& nI b = nI (a &&& b) := by
  apply Int32.toBitVec_inj.1
  show BitVec.ofNat 32 a &&& BitVec.ofNat 32 b = BitVec.ofNat 32 (a &&& b)
  apply BitVec.eq_of_getLsbD_eq
  intro i hi
  simp [hi]
end
section
/- basics: bits, booleans, has -/
theorem bz_or (a b : Nat) : nI a ||| nI b = nI (a ||| b) := by
  apply Int32.toBitVec_inj.1
  show BitVec.ofNat 32 a ||| BitVec.ofNat 32 b = BitVec.ofNat 32 (a ||| b)
  apply BitVec.eq_of_getLsbD_eq
  intro i hi
  simp [hi]
theorem bz_nI {n i : Nat} (hi : i < 32) : bt (nI n) i = n.testBit i := by
  show (BitVec.ofNat 32 n).getLsbD i = _
  rw [BitVec.getLsbD_ofNat]
  simp [hi]
theorem bz_one : ∀ i, i < 32 → bt 1 i = decide (i = 0) := by decide +kernel
theorem bz_sh1 : ∀ n, n < 32 → ∀ i, i < 32 → bt ((1 : Int32) <<< (nI n &&& 31)) i = decide (i = n) := by decide +kernel
theorem bz_low (x : Int32) {n : Nat} (hn : n < 32) : ((x >>> (nI n &&& 31)) &&& 1) = if bt x n = true then 1 else 0 := by
  apply b_ext
  intro i hi
  rw [b_and, bz_one i hi]
  by_cases h : i = 0
  · subst h
    rw [b_sshr n hn x (by omega), if_pos (by omega), Nat.add_zero]
    cases bt x n <;> decide
  · rw [decide_eq_false h, Bool.and_false]
    cases bt x n
    · exact (b_0 i).symm
    · show false = bt 1 i
      rw [bz_one i hi, decide_eq_false h]
theorem bz_h0 (x : Int32) {n : Nat} (hn : n < 32) : ((x >>> (nI n &&& 31)) &&& 1) = 0 ↔ bt x n = false := by
  rw [bz_low x hn]
  cases bt x n <;> decide
theorem bz_h1 (x : Int32) {n : Nat} (hn : n < 32) : ((x >>> (nI n &&& 31)) &&& 1) = 1 ↔ bt x n = true := by
  rw [bz_low x hn]
  cases bt x n <;> decide
theorem bz_has {post : Int32 → Prop} {s e : Int32} {n : Nat} (hn : n < 32) (he : e = nI n) (t : bt s n = true → post 1) (f : bt s n = false → post 0) : wpX_has post s e := by
  subst he
  cases h : bt s n
  · exact br_t ((bz_h0 s hn).mpr h) (f h)
  · exact br_f (fun z => by rw [bz_h0 s hn, h] at z; exact absurd z (by decide)) (t h)
theorem bz_hasb {A B : Prop} {s e : Int32} {n : Nat} (hn : n < 32) (he : e = nI n) (t : bt s n = true → B) (f : bt s n = false → A) : wpX_has (fun r => (r = 0 → A) ∧ (¬ r = 0 → B)) s e :=
  bz_has hn he (fun h => br_f (by decide) (t h)) (fun h => br_t rfl (f h))
/-- Y's one-bit test -/
theorem bz_yb {A B : Prop} {x e : Int32} {n : Nat} (hn : n < 32) (he : e = nI n) (t : bt x n = true → A) (f : bt x n = false → B) : (((x >>> (e &&& 31)) &&& 1) = 1 → A) ∧ (¬ ((x >>> (e &&& 31)) &&& 1) = 1 → B) := by
  subst he
  rw [bz_h1 x hn]
  exact ⟨t, fun z => f (by cases h : bt x n; exact rfl; exact absurd h z)⟩
theorem bz_n0 : vp_nar .boolean 0 = 0 := rfl
theorem bz_n1 : vp_nar .boolean 1 = 1 := rfl
/-- a Bool as Int32 -/
def bo_I (b : Bool) : Int32 := if b = true then 1 else 0
theorem bo_nar (b : Bool) : vp_nar .boolean (bo_I b) = bo_I b := by cases b <;> rfl
theorem bo_0 (b : Bool) : bo_I b = 0 ↔ b = false := by cases b <;> decide
theorem bo_br {A B : Prop} (b : Bool) (f : b = false → A) (t : b = true → B) : (bo_I b = 0 → A) ∧ (¬ bo_I b = 0 → B) := by
  cases b
  · exact br_t rfl (f rfl)
  · exact br_f (by decide) (t rfl)
/-- activity -/
def ac_L (o : Int32) (w : Nat → Int32) (i : Nat) : Bool := !((o &&& w i) == 0)
theorem ac_f {o : Int32} {w : Nat → Int32} {i : Nat} : ac_L o w i = false ↔ (o &&& w i) = 0 := by
  unfold ac_L
  cases h : ((o &&& w i) == 0)
  · simp at h; simp [h]
  · simp at h; simp [h]
theorem ac_t {o : Int32} {w : Nat → Int32} {i : Nat} : ac_L o w i = true ↔ ¬ (o &&& w i) = 0 := by
  rw [← ac_f]
  cases ac_L o w i <;> simp
theorem bz_ex0 {x : Int32} : ¬ x = 0 ↔ ∃ j, j < 32 ∧ bt x j = true := by
  constructor
  · intro h
    apply Classical.byContradiction
    intro hn
    apply h
    apply b_ext
    intro i hi
    rw [b_0]
    cases e : bt x i
    · rfl
    · exact absurd ⟨i, hi, e⟩ hn
  · rintro ⟨j, _, h⟩ z
    rw [z, b_0] at h
    cases h
theorem ac_ex {o : Int32} {w : Nat → Int32} {i : Nat} : ac_L o w i = true ↔ ∃ j, j < 32 ∧ bt o j = true ∧ bt (w i) j = true := by
  rw [ac_t, bz_ex0]
  constructor
  · rintro ⟨j, hj, h⟩; rw [b_and, Bool.and_eq_true] at h; exact ⟨j, hj, h⟩
  · rintro ⟨j, hj, h⟩; exact ⟨j, hj, by rw [b_and, Bool.and_eq_true]; exact h⟩
theorem bz_act {post : Int32 → Prop} {f_height f_made f_size f_on f_inFirst f_over f_instantsDone f_hadInstant f_lastPresent f_lastAbsent f_present f_absent f_startedNow f_resumedNow : Int32} {a_stack a_newKind a_newMark a_newP a_newQ a_newWithin a_kind a_mark a_partP a_partQ a_within a_mustStarted a_canStarted a_mustResumed a_canResumed : Nat → Int32} {e : Int32} {i : Nat} (hi : i < 16) (he : e = nI i) (t : ac_L f_on a_within i = true → post 1) (f : ac_L f_on a_within i = false → post 0) : wpX_isActive post (f_height, f_made, f_size, f_on, f_inFirst, f_over, f_instantsDone, f_hadInstant, f_lastPresent, f_lastAbsent, f_present, f_absent, f_startedNow, f_resumedNow, a_stack, a_newKind, a_newMark, a_newP, a_newQ, a_newWithin, a_kind, a_mark, a_partP, a_partQ, a_within, a_mustStarted, a_canStarted, a_mustResumed, a_canResumed) e := by
  subst he
  have hc : (nI i).toNatClampNeg = i := nI_clamp (by omega)
  refine ⟨vp_in_nI hi (by omega), ?_⟩
  rw [hc]
  exact br_c (fun h => f (ac_f.mpr h)) (fun h => t (ac_t.mpr h))
theorem bz_actb {A B : Prop} {f_height f_made f_size f_on f_inFirst f_over f_instantsDone f_hadInstant f_lastPresent f_lastAbsent f_present f_absent f_startedNow f_resumedNow : Int32} {a_stack a_newKind a_newMark a_newP a_newQ a_newWithin a_kind a_mark a_partP a_partQ a_within a_mustStarted a_canStarted a_mustResumed a_canResumed : Nat → Int32} {e : Int32} {i : Nat} (hi : i < 16) (he : e = nI i) (t : ac_L f_on a_within i = true → B) (f : ac_L f_on a_within i = false → A) : wpX_isActive (fun r => (r = 0 → A) ∧ (¬ r = 0 → B)) (f_height, f_made, f_size, f_on, f_inFirst, f_over, f_instantsDone, f_hadInstant, f_lastPresent, f_lastAbsent, f_present, f_absent, f_startedNow, f_resumedNow, a_stack, a_newKind, a_newMark, a_newP, a_newQ, a_newWithin, a_kind, a_mark, a_partP, a_partQ, a_within, a_mustStarted, a_canStarted, a_mustResumed, a_canResumed) e :=
  bz_act hi he (fun h => br_f (by decide) (t h)) (fun h => br_t rfl (f h))
end
section
/- pure values: (signals, codes); X packs them into one number -/
def pv_k (v : Nat × Nat) : Int32 := nI (64 * v.2 + v.1)
def vv_ok (v : Nat × Nat) : Prop := v.1 < 64 ∧ v.2 < 32
def co_o (c : Nat) : Nat := if c % 2 = 1 then (c - 1) ||| 2 else c
def co_t (c : Nat) : Nat := (c % 4) ||| (if c / 4 % 2 = 1 then 1 else 0) ||| (c / 8 * 4)
def co_i (c d : Nat) : Nat := if c % 2 = 1 then (c - 1) ||| d else c
def co_low (c : Nat) : Nat := if c % 2 = 1 then 1 else if c % 4 = 2 then 2 else if c % 8 = 4 then 4 else if c % 16 = 8 then 8 else 16
def co_fl (c d : Nat) : Nat := if co_low c ≤ co_low d then co_low d else co_low c
def co_g (c d : Nat) : Nat := if c = 0 then 0 else if d = 0 then 0 else (c ||| d) / co_fl c d * co_fl c d
theorem nz_split {s t : Nat} (c d : Nat) (hs : s < 64) (ht : t < 64) : (64 * c + s) ||| (64 * d + t) = 64 * (c ||| d) + (s ||| t) := by
  have hst : s ||| t < 64 := Nat.or_lt_two_pow (n := 6) hs ht
  apply Nat.eq_of_testBit_eq
  intro j
  rw [Nat.testBit_or, show 64 * c + s = 2 ^ 6 * c + s from rfl, show 64 * d + t = 2 ^ 6 * d + t from rfl, show 64 * (c ||| d) + (s ||| t) = 2 ^ 6 * (c ||| d) + (s ||| t) from rfl,
    Nat.testBit_two_pow_mul_add c hs, Nat.testBit_two_pow_mul_add d ht, Nat.testBit_two_pow_mul_add (c ||| d) hst]
  split
  · rw [Nat.testBit_or]
  · rw [Nat.testBit_or]
theorem pv_or {v w : Nat × Nat} (hv : vv_ok v) (hw : vv_ok w) : pv_k v ||| pv_k w = pv_k (v.1 ||| w.1, v.2 ||| w.2) := by
  unfold pv_k
  rw [bz_or, nz_split _ _ hv.1 hw.1]
theorem vv_or {v w : Nat × Nat} (hv : vv_ok v) (hw : vv_ok w) : vv_ok (v.1 ||| w.1, v.2 ||| w.2) := ⟨Nat.or_lt_two_pow (n := 6) hv.1 hw.1, Nat.or_lt_two_pow (n := 5) hv.2 hw.2⟩
theorem pz_64 : ∀ c, c < 32 → ∀ s, s < 64 → ((nI (64 * c + s) &&& 64) = 0 ↔ c % 2 = 0) := by decide +kernel
theorem pz_o : ∀ c, c < 32 → ∀ s, s < 64 → c % 2 = 1 → (nI (64 * c + s) &&& (-65)) ||| 128 = nI (64 * co_o c + s) := by decide +kernel
theorem pz_m : ∀ c, c < 32 → ∀ s, s < 64 → c % 2 = 1 → (nI (64 * c + s) &&& (-65)) = nI (64 * (c - 1) + s) := by decide +kernel
theorem pz_256 : ∀ c, c < 32 → ∀ s, s < 64 → ((nI (64 * c + s) &&& 256) = 0 ↔ c / 4 % 2 = 0) := by decide +kernel
theorem pz_t0 : ∀ c, c < 32 → ∀ s, s < 64 → c / 4 % 2 = 0 → ((nI (64 * c + s) &&& 255) ||| 0) ||| ((nI (64 * c + s) &&& 1536) >>> ((1 : Int32) &&& 31)) = nI (64 * co_t c + s) := by decide +kernel
theorem pz_t1 : ∀ c, c < 32 → ∀ s, s < 64 → c / 4 % 2 = 1 → ((nI (64 * c + s) &&& 255) ||| 64) ||| ((nI (64 * c + s) &&& 1536) >>> ((1 : Int32) &&& 31)) = nI (64 * co_t c + s) := by decide +kernel
theorem pz_63 : ∀ c, c < 32 → ∀ s, s < 64 → nI (64 * c + s) &&& 63 = nI s := by decide +kernel
theorem pz_1984 : ∀ c, c < 32 → ∀ s, s < 64 → nI (64 * c + s) &&& 1984 = nI (64 * c) := by decide +kernel
theorem pz_c0 : ∀ c, c < 32 → (nI (64 * c) = 0 ↔ c = 0) := by decide +kernel
theorem pz_low : ∀ c, c < 32 → ¬ c = 0 → nI (64 * c) &&& (-nI (64 * c)) = nI (64 * co_low c) := by decide +kernel
theorem pz_cmp : ∀ c, c < 32 → ∀ d, d < 32 → (nI (64 * co_low c) ≤ nI (64 * co_low d) ↔ co_low c ≤ co_low d) := by decide +kernel
theorem pz_g : ∀ c, c < 32 → ∀ d, d < 32 → ¬ c = 0 → ¬ d = 0 → (nI (64 * c) ||| nI (64 * d)) &&& (-nI (64 * co_fl c d)) = nI (64 * co_g c d) := by decide +kernel
theorem pz_gok : ∀ c, c < 32 → ∀ d, d < 32 → co_g c d < 32 := by decide +kernel
theorem pz_ook : ∀ c, c < 32 → co_o c < 32 := by decide +kernel
theorem pz_tok : ∀ c, c < 32 → co_t c < 32 := by decide +kernel
/- the operations on values -/
def vo_v (v : Nat × Nat) : Nat × Nat := (v.1, co_o v.2)
def vt_r (v : Nat × Nat) : Nat × Nat := (v.1, co_t v.2)
def vi_t (v w : Nat × Nat) : Nat × Nat := if v.2 % 2 = 1 then (v.1 ||| w.1, (v.2 - 1) ||| w.2) else v
def vg_t (v w : Nat × Nat) : Nat × Nat := (v.1 ||| w.1, co_g v.2 w.2)
def vb_r (m pr ab : Nat) (mu : Bool) (v w : Nat × Nat) : Nat × Nat := if pr.testBit m = true then v else if ab.testBit m = true then w else if mu = true then (0, 0) else (v.1 ||| w.1, v.2 ||| w.2)
def vh_b (m pr ab : Nat) (mu : Bool) (v : Nat × Nat) : Nat × Nat := if pr.testBit m = true then (0, 2) else if ab.testBit m = true then v else if mu = true then (0, 0) else (v.1, v.2 ||| 2)
theorem vo_ok {v : Nat × Nat} (h : vv_ok v) : vv_ok (vo_v v) := ⟨h.1, pz_ook _ h.2⟩
theorem vt_ok {v : Nat × Nat} (h : vv_ok v) : vv_ok (vt_r v) := ⟨h.1, pz_tok _ h.2⟩
theorem vg_ok {v w : Nat × Nat} (h : vv_ok v) (k : vv_ok w) : vv_ok (vg_t v w) := ⟨(vv_or h k).1, pz_gok _ h.2 _ k.2⟩
theorem vi_ok {v w : Nat × Nat} (h : vv_ok v) (k : vv_ok w) : vv_ok (vi_t v w) := by
  unfold vi_t
  split
  · exact ⟨(vv_or h k).1, Nat.or_lt_two_pow (n := 5) (by have := h.2; omega) k.2⟩
  · exact h
theorem vb_ok {m pr ab : Nat} {mu : Bool} {v w : Nat × Nat} (h : vv_ok v) (k : vv_ok w) : vv_ok (vb_r m pr ab mu v w) := by
  unfold vb_r
  split
  · exact h
  · split
    · exact k
    · split
      · exact ⟨by decide, by decide⟩
      · exact vv_or h k
theorem vh_ok {m pr ab : Nat} {mu : Bool} {v : Nat × Nat} (h : vv_ok v) : vv_ok (vh_b m pr ab mu v) := by
  unfold vh_b
  split
  · exact ⟨by decide, by decide⟩
  · split
    · exact h
    · split
      · exact ⟨by decide, by decide⟩
      · exact ⟨h.1, Nat.or_lt_two_pow (n := 5) h.2 (by decide)⟩
/- X's operations -/
theorem xo_o {post : Int32 → Prop} {v : Nat × Nat} (h : vv_ok v) (hp : post (pv_k (vo_v v))) : wpX_oneForZero post (pv_k v) := by
  obtain ⟨s, c⟩ := v
  obtain ⟨hs, hc⟩ := h
  by_cases e : c % 2 = 1
  · refine br_f (fun z => ?_) ?_
    · have := (pz_64 c hc s hs).mp z; omega
    · show post ((nI (64 * c + s) &&& (-65)) ||| 128)
      rw [pz_o c hc s hs e]; exact hp
  · refine br_t ((pz_64 c hc s hs).mpr (by omega)) ?_
    have : vo_v (s, c) = (s, c) := by unfold vo_v co_o; simp [e]
    rw [this] at hp; exact hp
theorem xo_t {post : Int32 → Prop} {v : Nat × Nat} (h : vv_ok v) (hp : post (pv_k (vt_r v))) : wpX_outOfTrap post (pv_k v) := by
  obtain ⟨s, c⟩ := v
  obtain ⟨hs, hc⟩ := h
  refine nm_e ?_
  by_cases e : c / 4 % 2 = 1
  · refine br_f (fun z => ?_) (nm_e ?_)
    · have := (pz_256 c hc s hs).mp z; omega
    · show post (((nI (64 * c + s) &&& 255) ||| 64) ||| ((nI (64 * c + s) &&& 1536) >>> ((1 : Int32) &&& 31)))
      rw [pz_t1 c hc s hs e]; exact hp
  · refine br_t ((pz_256 c hc s hs).mpr (by omega)) (nm_e ?_)
    show post (((nI (64 * c + s) &&& 255) ||| 0) ||| ((nI (64 * c + s) &&& 1536) >>> ((1 : Int32) &&& 31)))
    rw [pz_t0 c hc s hs (by omega)]; exact hp
theorem xo_i {post : Int32 → Prop} {v w : Nat × Nat} (h : vv_ok v) (k : vv_ok w) (hp : post (pv_k (vi_t v w))) : wpX_inTurn post (pv_k v) (pv_k w) := by
  obtain ⟨s, c⟩ := v
  have hs := h.1; have hc := h.2
  dsimp only at hs hc
  by_cases e : c % 2 = 1
  · refine br_f (fun z => ?_) ?_
    · have := (pz_64 c hc s hs).mp z; omega
    · show post ((nI (64 * c + s) &&& (-65)) ||| pv_k w)
      rw [pz_m c hc s hs e]
      have := pv_or (v := (s, c - 1)) (w := w) ⟨hs, by show c - 1 < 32; omega⟩ k
      unfold vi_t at hp; rw [if_pos e] at hp
      rw [show nI (64 * (c - 1) + s) = pv_k (s, c - 1) from rfl, this]; exact hp
  · refine br_t ((pz_64 c hc s hs).mpr (by omega)) ?_
    unfold vi_t at hp; rw [if_neg e] at hp; exact hp
theorem xo_g {post : Int32 → Prop} {v w : Nat × Nat} (h : vv_ok v) (k : vv_ok w) (hp : post (pv_k (vg_t v w))) : wpX_together post (pv_k v) (pv_k w) := by
  obtain ⟨s, c⟩ := v
  obtain ⟨t, d⟩ := w
  have ho := pv_or h k
  have hok := vv_or h k
  obtain ⟨hs, hc⟩ := h
  obtain ⟨ht, hd⟩ := k
  dsimp only at hs hc ht hd ho hok
  have e1 : (pv_k (s, c) ||| pv_k (t, d)) &&& 63 = nI (s ||| t) := by rw [ho]; exact pz_63 _ hok.2 _ hok.1
  have e2 : pv_k (s, c) &&& 1984 = nI (64 * c) := pz_1984 c hc s hs
  have e3 : pv_k (t, d) &&& 1984 = nI (64 * d) := pz_1984 d hd t ht
  have hz : ∀ e, nI (s ||| t) ||| nI (64 * e) = nI (64 * e + (s ||| t)) := by
    intro e
    rw [bz_or, show s ||| t = 64 * 0 + (s ||| t) from by omega, show 64 * e = 64 * e + 0 from rfl, nz_split 0 e hok.1 (by decide)]
    simp
  refine nm_r e1 (nm_r e2 (nm_r e3 ?_))
  by_cases c0 : c = 0
  · refine br_t ((pz_c0 c hc).mpr c0) ?_
    have : vg_t (s, c) (t, d) = (s ||| t, 0) := by unfold vg_t co_g; simp [c0]
    rw [this] at hp
    exact (show pv_k (s ||| t, 0) = nI (s ||| t) from by unfold pv_k; simp) ▸ hp
  · refine br_f (fun z => c0 ((pz_c0 c hc).mp z)) ?_
    by_cases d0 : d = 0
    · refine br_t ((pz_c0 d hd).mpr d0) ?_
      have : vg_t (s, c) (t, d) = (s ||| t, 0) := by unfold vg_t co_g; simp [d0]
      rw [this] at hp
      exact (show pv_k (s ||| t, 0) = nI (s ||| t) from by unfold pv_k; simp) ▸ hp
    · refine br_f (fun z => d0 ((pz_c0 d hd).mp z)) (nm_r (pz_low c hc c0) (nm_r (pz_low d hd d0) ?_))
      have hg := pz_g c hc d hd c0 d0
      have hf : pv_k (vg_t (s, c) (t, d)) = nI (s ||| t) ||| nI (64 * co_g c d) := by rw [hz]; rfl
      rw [hf, ← hg] at hp
      by_cases l : co_low c ≤ co_low d
      · refine br_t ((pz_cmp c hc d hd).mpr l) ?_
        have : co_fl c d = co_low d := if_pos l
        rw [this] at hp; exact hp
      · refine br_f (fun z => l ((pz_cmp c hc d hd).mp z)) ?_
        have : co_fl c d = co_low c := if_neg l
        rw [this] at hp; exact hp
theorem xo_b {post : Int32 → Prop} {f_height f_made f_size f_on f_inFirst f_over f_instantsDone f_hadInstant f_lastPresent f_lastAbsent f_present f_absent f_startedNow f_resumedNow : Int32} {a_stack a_newKind a_newMark a_newP a_newQ a_newWithin a_kind a_mark a_partP a_partQ a_within a_mustStarted a_canStarted a_mustResumed a_canResumed : Nat → Int32} {e : Int32} {m pr ab : Nat} {mu : Bool} {v w : Nat × Nat} (hm : m < 6) (he : e = nI m) (hpr : f_present = nI pr) (hab : f_absent = nI ab) (h : vv_ok v) (k : vv_ok w) (hp : post (pv_k (vb_r m pr ab mu v w))) : wpX_branch post (f_height, f_made, f_size, f_on, f_inFirst, f_over, f_instantsDone, f_hadInstant, f_lastPresent, f_lastAbsent, f_present, f_absent, f_startedNow, f_resumedNow, a_stack, a_newKind, a_newMark, a_newP, a_newQ, a_newWithin, a_kind, a_mark, a_partP, a_partQ, a_within, a_mustStarted, a_canStarted, a_mustResumed, a_canResumed) e (pv_k v) (pv_k w) (bo_I mu) := by
  subst hpr hab
  unfold vb_r at hp
  refine bz_hasb (n := m) (by omega) he (fun h1 => ?_) (fun h1 => bz_hasb (n := m) (by omega) he (fun h2 => ?_) (fun h2 => ?_))
  · rw [bz_nI (by omega)] at h1; rw [if_pos h1] at hp; exact hp
  · rw [bz_nI (by omega)] at h1 h2; rw [if_neg (by rw [h1]; decide), if_pos h2] at hp; exact hp
  · rw [bz_nI (by omega)] at h1 h2; rw [if_neg (by rw [h1]; decide), if_neg (by rw [h2]; decide)] at hp
    refine bo_br mu (fun z => ?_) (fun z => ?_)
    · rw [if_neg (by rw [z]; decide)] at hp; rw [pv_or h k]; exact hp
    · rw [if_pos z] at hp; exact hp
theorem xo_h {post : Int32 → Prop} {f_height f_made f_size f_on f_inFirst f_over f_instantsDone f_hadInstant f_lastPresent f_lastAbsent f_present f_absent f_startedNow f_resumedNow : Int32} {a_stack a_newKind a_newMark a_newP a_newQ a_newWithin a_kind a_mark a_partP a_partQ a_within a_mustStarted a_canStarted a_mustResumed a_canResumed : Nat → Int32} {e : Int32} {m pr ab : Nat} {mu : Bool} {v : Nat × Nat} (hm : m < 6) (he : e = nI m) (hpr : f_present = nI pr) (hab : f_absent = nI ab) (h : vv_ok v) (hp : post (pv_k (vh_b m pr ab mu v))) : wpX_heldBack post (f_height, f_made, f_size, f_on, f_inFirst, f_over, f_instantsDone, f_hadInstant, f_lastPresent, f_lastAbsent, f_present, f_absent, f_startedNow, f_resumedNow, a_stack, a_newKind, a_newMark, a_newP, a_newQ, a_newWithin, a_kind, a_mark, a_partP, a_partQ, a_within, a_mustStarted, a_canStarted, a_mustResumed, a_canResumed) e (pv_k v) (bo_I mu) := by
  subst hpr hab
  unfold vh_b at hp
  refine bz_hasb (n := m) (by omega) he (fun h1 => ?_) (fun h1 => bz_hasb (n := m) (by omega) he (fun h2 => ?_) (fun h2 => ?_))
  · rw [bz_nI (by omega)] at h1; rw [if_pos h1] at hp; exact hp
  · rw [bz_nI (by omega)] at h1 h2; rw [if_neg (by rw [h1]; decide), if_pos h2] at hp; exact hp
  · rw [bz_nI (by omega)] at h1 h2; rw [if_neg (by rw [h1]; decide), if_neg (by rw [h2]; decide)] at hp
    refine bo_br mu (fun z => ?_) (fun z => ?_)
    · rw [if_neg (by rw [z]; decide)] at hp
      have := pv_or (v := v) (w := (0, 2)) h ⟨by decide, by decide⟩
      rw [show (128 : Int32) = pv_k (0, 2) from by decide, this]
      exact (show (v.1 ||| (0, 2).1, v.2 ||| (0, 2).2) = (v.1, v.2 ||| 2) from by simp) ▸ hp
    · rw [if_pos z] at hp; exact hp
end
section
/- the values of a program's statements -/
def sv_S (k m pr ab : Nat) (mu : Bool) (p q : Nat × Nat) : Nat × Nat :=
  if k = 1 then (0, 2) else if k = 2 then (2 ^ m, 1) else if k = 3 then (0, 4 * 2 ^ m) else if k = 4 then vo_v p else if k = 5 then vt_r p else if k = 6 then p else if k = 7 then vi_t p q else if k = 8 then vg_t p q else if k = 9 then vb_r m pr ab mu p q else (0, 1)
def sv_R (k m pr ab : Nat) (mu oi ai aP : Bool) (sp sq rp rq : Nat × Nat) : Nat × Nat :=
  if ai = false then (0, 1) else if k = 4 then (if oi = true then vo_v sp else vo_v rp) else if k = 5 then vt_r rp else if k = 6 then vh_b m pr ab mu rp else if k = 7 then (if aP = true then vi_t rp sq else rq) else if k = 8 then vg_t rp rq else if k = 9 then (if aP = true then rp else rq) else (0, 1)
/-- what is known of a statement's mark -/
def mk_W (k m : Nat) (x : Int32) : Prop := (k = 2 ∨ k = 6 ∨ k = 9 → x = nI m ∧ m < 6) ∧ (k = 3 → x = nI m ∧ m < 3)
theorem sv_Sok {k m pr ab : Nat} {mu : Bool} {p q : Nat × Nat} {x : Int32} (hm : mk_W k m x) (hp : 4 ≤ k → vv_ok p) (hq : 4 ≤ k → vv_ok q) : vv_ok (sv_S k m pr ab mu p q) := by
  unfold sv_S
  by_cases h1 : k = 1
  · rw [if_pos h1]; exact ⟨by decide, by decide⟩
  rw [if_neg h1]
  by_cases h2 : k = 2
  · rw [if_pos h2]
    exact ⟨(by decide : ∀ m, m < 6 → 2 ^ m < 64) m (hm.1 (Or.inl h2)).2, (by decide : 1 < 32)⟩
  rw [if_neg h2]
  by_cases h3 : k = 3
  · rw [if_pos h3]
    exact ⟨(by decide : 0 < 64), (by decide : ∀ m, m < 3 → 4 * 2 ^ m < 32) m (hm.2 h3).2⟩
  rw [if_neg h3]
  by_cases h4 : k = 4
  · rw [if_pos h4]; exact vo_ok (hp (by omega))
  rw [if_neg h4]
  by_cases h5 : k = 5
  · rw [if_pos h5]; exact vt_ok (hp (by omega))
  rw [if_neg h5]
  by_cases h6 : k = 6
  · rw [if_pos h6]; exact hp (by omega)
  rw [if_neg h6]
  by_cases h7 : k = 7
  · rw [if_pos h7]; exact vi_ok (hp (by omega)) (hq (by omega))
  rw [if_neg h7]
  by_cases h8 : k = 8
  · rw [if_pos h8]; exact vg_ok (hp (by omega)) (hq (by omega))
  rw [if_neg h8]
  by_cases h9 : k = 9
  · rw [if_pos h9]; exact vb_ok (hp (by omega)) (hq (by omega))
  rw [if_neg h9]; exact ⟨by decide, by decide⟩
theorem sv_Rok {k m pr ab : Nat} {mu oi ai aP : Bool} {sp sq rp rq : Nat × Nat} (h1 : 4 ≤ k → vv_ok sp) (h2 : 4 ≤ k → vv_ok sq) (h3 : 4 ≤ k → vv_ok rp) (h4 : 4 ≤ k → vv_ok rq) : vv_ok (sv_R k m pr ab mu oi ai aP sp sq rp rq) := by
  have h01 : vv_ok (0, 1) := ⟨by decide, by decide⟩
  unfold sv_R
  split
  · exact h01
  split
  · split
    · exact vo_ok (h1 (by omega))
    · exact vo_ok (h3 (by omega))
  split
  · exact vt_ok (h3 (by omega))
  split
  · exact vh_ok (h3 (by omega))
  split
  · split
    · exact vi_ok (h3 (by omega)) (h2 (by omega))
    · exact h4 (by omega)
  split
  · exact vg_ok (h3 (by omega)) (h4 (by omega))
  split
  · split
    · exact h3 (by omega)
    · exact h4 (by omega)
  exact h01
theorem kI_eq {k j : Nat} (hk : k ≤ 9) (hj : j ≤ 9) : nI k = nI j ↔ k = j := nI_eq (by omega) (by omega)
theorem pz_em : ∀ m, m < 6 → (64 : Int32) ||| ((1 : Int32) <<< (nI m &&& 31)) = pv_k (2 ^ m, 1) := by decide +kernel
theorem pz_ex : ∀ m, m < 3 → ((256 : Int32) <<< (nI m &&& 31)) = pv_k (0, 4 * 2 ^ m) := by decide +kernel
theorem xs_S_mustStarted {post : Int32 → Prop} {f_height f_made f_size f_on f_inFirst f_over f_instantsDone f_hadInstant f_lastPresent f_lastAbsent f_present f_absent f_startedNow f_resumedNow : Int32} {a_stack a_newKind a_newMark a_newP a_newQ a_newWithin a_kind a_mark a_partP a_partQ a_within a_mustStarted a_canStarted a_mustResumed a_canResumed : Nat → Int32} {i k m p q pr ab : Nat} {mu : Bool} {vp vq : Nat × Nat} {e : Int32} (he : e = nI i) (hi : i < 16) (hpr : f_present = nI pr) (hab : f_absent = nI ab)
    (hk : a_kind i = nI k) (k9 : k ≤ 9) (hm : mk_W k m (a_mark i)) (hp : a_partP i = nI p) (hq : a_partQ i = nI q) (p16 : p < 16) (q16 : q < 16)
    (hP : 4 ≤ k → a_mustStarted p = pv_k vp ∧ vv_ok vp) (hQ : 4 ≤ k → a_mustStarted q = pv_k vq ∧ vv_ok vq) (h : post (pv_k (sv_S k m pr ab mu vp vq))) :
    wpX_setsStarted__mustStarted post (f_height, f_made, f_size, f_on, f_inFirst, f_over, f_instantsDone, f_hadInstant, f_lastPresent, f_lastAbsent, f_present, f_absent, f_startedNow, f_resumedNow, a_stack, a_newKind, a_newMark, a_newP, a_newQ, a_newWithin, a_kind, a_mark, a_partP, a_partQ, a_within, a_mustStarted, a_canStarted, a_mustResumed, a_canResumed) e (bo_I mu) := by
  subst he
  have hc : (nI i).toNatClampNeg = i := nI_clamp (by omega)
  have vi : vp_in (nI i) 16 := vp_in_nI hi (by omega)
  unfold wpX_setsStarted__mustStarted
  dsimp only
  rw [hc, hp, hq, hk, nI_clamp (show p < 2 ^ 31 by omega), nI_clamp (show q < 2 ^ 31 by omega)]
  refine ⟨vi, vp_in_nI p16 (by omega), nm_e ⟨vi, vp_in_nI q16 (by omega), nm_e ⟨vi, nm_e ?_⟩⟩⟩
  unfold sv_S at h
  have c1 : ∀ j, j ≤ 9 → (nI k = nI j ↔ k = j) := fun j hj => kI_eq k9 hj
  refine pk_lt k 1 (fun z => ?_) (fun z => ?_)
  · rw [if_neg (by omega), if_neg (by omega), if_neg (by omega), if_neg (by omega), if_neg (by omega), if_neg (by omega), if_neg (by omega), if_neg (by omega), if_neg (by omega)] at h
    exact h
  refine pk_lt 9 k (fun z => absurd z (by omega)) (fun z9 => ?_)
  refine pk_eq k 1 (fun z => ?_) (fun z1 => ?_)
  · rw [if_pos z] at h; exact h
  rw [if_neg z1] at h
  refine pk_eq k 2 (fun z => ?_) (fun z2 => ?_)
  · rw [if_pos z] at h
    refine ⟨vi, ?_⟩
    have := hm.1 (Or.inl z)
    rw [this.1, pz_em m this.2]; exact h
  rw [if_neg z2] at h
  refine pk_eq k 3 (fun z => ?_) (fun z3 => ?_)
  · rw [if_pos z] at h
    refine ⟨vi, ?_⟩
    have := hm.2 z
    rw [this.1, pz_ex m this.2]; exact h
  rw [if_neg z3] at h
  have k4 : 4 ≤ k := by omega
  rw [(hP k4).1, (hQ k4).1]
  have oP := (hP k4).2
  have oQ := (hQ k4).2
  refine pk_eq k 4 (fun z => ?_) (fun z4 => ?_)
  · rw [if_pos z] at h; exact xo_o oP h
  rw [if_neg z4] at h
  refine pk_eq k 5 (fun z => ?_) (fun z5 => ?_)
  · rw [if_pos z] at h; exact xo_t oP h
  rw [if_neg z5] at h
  refine pk_eq k 6 (fun z => ?_) (fun z6 => ?_)
  · rw [if_pos z] at h; exact h
  rw [if_neg z6] at h
  refine pk_eq k 7 (fun z => ?_) (fun z7 => ?_)
  · rw [if_pos z] at h; exact xo_i oP oQ h
  rw [if_neg z7] at h
  refine pk_eq k 8 (fun z => ?_) (fun z8 => ?_)
  · rw [if_pos z] at h; exact xo_g oP oQ h
  rw [if_neg z8] at h
  refine pk_eq k 9 (fun z => ?_) (fun z9 => trivial)
  rw [if_pos z] at h
  have hm9 := hm.1 (Or.inr (Or.inr z))
  exact ⟨vi, xo_b hm9.2 hm9.1 hpr hab oP oQ h⟩
theorem xs_S_canStarted {post : Int32 → Prop} {f_height f_made f_size f_on f_inFirst f_over f_instantsDone f_hadInstant f_lastPresent f_lastAbsent f_present f_absent f_startedNow f_resumedNow : Int32} {a_stack a_newKind a_newMark a_newP a_newQ a_newWithin a_kind a_mark a_partP a_partQ a_within a_mustStarted a_canStarted a_mustResumed a_canResumed : Nat → Int32} {i k m p q pr ab : Nat} {mu : Bool} {vp vq : Nat × Nat} {e : Int32} (he : e = nI i) (hi : i < 16) (hpr : f_present = nI pr) (hab : f_absent = nI ab)
    (hk : a_kind i = nI k) (k9 : k ≤ 9) (hm : mk_W k m (a_mark i)) (hp : a_partP i = nI p) (hq : a_partQ i = nI q) (p16 : p < 16) (q16 : q < 16)
    (hP : 4 ≤ k → a_canStarted p = pv_k vp ∧ vv_ok vp) (hQ : 4 ≤ k → a_canStarted q = pv_k vq ∧ vv_ok vq) (h : post (pv_k (sv_S k m pr ab mu vp vq))) :
    wpX_setsStarted__canStarted post (f_height, f_made, f_size, f_on, f_inFirst, f_over, f_instantsDone, f_hadInstant, f_lastPresent, f_lastAbsent, f_present, f_absent, f_startedNow, f_resumedNow, a_stack, a_newKind, a_newMark, a_newP, a_newQ, a_newWithin, a_kind, a_mark, a_partP, a_partQ, a_within, a_mustStarted, a_canStarted, a_mustResumed, a_canResumed) e (bo_I mu) := by
  subst he
  have hc : (nI i).toNatClampNeg = i := nI_clamp (by omega)
  have vi : vp_in (nI i) 16 := vp_in_nI hi (by omega)
  unfold wpX_setsStarted__canStarted
  dsimp only
  rw [hc, hp, hq, hk, nI_clamp (show p < 2 ^ 31 by omega), nI_clamp (show q < 2 ^ 31 by omega)]
  refine ⟨vi, vp_in_nI p16 (by omega), nm_e ⟨vi, vp_in_nI q16 (by omega), nm_e ⟨vi, nm_e ?_⟩⟩⟩
  unfold sv_S at h
  have c1 : ∀ j, j ≤ 9 → (nI k = nI j ↔ k = j) := fun j hj => kI_eq k9 hj
  refine pk_lt k 1 (fun z => ?_) (fun z => ?_)
  · rw [if_neg (by omega), if_neg (by omega), if_neg (by omega), if_neg (by omega), if_neg (by omega), if_neg (by omega), if_neg (by omega), if_neg (by omega), if_neg (by omega)] at h
    exact h
  refine pk_lt 9 k (fun z => absurd z (by omega)) (fun z9 => ?_)
  refine pk_eq k 1 (fun z => ?_) (fun z1 => ?_)
  · rw [if_pos z] at h; exact h
  rw [if_neg z1] at h
  refine pk_eq k 2 (fun z => ?_) (fun z2 => ?_)
  · rw [if_pos z] at h
    refine ⟨vi, ?_⟩
    have := hm.1 (Or.inl z)
    rw [this.1, pz_em m this.2]; exact h
  rw [if_neg z2] at h
  refine pk_eq k 3 (fun z => ?_) (fun z3 => ?_)
  · rw [if_pos z] at h
    refine ⟨vi, ?_⟩
    have := hm.2 z
    rw [this.1, pz_ex m this.2]; exact h
  rw [if_neg z3] at h
  have k4 : 4 ≤ k := by omega
  rw [(hP k4).1, (hQ k4).1]
  have oP := (hP k4).2
  have oQ := (hQ k4).2
  refine pk_eq k 4 (fun z => ?_) (fun z4 => ?_)
  · rw [if_pos z] at h; exact xo_o oP h
  rw [if_neg z4] at h
  refine pk_eq k 5 (fun z => ?_) (fun z5 => ?_)
  · rw [if_pos z] at h; exact xo_t oP h
  rw [if_neg z5] at h
  refine pk_eq k 6 (fun z => ?_) (fun z6 => ?_)
  · rw [if_pos z] at h; exact h
  rw [if_neg z6] at h
  refine pk_eq k 7 (fun z => ?_) (fun z7 => ?_)
  · rw [if_pos z] at h; exact xo_i oP oQ h
  rw [if_neg z7] at h
  refine pk_eq k 8 (fun z => ?_) (fun z8 => ?_)
  · rw [if_pos z] at h; exact xo_g oP oQ h
  rw [if_neg z8] at h
  refine pk_eq k 9 (fun z => ?_) (fun z9 => trivial)
  rw [if_pos z] at h
  have hm9 := hm.1 (Or.inr (Or.inr z))
  exact ⟨vi, xo_b hm9.2 hm9.1 hpr hab oP oQ h⟩
theorem xs_R_mustResumed {post : Int32 → Prop} {f_height f_made f_size f_on f_inFirst f_over f_instantsDone f_hadInstant f_lastPresent f_lastAbsent f_present f_absent f_startedNow f_resumedNow : Int32} {a_stack a_newKind a_newMark a_newP a_newQ a_newWithin a_kind a_mark a_partP a_partQ a_within a_mustStarted a_canStarted a_mustResumed a_canResumed : Nat → Int32} {i k m p q pr ab : Nat} {mu : Bool} {sp sq rp rq : Nat × Nat} {e : Int32} (he : e = nI i) (hi : i < 16) (hpr : f_present = nI pr) (hab : f_absent = nI ab)
    (hk : a_kind i = nI k) (k9 : k ≤ 9) (hm : mk_W k m (a_mark i)) (hp : a_partP i = nI p) (hq : a_partQ i = nI q) (p16 : p < 16) (q16 : q < 16)
    (hP : 4 ≤ k → a_mustStarted p = pv_k sp ∧ vv_ok sp) (hQ : 4 ≤ k → a_mustStarted q = pv_k sq ∧ vv_ok sq) (hRP : 4 ≤ k → a_mustResumed p = pv_k rp ∧ vv_ok rp) (hRQ : 4 ≤ k → a_mustResumed q = pv_k rq ∧ vv_ok rq)
    (h : post (pv_k (sv_R k m pr ab mu (bt f_on i) (ac_L f_on a_within i) (ac_L f_on a_within p) sp sq rp rq))) :
    wpX_setsResumed__mustStarted_mustResumed post (f_height, f_made, f_size, f_on, f_inFirst, f_over, f_instantsDone, f_hadInstant, f_lastPresent, f_lastAbsent, f_present, f_absent, f_startedNow, f_resumedNow, a_stack, a_newKind, a_newMark, a_newP, a_newQ, a_newWithin, a_kind, a_mark, a_partP, a_partQ, a_within, a_mustStarted, a_canStarted, a_mustResumed, a_canResumed) e (bo_I mu) := by
  subst he
  have hc : (nI i).toNatClampNeg = i := nI_clamp (by omega)
  have cp : (nI p).toNatClampNeg = p := nI_clamp (by omega)
  have cq : (nI q).toNatClampNeg = q := nI_clamp (by omega)
  have vi : vp_in (nI i) 16 := vp_in_nI hi (by omega)
  have vp : vp_in (nI p) 16 := vp_in_nI p16 (by omega)
  have vq : vp_in (nI q) 16 := vp_in_nI q16 (by omega)
  unfold sv_R at h
  unfold wpX_setsResumed__mustStarted_mustResumed
  dsimp only
  rw [hc, hp, hq, hk]
  refine bz_actb hi rfl (fun ha => ?_) (fun ha => ?_)
  · rw [if_neg (by rw [ha]; decide)] at h
    refine ⟨vi, nm_e ⟨vi, nm_e ⟨vi, nm_e ?_⟩⟩⟩
    rw [cp, cq]
    refine pk_lt k 4 (fun z => ?_) (fun k4 => ?_)
    · rw [if_neg (by omega), if_neg (by omega), if_neg (by omega), if_neg (by omega), if_neg (by omega), if_neg (by omega)] at h
      exact h
    refine pk_lt 9 k (fun z => absurd z (by omega)) (fun z9 => ?_)
    have oP := (hP k4).2
    have oQ := (hQ k4).2
    have oR := (hRP k4).2
    have oS := (hRQ k4).2
    rw [(hP k4).1, (hQ k4).1, (hRP k4).1, (hRQ k4).1]
    refine pk_eq k 4 (fun z => ?_) (fun z4 => ?_)
    · rw [if_pos z] at h
      refine bz_hasb (n := i) (by omega) rfl (fun t => ⟨vp, ?_⟩) (fun t => ⟨vp, ?_⟩)
      · rw [if_pos t] at h; exact xo_o oP h
      · rw [if_neg (by rw [t]; decide)] at h; exact xo_o oR h
    rw [if_neg z4] at h
    refine pk_eq k 5 (fun z => ⟨vp, ?_⟩) (fun z5 => ?_)
    · rw [if_pos z] at h; exact xo_t oR h
    rw [if_neg z5] at h
    refine pk_eq k 6 (fun z => ⟨vi, vp, ?_⟩) (fun z6 => ?_)
    · rw [if_pos z] at h
      have hm6 := hm.1 (Or.inr (Or.inl z))
      exact xo_h hm6.2 hm6.1 hpr hab oR h
    rw [if_neg z6] at h
    refine pk_eq k 7 (fun z => ?_) (fun z7 => ?_)
    · rw [if_pos z] at h
      refine bz_actb p16 rfl (fun t => ⟨vp, vq, ?_⟩) (fun t => ⟨vq, ?_⟩)
      · rw [if_pos t] at h; exact xo_i oR oQ h
      · rw [if_neg (by rw [t]; decide)] at h; exact h
    rw [if_neg z7] at h
    refine pk_eq k 8 (fun z => ⟨vp, vq, ?_⟩) (fun z8 => ?_)
    · rw [if_pos z] at h; exact xo_g oR oS h
    rw [if_neg z8] at h
    refine pk_eq k 9 (fun z => ?_) (fun z9 => trivial)
    rw [if_pos z] at h
    refine bz_actb p16 rfl (fun t => ⟨vp, ?_⟩) (fun t => ⟨vq, ?_⟩)
    · rw [if_pos t] at h; exact h
    · rw [if_neg (by rw [t]; decide)] at h; exact h
  · rw [if_pos ha] at h; exact h
theorem xs_R_canResumed {post : Int32 → Prop} {f_height f_made f_size f_on f_inFirst f_over f_instantsDone f_hadInstant f_lastPresent f_lastAbsent f_present f_absent f_startedNow f_resumedNow : Int32} {a_stack a_newKind a_newMark a_newP a_newQ a_newWithin a_kind a_mark a_partP a_partQ a_within a_mustStarted a_canStarted a_mustResumed a_canResumed : Nat → Int32} {i k m p q pr ab : Nat} {mu : Bool} {sp sq rp rq : Nat × Nat} {e : Int32} (he : e = nI i) (hi : i < 16) (hpr : f_present = nI pr) (hab : f_absent = nI ab)
    (hk : a_kind i = nI k) (k9 : k ≤ 9) (hm : mk_W k m (a_mark i)) (hp : a_partP i = nI p) (hq : a_partQ i = nI q) (p16 : p < 16) (q16 : q < 16)
    (hP : 4 ≤ k → a_canStarted p = pv_k sp ∧ vv_ok sp) (hQ : 4 ≤ k → a_canStarted q = pv_k sq ∧ vv_ok sq) (hRP : 4 ≤ k → a_canResumed p = pv_k rp ∧ vv_ok rp) (hRQ : 4 ≤ k → a_canResumed q = pv_k rq ∧ vv_ok rq)
    (h : post (pv_k (sv_R k m pr ab mu (bt f_on i) (ac_L f_on a_within i) (ac_L f_on a_within p) sp sq rp rq))) :
    wpX_setsResumed__canStarted_canResumed post (f_height, f_made, f_size, f_on, f_inFirst, f_over, f_instantsDone, f_hadInstant, f_lastPresent, f_lastAbsent, f_present, f_absent, f_startedNow, f_resumedNow, a_stack, a_newKind, a_newMark, a_newP, a_newQ, a_newWithin, a_kind, a_mark, a_partP, a_partQ, a_within, a_mustStarted, a_canStarted, a_mustResumed, a_canResumed) e (bo_I mu) := by
  subst he
  have hc : (nI i).toNatClampNeg = i := nI_clamp (by omega)
  have cp : (nI p).toNatClampNeg = p := nI_clamp (by omega)
  have cq : (nI q).toNatClampNeg = q := nI_clamp (by omega)
  have vi : vp_in (nI i) 16 := vp_in_nI hi (by omega)
  have vp : vp_in (nI p) 16 := vp_in_nI p16 (by omega)
  have vq : vp_in (nI q) 16 := vp_in_nI q16 (by omega)
  unfold sv_R at h
  unfold wpX_setsResumed__canStarted_canResumed
  dsimp only
  rw [hc, hp, hq, hk]
  refine bz_actb hi rfl (fun ha => ?_) (fun ha => ?_)
  · rw [if_neg (by rw [ha]; decide)] at h
    refine ⟨vi, nm_e ⟨vi, nm_e ⟨vi, nm_e ?_⟩⟩⟩
    rw [cp, cq]
    refine pk_lt k 4 (fun z => ?_) (fun k4 => ?_)
    · rw [if_neg (by omega), if_neg (by omega), if_neg (by omega), if_neg (by omega), if_neg (by omega), if_neg (by omega)] at h
      exact h
    refine pk_lt 9 k (fun z => absurd z (by omega)) (fun z9 => ?_)
    have oP := (hP k4).2
    have oQ := (hQ k4).2
    have oR := (hRP k4).2
    have oS := (hRQ k4).2
    rw [(hP k4).1, (hQ k4).1, (hRP k4).1, (hRQ k4).1]
    refine pk_eq k 4 (fun z => ?_) (fun z4 => ?_)
    · rw [if_pos z] at h
      refine bz_hasb (n := i) (by omega) rfl (fun t => ⟨vp, ?_⟩) (fun t => ⟨vp, ?_⟩)
      · rw [if_pos t] at h; exact xo_o oP h
      · rw [if_neg (by rw [t]; decide)] at h; exact xo_o oR h
    rw [if_neg z4] at h
    refine pk_eq k 5 (fun z => ⟨vp, ?_⟩) (fun z5 => ?_)
    · rw [if_pos z] at h; exact xo_t oR h
    rw [if_neg z5] at h
    refine pk_eq k 6 (fun z => ⟨vi, vp, ?_⟩) (fun z6 => ?_)
    · rw [if_pos z] at h
      have hm6 := hm.1 (Or.inr (Or.inl z))
      exact xo_h hm6.2 hm6.1 hpr hab oR h
    rw [if_neg z6] at h
    refine pk_eq k 7 (fun z => ?_) (fun z7 => ?_)
    · rw [if_pos z] at h
      refine bz_actb p16 rfl (fun t => ⟨vp, vq, ?_⟩) (fun t => ⟨vq, ?_⟩)
      · rw [if_pos t] at h; exact xo_i oR oQ h
      · rw [if_neg (by rw [t]; decide)] at h; exact h
    rw [if_neg z7] at h
    refine pk_eq k 8 (fun z => ⟨vp, vq, ?_⟩) (fun z8 => ?_)
    · rw [if_pos z] at h; exact xo_g oR oS h
    rw [if_neg z8] at h
    refine pk_eq k 9 (fun z => ?_) (fun z9 => trivial)
    rw [if_pos z] at h
    refine bz_actb p16 rfl (fun t => ⟨vp, ?_⟩) (fun t => ⟨vq, ?_⟩)
    · rw [if_pos t] at h; exact h
    · rw [if_neg (by rw [t]; decide)] at h; exact h
  · rw [if_pos ha] at h; exact h
end
