/- the tree of a program; tables built downward; how statements are run -/
def tr_P (N : Nat) (K P Q par : Nat → Nat) (w : Nat → Int32) : Prop :=
  (∀ c, c + 1 < N → c < par c ∧ par c < N ∧ ((4 ≤ K (par c) ∧ c = P (par c)) ∨ (7 ≤ K (par c) ∧ c = Q (par c)))) ∧
  (∀ i, i < N → 4 ≤ K i → par (P i) = i) ∧
  (∀ i, i < N → 7 ≤ K i → par (Q i) = i ∧ Q i ≠ P i) ∧
  (∀ c, c + 1 < N → ∀ k, k < N → k ≠ c → bt (w k) c = bt (w k) (par c)) ∧
  (∀ i, i < N → ∀ j, bt (w i) j = (decide (j = i) || (decide (4 ≤ K i) && bt (w (P i)) j) || (decide (7 ≤ K i) && bt (w (Q i)) j))) ∧
  (∀ i, i < N → K i < 7 → Q i = P i)
theorem tr_e {N : Nat} {K P Q par : Nat → Nat} {w : Nat → Int32} (h : tr_P N K P Q par w) {i j : Nat} (hi : i < N) : bt (w i) j = true ↔ j = i ∨ (4 ≤ K i ∧ bt (w (P i)) j = true) ∨ (7 ≤ K i ∧ bt (w (Q i)) j = true) := by
  rw [h.2.2.2.2.1 i hi j]
  simp [or_assoc]
theorem tr_self {N : Nat} {K P Q par : Nat → Nat} {w : Nat → Int32} (h : tr_P N K P Q par w) {i : Nat} (hi : i < N) : bt (w i) i = true := (tr_e h hi).mpr (Or.inl rfl)
theorem tr_le {N : Nat} {K P Q par : Nat → Nat} {w : Nat → Int32} (h : tr_P N K P Q par w) (wf : wf_P N K P Q) : ∀ i, i < N → ∀ j, bt (w i) j = true → j ≤ i := by
  intro i
  induction i using Nat.strongRecOn with
  | _ i ih =>
    intro hi j hj
    rcases (tr_e h hi).mp hj with e | ⟨h4, e⟩ | ⟨h7, e⟩
    · omega
    · have := (wf i hi h4).1
      have := ih (P i) this (by omega) j e
      omega
    · have := (wf i hi (by omega)).2
      have := ih (Q i) this (by omega) j e
      omega
theorem tr_tr {N : Nat} {K P Q par : Nat → Nat} {w : Nat → Int32} (h : tr_P N K P Q par w) (wf : wf_P N K P Q) : ∀ a, a < N → ∀ b j, bt (w a) b = true → bt (w b) j = true → bt (w a) j = true := by
  intro a
  induction a using Nat.strongRecOn with
  | _ a ih =>
    intro ha b j hb hj
    rcases (tr_e h ha).mp hb with e | ⟨h4, e⟩ | ⟨h7, e⟩
    · rw [e] at hj; exact hj
    · have := (wf a ha h4).1
      exact (tr_e h ha).mpr (Or.inr (Or.inl ⟨h4, ih (P a) this (by omega) b j e hj⟩))
    · have := (wf a ha (by omega)).2
      exact (tr_e h ha).mpr (Or.inr (Or.inr ⟨h7, ih (Q a) this (by omega) b j e hj⟩))
theorem tr_dj {N : Nat} {K P Q par : Nat → Nat} {w : Nat → Int32} (h : tr_P N K P Q par w) (wf : wf_P N K P Q) {k : Nat} (hk : k < N) (h7 : 7 ≤ K k) : ∀ n j, N - j = n → bt (w (P k)) j = true → bt (w (Q k)) j = true → False := by
  have hP := (wf k hk (by omega)).1
  have hQ := (wf k hk (by omega)).2
  have hne := (h.2.2.1 k hk h7).2
  intro n
  induction n using Nat.strongRecOn with
  | _ n ih =>
    intro j hj h1 h2
    have l1 := tr_le h wf (P k) (by omega) j h1
    have l2 := tr_le h wf (Q k) (by omega) j h2
    have hjN : j + 1 < N := by omega
    have hpj := (h.1 j hjN).1
    by_cases e1 : j = P k
    · rw [h.2.2.2.1 j hjN (Q k) (by omega) (by omega), e1, h.2.1 k hk (by omega)] at h2
      have := tr_le h wf (Q k) (by omega) k h2
      omega
    · by_cases e2 : j = Q k
      · rw [h.2.2.2.1 j hjN (P k) (by omega) (by omega), e2, (h.2.2.1 k hk h7).1] at h1
        have := tr_le h wf (P k) (by omega) k h1
        omega
      · rw [h.2.2.2.1 j hjN (P k) (by omega) (by omega)] at h1
        rw [h.2.2.2.1 j hjN (Q k) (by omega) (by omega)] at h2
        exact ih (N - par j) (by omega) (par j) rfl h1 h2
theorem tr_al {N : Nat} {K P Q par : Nat → Nat} {w : Nat → Int32} (h : tr_P N K P Q par w) (hN : N ≤ 16) (x : Int32) {i : Nat} (hi : i < N) :
    ac_L x w i = (bt x i || (decide (4 ≤ K i) && ac_L x w (P i)) || (decide (7 ≤ K i) && ac_L x w (Q i))) := by
  rw [Bool.eq_iff_iff]
  simp only [Bool.or_eq_true, Bool.and_eq_true, decide_eq_true_eq, ac_ex]
  constructor
  · rintro ⟨j, hj, ho, hw⟩
    rcases (tr_e h hi).mp hw with e | ⟨h4, e⟩ | ⟨h7, e⟩
    · rw [e] at ho; exact Or.inl (Or.inl ho)
    · exact Or.inl (Or.inr ⟨h4, j, hj, ho, e⟩)
    · exact Or.inr ⟨h7, j, hj, ho, e⟩
  · rintro ((ho | ⟨h4, j, hj, ho, e⟩) | ⟨h7, j, hj, ho, e⟩)
    · exact ⟨i, by omega, ho, tr_self h hi⟩
    · exact ⟨j, hj, ho, (tr_e h hi).mpr (Or.inr (Or.inl ⟨h4, e⟩))⟩
    · exact ⟨j, hj, ho, (tr_e h hi).mpr (Or.inr (Or.inr ⟨h7, e⟩))⟩
/-- tables built downward -/
def dn_T {α : Type} (N : Nat) (par : Nat → Nat) (G : Nat → α → α) (a0 : α) : Nat → Nat → α
  | 0, _ => a0
  | n + 1, c => if c + 1 < N then G c (dn_T N par G a0 n (par c)) else a0
theorem dn_e {α : Type} {N : Nat} {par : Nat → Nat} {G : Nat → α → α} {a0 : α} (hp : ∀ c, c + 1 < N → c < par c) : ∀ n c, N ≤ n + c → ∀ m, N ≤ m + c → dn_T N par G a0 n c = dn_T N par G a0 m c := by
  intro n
  induction n with
  | zero =>
    intro c hc m hm
    cases m with
    | zero => rfl
    | succ m =>
      show a0 = if c + 1 < N then _ else a0
      rw [if_neg (by omega)]
  | succ n ih =>
    intro c hc m hm
    by_cases h : c + 1 < N
    · have := hp c h
      cases m with
      | zero => omega
      | succ m =>
        show (if c + 1 < N then G c (dn_T N par G a0 n (par c)) else a0) = (if c + 1 < N then G c (dn_T N par G a0 m (par c)) else a0)
        rw [if_pos h, if_pos h, ih (par c) (by omega) m (by omega)]
    · cases m with
      | zero =>
        show (if c + 1 < N then G c (dn_T N par G a0 n (par c)) else a0) = a0
        rw [if_neg h]
      | succ m =>
        show (if c + 1 < N then G c (dn_T N par G a0 n (par c)) else a0) = (if c + 1 < N then G c (dn_T N par G a0 m (par c)) else a0)
        rw [if_neg h, if_neg h]
theorem dn_x {α : Type} {N : Nat} {par : Nat → Nat} (G : Nat → α → α) (a0 : α) (hN : 1 ≤ N) (hp : ∀ c, c + 1 < N → c < par c) : ∃ d : Nat → α, d (N - 1) = a0 ∧ ∀ c, c + 1 < N → d c = G c (d (par c)) := by
  refine ⟨fun c => dn_T N par G a0 N c, ?_, fun c hc => ?_⟩
  · cases N with
    | zero => omega
    | succ N =>
      show (if (N + 1 - 1) + 1 < N + 1 then _ else a0) = a0
      rw [if_neg (by omega)]
  · dsimp only
    rw [dn_e hp N c (by omega) (N + 1) (by omega)]
    show (if c + 1 < N then G c (dn_T N par G a0 N (par c)) else a0) = _
    rw [if_pos hc]
/- which way a part is run -/
def wy_P (k : Nat) (oi aP is : Bool) (w : Nat) : Nat :=
  if w = 0 then 0 else if k = 4 then (if oi = true then 1 else w) else if k = 5 then w else if k = 6 then (if w = 2 ∧ is = true then 0 else w) else if k = 7 ∨ k = 8 then (if w = 1 ∨ aP = true then w else 0) else (if (if w = 1 then is else aP) = true then w else 0)
def wy_Q (k : Nat) (aP aQ is en : Bool) (w : Nat) : Nat :=
  if w = 0 then 0 else if k = 7 then (if w = 2 ∧ aP = false then 2 else if en = true then 1 else 0) else if k = 8 then (if w = 1 ∨ aQ = true then w else 0) else (if (if w = 1 then is else aP) = true then 0 else w)
def cd_E (eS eR : Nat → Nat) (w j : Nat) : Nat := if w = 1 then eS j else eR j
/-- all that is known of one instant whose signals are all known -/
def dm_W (N : Nat) (K P Q par : Nat → Nat) (w : Nat → Int32) (o al is : Nat → Bool) (eS eR d : Nat → Nat) (fi : Bool) : Prop :=
  1 ≤ N ∧ tr_P N K P Q par w ∧ wf_P N K P Q ∧ (∀ i, i < N → K i ≤ 9) ∧ on_W N K P Q o al ∧ (fi = false → al (N - 1) = true) ∧
  (∀ i, i < N → K i = 7 ∨ K i = 9 → al (P i) = true → al (Q i) = true → False) ∧
  (∀ i, i < N → (al i = true ↔ ∃ j, o j = true ∧ bt (w i) j = true)) ∧
  d (N - 1) = (if fi = true then 1 else 2) ∧
  (∀ c, c + 1 < N → d c = if c = P (par c) then wy_P (K (par c)) (o (par c)) (al c) (is (par c)) (d (par c)) else wy_Q (K (par c)) (al (P (par c))) (al c) (is (par c)) (decide (cd_E eS eR (wy_P (K (par c)) (o (par c)) (al (P (par c))) (is (par c)) (d (par c))) (P (par c)) % 2 = 1)) (d (par c)))
theorem dm_P {N : Nat} {K P Q par : Nat → Nat} {w : Nat → Int32} {o al is : Nat → Bool} {eS eR d : Nat → Nat} {fi : Bool} (h : dm_W N K P Q par w o al is eS eR d fi) {i : Nat} (hi : i < N) (h4 : 4 ≤ K i) : d (P i) = wy_P (K i) (o i) (al (P i)) (is i) (d i) := by
  obtain ⟨h1, ht, wf, hk, hon, hr, h2, hal, hd0, hd⟩ := h
  have hp := (wf i hi h4).1
  have := hd (P i) (by omega)
  rw [ht.2.1 i hi h4, if_pos rfl] at this
  exact this
theorem dm_Q {N : Nat} {K P Q par : Nat → Nat} {w : Nat → Int32} {o al is : Nat → Bool} {eS eR d : Nat → Nat} {fi : Bool} (h : dm_W N K P Q par w o al is eS eR d fi) {i : Nat} (hi : i < N) (h7 : 7 ≤ K i) : d (Q i) = wy_Q (K i) (al (P i)) (al (Q i)) (is i) (decide (cd_E eS eR (d (P i)) (P i) % 2 = 1)) (d i) := by
  have hP := dm_P h hi (by omega)
  obtain ⟨h1, ht, wf, hk, hon, hr, h2, hal, hd0, hd⟩ := h
  have hq := (wf i hi (by omega)).2
  have := hd (Q i) (by omega)
  rw [(ht.2.2.1 i hi h7).1, if_neg (ht.2.2.1 i hi h7).2, ← hP] at this
  exact this
theorem dm_012 {N : Nat} {K P Q par : Nat → Nat} {w : Nat → Int32} {o al is : Nat → Bool} {eS eR d : Nat → Nat} {fi : Bool} (h : dm_W N K P Q par w o al is eS eR d fi) : ∀ n c, N - c = n → c < N → d c ≤ 2 := by
  have h' := h
  obtain ⟨h1, ht, wf, hk, hon, hr, h2, hal, hd0, hd⟩ := h
  intro n
  induction n using Nat.strongRecOn with
  | _ n ih =>
    intro c hn hc
    by_cases e : c + 1 < N
    · have hp := (ht.1 c e).1
      have hpN := (ht.1 c e).2.1
      have ih' := ih (N - par c) (by omega) (par c) rfl hpN
      rw [hd c e]
      split
      · unfold wy_P; repeat' split
        all_goals omega
      · unfold wy_Q; repeat' split
        all_goals omega
    · rw [show c = N - 1 by omega, hd0]; split <;> omega
/-- what is resumed is active -/
theorem dm_al {N : Nat} {K P Q par : Nat → Nat} {w : Nat → Int32} {o al is : Nat → Bool} {eS eR d : Nat → Nat} {fi : Bool} (h : dm_W N K P Q par w o al is eS eR d fi) : ∀ n c, N - c = n → c < N → d c = 2 → al c = true := by
  have h' := h
  obtain ⟨h1, ht, wf, hk, hon, hr, h2, hal, hd0, hd⟩ := h
  intro n
  induction n using Nat.strongRecOn with
  | _ n ih =>
    intro c hn hc hdc
    by_cases e : c + 1 < N
    · obtain ⟨hp, hpN, hcc⟩ := ht.1 c e
      have ih' := ih (N - par c) (by omega) (par c) rfl hpN
      have h012 := dm_012 h' (N - par c) (par c) rfl hpN
      have hrec := hon.1 (par c) hpN
      have hno : ¬ (K (par c) = 1 ∨ K (par c) = 4) → o (par c) = false := by
        intro hz
        cases ho : o (par c)
        · rfl
        · exact absurd (hon.2 _ ho).2 hz
      have k9 := hk _ hpN
      generalize hi : par c = i at *
      rcases hcc with ⟨h4, e1⟩ | ⟨h7, e1⟩
      · have hP := dm_P h' hpN h4
        rw [e1] at hdc ⊢
        rw [hP] at hdc
        unfold wy_P at hdc
        rw [decide_eq_true h4, Bool.true_and] at hrec
        by_cases z0 : d i = 0
        · rw [if_pos z0] at hdc; omega
        rw [if_neg z0] at hdc
        by_cases z4 : K i = 4
        · rw [if_pos z4] at hdc
          by_cases zo : o i = true
          · rw [if_pos zo] at hdc; omega
          rw [if_neg zo] at hdc
          rw [ih' hdc, decide_eq_false (show ¬ 7 ≤ K i by omega)] at hrec
          have : o i = false := by cases hh : o i; rfl; exact absurd hh zo
          rw [this] at hrec; simpa using hrec.symm
        rw [if_neg z4] at hdc
        by_cases z5 : K i = 5
        · rw [if_pos z5] at hdc
          rw [ih' hdc, decide_eq_false (show ¬ 7 ≤ K i by omega), hno (by omega)] at hrec
          simpa using hrec.symm
        rw [if_neg z5] at hdc
        by_cases z6 : K i = 6
        · rw [if_pos z6] at hdc
          have hw : d i = 2 := by
            by_cases zz : d i = 2 ∧ is i = true
            · rw [if_pos zz] at hdc; omega
            · rw [if_neg zz] at hdc; exact hdc
          rw [ih' hw, decide_eq_false (show ¬ 7 ≤ K i by omega), hno (by omega)] at hrec
          simpa using hrec.symm
        rw [if_neg z6] at hdc
        by_cases z78 : K i = 7 ∨ K i = 8
        · rw [if_pos z78] at hdc
          by_cases zz : d i = 1 ∨ al (P i) = true
          · rw [if_pos zz] at hdc
            rcases zz with zz | zz
            · omega
            · exact zz
          · rw [if_neg zz] at hdc; omega
        · rw [if_neg z78] at hdc
          by_cases zz : (if d i = 1 then is i else al (P i)) = true
          · rw [if_pos zz] at hdc
            rw [if_neg (by omega)] at zz; exact zz
          · rw [if_neg zz] at hdc; omega
      · have hQ := dm_Q h' hpN h7
        rw [e1] at hdc ⊢
        rw [hQ] at hdc
        unfold wy_Q at hdc
        rw [decide_eq_true h7, Bool.true_and, hno (by omega), decide_eq_true (show 4 ≤ K i by omega), Bool.true_and, Bool.false_or] at hrec
        by_cases z0 : d i = 0
        · rw [if_pos z0] at hdc; omega
        rw [if_neg z0] at hdc
        by_cases z7 : K i = 7
        · rw [if_pos z7] at hdc
          by_cases zz : d i = 2 ∧ al (P i) = false
          · rw [ih' zz.1, zz.2] at hrec; simpa using hrec.symm
          · rw [if_neg zz] at hdc; split at hdc <;> omega
        rw [if_neg z7] at hdc
        by_cases z8 : K i = 8
        · rw [if_pos z8] at hdc
          by_cases zz : d i = 1 ∨ al (Q i) = true
          · rw [if_pos zz] at hdc
            rcases zz with zz | zz
            · omega
            · exact zz
          · rw [if_neg zz] at hdc; omega
        · rw [if_neg z8] at hdc
          by_cases zz : (if d i = 1 then is i else al (P i)) = true
          · rw [if_pos zz] at hdc; omega
          · rw [if_neg zz] at hdc
            rw [if_neg (by omega)] at zz
            have : al (P i) = false := by cases hh : al (P i); rfl; exact absurd hh zz
            rw [ih' hdc, this] at hrec; simpa using hrec.symm
    · have hc1 : c = N - 1 := by omega
      rw [hc1] at hdc ⊢
      rw [hd0] at hdc
      apply hr
      cases fi
      · rfl
      · rw [if_pos rfl] at hdc; omega
