/- the codes of what is run -/
def ce_W (N : Nat) (K M P Q : Nat → Nat) (o al is : Nat → Bool) (eS eR : Nat → Nat) : Prop := ∀ i, i < N →
  (K i = 0 ∨ K i = 2 → eS i = 1) ∧ (K i = 1 → eS i = 2) ∧ (K i = 3 → eS i = 4 * 2 ^ M i) ∧ (K i = 4 → eS i = co_o (eS (P i))) ∧ (K i = 5 → eS i = co_t (eS (P i))) ∧ (K i = 6 → eS i = eS (P i)) ∧ (K i = 7 → eS i = co_i (eS (P i)) (eS (Q i))) ∧ (K i = 8 → eS i = co_g (eS (P i)) (eS (Q i))) ∧ (K i = 9 → eS i = if is i = true then eS (P i) else eS (Q i)) ∧
  (al i = false → eR i = 1) ∧
  (al i = true → (K i < 4 → eR i = 1) ∧ (K i = 4 → eR i = co_o (if o i = true then eS (P i) else eR (P i))) ∧ (K i = 5 → eR i = co_t (eR (P i))) ∧ (K i = 6 → eR i = if is i = true then 2 else eR (P i)) ∧ (K i = 7 → eR i = if al (P i) = true then co_i (eR (P i)) (eS (Q i)) else eR (Q i)) ∧ (K i = 8 → eR i = co_g (eR (P i)) (eR (Q i))) ∧ (K i = 9 → eR i = if al (P i) = true then eR (P i) else eR (Q i)))
def nz_C (c : Nat) : Prop := c = 1 ∨ c = 2 ∨ c = 4 ∨ c = 8 ∨ c = 16
def bd_C (a c : Nat) : Prop := nz_C c ∧ c ≤ 2 ^ (a + 1)
theorem bd_2 (a : Nat) : 2 ≤ 2 ^ (a + 1) := by
  rw [Nat.pow_succ]; have := Nat.one_le_two_pow (n := a); omega
theorem bd_1 (a : Nat) : bd_C a 1 := ⟨Or.inl rfl, by have := bd_2 a; omega⟩
theorem bd_o {a c : Nat} (h : bd_C a c) : bd_C a (co_o c) := by
  have h2 := bd_2 a
  obtain ⟨h, l⟩ := h
  unfold bd_C nz_C
  rcases h with rfl | rfl | rfl | rfl | rfl
  · exact ⟨by decide, h2⟩
  all_goals exact ⟨by decide, l⟩
theorem bd_t {a c : Nat} (h : bd_C (a + 1) c) : bd_C a (co_t c) := by
  have h2 := bd_2 a
  obtain ⟨h, l⟩ := h
  rw [Nat.pow_succ] at l
  unfold bd_C nz_C
  rcases h with rfl | rfl | rfl | rfl | rfl
  · exact ⟨by decide, (by omega : 1 ≤ 2 ^ (a + 1))⟩
  · exact ⟨by decide, (by omega : 2 ≤ 2 ^ (a + 1))⟩
  · exact ⟨by decide, (by omega : 1 ≤ 2 ^ (a + 1))⟩
  · exact ⟨by decide, (by omega : 4 ≤ 2 ^ (a + 1))⟩
  · exact ⟨by decide, (by omega : 8 ≤ 2 ^ (a + 1))⟩
theorem nz_g {c d : Nat} (h : nz_C c) (k : nz_C d) : co_g c d = c ∨ co_g c d = d := by
  rcases h with rfl | rfl | rfl | rfl | rfl <;> rcases k with rfl | rfl | rfl | rfl | rfl <;> decide
theorem bd_g {a c d : Nat} (h : bd_C a c) (k : bd_C a d) : bd_C a (co_g c d) := by
  rcases nz_g h.1 k.1 with e | e <;> rw [e] <;> assumption
theorem nz_i {c d : Nat} (h : nz_C c) : (c = 1 ∧ co_i c d = d) ∨ (c ≠ 1 ∧ co_i c d = c) := by
  unfold co_i
  rcases h with rfl | rfl | rfl | rfl | rfl
  · exact Or.inl ⟨rfl, by simp⟩
  all_goals exact Or.inr ⟨by decide, by simp⟩
theorem bd_i {a c d : Nat} (h : bd_C a c) (k : bd_C a d) : bd_C a (co_i c d) := by
  rcases nz_i (d := d) h.1 with ⟨_, e⟩ | ⟨_, e⟩ <;> rw [e] <;> assumption
/-- the traps around a statement -/
def ar_W (N : Nat) (K M P Q ar : Nat → Nat) : Prop := ar (N - 1) = 0 ∧ (∀ i, i < N → 4 ≤ K i → ar (P i) = ar i + (if K i = 5 then 1 else 0)) ∧ (∀ i, i < N → 7 ≤ K i → ar (Q i) = ar i) ∧ (∀ i, i < N → K i = 3 → M i < ar i ∧ M i < 3)
theorem ce_nz3 : ∀ m, m < 3 → (4 * 2 ^ m = 1 ∨ 4 * 2 ^ m = 2 ∨ 4 * 2 ^ m = 4 ∨ 4 * 2 ^ m = 8 ∨ 4 * 2 ^ m = 16) := by decide
theorem ce_S {N : Nat} {K M P Q ar : Nat → Nat} {o al is : Nat → Bool} {eS eR : Nat → Nat} (wf : wf_P N K P Q) (k9 : ∀ i, i < N → K i ≤ 9) (h : ce_W N K M P Q o al is eS eR) (ha : ar_W N K M P Q ar) : ∀ i, i < N → bd_C (ar i) (eS i) := by
  intro i
  induction i using Nat.strongRecOn with
  | _ i ih =>
    intro hi
    obtain ⟨c0, c1, c3, c4, c5, c6, c7, c8, c9, cf, ct⟩ := h i hi
    obtain ⟨a0, aP, aQ, aM⟩ := ha
    have hp : 4 ≤ K i → bd_C (ar (P i)) (eS (P i)) := fun h4 => ih _ (wf i hi h4).1 (by have := (wf i hi h4).1; omega)
    have hq : 7 ≤ K i → bd_C (ar i) (eS (Q i)) := fun h7 => by
      have := ih _ (wf i hi (by omega)).2 (by have := (wf i hi (by omega)).2; omega)
      rw [aQ i hi h7] at this; exact this
    have hp' : 4 ≤ K i → K i ≠ 5 → bd_C (ar i) (eS (P i)) := fun h4 h5 => by
      have := hp h4
      rw [aP i hi h4, if_neg h5] at this; exact this
    have := k9 i hi
    have hc : K i = 0 ∨ K i = 1 ∨ K i = 2 ∨ K i = 3 ∨ K i = 4 ∨ K i = 5 ∨ K i = 6 ∨ K i = 7 ∨ K i = 8 ∨ K i = 9 := by omega
    rcases hc with z | z | z | z | z | z | z | z | z | z
    · rw [c0 (Or.inl z)]; exact bd_1 _
    · rw [c1 z]; exact ⟨Or.inr (Or.inl rfl), bd_2 _⟩
    · rw [c0 (Or.inr z)]; exact bd_1 _
    · rw [c3 z]
      have := aM i hi z
      refine ⟨ce_nz3 _ this.2, ?_⟩
      have e : 4 * 2 ^ M i = 2 ^ (M i + 2) := by rw [Nat.pow_succ, Nat.pow_succ]; omega
      rw [e]; exact Nat.pow_le_pow_right (by decide) (by omega)
    · rw [c4 z]; exact bd_o (hp' (by omega) (by omega))
    · rw [c5 z]
      have := hp (by omega)
      rw [aP i hi (by omega), if_pos z] at this
      exact bd_t this
    · rw [c6 z]; exact hp' (by omega) (by omega)
    · rw [c7 z]; exact bd_i (hp' (by omega) (by omega)) (hq (by omega))
    · rw [c8 z]; exact bd_g (hp' (by omega) (by omega)) (hq (by omega))
    · rw [c9 z]
      split
      · exact hp' (by omega) (by omega)
      · exact hq (by omega)
theorem ce_R {N : Nat} {K M P Q ar : Nat → Nat} {o al is : Nat → Bool} {eS eR : Nat → Nat} (wf : wf_P N K P Q) (k9 : ∀ i, i < N → K i ≤ 9) (h : ce_W N K M P Q o al is eS eR) (ha : ar_W N K M P Q ar) : ∀ i, i < N → bd_C (ar i) (eR i) := by
  have hS := ce_S wf k9 h ha
  intro i
  induction i using Nat.strongRecOn with
  | _ i ih =>
    intro hi
    obtain ⟨c0, c1, c3, c4, c5, c6, c7, c8, c9, cf, ct⟩ := h i hi
    obtain ⟨a0, aP, aQ, aM⟩ := ha
    cases hal : al i
    · rw [cf hal]; exact bd_1 _
    obtain ⟨r0, r4, r5, r6, r7, r8, r9⟩ := ct hal
    have hpN : 4 ≤ K i → P i < N := fun h4 => by have := (wf i hi h4).1; omega
    have hqN : 4 ≤ K i → Q i < N := fun h4 => by have := (wf i hi h4).2; omega
    have hp : 4 ≤ K i → bd_C (ar (P i)) (eR (P i)) := fun h4 => ih _ (wf i hi h4).1 (hpN h4)
    have hq : 7 ≤ K i → bd_C (ar i) (eR (Q i)) := fun h7 => by
      have := ih _ (wf i hi (by omega)).2 (hqN (by omega))
      rw [aQ i hi h7] at this; exact this
    have hp' : 4 ≤ K i → K i ≠ 5 → bd_C (ar i) (eR (P i)) := fun h4 h5 => by
      have := hp h4
      rw [aP i hi h4, if_neg h5] at this; exact this
    have hsp : 4 ≤ K i → K i ≠ 5 → bd_C (ar i) (eS (P i)) := fun h4 h5 => by
      have := hS _ (hpN h4)
      rw [aP i hi h4, if_neg h5] at this; exact this
    have hsq : 7 ≤ K i → bd_C (ar i) (eS (Q i)) := fun h7 => by
      have := hS _ (hqN (by omega))
      rw [aQ i hi h7] at this; exact this
    have := k9 i hi
    have hc : K i < 4 ∨ K i = 4 ∨ K i = 5 ∨ K i = 6 ∨ K i = 7 ∨ K i = 8 ∨ K i = 9 := by omega
    rcases hc with z | z | z | z | z | z | z
    · rw [r0 z]; exact bd_1 _
    · rw [r4 z]
      split
      · exact bd_o (hsp (by omega) (by omega))
      · exact bd_o (hp' (by omega) (by omega))
    · rw [r5 z]
      have := hp (by omega)
      rw [aP i hi (by omega), if_pos z] at this
      exact bd_t this
    · rw [r6 z]
      split
      · exact ⟨Or.inr (Or.inl rfl), bd_2 _⟩
      · exact hp' (by omega) (by omega)
    · rw [r7 z]
      split
      · exact bd_i (hp' (by omega) (by omega)) (hsq (by omega))
      · exact hq (by omega)
    · rw [r8 z]; exact bd_g (hp' (by omega) (by omega)) (hq (by omega))
    · rw [r9 z]
      split
      · exact hp' (by omega) (by omega)
      · exact hq (by omega)
/- the code of a statement that is run, by its parts -/
def fr_S (K d : Nat → Nat) (is : Nat → Bool) (k : Nat) : Bool := decide (K k = 6) && decide (d k = 2) && is k
theorem rc_w {N : Nat} {K P Q par : Nat → Nat} {w : Nat → Int32} {o al is : Nat → Bool} {eS eR d : Nat → Nat} {fi : Bool} (h : dm_W N K P Q par w o al is eS eR d fi) {i : Nat} (hi : i < N) (hd : d i ≠ 0) : d i = 1 ∨ (d i = 2 ∧ al i = true) := by
  have := dm_012 h (N - i) i rfl hi
  have h2 := dm_al h (N - i) i rfl hi
  by_cases z : d i = 1
  · exact Or.inl z
  · have : d i = 2 := by omega
    exact Or.inr ⟨this, h2 this⟩
theorem rc_4 {N : Nat} {K M P Q par : Nat → Nat} {w : Nat → Int32} {o al is : Nat → Bool} {eS eR d : Nat → Nat} {fi : Bool} (h : dm_W N K P Q par w o al is eS eR d fi) (hc : ce_W N K M P Q o al is eS eR) {i : Nat} (hi : i < N) (hd : d i ≠ 0) (hk : K i = 4) :
    d (P i) ≠ 0 ∧ cd_E eS eR (d i) i = co_o (cd_E eS eR (d (P i)) (P i)) := by
  obtain ⟨c0, c1, c3, c4, c5, c6, c7, c8, c9, cf, ct⟩ := hc i hi
  have hP := dm_P h hi (by omega)
  unfold wy_P at hP
  rw [if_neg hd, if_pos hk] at hP
  rcases rc_w h hi hd with z | ⟨z, za⟩
  · have : d (P i) = 1 := by rw [hP, z]; split <;> rfl
    rw [this, z]
    exact ⟨by decide, c4 hk⟩
  · have r4 := (ct za).2.1 hk
    by_cases zo : o i = true
    · rw [if_pos zo] at hP r4
      rw [hP, z]; exact ⟨by decide, r4⟩
    · rw [if_neg zo] at hP r4
      rw [hP, z]; exact ⟨by decide, r4⟩
theorem rc_5 {N : Nat} {K M P Q par : Nat → Nat} {w : Nat → Int32} {o al is : Nat → Bool} {eS eR d : Nat → Nat} {fi : Bool} (h : dm_W N K P Q par w o al is eS eR d fi) (hc : ce_W N K M P Q o al is eS eR) {i : Nat} (hi : i < N) (hd : d i ≠ 0) (hk : K i = 5) :
    d (P i) = d i ∧ cd_E eS eR (d i) i = co_t (cd_E eS eR (d (P i)) (P i)) := by
  obtain ⟨c0, c1, c3, c4, c5, c6, c7, c8, c9, cf, ct⟩ := hc i hi
  have hP := dm_P h hi (by omega)
  unfold wy_P at hP
  rw [if_neg hd, if_neg (by omega), if_pos hk] at hP
  refine ⟨hP, ?_⟩
  rw [hP]
  rcases rc_w h hi hd with z | ⟨z, za⟩
  · rw [z]; exact c5 hk
  · rw [z]; exact (ct za).2.2.1 hk
theorem rc_6 {N : Nat} {K M P Q par : Nat → Nat} {w : Nat → Int32} {o al is : Nat → Bool} {eS eR d : Nat → Nat} {fi : Bool} (h : dm_W N K P Q par w o al is eS eR d fi) (hc : ce_W N K M P Q o al is eS eR) {i : Nat} (hi : i < N) (hd : d i ≠ 0) (hk : K i = 6) :
    (fr_S K d is i = true ∧ d i = 2 ∧ al i = true ∧ d (P i) = 0 ∧ cd_E eS eR (d i) i = 2) ∨ (fr_S K d is i = false ∧ d (P i) = d i ∧ cd_E eS eR (d i) i = cd_E eS eR (d (P i)) (P i)) := by
  obtain ⟨c0, c1, c3, c4, c5, c6, c7, c8, c9, cf, ct⟩ := hc i hi
  have hP := dm_P h hi (by omega)
  unfold wy_P at hP
  rw [if_neg hd, if_neg (by omega), if_neg (by omega), if_pos hk] at hP
  unfold fr_S
  rcases rc_w h hi hd with z | ⟨z, za⟩
  · rw [if_neg (by omega)] at hP
    refine Or.inr ⟨by rw [z]; simp, hP, ?_⟩
    rw [hP, z]; exact c6 hk
  · have r6 := (ct za).2.2.2.1 hk
    cases zi : is i
    · rw [zi, if_neg (by simp)] at hP
      rw [zi, if_neg (by simp)] at r6
      refine Or.inr ⟨by simp, hP, ?_⟩
      rw [hP, z]; exact r6
    · rw [zi, if_pos ⟨z, rfl⟩] at hP
      rw [zi, if_pos rfl] at r6
      refine Or.inl ⟨by rw [z, hk]; rfl, z, za, hP, ?_⟩
      rw [z]; exact r6
theorem rc_7 {N : Nat} {K M P Q par ar : Nat → Nat} {w : Nat → Int32} {o al is : Nat → Bool} {eS eR d : Nat → Nat} {fi : Bool} (h : dm_W N K P Q par w o al is eS eR d fi) (hc : ce_W N K M P Q o al is eS eR) (ha : ar_W N K M P Q ar) {i : Nat} (hi : i < N) (hd : d i ≠ 0) (hk : K i = 7) :
    (d (P i) ≠ 0 ∧ cd_E eS eR (d (P i)) (P i) = 1 ∧ d (Q i) ≠ 0 ∧ cd_E eS eR (d i) i = cd_E eS eR (d (Q i)) (Q i)) ∨
    (d (P i) ≠ 0 ∧ cd_E eS eR (d (P i)) (P i) ≠ 1 ∧ d (Q i) = 0 ∧ cd_E eS eR (d i) i = cd_E eS eR (d (P i)) (P i)) ∨
    (d (P i) = 0 ∧ d (Q i) ≠ 0 ∧ cd_E eS eR (d i) i = cd_E eS eR (d (Q i)) (Q i)) := by
  have hP := dm_P h hi (by omega)
  have hQ := dm_Q h hi (by omega)
  have hw := rc_w h hi hd
  obtain ⟨c0, c1, c3, c4, c5, c6, c7, c8, c9, cf, ct⟩ := hc i hi
  have wf := h.2.2.1
  have hPN : P i < N := by have := (wf i hi (by omega)).1; omega
  have bS := ce_S wf h.2.2.2.1 hc ha _ hPN
  have bR := ce_R wf h.2.2.2.1 hc ha _ hPN
  unfold wy_P at hP
  unfold wy_Q at hQ
  rw [if_neg hd, if_neg (by omega), if_neg (by omega), if_neg (by omega), if_pos (Or.inl hk)] at hP
  rw [if_neg hd, if_pos hk] at hQ
  rcases hw with z | ⟨z, za⟩
  · rw [if_pos (Or.inl z), z] at hP
    rw [if_neg (by omega), hP] at hQ
    rw [hP, z]
    have e : cd_E eS eR 1 (P i) = eS (P i) := rfl
    rw [e] at hQ ⊢
    rcases nz_i (d := eS (Q i)) bS.1 with ⟨e1, e2⟩ | ⟨e1, e2⟩
    · left
      rw [e1, if_pos (by decide)] at hQ
      rw [hQ]
      exact ⟨by decide, e1, by decide, by show eS i = eS (Q i); rw [c7 hk, e2]⟩
    · right; left
      have : ¬ eS (P i) % 2 = 1 := by rcases bS.1 with q | q | q | q | q <;> omega
      rw [decide_eq_false this, if_neg (by decide)] at hQ
      rw [hQ]
      exact ⟨by decide, e1, rfl, by show eS i = _; rw [c7 hk, e2]⟩
  · have r7 := (ct za).2.2.2.2.1 hk
    cases zp : al (P i)
    · rw [zp, if_neg (by rw [z]; decide)] at hP
      rw [zp, if_pos ⟨z, rfl⟩] at hQ
      rw [zp, if_neg (by decide)] at r7
      right; right
      rw [hP, hQ, z]
      exact ⟨rfl, by decide, r7⟩
    · rw [zp, if_pos (Or.inr rfl), z] at hP
      rw [zp, if_neg (by simp), hP] at hQ
      rw [zp, if_pos rfl] at r7
      rw [hP, z]
      have e : cd_E eS eR 2 (P i) = eR (P i) := rfl
      rw [e] at hQ ⊢
      rcases nz_i (d := eS (Q i)) bR.1 with ⟨e1, e2⟩ | ⟨e1, e2⟩
      · left
        rw [e1, if_pos (by decide)] at hQ
        rw [hQ]
        exact ⟨by decide, e1, by decide, by show eR i = eS (Q i); rw [r7, e2]⟩
      · right; left
        have : ¬ eR (P i) % 2 = 1 := by rcases bR.1 with q | q | q | q | q <;> omega
        rw [decide_eq_false this, if_neg (by decide)] at hQ
        rw [hQ]
        exact ⟨by decide, e1, rfl, by show eR i = _; rw [r7, e2]⟩
theorem rc_8 {N : Nat} {K M P Q par : Nat → Nat} {w : Nat → Int32} {o al is : Nat → Bool} {eS eR d : Nat → Nat} {fi : Bool} (h : dm_W N K P Q par w o al is eS eR d fi) (hc : ce_W N K M P Q o al is eS eR) {i : Nat} (hi : i < N) (hd : d i ≠ 0) (hk : K i = 8) :
    cd_E eS eR (d i) i = co_g (if d (P i) = 0 then 1 else cd_E eS eR (d (P i)) (P i)) (if d (Q i) = 0 then 1 else cd_E eS eR (d (Q i)) (Q i)) := by
  have hP := dm_P h hi (by omega)
  have hQ := dm_Q h hi (by omega)
  have hw := rc_w h hi hd
  have wf := h.2.2.1
  have hPN : P i < N := by have := (wf i hi (by omega)).1; omega
  have hQN : Q i < N := by have := (wf i hi (by omega)).2; omega
  have cP := (hc _ hPN).2.2.2.2.2.2.2.2.2.1
  have cQ := (hc _ hQN).2.2.2.2.2.2.2.2.2.1
  obtain ⟨c0, c1, c3, c4, c5, c6, c7, c8, c9, cf, ct⟩ := hc i hi
  unfold wy_P at hP
  unfold wy_Q at hQ
  rw [if_neg hd, if_neg (by omega), if_neg (by omega), if_neg (by omega), if_pos (Or.inr hk)] at hP
  rw [if_neg hd, if_neg (by omega), if_pos hk] at hQ
  rcases hw with z | ⟨z, za⟩
  · rw [if_pos (Or.inl z), z] at hP hQ
    rw [hP, hQ, z]
    exact c8 hk
  · have r8 := (ct za).2.2.2.2.2.1 hk
    have e : cd_E eS eR (d i) i = eR i := by rw [z]; rfl
    rw [e, r8]
    congr 1
    · cases zp : al (P i)
      · rw [zp, if_neg (by rw [z]; decide)] at hP
        rw [if_pos hP]; exact cP zp
      · rw [zp, if_pos (Or.inr rfl), z] at hP
        rw [hP]; rfl
    · cases zp : al (Q i)
      · rw [zp, if_neg (by rw [z]; decide)] at hQ
        rw [if_pos hQ]; exact cQ zp
      · rw [zp, if_pos (Or.inr rfl), z] at hQ
        rw [hQ]; rfl
theorem rc_9 {N : Nat} {K M P Q par : Nat → Nat} {w : Nat → Int32} {o al is : Nat → Bool} {eS eR d : Nat → Nat} {fi : Bool} (h : dm_W N K P Q par w o al is eS eR d fi) (hc : ce_W N K M P Q o al is eS eR) {i : Nat} (hi : i < N) (hd : d i ≠ 0) (hk : K i = 9) :
    (d (P i) ≠ 0 ∧ d (Q i) = 0 ∧ cd_E eS eR (d i) i = cd_E eS eR (d (P i)) (P i)) ∨ (d (P i) = 0 ∧ d (Q i) ≠ 0 ∧ cd_E eS eR (d i) i = cd_E eS eR (d (Q i)) (Q i)) := by
  have hP := dm_P h hi (by omega)
  have hQ := dm_Q h hi (by omega)
  have hw := rc_w h hi hd
  obtain ⟨c0, c1, c3, c4, c5, c6, c7, c8, c9, cf, ct⟩ := hc i hi
  unfold wy_P at hP
  unfold wy_Q at hQ
  rw [if_neg hd, if_neg (by omega), if_neg (by omega), if_neg (by omega), if_neg (by omega)] at hP
  rw [if_neg hd, if_neg (by omega), if_neg (by omega)] at hQ
  rcases hw with z | ⟨z, za⟩
  · rw [z, if_pos rfl] at hP hQ
    have c9' := c9 hk
    cases zi : is i
    · rw [zi, if_neg (by decide)] at hP hQ c9'
      right; rw [hP, hQ, z]; exact ⟨rfl, by decide, c9'⟩
    · rw [zi, if_pos rfl] at hP hQ c9'
      left; rw [hP, hQ, z]; exact ⟨by decide, rfl, c9'⟩
  · rw [z, if_neg (show ¬ 2 = 1 by decide)] at hP hQ
    have r9 := (ct za).2.2.2.2.2.2 hk
    cases zi : al (P i)
    · rw [zi, if_neg (by decide)] at hP hQ r9
      right; rw [hP, hQ, z]; exact ⟨rfl, by decide, r9⟩
    · rw [zi, if_pos rfl] at hP hQ r9
      left; rw [hP, hQ, z]; exact ⟨by decide, rfl, r9⟩
theorem rc_0 {N : Nat} {K M P Q par : Nat → Nat} {w : Nat → Int32} {o al is : Nat → Bool} {eS eR d : Nat → Nat} {fi : Bool} (h : dm_W N K P Q par w o al is eS eR d fi) (hc : ce_W N K M P Q o al is eS eR) {i : Nat} (hi : i < N) (hd : d i ≠ 0) (hk : K i < 4) :
    (K i = 1 ∧ d i = 1 ∧ cd_E eS eR (d i) i = 2) ∨ (¬ (K i = 1 ∧ d i = 1) ∧ cd_E eS eR (d i) i ≠ 2) := by
  obtain ⟨c0, c1, c3, c4, c5, c6, c7, c8, c9, cf, ct⟩ := hc i hi
  rcases rc_w h hi hd with z | ⟨z, za⟩
  · rw [z]
    have e : cd_E eS eR 1 i = eS i := rfl
    rw [e]
    have hcs : K i = 0 ∨ K i = 1 ∨ K i = 2 ∨ K i = 3 := by omega
    rcases hcs with q | q | q | q
    · right; rw [c0 (Or.inl q)]; exact ⟨by omega, by decide⟩
    · left; exact ⟨q, rfl, c1 q⟩
    · right; rw [c0 (Or.inr q)]; exact ⟨by omega, by decide⟩
    · right; rw [c3 q]; have := Nat.one_le_two_pow (n := M i); exact ⟨by omega, by omega⟩
  · rw [z]
    have e : cd_E eS eR 2 i = eR i := rfl
    rw [e, (ct za).1 hk]
    right; exact ⟨by omega, by decide⟩
