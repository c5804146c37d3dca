/- building -/
def un_F (f : Nat → Nat) (m x : Nat) : Nat → Nat := fun j => if j = m then x else f j
theorem un_s {f : Nat → Nat} {m x : Nat} : un_F f m x m = x := if_pos rfl
theorem un_n {f : Nat → Nat} {m x j : Nat} (h : j ≠ m) : un_F f m x j = f j := if_neg h
theorem bu_le {m : Nat} {K P Q : Nat → Nat} {nw : Nat → Int32} (wf : wf_P m K P Q) (he : ∀ i, i < m → ∀ j, bt (nw i) j = (decide (j = i) || (decide (4 ≤ K i) && bt (nw (P i)) j) || (decide (7 ≤ K i) && bt (nw (Q i)) j))) : ∀ i, i < m → ∀ j, bt (nw i) j = true → j ≤ i := by
  intro i
  induction i using Nat.strongRecOn with
  | _ i ih =>
    intro hi j hj
    rw [he i hi j] at hj
    simp only [Bool.or_eq_true, Bool.and_eq_true, decide_eq_true_eq] at hj
    rcases hj with (e | ⟨h4, e⟩) | ⟨h7, e⟩
    · omega
    · have := (wf i hi h4).1
      have := ih (P i) this (by omega) j e
      omega
    · have := (wf i hi (by omega)).2
      have := ih (Q i) this (by omega) j e
      omega
theorem bu_push {m h h0 k mm p q : Nat} {K M P Q sk : Nat → Nat} {nk nm np nq nw bs bn bf bc xs ys : Nat → Int32} {mx wm : Int32} (hb : bu_W m h K M P Q sk nk nm np nq nw bs bn bf bc xs ys) (hm : m < 16) (hh : h0 ≤ h) (k9 : k ≤ 9) (hmk : mk_W k mm mx) (p16 : p < 16) (q16 : q < 16) (hQP : k < 7 → q = p) (hne : 7 ≤ k → q ≠ p)
    (hch : ∀ c, ((4 ≤ k ∧ c = p) ∨ (7 ≤ k ∧ c = q)) ↔ ∃ j, h0 ≤ j ∧ j < h ∧ sk j = c)
    (hw : ∀ j, bt wm j = (decide (j = m) || (decide (4 ≤ k) && bt (nw p) j) || (decide (7 ≤ k) && bt (nw q) j))) :
    bu_W (m + 1) (h0 + 1) (un_F K m k) (un_F M m mm) (un_F P m p) (un_F Q m q) (un_F sk h0 m) (upd nk m (nI k)) (upd nm m mx) (upd np m (nI p)) (upd nq m (nI q)) (upd nw m wm) (upd bs (16 + m) (nI k)) (upd bn (16 + m) mx) (upd bf (16 + m) (nI p)) (upd bc (16 + m) (nI (if 7 ≤ k then q else 0))) (upd xs h0 (nI m)) (upd ys h0 (nI m)) := by
  obtain ⟨b1, b2, b3, b4, b5, b6, b7, b8, b9, b10, b11, b12, b13, b14⟩ := hb
  have wf : wf_P m K P Q := pg_wf b4
  have le := bu_le wf b9
  have hpm : 4 ≤ k → p < m ∧ ∃ j, h0 ≤ j ∧ j < h ∧ sk j = p := fun h4 => by
    obtain ⟨j, j1, j2, j3⟩ := (hch p).mp (Or.inl ⟨h4, rfl⟩)
    exact ⟨by rw [← j3]; exact (b6 j j2).2.2, j, j1, j2, j3⟩
  have hqm : 7 ≤ k → q < m ∧ ∃ j, h0 ≤ j ∧ j < h ∧ sk j = q := fun h7 => by
    obtain ⟨j, j1, j2, j3⟩ := (hch q).mp (Or.inr ⟨h7, rfl⟩)
    exact ⟨by rw [← j3]; exact (b6 j j2).2.2, j, j1, j2, j3⟩
  have hpq : 4 ≤ k → p < m ∧ q < m := fun h4 => ⟨(hpm h4).1, by
    by_cases h7 : 7 ≤ k
    · exact (hqm h7).1
    · rw [hQP (by omega)]; exact (hpm h4).1⟩
  have chm : ∀ i c, i < m → ch_W K P Q i c → c < i ∧ bt (nw i) c = true := by
    intro i c hi hc
    rcases hc with ⟨h4, e⟩ | ⟨h7, e⟩
    · have := (wf i hi h4).1
      refine ⟨by omega, ?_⟩
      rw [b9 i hi c, e, b9 (P i) (by omega) (P i), decide_eq_true h4]; simp
    · have := (wf i hi (by omega)).2
      refine ⟨by omega, ?_⟩
      rw [b9 i hi c, e, b9 (Q i) (by omega) (Q i), decide_eq_true h7]; simp
  have self : ∀ i, i < m → bt (nw i) i = true := fun i hi => by rw [b9 i hi i]; simp
  refine ⟨by omega, by omega, fun z => by omega, ?_, ?_, ?_, ?_, ?_, ?_, ?_, ?_, ?_, ?_, ?_⟩
  · refine lt_s (fun i hi => ?_) ?_
    · have n : i ≠ m := by omega
      rw [pk_un n, pk_un n, pk_un n, pk_un n, un_n n, un_n n, un_n n, un_n n]; exact b4 i hi
    · rw [pk_us, pk_us, pk_us, pk_us, un_s, un_s, un_s, un_s]
      exact ⟨rfl, k9, hmk, rfl, rfl, p16, q16, hpq⟩
  · refine lt_s (fun i hi => ?_) ?_
    · have n : i ≠ m := by omega
      have n' : 16 + i ≠ 16 + m := by omega
      dsimp only
      rw [pk_un n', pk_un n', pk_un n', pk_un n', un_n n, un_n n, un_n n, un_n n]; exact b5 i hi
    · dsimp only
      rw [pk_us, pk_us, pk_us, pk_us, un_s, un_s, un_s, un_s]
      exact ⟨rfl, k9, hmk, rfl, rfl, p16, q16, hpq⟩
  · refine lt_s (fun j hj => ?_) ?_
    · have n : j ≠ h0 := by omega
      rw [pk_un n, pk_un n, un_n n]
      obtain ⟨x1, x2, x3⟩ := b6 j (by omega)
      exact ⟨x1, x2, by omega⟩
    · rw [pk_us, pk_us, un_s]
      exact ⟨rfl, rfl, by omega⟩
  · intro i j hi hj e
    by_cases e1 : i = h0 <;> by_cases e2 : j = h0
    · omega
    · rw [e1, un_s, un_n e2] at e
      have := (b6 j (by omega)).2.2; omega
    · rw [e2, un_s, un_n e1] at e
      have := (b6 i (by omega)).2.2; omega
    · rw [un_n e1, un_n e2] at e
      exact b7 i j (by omega) (by omega) e
  · intro _
    rw [show h0 + 1 - 1 = h0 by omega, un_s]
  · refine lt_s (fun i hi j => ?_) (fun j => ?_)
    · have n : i ≠ m := by omega
      rw [pk_un n, un_n n, un_n n, un_n n, b9 i hi j]
      by_cases h4 : 4 ≤ K i
      · have := wf i hi h4
        rw [pk_un (show P i ≠ m by omega), pk_un (show Q i ≠ m by omega)]
      · rw [decide_eq_false h4, decide_eq_false (show ¬ 7 ≤ K i by omega)]; simp
    · rw [pk_us, un_s, un_s, un_s, hw j]
      by_cases h4 : 4 ≤ k
      · have := hpq h4
        rw [pk_un (show p ≠ m by omega), pk_un (show q ≠ m by omega)]
      · rw [decide_eq_false h4, decide_eq_false (show ¬ 7 ≤ k by omega)]; simp
  · refine lt_s (fun i hi => ?_) ?_
    · have n : i ≠ m := by omega
      rw [un_n n, un_n n, un_n n]; exact b10 i hi
    · rw [un_s, un_s, un_s]; exact hQP
  · refine lt_s (fun i hi => ?_) ?_
    · have n : i ≠ m := by omega
      rw [un_n n, un_n n, un_n n]; exact b11 i hi
    · rw [un_s, un_s, un_s]; exact hne
  · intro j hj k' hk' hbt
    by_cases ek : k' = m
    · by_cases ej : j = h0
      · rw [ej, un_s]; exact ek
      · exfalso
        rw [ek, pk_us, un_n ej, hw] at hbt
        have hj' : j < h := by omega
        have := (b6 j hj').2.2
        simp only [Bool.or_eq_true, Bool.and_eq_true, decide_eq_true_eq] at hbt
        rcases hbt with (e | ⟨h4, e⟩) | ⟨h7, e⟩
        · omega
        · obtain ⟨hp1, j', j1, j2, j3⟩ := hpm h4
          have := b12 j hj' p hp1 e
          rw [← j3] at this
          have := b7 j' j j2 hj' this
          omega
        · obtain ⟨hp1, j', j1, j2, j3⟩ := hqm h7
          have := b12 j hj' q hp1 e
          rw [← j3] at this
          have := b7 j' j j2 hj' this
          omega
    · rw [pk_un ek] at hbt
      by_cases ej : j = h0
      · rw [ej, un_s] at hbt
        have := le k' (by omega) m hbt
        omega
      · rw [un_n ej] at hbt ⊢
        exact b12 j (by omega) k' (by omega) hbt
  · intro c hc
    by_cases ec : c = m
    · exact Or.inl ⟨h0, by omega, by rw [un_s, ec]⟩
    · rcases b13 c (by omega) with ⟨j, j1, j2⟩ | ⟨i, i1, i2⟩
      · by_cases ej : j < h0
        · exact Or.inl ⟨j, by omega, by rw [un_n (by omega)]; exact j2⟩
        · refine Or.inr ⟨m, by omega, ?_⟩
          unfold ch_W
          rw [un_s, un_s, un_s]
          exact (hch c).mpr ⟨j, by omega, j1, j2⟩
      · refine Or.inr ⟨i, by omega, ?_⟩
        have n : i ≠ m := by omega
        unfold ch_W at i2 ⊢
        rw [un_n n, un_n n, un_n n]; exact i2
  · intro i hi c hc k' hk' hkc
    by_cases ei : i = m
    · unfold ch_W at hc
      rw [ei, un_s, un_s, un_s] at hc
      obtain ⟨j, j1, j2, j3⟩ := (hch c).mp hc
      have hcm := (b6 j j2).2.2
      rw [j3] at hcm
      rw [ei]
      by_cases ek : k' = m
      · rw [ek, pk_us, hw, hw]
        have : (decide (4 ≤ k) && bt (nw p) c) = true ∨ (decide (7 ≤ k) && bt (nw q) c) = true := by
          rcases hc with ⟨h4, e⟩ | ⟨h7, e⟩
          · left; rw [decide_eq_true h4, e, self p (hpm h4).1]; rfl
          · right; rw [decide_eq_true h7, e, self q (hqm h7).1]; rfl
        rcases this with e | e <;> rw [e] <;> simp
      · rw [pk_un ek]
        have f1 : bt (nw k') c = false := by
          cases z : bt (nw k') c
          · rfl
          · rw [← j3] at z
            have := b12 j j2 k' (by omega) z
            exact absurd (this.trans j3) hkc
        have f2 : bt (nw k') m = false := by
          cases z : bt (nw k') m
          · rfl
          · have := le k' (by omega) m z; omega
        rw [f1, f2]
    · have hc' : ch_W K P Q i c := by
        unfold ch_W at hc ⊢
        rw [un_n ei, un_n ei, un_n ei] at hc; exact hc
      have hi' : i < m := by omega
      obtain ⟨ci, cb⟩ := chm i c hi' hc'
      by_cases ek : k' = m
      · rw [ek, pk_us, hw, hw, decide_eq_false (show ¬ c = m by omega), decide_eq_false ei]
        have e1 : (decide (4 ≤ k) && bt (nw p) c) = (decide (4 ≤ k) && bt (nw p) i) := by
          by_cases h4 : 4 ≤ k
          · obtain ⟨hp1, j', j1, j2, j3⟩ := hpm h4
            rw [b14 i hi' c hc' p hp1 ?_]
            intro e
            rw [← e, ← j3] at cb
            have := b12 j' j2 i hi' cb
            rw [j3, e] at this
            omega
          · rw [decide_eq_false h4]; rfl
        have e2 : (decide (7 ≤ k) && bt (nw q) c) = (decide (7 ≤ k) && bt (nw q) i) := by
          by_cases h7 : 7 ≤ k
          · obtain ⟨hp1, j', j1, j2, j3⟩ := hqm h7
            rw [b14 i hi' c hc' q hp1 ?_]
            intro e
            rw [← e, ← j3] at cb
            have := b12 j' j2 i hi' cb
            rw [j3, e] at this
            omega
          · rw [decide_eq_false h7]; rfl
        rw [e1, e2]
      · rw [pk_un ek]
        exact b14 i hi' c hc' k' (by omega) hkc
