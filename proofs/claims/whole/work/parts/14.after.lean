/- what is on after an instant -/
def st_B (K P d eS eR : Nat → Nat) (k : Nat) : Bool := (decide (K k = 8) && decide (d k ≠ 0) && decide (cd_E eS eR (d k) k / 4 ≠ 0)) || (decide (K k = 5) && decide (d k ≠ 0) && decide (cd_E eS eR (d (P k)) (P k) / 4 % 2 = 1))
def fk_W (N : Nat) (K P par d eS eR : Nat → Nat) (is fz kl : Nat → Bool) : Prop :=
  fz (N - 1) = fr_S K d is (N - 1) ∧ (∀ c, c + 1 < N → fz c = (fr_S K d is c || fz (par c))) ∧ kl (N - 1) = false ∧ (∀ c, c + 1 < N → kl c = (kl (par c) || st_B K P d eS eR (par c)))
def pr_B (K P d eS eR : Nat → Nat) (o fz : Nat → Bool) (j : Nat) : Bool := (o j && fz j) || (decide (K j = 1) && decide (d j = 1)) || (decide (K j = 4) && decide (d j ≠ 0) && decide (cd_E eS eR (d (P j)) (P j) % 2 = 1))
def nw_B (K P d eS eR : Nat → Nat) (o fz kl : Nat → Bool) (j : Nat) : Bool := pr_B K P d eS eR o fz j && !kl j
/-- a set handed down, as the union of what lies within its members -/
theorem dn_u {N : Nat} {K P Q par : Nat → Nat} {w : Nat → Int32} (ht : tr_P N K P Q par w) (wf : wf_P N K P Q) (s f : Nat → Bool) (h0 : f (N - 1) = s (N - 1)) (hf : ∀ c, c + 1 < N → f c = (s c || f (par c))) :
    ∀ n j, N - j = n → j < N → (f j = true ↔ ∃ k, k < N ∧ s k = true ∧ bt (w k) j = true) := by
  intro n
  induction n using Nat.strongRecOn with
  | _ n ih =>
    intro j hn hj
    by_cases e : j + 1 < N
    · obtain ⟨hp, hpN, _⟩ := ht.1 j e
      rw [hf j e, Bool.or_eq_true, ih (N - par j) (by omega) (par j) rfl hpN]
      constructor
      · rintro (hs | ⟨k, hk, hs, hw⟩)
        · exact ⟨j, hj, hs, tr_self ht hj⟩
        · have : k ≠ j := fun z => by rw [z] at hw; have := tr_le ht wf j hj _ hw; omega
          exact ⟨k, hk, hs, by rw [ht.2.2.2.1 j e k hk this]; exact hw⟩
      · rintro ⟨k, hk, hs, hw⟩
        by_cases z : k = j
        · rw [z] at hs; exact Or.inl hs
        · rw [ht.2.2.2.1 j e k hk z] at hw
          exact Or.inr ⟨k, hk, hs, hw⟩
    · have e1 : j = N - 1 := by omega
      subst e1
      rw [h0]
      constructor
      · intro hs; exact ⟨N - 1, hj, hs, tr_self ht hj⟩
      · rintro ⟨k, hk, hs, hw⟩
        have := tr_le ht wf k hk _ hw
        have : k = N - 1 := by omega
        rw [this] at hs; exact hs
theorem fz_u {N : Nat} {K P Q par : Nat → Nat} {w : Nat → Int32} {eS eR d : Nat → Nat} {is fz kl : Nat → Bool} (ht : tr_P N K P Q par w) (wf : wf_P N K P Q) (h : fk_W N K P par d eS eR is fz kl) {j : Nat} (hj : j < N) :
    fz j = true ↔ ∃ k, k < N ∧ fr_S K d is k = true ∧ bt (w k) j = true := dn_u ht wf _ _ h.1 h.2.1 _ j rfl hj
theorem kl_u {N : Nat} {K P Q par : Nat → Nat} {w : Nat → Int32} {eS eR d : Nat → Nat} {is fz kl : Nat → Bool} (ht : tr_P N K P Q par w) (wf : wf_P N K P Q) (h : fk_W N K P par d eS eR is fz kl) {j : Nat} (hj : j < N) :
    (kl j || st_B K P d eS eR j) = true ↔ ∃ k, k < N ∧ st_B K P d eS eR k = true ∧ bt (w k) j = true := by
  refine dn_u (f := fun j => kl j || st_B K P d eS eR j) ht wf (st_B K P d eS eR) ?_ ?_ _ j rfl hj
  · rw [h.2.2.1]; rfl
  · intro c hc
    rw [h.2.2.2 c hc]
    cases kl (par c) <;> cases st_B K P d eS eR (par c) <;> cases st_B K P d eS eR c <;> rfl
theorem st_K {K P d eS eR : Nat → Nat} {k : Nat} (h : st_B K P d eS eR k = true) : (K k = 8 ∨ K k = 5) ∧ d k ≠ 0 := by
  unfold st_B at h
  simp only [Bool.or_eq_true, Bool.and_eq_true, decide_eq_true_eq] at h
  rcases h with ⟨⟨a, b⟩, c⟩ | ⟨⟨a, b⟩, c⟩
  · exact ⟨Or.inl a, b⟩
  · exact ⟨Or.inr a, b⟩
theorem pr_K {N : Nat} {K P Q : Nat → Nat} {o al fz : Nat → Bool} {d eS eR : Nat → Nat} (hon : on_W N K P Q o al) {j : Nat} (h : pr_B K P d eS eR o fz j = true) : K j = 1 ∨ K j = 4 := by
  unfold pr_B at h
  simp only [Bool.or_eq_true, Bool.and_eq_true, decide_eq_true_eq] at h
  rcases h with (⟨a, b⟩ | ⟨a, b⟩) | ⟨⟨a, b⟩, c⟩
  · exact (hon.2 j a).2
  · exact Or.inl a
  · exact Or.inr a
/-- not run: nothing within is run, and it is as frozen as the whole -/
theorem z2_d {N : Nat} {K P Q par : Nat → Nat} {w : Nat → Int32} {o al is fz kl : Nat → Bool} {eS eR d : Nat → Nat} {fi : Bool} (h : dm_W N K P Q par w o al is eS eR d fi) (hf : fk_W N K P par d eS eR is fz kl) :
    ∀ k, k < N → d k = 0 → ∀ j, bt (w k) j = true → d j = 0 ∧ fz j = fz k := by
  have ht := h.2.1
  have wf := h.2.2.1
  intro k
  induction k using Nat.strongRecOn with
  | _ k ih =>
    intro hk hd j hj
    rcases (tr_e ht hk).mp hj with e | ⟨h4, e⟩ | ⟨h7, e⟩
    · rw [e]; exact ⟨hd, rfl⟩
    · have hp := (wf k hk h4).1
      have hP := dm_P h hk h4
      rw [hd] at hP
      have hP0 : d (P k) = 0 := by rw [hP]; rfl
      have := ih (P k) hp (by omega) hP0 j e
      refine ⟨this.1, ?_⟩
      rw [this.2, hf.2.1 (P k) (by omega), ht.2.1 k hk h4]
      unfold fr_S; rw [hP0]; simp
    · have hq := (wf k hk (by omega)).2
      have hQ := dm_Q h hk h7
      rw [hd] at hQ
      have hQ0 : d (Q k) = 0 := by rw [hQ]; rfl
      have := ih (Q k) hq (by omega) hQ0 j e
      refine ⟨this.1, ?_⟩
      rw [this.2, hf.2.1 (Q k) (by omega), (ht.2.2.1 k hk h7).1]
      unfold fr_S; rw [hQ0]; simp
theorem z4_k {N : Nat} {K P Q par : Nat → Nat} {w : Nat → Int32} {eS eR d : Nat → Nat} {is fz kl : Nat → Bool} (ht : tr_P N K P Q par w) (wf : wf_P N K P Q) (hf : fk_W N K P par d eS eR is fz kl) :
    ∀ k, k < N → kl k = true → ∀ j, bt (w k) j = true → kl j = true := by
  intro k
  induction k using Nat.strongRecOn with
  | _ k ih =>
    intro hk hd j hj
    rcases (tr_e ht hk).mp hj with e | ⟨h4, e⟩ | ⟨h7, e⟩
    · rw [e]; exact hd
    · have hp := (wf k hk h4).1
      refine ih (P k) hp (by omega) ?_ j e
      rw [hf.2.2.2 (P k) (by omega), ht.2.1 k hk h4, hd]; rfl
    · have hq := (wf k hk (by omega)).2
      refine ih (Q k) hq (by omega) ?_ j e
      rw [hf.2.2.2 (Q k) (by omega), (ht.2.2.1 k hk h7).1, hd]; rfl
/-- run: frozen just where it is itself the one that freezes -/
theorem z1_f {N : Nat} {K P Q par : Nat → Nat} {w : Nat → Int32} {o al is fz kl : Nat → Bool} {eS eR d : Nat → Nat} {fi : Bool} (h : dm_W N K P Q par w o al is eS eR d fi) (hf : fk_W N K P par d eS eR is fz kl) :
    ∀ n k, N - k = n → k < N → d k ≠ 0 → fz k = fr_S K d is k := by
  have ht := h.2.1
  have wf := h.2.2.1
  intro n
  induction n using Nat.strongRecOn with
  | _ n ih =>
    intro k hn hk hd
    by_cases e : k + 1 < N
    · obtain ⟨hp, hpN, hcc⟩ := ht.1 k e
      have hdp : d (par k) ≠ 0 := by
        intro z
        have hself : bt (w (par k)) k = true := by
          rcases hcc with ⟨h4, e1⟩ | ⟨h7, e1⟩
          · exact (tr_e ht hpN).mpr (Or.inr (Or.inl ⟨h4, by rw [← e1]; exact tr_self ht hk⟩))
          · exact (tr_e ht hpN).mpr (Or.inr (Or.inr ⟨h7, by rw [← e1]; exact tr_self ht hk⟩))
        exact hd (z2_d h hf (par k) hpN z k hself).1
      have := ih (N - par k) (by omega) (par k) rfl hpN hdp
      rw [hf.2.1 k e, this]
      have hz : fr_S K d is (par k) = false := by
        cases q : fr_S K d is (par k)
        · rfl
        · exfalso
          unfold fr_S at q
          simp only [Bool.and_eq_true, decide_eq_true_eq] at q
          obtain ⟨⟨q1, q2⟩, q3⟩ := q
          rcases hcc with ⟨h4, e1⟩ | ⟨h7, e1⟩
          · have hP := dm_P h hpN h4
            rw [← e1, q1, q2, q3] at hP
            exact hd hP
          · omega
      rw [hz, Bool.or_false]
    · rw [show k = N - 1 by omega]; exact hf.1
/-- a part that is not run, of a statement that runs and doesn't freeze -/
theorem z3_n {N : Nat} {K P Q par : Nat → Nat} {w : Nat → Int32} {o al is fz kl : Nat → Bool} {eS eR d : Nat → Nat} {fi : Bool} (h : dm_W N K P Q par w o al is eS eR d fi) (hf : fk_W N K P par d eS eR is fz kl) {i c : Nat} (hi : i < N) (hd : d i ≠ 0) (h6 : K i ≠ 6) (hc : c < i) (hp : par c = i) (hdc : d c = 0) :
    ∀ j, bt (w c) j = true → pr_B K P d eS eR o fz j = false := by
  intro j hj
  have h2 := z2_d h hf c (by omega) hdc j hj
  have h1 := z1_f h hf _ i rfl hi hd
  have hfc : fz c = false := by
    rw [hf.2.1 c (by omega), hp, h1]
    unfold fr_S; rw [hdc]; simp [h6]
  unfold pr_B
  rw [h2.1, h2.2, hfc]; simp
theorem nw_pr {K P d eS eR : Nat → Nat} {o fz kl : Nat → Bool} {j : Nat} (h : pr_B K P d eS eR o fz j = false) : nw_B K P d eS eR o fz kl j = false := by unfold nw_B; rw [h]; rfl
/-- (L) what runs and doesn't pause leaves nothing on -/
theorem l_no {N : Nat} {K M P Q par ar : Nat → Nat} {w : Nat → Int32} {o al is fz kl : Nat → Bool} {eS eR d : Nat → Nat} {fi : Bool} (h : dm_W N K P Q par w o al is eS eR d fi) (hf : fk_W N K P par d eS eR is fz kl) (hc : ce_W N K M P Q o al is eS eR) (ha : ar_W N K M P Q ar) :
    ∀ k, k < N → d k ≠ 0 → cd_E eS eR (d k) k ≠ 2 → ∀ j, bt (w k) j = true → nw_B K P d eS eR o fz kl j = false := by
  have ht := h.2.1
  have wf := h.2.2.1
  have k9 := h.2.2.2.1
  have hon := h.2.2.2.2.1
  intro k
  induction k using Nat.strongRecOn with
  | _ k ih =>
    intro hk hd hcd j hj
    have hselfno : nw_B K P d eS eR o fz kl k = false := by
      apply nw_pr
      have hz := z1_f h hf _ k rfl hk hd
      cases q : pr_B K P d eS eR o fz k
      · rfl
      · exfalso
        unfold pr_B at q
        simp only [Bool.or_eq_true, Bool.and_eq_true, decide_eq_true_eq] at q
        rcases q with (⟨a, b⟩ | ⟨a, b⟩) | ⟨⟨a, b⟩, c⟩
        · rw [hz] at b
          unfold fr_S at b
          simp only [Bool.and_eq_true, decide_eq_true_eq] at b
          have := (hon.2 k a).2; omega
        · rcases rc_0 h hc hk hd (by omega) with ⟨_, _, e⟩ | ⟨e, _⟩
          · exact hcd e
          · exact e ⟨a, b⟩
        · obtain ⟨r1, r2⟩ := rc_4 h hc hk hd a
          apply hcd
          have hPN : P k < N := by have := (wf k hk (by omega)).1; omega
          have b1 : nz_C (cd_E eS eR (d (P k)) (P k)) := by
            unfold cd_E; split
            · exact (ce_S wf k9 hc ha _ hPN).1
            · exact (ce_R wf k9 hc ha _ hPN).1
          rw [r2]
          rcases b1 with e | e | e | e | e <;> rw [e] at c ⊢ <;> first | rfl | (exfalso; omega)
    by_cases h4 : ¬ 4 ≤ K k
    · rcases (tr_e ht hk).mp hj with e | ⟨h4', e⟩ | ⟨h7, e⟩
      · rw [e]; exact hselfno
      · omega
      · omega
    have h4 := Decidable.not_not.mp h4
    have hPk := (wf k hk h4).1
    have hQk := (wf k hk h4).2
    have pP := ht.2.1 k hk h4
    have goP : d (P k) ≠ 0 → cd_E eS eR (d (P k)) (P k) ≠ 2 → ∀ j, bt (w (P k)) j = true → nw_B K P d eS eR o fz kl j = false := fun a b => ih (P k) hPk (by omega) a b
    have goQ : d (Q k) ≠ 0 → cd_E eS eR (d (Q k)) (Q k) ≠ 2 → ∀ j, bt (w (Q k)) j = true → nw_B K P d eS eR o fz kl j = false := fun a b => ih (Q k) hQk (by omega) a b
    have noP : K k ≠ 6 → d (P k) = 0 → ∀ j, bt (w (P k)) j = true → nw_B K P d eS eR o fz kl j = false := fun a b j hj => nw_pr (z3_n h hf hk hd a hPk pP b j hj)
    have noQ : 7 ≤ K k → d (Q k) = 0 → ∀ j, bt (w (Q k)) j = true → nw_B K P d eS eR o fz kl j = false := fun a b j hj => nw_pr (z3_n h hf hk hd (by omega) hQk (ht.2.2.1 k hk a).1 b j hj)
    have b1 : nz_C (cd_E eS eR (d (P k)) (P k)) := by
      unfold cd_E; split
      · exact (ce_S wf k9 hc ha _ (by omega)).1
      · exact (ce_R wf k9 hc ha _ (by omega)).1
    have b2 : nz_C (cd_E eS eR (d (Q k)) (Q k)) := by
      unfold cd_E; split
      · exact (ce_S wf k9 hc ha _ (by omega)).1
      · exact (ce_R wf k9 hc ha _ (by omega)).1
    have hk9 := k9 k hk
    have main : (∀ j, bt (w (P k)) j = true → nw_B K P d eS eR o fz kl j = false) ∧ (7 ≤ K k → ∀ j, bt (w (Q k)) j = true → nw_B K P d eS eR o fz kl j = false) := by
      have hcs : K k = 4 ∨ K k = 5 ∨ K k = 6 ∨ K k = 7 ∨ K k = 8 ∨ K k = 9 := by omega
      rcases hcs with z | z | z | z | z | z
      · obtain ⟨r1, r2⟩ := rc_4 h hc hk hd z
        refine ⟨goP r1 (fun e => hcd ?_), fun q => by omega⟩
        rw [r2, e]; rfl
      · obtain ⟨r1, r2⟩ := rc_5 h hc hk hd z
        refine ⟨goP (by rw [r1]; exact hd) (fun e => hcd ?_), fun q => by omega⟩
        rw [r2, e]; rfl
      · rcases rc_6 h hc hk hd z with ⟨_, _, _, _, e⟩ | ⟨_, r1, r2⟩
        · exact absurd e hcd
        · exact ⟨goP (by rw [r1]; exact hd) (by rw [← r2]; exact hcd), fun q => by omega⟩
      · rcases rc_7 h hc ha hk hd z with ⟨r1, r2, r3, r4⟩ | ⟨r1, r2, r3, r4⟩ | ⟨r1, r2, r3⟩
        · exact ⟨goP r1 (by rw [r2]; decide), fun _ => goQ r3 (by rw [← r4]; exact hcd)⟩
        · exact ⟨goP r1 (by rw [← r4]; exact hcd), fun q => noQ q r3⟩
        · exact ⟨noP (by omega) r1, fun _ => goQ r2 (by rw [← r3]; exact hcd)⟩
      · have r8 := rc_8 h hc hk hd z
        by_cases zs : cd_E eS eR (d k) k / 4 = 0
        · have c1 : nz_C (if d (P k) = 0 then 1 else cd_E eS eR (d (P k)) (P k)) := by
            split
            · exact Or.inl rfl
            · exact b1
          have c2 : nz_C (if d (Q k) = 0 then 1 else cd_E eS eR (d (Q k)) (Q k)) := by
            split
            · exact Or.inl rfl
            · exact b2
          rw [r8] at hcd zs
          have both : (if d (P k) = 0 then 1 else cd_E eS eR (d (P k)) (P k)) = 1 ∧ (if d (Q k) = 0 then 1 else cd_E eS eR (d (Q k)) (Q k)) = 1 := by
            generalize (if d (P k) = 0 then 1 else cd_E eS eR (d (P k)) (P k)) = x at *
            generalize (if d (Q k) = 0 then 1 else cd_E eS eR (d (Q k)) (Q k)) = y at *
            rcases c1 with rfl | rfl | rfl | rfl | rfl <;> rcases c2 with rfl | rfl | rfl | rfl | rfl <;> revert hcd zs <;> decide
          refine ⟨?_, fun q => ?_⟩
          · by_cases e : d (P k) = 0
            · exact noP (by omega) e
            · have := both.1; rw [if_neg e] at this
              exact goP e (by rw [this]; decide)
          · by_cases e : d (Q k) = 0
            · exact noQ q e
            · have := both.2; rw [if_neg e] at this
              exact goQ e (by rw [this]; decide)
        · have hst : st_B K P d eS eR k = true := by
            unfold st_B
            rw [decide_eq_true z, decide_eq_true hd, decide_eq_true zs]; rfl
          have k1 : kl (P k) = true := by rw [hf.2.2.2 (P k) (by omega), pP, hst]; simp
          have k2 : 7 ≤ K k → kl (Q k) = true := fun q => by rw [hf.2.2.2 (Q k) (by omega), (ht.2.2.1 k hk q).1, hst]; simp
          refine ⟨fun j hj => ?_, fun q j hj => ?_⟩
          · unfold nw_B; rw [z4_k ht wf hf (P k) (by omega) k1 j hj]; simp
          · unfold nw_B; rw [z4_k ht wf hf (Q k) (by omega) (k2 q) j hj]; simp
      · rcases rc_9 h hc hk hd z with ⟨r1, r2, r3⟩ | ⟨r1, r2, r3⟩
        · exact ⟨goP r1 (by rw [← r3]; exact hcd), fun q => noQ q r2⟩
        · exact ⟨noP (by omega) r1, fun q => goQ r2 (by rw [← r3]; exact hcd)⟩
    rcases (tr_e ht hk).mp hj with e | ⟨_, e⟩ | ⟨h7, e⟩
    · rw [e]; exact hselfno
    · exact main.1 j e
    · exact main.2 h7 j e
