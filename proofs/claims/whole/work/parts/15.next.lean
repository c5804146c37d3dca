/- (L1) what pauses leaves something on; the invariants after an instant -/
theorem l_yes {N : Nat} {K M P Q par ar : Nat → Nat} {w : Nat → Int32} {o al is fz kl : Nat → Bool} {eS eR d : Nat → Nat} {fi : Bool} (h : dm_W N K P Q par w o al is eS eR d fi) (hf : fk_W N K P par d eS eR is fz kl) (hc : ce_W N K M P Q o al is eS eR) (ha : ar_W N K M P Q ar) :
    ∀ k, k < N → d k ≠ 0 → cd_E eS eR (d k) k = 2 → ∃ j, bt (w k) j = true ∧ pr_B K P d eS eR o fz j = true ∧ ∀ m, m < N → bt (w k) m = true → bt (w m) j = true → st_B K P d eS eR m = false := by
  have ht := h.2.1
  have wf := h.2.2.1
  have k9 := h.2.2.2.1
  have hon := h.2.2.2.2.1
  have hal := h.2.2.2.2.2.2.2.1
  intro k
  induction k using Nat.strongRecOn with
  | _ k ih =>
    intro hk hd hcd
    have hstK : K k ≠ 8 → K k ≠ 5 → st_B K P d eS eR k = false := fun a b => by
      cases q : st_B K P d eS eR k
      · rfl
      · have := (st_K q).1; omega
    by_cases h4 : ¬ 4 ≤ K k
    · rcases rc_0 h hc hk hd (by omega) with ⟨e1, e2, _⟩ | ⟨_, e⟩
      · refine ⟨k, tr_self ht hk, ?_, fun m hm hkm hmk => ?_⟩
        · unfold pr_B; rw [decide_eq_true e1, decide_eq_true e2]; simp
        · have := tr_le ht wf k hk m hkm
          have := tr_le ht wf m hm k hmk
          rw [show m = k by omega]; exact hstK (by omega) (by omega)
      · exact absurd hcd e
    have h4 := Decidable.not_not.mp h4
    have hPk := (wf k hk h4).1
    have hQk := (wf k hk h4).2
    have b1 : nz_C (cd_E eS eR (d (P k)) (P k)) := by
      unfold cd_E; split
      · exact (ce_S wf k9 hc ha _ (by omega)).1
      · exact (ce_R wf k9 hc ha _ (by omega)).1
    have b2 : nz_C (cd_E eS eR (d (Q k)) (Q k)) := by
      unfold cd_E; split
      · exact (ce_S wf k9 hc ha _ (by omega)).1
      · exact (ce_R wf k9 hc ha _ (by omega)).1
    have goP : d (P k) ≠ 0 → cd_E eS eR (d (P k)) (P k) = 2 → st_B K P d eS eR k = false → ∃ j, bt (w k) j = true ∧ pr_B K P d eS eR o fz j = true ∧ ∀ m, m < N → bt (w k) m = true → bt (w m) j = true → st_B K P d eS eR m = false := by
      intro a b hs
      obtain ⟨j, j1, j2, j3⟩ := ih (P k) hPk (by omega) a b
      refine ⟨j, (tr_e ht hk).mpr (Or.inr (Or.inl ⟨h4, j1⟩)), j2, fun m hm hkm hmj => ?_⟩
      rcases (tr_e ht hk).mp hkm with e | ⟨_, e⟩ | ⟨h7, e⟩
      · rw [e]; exact hs
      · exact j3 m hm e hmj
      · exact absurd (tr_tr ht wf (Q k) (by omega) m j e hmj) (fun z => tr_dj ht wf hk h7 _ j rfl j1 z)
    have goQ : 7 ≤ K k → d (Q k) ≠ 0 → cd_E eS eR (d (Q k)) (Q k) = 2 → st_B K P d eS eR k = false → ∃ j, bt (w k) j = true ∧ pr_B K P d eS eR o fz j = true ∧ ∀ m, m < N → bt (w k) m = true → bt (w m) j = true → st_B K P d eS eR m = false := by
      intro h7 a b hs
      obtain ⟨j, j1, j2, j3⟩ := ih (Q k) hQk (by omega) a b
      refine ⟨j, (tr_e ht hk).mpr (Or.inr (Or.inr ⟨h7, j1⟩)), j2, fun m hm hkm hmj => ?_⟩
      rcases (tr_e ht hk).mp hkm with e | ⟨_, e⟩ | ⟨h7, e⟩
      · rw [e]; exact hs
      · exact absurd (tr_tr ht wf (P k) (by omega) m j e hmj) (fun z => tr_dj ht wf hk h7 _ j rfl z j1)
      · exact j3 m hm e hmj
    have hk9 := k9 k hk
    have hcs : K k = 4 ∨ K k = 5 ∨ K k = 6 ∨ K k = 7 ∨ K k = 8 ∨ K k = 9 := by omega
    rcases hcs with z | z | z | z | z | z
    · obtain ⟨r1, r2⟩ := rc_4 h hc hk hd z
      by_cases e1 : cd_E eS eR (d (P k)) (P k) = 1
      · refine ⟨k, tr_self ht hk, ?_, fun m hm hkm hmk => ?_⟩
        · unfold pr_B; rw [decide_eq_true z, decide_eq_true hd, e1]; simp
        · have := tr_le ht wf k hk m hkm
          have := tr_le ht wf m hm k hmk
          rw [show m = k by omega]; exact hstK (by omega) (by omega)
      · refine goP r1 ?_ (hstK (by omega) (by omega))
        rw [r2] at hcd
        rcases b1 with e | e | e | e | e <;> rw [e] at hcd e1 ⊢ <;> revert hcd e1 <;> decide
    · obtain ⟨r1, r2⟩ := rc_5 h hc hk hd z
      have e2 : cd_E eS eR (d (P k)) (P k) = 2 := by
        rw [r2] at hcd
        rcases b1 with e | e | e | e | e <;> rw [e] at hcd ⊢ <;> revert hcd <;> decide
      refine goP (by rw [r1]; exact hd) e2 ?_
      unfold st_B; rw [e2]; simp [z]
    · rcases rc_6 h hc hk hd z with ⟨f1, f2, f3, f4, _⟩ | ⟨_, r1, r2⟩
      · obtain ⟨j, jo, jw⟩ := (hal k hk).mp f3
        have hjN := (hon.2 j jo).1
        refine ⟨j, jw, ?_, fun m hm hkm hmj => ?_⟩
        · unfold pr_B
          rw [jo, (fz_u ht wf hf hjN).mpr ⟨k, hk, f1, jw⟩]; simp
        · cases q : st_B K P d eS eR m
          · rfl
          · exfalso
            have hs := st_K q
            rcases (tr_e ht hk).mp hkm with e | ⟨_, e⟩ | ⟨h7, e⟩
            · rw [e] at hs; omega
            · exact hs.2 (z2_d h hf (P k) (by omega) f4 m e).1
            · omega
      · exact goP (by rw [r1]; exact hd) (by rw [← r2]; exact hcd) (hstK (by omega) (by omega))
    · have hs := hstK (by omega) (by omega)
      rcases rc_7 h hc ha hk hd z with ⟨r1, r2, r3, r4⟩ | ⟨r1, r2, r3, r4⟩ | ⟨r1, r2, r3⟩
      · exact goQ (by omega) r3 (by rw [← r4]; exact hcd) hs
      · exact goP r1 (by rw [← r4]; exact hcd) hs
      · exact goQ (by omega) r2 (by rw [← r3]; exact hcd) hs
    · have hs : st_B K P d eS eR k = false := by unfold st_B; rw [hcd]; simp [z]
      have r8 := rc_8 h hc hk hd z
      rw [hcd] at r8
      by_cases e1 : d (P k) = 0
      · rw [if_pos e1] at r8
        by_cases e2 : d (Q k) = 0
        · rw [if_pos e2] at r8; exact absurd r8 (by decide)
        · rw [if_neg e2] at r8
          refine goQ (by omega) e2 ?_ hs
          rcases b2 with e | e | e | e | e <;> rw [e] at r8 ⊢ <;> revert r8 <;> decide
      · rw [if_neg e1] at r8
        by_cases e3 : cd_E eS eR (d (P k)) (P k) = 2
        · exact goP e1 e3 hs
        · by_cases e2 : d (Q k) = 0
          · rw [if_pos e2] at r8
            exfalso
            rcases b1 with e | e | e | e | e <;> rw [e] at r8 e3 <;> revert r8 e3 <;> decide
          · rw [if_neg e2] at r8
            refine goQ (by omega) e2 ?_ hs
            rcases b1 with e | e | e | e | e <;> rcases b2 with e' | e' | e' | e' | e' <;> rw [e] at r8 e3 <;> rw [e'] at r8 ⊢ <;> revert r8 e3 <;> decide
    · have hs := hstK (by omega) (by omega)
      rcases rc_9 h hc hk hd z with ⟨r1, r2, r3⟩ | ⟨r1, r2, r3⟩
      · exact goP r1 (by rw [← r3]; exact hcd) hs
      · exact goQ (by omega) r2 (by rw [← r3]; exact hcd) hs
/-- after an instant that goes on, the root is active -/
theorem i3_N {N : Nat} {K M P Q par ar : Nat → Nat} {w : Nat → Int32} {o al is fz kl : Nat → Bool} {eS eR d : Nat → Nat} {fi : Bool} (h : dm_W N K P Q par w o al is eS eR d fi) (hf : fk_W N K P par d eS eR is fz kl) (hc : ce_W N K M P Q o al is eS eR) (ha : ar_W N K M P Q ar)
    (hne : cd_E eS eR (d (N - 1)) (N - 1) ≠ 1) : ∃ j, nw_B K P d eS eR o fz kl j = true ∧ bt (w (N - 1)) j = true := by
  have ht := h.2.1
  have wf := h.2.2.1
  have k9 := h.2.2.2.1
  have hN := h.1
  have hd0 := h.2.2.2.2.2.2.2.2.1
  have hd : d (N - 1) ≠ 0 := by rw [hd0]; split <;> decide
  have bS := ce_S wf k9 hc ha (N - 1) (by omega)
  have bR := ce_R wf k9 hc ha (N - 1) (by omega)
  rw [ha.1] at bS bR
  have b : bd_C 0 (cd_E eS eR (d (N - 1)) (N - 1)) := by unfold cd_E; split; exact bS; exact bR
  have h2 : cd_E eS eR (d (N - 1)) (N - 1) = 2 := by
    obtain ⟨b1, b2⟩ := b
    have b2' : cd_E eS eR (d (N - 1)) (N - 1) ≤ 2 := b2
    rcases b1 with e | e | e | e | e <;> rw [e] at b2' hne ⊢ <;> first | rfl | (exfalso; omega)
  obtain ⟨j, j1, j2, j3⟩ := l_yes h hf hc ha (N - 1) (by omega) hd h2
  have hjN : j < N := by have := tr_le ht wf (N - 1) (by omega) j j1; omega
  refine ⟨j, ?_, j1⟩
  have hk0 : (kl j || st_B K P d eS eR j) = false := by
    cases q : (kl j || st_B K P d eS eR j)
    · rfl
    · obtain ⟨m, hm, hs, hw⟩ := (kl_u ht wf hf hjN).mp q
      have hmr : bt (w (N - 1)) m = true := by
        have g : ∀ n m, N - m = n → m < N → bt (w (N - 1)) m = true := by
          intro n
          induction n using Nat.strongRecOn with
          | _ n ih =>
            intro m hn hm
            by_cases e : m + 1 < N
            · obtain ⟨hp, hpN, _⟩ := ht.1 m e
              rw [ht.2.2.2.1 m e (N - 1) (by omega) (by omega)]
              exact ih (N - par m) (by omega) (par m) rfl hpN
            · rw [show m = N - 1 by omega]; exact tr_self ht (by omega)
        exact g _ m rfl hm
      rw [j3 m hm hmr hw] at hs; cases hs
  rw [Bool.or_eq_false_iff] at hk0
  unfold nw_B; rw [j2, hk0.1]; rfl
/-- after an instant, of the parts of a seq or a test not both are active -/
theorem i2_N {N : Nat} {K M P Q par ar : Nat → Nat} {w : Nat → Int32} {o al is fz kl : Nat → Bool} {eS eR d : Nat → Nat} {fi : Bool} (h : dm_W N K P Q par w o al is eS eR d fi) (hf : fk_W N K P par d eS eR is fz kl) (hc : ce_W N K M P Q o al is eS eR) (ha : ar_W N K M P Q ar)
    {i : Nat} (hi : i < N) (hk : K i = 7 ∨ K i = 9) {j j' : Nat} (h1 : nw_B K P d eS eR o fz kl j = true) (w1 : bt (w (P i)) j = true) (h2 : nw_B K P d eS eR o fz kl j' = true) (w2 : bt (w (Q i)) j' = true) : False := by
  have ht := h.2.1
  have wf := h.2.2.1
  have hPk := (wf i hi (by omega)).1
  have hQk := (wf i hi (by omega)).2
  have pP := ht.2.1 i hi (by omega)
  have pQ := (ht.2.2.1 i hi (by omega)).1
  have hal := h.2.2.2.2.2.2.2.1
  by_cases hd : d i = 0
  · have z : ∀ j, bt (w i) j = true → nw_B K P d eS eR o fz kl j = true → o j = true := by
      intro j hj hn
      have := z2_d h hf i hi hd j hj
      unfold nw_B pr_B at hn
      rw [this.1] at hn
      simp at hn
      exact hn.1.1
    have o1 := z j ((tr_e ht hi).mpr (Or.inr (Or.inl ⟨by omega, w1⟩))) h1
    have o2 := z j' ((tr_e ht hi).mpr (Or.inr (Or.inr ⟨by omega, w2⟩))) h2
    exact h.2.2.2.2.2.2.1 i hi hk ((hal _ (by omega)).mpr ⟨j, o1, w1⟩) ((hal _ (by omega)).mpr ⟨j', o2, w2⟩)
  · have noP : d (P i) = 0 → False := fun e => by
      have := nw_pr (kl := kl) (z3_n h hf hi hd (by omega) hPk pP e j w1)
      rw [this] at h1; cases h1
    have noQ : d (Q i) = 0 → False := fun e => by
      have := nw_pr (kl := kl) (z3_n h hf hi hd (by omega) hQk pQ e j' w2)
      rw [this] at h2; cases h2
    rcases hk with z | z
    · rcases rc_7 h hc ha hi hd z with ⟨r1, r2, r3, r4⟩ | ⟨r1, r2, r3, r4⟩ | ⟨r1, r2, r3⟩
      · have := l_no h hf hc ha (P i) (by omega) r1 (by rw [r2]; decide) j w1
        rw [this] at h1; cases h1
      · exact noQ r3
      · exact noP r1
    · rcases rc_9 h hc hi hd z with ⟨r1, r2, r3⟩ | ⟨r1, r2, r3⟩
      · exact noQ r2
      · exact noP r1
