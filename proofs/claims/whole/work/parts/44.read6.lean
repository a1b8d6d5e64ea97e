/-! ===== Reader: ONE, TERM, SUM, NOT, BOTH, EITHER, level by level ===== -/
def vRok (G : vG) (b : List Nat) (r d y : Nat) (ls : vL) (f : vPS → vPS) : Prop := ∀ (σ : vM) (s : vPS) (post : vQ), vRD b r s σ → (∀ σ', vag (vRdS r) σ σ' → vRD b r (f s) σ' → post none σ') → VM G d y 0 ls [] σ post
section LV
variable {G : vG} {D : Nat} {b : List Nat} {r n : Nat}
theorem vRD.T {s : vPS} {σ : vM} (h : vRD b r s σ) : σ.1 38 6 = vpT s := h.1.2.2.2.2.2.1
theorem vRD.R {s : vPS} {σ : vM} (h : vRD b r s σ) : σ.1 38 2 = nI r := h.1.2.1
theorem vRc_lt (hr : vRc r) : r < 83 := by unfold vRc at hr; omega
theorem vd_one (hr : vRc r) (hn : n ≤ 5) (hl : ∀ m, n = m + 1 → vRok G b r (D + 7) iX2_readOne [some (.ref 38), some (.int (nI (5 - m)))] (vpOne b (vpLev b m)) ∧ vRok G b r (D + 7) iX2_readEither [some (.ref 38), some (.int (nI (5 - m))), none] (vpEither b (vpLev b m))) : vRok G b r (D + 8) iX2_readOne [some (.ref 38), some (.int (nI (5 - n)))] (vpOne b (vpLev b n)) := by
  intro σ s post hR h
  have eT := hR.T
  have eR := hR.R
  unfold vpOne at h
  refine VM.go [8, 26] ⟨fun q1 => ?_, fun q1 => ?_⟩
  · have q1' : ¬ σ.1 38 6 = 1 := q1
    rw [eT] at q1'
    rw [if_neg q1'] at h
    refine VM.go [34, 52] ⟨fun q2 => ?_, fun q2 => ?_⟩
    · have q2' : ¬ σ.1 38 6 = 2 := q2
      rw [eT] at q2'
      rw [if_neg q2'] at h
      refine VM.go [88] ⟨fun q3 => ?_, fun q3 => ?_⟩
      · have q3' : ¬ σ.1 38 6 = 45 := q3
        rw [eT] at q3'
        rw [if_neg q3'] at h
        refine VM.go [] ⟨fun q4 => ?_, fun q4 => ?_⟩
        · have q4' : ¬ σ.1 38 6 = 40 := q4
          rw [eT] at q4'
          rw [if_neg q4'] at h
          exact ⟨_, VM.at (vd_fail hr hR (by exact h)), fun _ _ hh => hh⟩
        · have q4' : σ.1 38 6 = 40 := q4
          rw [eT] at q4'
          rw [if_pos q4'] at h
          refine ⟨_, VM.at (vd_opens (by omega) hr hR (fun z s2 hs2 h2 => ?_) (fun z s2 hs2 h2 => ?_)), fun _ _ hh => hh⟩
          · have e : n = 0 := by omega
            subst e
            exact ⟨fun _ => h s2 hs2 h2, fun q => absurd rfl q⟩
          · obtain ⟨m, rfl⟩ : ∃ m, n = m + 1 := ⟨n - 1, by omega⟩
            have call : VM G (D + 7) iX2_readEither 0 [some (.ref 38), some (.int (nI (5 - m))), none] [] s2 (fun v s3 => v = none ∧ vag (vRdS r) s2 s3 ∧ vRD b r (vpEither b (vpLev b m) (vpAdv b s)) s3) := (hl m rfl).2 s2 _ _ h2 (fun s3 hs3 h3 => ⟨rfl, hs3, h3⟩)
            rw [show nI (5 - m) = nI (5 - (m + 1)) + 1 from by rw [nI_1]; congr 1; omega] at call
            refine ⟨fun q => absurd q (by decide), fun _ => ⟨_, VM.at call, fun _ s3 hh => ?_⟩⟩
            obtain ⟨rfl, hs3, h3⟩ := hh
            exact ⟨_, VM.at (vd_expect hr h3 (fun s4 hs4 h4 => by exact h s4 ((hs2.tr hs3).tr hs4) h4)), fun _ _ hh => hh⟩
      · have q3' : σ.1 38 6 = 45 := q3
        rw [eT] at q3'
        rw [if_pos q3'] at h
        refine ⟨_, VM.at (vd_opens (by omega) hr hR (fun z s2 hs2 h2 => ?_) (fun z s2 hs2 h2 => ?_)), fun _ _ hh => hh⟩
        · have e : n = 0 := by omega
          subst e
          exact ⟨fun _ => h s2 hs2 h2, fun q => absurd rfl q⟩
        · obtain ⟨m, rfl⟩ : ∃ m, n = m + 1 := ⟨n - 1, by omega⟩
          have call : VM G (D + 7) iX2_readOne 0 [some (.ref 38), some (.int (nI (5 - m)))] [] s2 (fun v s3 => v = none ∧ vag (vRdS r) s2 s3 ∧ vRD b r (vpOne b (vpLev b m) (vpAdv b s)) s3) := (hl m rfl).1 s2 _ _ h2 (fun s3 hs3 h3 => ⟨rfl, hs3, h3⟩)
          rw [show nI (5 - m) = nI (5 - (m + 1)) + 1 from by rw [nI_1]; congr 1; omega] at call
          refine ⟨fun q => absurd q (by decide), fun _ => ⟨_, VM.at call, fun _ s3 hh => ?_⟩⟩
          obtain ⟨rfl, hs3, h3⟩ := hh
          have eR3 := h3.R
          have add : VM G (D + 7) iX4_addSign 0 [some (.ref r), some (.int 12)] [] s3 (fun v s4 => v = none ∧ post none s4) := vd_addSign (by decide) hr h3 (fun s4 hs4 h4 => ⟨rfl, h s4 ((hs2.tr hs3).tr hs4) h4⟩)
          have hlt := vRc_lt hr
          unfold vRc at hr
          rcases hr with rfl | rfl | rfl | rfl | rfl | rfl
          all_goals exact ⟨_, eR3, hlt, _, VM.at add, fun _ _ hh => by rcases hh with ⟨rfl, hh⟩; exact hh⟩
    · have q2' : σ.1 38 6 = 2 := q2
      rw [eT] at q2'
      rw [if_pos q2'] at h
      have e7 : σ.1 38 7 = nI (vpV s) := hR.1.2.2.2.2.2.2.1 (Or.inr q2')
      have add : VM G (D + 7) iX4_addName 0 [some (.ref r), some (.int (σ.1 38 7))] [] σ (fun v s4 => v = none ∧ VM G (D + 8) iX2_readOne 45 [some (.ref 38), some (.int (nI (5 - n)))] [] s4 post) := by
        rw [e7]
        refine vd_addName (hR.2.2 q2') hr hR (fun s4 hs4 h4 => ⟨rfl, ?_⟩)
        exact VM.go [] ⟨_, VM.at (vd_adv hr h4 (fun s5 hs5 h5 => by exact h s5 (hs4.tr hs5) h5)), fun _ _ hh => hh⟩
      have hlt := vRc_lt hr
      unfold vRc at hr
      rcases hr with rfl | rfl | rfl | rfl | rfl | rfl
      all_goals exact VM.go [45] ⟨_, eR, hlt, _, VM.at add, fun _ _ hh => by rcases hh with ⟨rfl, hh⟩; exact VM.at hh⟩
  · have q1' : σ.1 38 6 = 1 := q1
    rw [eT] at q1'
    rw [if_pos q1'] at h
    have e7 : σ.1 38 7 = nI (vpV s) := hR.1.2.2.2.2.2.2.1 (Or.inl q1')
    have hv := hR.2.1 q1'
    have add : VM G (D + 7) iX4_add 0 [some (.ref r), some (.int (σ.1 38 7))] [] σ (fun v s4 => v = none ∧ VM G (D + 8) iX2_readOne 19 [some (.ref 38), some (.int (nI (5 - n)))] [] s4 post) := by
      rw [e7]
      refine vd_add (fun z => absurd (show nI (vpV s) < 0 by rw [z]; decide) (nI_pos (by omega))) hr hR (fun s4 hs4 h4 => ⟨rfl, ?_⟩)
      exact VM.go [] ⟨_, VM.at (vd_adv hr h4 (fun s5 hs5 h5 => by exact h s5 (hs4.tr hs5) h5)), fun _ _ hh => hh⟩
    have hlt := vRc_lt hr
    unfold vRc at hr
    rcases hr with rfl | rfl | rfl | rfl | rfl | rfl
    all_goals exact VM.go [19] ⟨_, eR, hlt, _, VM.at add, fun _ _ hh => by rcases hh with ⟨rfl, hh⟩; exact VM.at hh⟩
theorem vd_term {o : Int32} {lo : vpLo} (hr : vRc r) (hone : vRok G b r (D + 8) iX2_readOne [some (.ref 38), some (.int o)] (vpOne b lo)) : vRok G b r (D + 9) iX2_readTerm [some (.ref 38), some (.int o), none] (vpTerm b lo) := by
  intro σ s post hR h
  have key : ∀ m i, i + m = 160 → ∀ (s : vPS) (s2 : vM), vRD b r s s2 → (∀ σ', vag (vRdS r) s2 σ' → vRD b r (vpLoop (fun s => decide (vpT s = 42)) (fun s => vpAdd (-42) (vpOne b lo (vpAdv b s))) m s) σ' → post none σ') → VM G (D + 9) iX2_readTerm 7 [some (.ref 38), some (.int o), some (.int (nI i))] [] s2 post := by
    intro m
    induction m with
    | zero =>
      intro i him s s2 hR2 h2
      exact VM.go [] ⟨fun _ => h2 s2 vag.rf hR2, fun q => absurd (nI_le (show 160 ≤ i by omega) (by omega)) q⟩
    | succ m ih =>
      intro i him s s2 hR2 h2
      have eT := hR2.T
      unfold vpLoop at h2
      refine VM.go [7] ⟨fun q => absurd q (nI_ge (show i < 160 by omega) (by decide)), fun _ => ⟨fun q => ?_, fun q => ?_⟩⟩
      · have q' : ¬ s2.1 38 6 = 42 := q
        rw [eT] at q'
        rw [if_neg (by rw [decide_eq_true_eq]; exact q')] at h2
        exact h2 s2 vag.rf hR2
      · have q' : s2.1 38 6 = 42 := q
        rw [eT] at q'
        rw [if_pos (by rw [decide_eq_true_eq]; exact q')] at h2
        refine ⟨_, VM.at (vd_adv (d := D + 2) hr hR2 (fun s3 hs3 h3 => ?_)), fun _ _ hh => hh⟩
        refine ⟨_, VM.at (hone s3 _ _ h3 (fun s4 hs4 h4 => ?_)), fun _ _ hh => hh⟩
        have eR4 := h4.R
        have add : VM G (D + 8) iX4_addSign 0 [some (.ref r), some (.int 42)] [] s4 (fun v s5 => v = none ∧ VM G (D + 9) iX2_readTerm 7 [some (.ref 38), some (.int o), some (.int (nI i + 1))] [] s5 post) := vd_addSign (d := D + 7) (by decide) hr h4 (fun s5 hs5 h5 => ⟨rfl, by
          rw [nI_1]
          exact ih (i + 1) (by omega) _ s5 h5 (fun s6 hs6 h6 => h2 s6 (((hs3.tr hs4).tr hs5).tr hs6) h6)⟩)
        have hlt := vRc_lt hr
        unfold vRc at hr
        rcases hr with rfl | rfl | rfl | rfl | rfl | rfl
        all_goals exact ⟨_, eR4, hlt, _, VM.at add, fun _ _ hh => by rcases hh with ⟨rfl, hh⟩; exact VM.at (VM.go [7] hh)⟩
  refine VM.go [7] ⟨_, VM.at (hone σ _ _ hR (fun s2 hs2 h2 => ?_)), fun _ _ hh => hh⟩
  exact VM.at (VM.go [7] (key 160 0 rfl _ s2 h2 (fun s3 hs3 h3 => h s3 (hs2.tr hs3) h3)))
theorem vd_sum {o : Int32} {lo : vpLo} (hr : vRc r) (hterm : vRok G b r (D + 9) iX2_readTerm [some (.ref 38), some (.int o), none] (vpTerm b lo)) : vRok G b r (D + 10) iX2_readSum [some (.ref 38), some (.int o), none, none] (vpSum b lo) := by
  intro σ s post hR h
  have key : ∀ m i, i + m = 160 → ∀ (s : vPS) (s2 : vM) (y : Option Value), vRD b r s s2 → (∀ σ', vag (vRdS r) s2 σ' → vRD b r (vpLoop (fun s => decide (vpT s = 43) || decide (vpT s = 45)) (fun s => vpAdd (-(vpT s)) (vpTerm b lo (vpAdv b s))) m s) σ' → post none σ') → VM G (D + 10) iX2_readSum 7 [some (.ref 38), some (.int o), some (.int (nI i)), y] [] s2 post := by
    intro m
    induction m with
    | zero =>
      intro i him s s2 y hR2 h2
      exact VM.go [] ⟨fun _ => h2 s2 vag.rf hR2, fun q => absurd (nI_le (show 160 ≤ i by omega) (by omega)) q⟩
    | succ m ih =>
      intro i him s s2 y hR2 h2
      have eT := hR2.T
      unfold vpLoop at h2
      have yes : vpT s = 43 ∨ vpT s = 45 → VM G (D + 10) iX2_readSum 32 [some (.ref 38), some (.int o), some (.int (nI i)), y] [] s2 post := fun q => by
        rw [if_pos (by rw [Bool.or_eq_true, decide_eq_true_eq, decide_eq_true_eq]; exact q)] at h2
        have hn4 : ¬ -(s2.1 38 6) = -4 := by rw [eT]; rcases q with q | q <;> rw [q] <;> decide
        refine VM.go [7] ⟨_, VM.at (vd_adv (d := D + 3) hr hR2 (fun s3 hs3 h3 => ?_)), fun _ _ hh => hh⟩
        refine ⟨_, VM.at (hterm s3 _ _ h3 (fun s4 hs4 h4 => ?_)), fun _ _ hh => hh⟩
        have eR4 := h4.R
        have add : VM G (D + 9) iX4_addSign 0 [some (.ref r), some (.int (s2.1 38 6))] [] s4 (fun v s5 => v = none ∧ VM G (D + 10) iX2_readSum 7 [some (.ref 38), some (.int o), some (.int (nI i + 1)), some (.int (s2.1 38 6))] [] s5 post) := vd_addSign (d := D + 8) hn4 hr h4 (fun s5 hs5 h5 => ⟨rfl, by
          rw [nI_1]
          rw [eT] at h5
          exact ih (i + 1) (by omega) _ s5 _ h5 (fun s6 hs6 h6 => h2 s6 (((hs3.tr hs4).tr hs5).tr hs6) h6)⟩)
        have hlt := vRc_lt hr
        unfold vRc at hr
        rcases hr with rfl | rfl | rfl | rfl | rfl | rfl
        all_goals exact ⟨_, eR4, hlt, _, VM.at add, fun _ _ hh => by rcases hh with ⟨rfl, hh⟩; exact VM.at (VM.go [7] hh)⟩
      refine VM.go [32] ⟨fun q => absurd q (nI_ge (show i < 160 by omega) (by decide)), fun _ => ⟨fun q => ?_, fun q => ⟨fun q2 => ?_, fun q2 => ?_⟩⟩⟩
      · have q' : s2.1 38 6 = 43 := q
        rw [eT] at q'
        exact yes (Or.inl q')
      · have q' : ¬ s2.1 38 6 = 43 := q
        have q2' : ¬ s2.1 38 6 = 45 := q2
        rw [eT] at q' q2'
        rw [if_neg (by rw [Bool.or_eq_true, decide_eq_true_eq, decide_eq_true_eq]; exact fun z => z.elim q' q2')] at h2
        exact h2 s2 vag.rf hR2
      · have q2' : s2.1 38 6 = 45 := q2
        rw [eT] at q2'
        exact yes (Or.inr q2')
  refine VM.go [7] ⟨_, VM.at (hterm σ _ _ hR (fun s2 hs2 h2 => ?_)), fun _ _ hh => hh⟩
  exact VM.at (VM.go [7] (key 160 0 rfl _ s2 none h2 (fun s3 hs3 h3 => h s3 (hs2.tr hs3) h3)))
theorem vd_not (hr : vRc r) (hn : n ≤ 5) (hsum : vRok G b r (D + 10) iX2_readSum [some (.ref 38), some (.int (nI (5 - n))), none, none] (vpSum b (vpLev b n))) (hl : ∀ m, n = m + 1 → vRok G b r (D + 10) iX2_readNot [some (.ref 38), some (.int (nI (5 - m))), none] (vpNot b (vpLev b m))) : vRok G b r (D + 11) iX2_readNot [some (.ref 38), some (.int (nI (5 - n))), none] (vpNot b (vpLev b n)) := by
  intro σ s post hR h
  have eT := hR.T
  unfold vpNot at h
  refine VM.go [34] ⟨fun q => ?_, fun q => ?_⟩
  · have q' : ¬ σ.1 38 6 = 11 := q
    rw [eT] at q'
    rw [if_neg q'] at h
    dsimp only at h
    refine VM.go [57] ⟨_, VM.at (hsum σ _ _ hR (fun s2 hs2 h2 => ?_)), fun _ _ hh => hh⟩
    have eT2 := h2.T
    have yes : vpT (vpSum b (vpLev b n) s) = 60 ∨ vpT (vpSum b (vpLev b n) s) = 61 → VM G (D + 11) iX2_readNot 57 [some (.ref 38), some (.int (nI (5 - n))), none] [] s2 post := fun q => by
      rw [if_pos q] at h
      have hn4 : ¬ -(s2.1 38 6) = -4 := by rw [eT2]; rcases q with q | q <;> rw [q] <;> decide
      refine VM.go [] ⟨_, VM.at (vd_adv (d := D + 4) hr h2 (fun s3 hs3 h3 => ?_)), fun _ _ hh => hh⟩
      refine ⟨_, VM.at (hsum s3 _ _ h3 (fun s4 hs4 h4 => ?_)), fun _ _ hh => hh⟩
      have eR4 := h4.R
      have add : VM G (D + 10) iX4_addSign 0 [some (.ref r), some (.int (s2.1 38 6))] [] s4 (fun v s5 => v = none ∧ post none s5) := vd_addSign (d := D + 9) hn4 hr h4 (fun s5 hs5 h5 => ⟨rfl, by
        rw [eT2] at h5
        exact h s5 (((hs2.tr hs3).tr hs4).tr hs5) h5⟩)
      have hlt := vRc_lt hr
      unfold vRc at hr
      rcases hr with rfl | rfl | rfl | rfl | rfl | rfl
      all_goals exact ⟨_, eR4, hlt, _, VM.at add, fun _ _ hh => by rcases hh with ⟨rfl, hh⟩; exact hh⟩
    refine VM.at (VM.go [57] ⟨fun q => ?_, fun q => ⟨fun q2 => ?_, fun q2 => ?_⟩⟩)
    · have q' : s2.1 38 6 = 60 := q
      rw [eT2] at q'
      exact yes (Or.inl q')
    · have q' : ¬ s2.1 38 6 = 60 := q
      have q2' : ¬ s2.1 38 6 = 61 := q2
      rw [eT2] at q' q2'
      rw [if_neg (fun z => z.elim q' q2')] at h
      exact h s2 hs2 h2
    · have q2' : s2.1 38 6 = 61 := q2
      rw [eT2] at q2'
      exact yes (Or.inr q2')
  · have q' : σ.1 38 6 = 11 := q
    rw [eT] at q'
    rw [if_pos q'] at h
    refine ⟨_, VM.at (vd_opens (d := D + 3) (by omega) hr hR (fun z s2 hs2 h2 => ?_) (fun z s2 hs2 h2 => ?_)), fun _ _ hh => hh⟩
    · have e : n = 0 := by omega
      subst e
      exact ⟨fun _ => h s2 hs2 h2, fun q => absurd rfl q⟩
    · obtain ⟨m, rfl⟩ : ∃ m, n = m + 1 := ⟨n - 1, by omega⟩
      have call : VM G (D + 10) iX2_readNot 0 [some (.ref 38), some (.int (nI (5 - m))), none] [] s2 (fun v s3 => v = none ∧ vag (vRdS r) s2 s3 ∧ vRD b r (vpNot b (vpLev b m) (vpAdv b s)) s3) := (hl m rfl) s2 _ _ h2 (fun s3 hs3 h3 => ⟨rfl, hs3, h3⟩)
      rw [show nI (5 - m) = nI (5 - (m + 1)) + 1 from by rw [nI_1]; congr 1; omega] at call
      refine ⟨fun q => absurd q (by decide), fun _ => ⟨_, VM.at call, fun _ s3 hh => ?_⟩⟩
      obtain ⟨rfl, hs3, h3⟩ := hh
      have eR3 := h3.R
      have add : VM G (D + 10) iX4_addSign 0 [some (.ref r), some (.int 11)] [] s3 (fun v s4 => v = none ∧ post none s4) := vd_addSign (d := D + 9) (by decide) hr h3 (fun s4 hs4 h4 => ⟨rfl, h s4 ((hs2.tr hs3).tr hs4) h4⟩)
      have hlt := vRc_lt hr
      unfold vRc at hr
      rcases hr with rfl | rfl | rfl | rfl | rfl | rfl
      all_goals exact ⟨_, eR3, hlt, _, VM.at add, fun _ _ hh => by rcases hh with ⟨rfl, hh⟩; exact hh⟩
theorem vd_both {o : Int32} {lo : vpLo} (hr : vRc r) (hone : vRok G b r (D + 11) iX2_readNot [some (.ref 38), some (.int o), none] (vpNot b lo)) : vRok G b r (D + 12) iX2_readBoth [some (.ref 38), some (.int o), none] (vpBoth b lo) := by
  intro σ s post hR h
  have key : ∀ m i, i + m = 160 → ∀ (s : vPS) (s2 : vM), vRD b r s s2 → (∀ σ', vag (vRdS r) s2 σ' → vRD b r (vpLoop (fun s => decide (vpT s = 10)) (fun s => vpAdd (-10) (vpNot b lo (vpAdv b s))) m s) σ' → post none σ') → VM G (D + 12) iX2_readBoth 7 [some (.ref 38), some (.int o), some (.int (nI i))] [] s2 post := by
    intro m
    induction m with
    | zero =>
      intro i him s s2 hR2 h2
      exact VM.go [] ⟨fun _ => h2 s2 vag.rf hR2, fun q => absurd (nI_le (show 160 ≤ i by omega) (by omega)) q⟩
    | succ m ih =>
      intro i him s s2 hR2 h2
      have eT := hR2.T
      unfold vpLoop at h2
      refine VM.go [7] ⟨fun q => absurd q (nI_ge (show i < 160 by omega) (by decide)), fun _ => ⟨fun q => ?_, fun q => ?_⟩⟩
      · have q' : ¬ s2.1 38 6 = 10 := q
        rw [eT] at q'
        rw [if_neg (by rw [decide_eq_true_eq]; exact q')] at h2
        exact h2 s2 vag.rf hR2
      · have q' : s2.1 38 6 = 10 := q
        rw [eT] at q'
        rw [if_pos (by rw [decide_eq_true_eq]; exact q')] at h2
        refine ⟨_, VM.at (vd_adv (d := D + 5) hr hR2 (fun s3 hs3 h3 => ?_)), fun _ _ hh => hh⟩
        refine ⟨_, VM.at (hone s3 _ _ h3 (fun s4 hs4 h4 => ?_)), fun _ _ hh => hh⟩
        have eR4 := h4.R
        have add : VM G (D + 11) iX4_addSign 0 [some (.ref r), some (.int 10)] [] s4 (fun v s5 => v = none ∧ VM G (D + 12) iX2_readBoth 7 [some (.ref 38), some (.int o), some (.int (nI i + 1))] [] s5 post) := vd_addSign (d := D + 10) (by decide) hr h4 (fun s5 hs5 h5 => ⟨rfl, by
          rw [nI_1]
          exact ih (i + 1) (by omega) _ s5 h5 (fun s6 hs6 h6 => h2 s6 (((hs3.tr hs4).tr hs5).tr hs6) h6)⟩)
        have hlt := vRc_lt hr
        unfold vRc at hr
        rcases hr with rfl | rfl | rfl | rfl | rfl | rfl
        all_goals exact ⟨_, eR4, hlt, _, VM.at add, fun _ _ hh => by rcases hh with ⟨rfl, hh⟩; exact VM.at (VM.go [7] hh)⟩
  refine VM.go [7] ⟨_, VM.at (hone σ _ _ hR (fun s2 hs2 h2 => ?_)), fun _ _ hh => hh⟩
  exact VM.at (VM.go [7] (key 160 0 rfl _ s2 h2 (fun s3 hs3 h3 => h s3 (hs2.tr hs3) h3)))
theorem vd_either {o : Int32} {lo : vpLo} (hr : vRc r) (hone : vRok G b r (D + 12) iX2_readBoth [some (.ref 38), some (.int o), none] (vpBoth b lo)) : vRok G b r (D + 13) iX2_readEither [some (.ref 38), some (.int o), none] (vpEither b lo) := by
  intro σ s post hR h
  have key : ∀ m i, i + m = 160 → ∀ (s : vPS) (s2 : vM), vRD b r s s2 → (∀ σ', vag (vRdS r) s2 σ' → vRD b r (vpLoop (fun s => decide (vpT s = 9)) (fun s => vpAdd (-9) (vpBoth b lo (vpAdv b s))) m s) σ' → post none σ') → VM G (D + 13) iX2_readEither 7 [some (.ref 38), some (.int o), some (.int (nI i))] [] s2 post := by
    intro m
    induction m with
    | zero =>
      intro i him s s2 hR2 h2
      exact VM.go [] ⟨fun _ => h2 s2 vag.rf hR2, fun q => absurd (nI_le (show 160 ≤ i by omega) (by omega)) q⟩
    | succ m ih =>
      intro i him s s2 hR2 h2
      have eT := hR2.T
      unfold vpLoop at h2
      refine VM.go [7] ⟨fun q => absurd q (nI_ge (show i < 160 by omega) (by decide)), fun _ => ⟨fun q => ?_, fun q => ?_⟩⟩
      · have q' : ¬ s2.1 38 6 = 9 := q
        rw [eT] at q'
        rw [if_neg (by rw [decide_eq_true_eq]; exact q')] at h2
        exact h2 s2 vag.rf hR2
      · have q' : s2.1 38 6 = 9 := q
        rw [eT] at q'
        rw [if_pos (by rw [decide_eq_true_eq]; exact q')] at h2
        refine ⟨_, VM.at (vd_adv (d := D + 6) hr hR2 (fun s3 hs3 h3 => ?_)), fun _ _ hh => hh⟩
        refine ⟨_, VM.at (hone s3 _ _ h3 (fun s4 hs4 h4 => ?_)), fun _ _ hh => hh⟩
        have eR4 := h4.R
        have add : VM G (D + 12) iX4_addSign 0 [some (.ref r), some (.int 9)] [] s4 (fun v s5 => v = none ∧ VM G (D + 13) iX2_readEither 7 [some (.ref 38), some (.int o), some (.int (nI i + 1))] [] s5 post) := vd_addSign (d := D + 11) (by decide) hr h4 (fun s5 hs5 h5 => ⟨rfl, by
          rw [nI_1]
          exact ih (i + 1) (by omega) _ s5 h5 (fun s6 hs6 h6 => h2 s6 (((hs3.tr hs4).tr hs5).tr hs6) h6)⟩)
        have hlt := vRc_lt hr
        unfold vRc at hr
        rcases hr with rfl | rfl | rfl | rfl | rfl | rfl
        all_goals exact ⟨_, eR4, hlt, _, VM.at add, fun _ _ hh => by rcases hh with ⟨rfl, hh⟩; exact VM.at (VM.go [7] hh)⟩
  refine VM.go [7] ⟨_, VM.at (hone σ _ _ hR (fun s2 hs2 h2 => ?_)), fun _ _ hh => hh⟩
  exact VM.at (VM.go [7] (key 160 0 rfl _ s2 h2 (fun s3 hs3 h3 => h s3 (hs2.tr hs3) h3)))
/-- the three readers that are called with one more open, at every level -/
theorem vd_lev (hr : vRc r) : ∀ n, n ≤ 5 → ∀ D, vRok G b r (D + 6 * n + 8) iX2_readOne [some (.ref 38), some (.int (nI (5 - n)))] (vpOne b (vpLev b n)) ∧ vRok G b r (D + 6 * n + 13) iX2_readEither [some (.ref 38), some (.int (nI (5 - n))), none] (vpEither b (vpLev b n)) ∧ vRok G b r (D + 6 * n + 11) iX2_readNot [some (.ref 38), some (.int (nI (5 - n))), none] (vpNot b (vpLev b n)) := by
  intro n
  induction n with
  | zero =>
    intro hn D
    have h1 := vd_one (G := G) (D := D + 6 * 0) (b := b) (n := 0) hr hn (fun m e => by omega)
    have h2 := vd_term hr h1
    have h3 := vd_sum hr h2
    have h4 := vd_not hr hn h3 (fun m e => by omega)
    exact ⟨h1, vd_either hr (vd_both hr h4), h4⟩
  | succ n ih =>
    intro hn D
    have lo := ih (by omega)
    have h1 := vd_one (G := G) (D := D + 6 * (n + 1)) (b := b) (n := n + 1) hr hn (fun m e => by
      have e' : n = m := by omega
      subst e'
      refine ⟨?_, ?_⟩
      · have := (lo (D + 5)).1
        rw [show D + 5 + 6 * n + 8 = D + 6 * (n + 1) + 7 by omega] at this
        exact this
      · have := (lo D).2.1
        rw [show D + 6 * n + 13 = D + 6 * (n + 1) + 7 by omega] at this
        exact this)
    have h2 := vd_term hr h1
    have h3 := vd_sum hr h2
    have h4 := vd_not hr hn h3 (fun m e => by
      have e' : n = m := by omega
      subst e'
      have := (lo (D + 5)).2.2
      rw [show D + 5 + 6 * n + 11 = D + 6 * (n + 1) + 10 by omega] at this
      exact this)
    exact ⟨h1, vd_either hr (vd_both hr h4), h4⟩
end LV
