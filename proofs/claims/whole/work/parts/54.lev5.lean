/-! ===== THE REFERENCE: what its readers of all levels need ===== -/
theorem vpAdv_add {b : List Nat} {c : Int32} {s : vPS} (h : vpF s = none) : vpAdv b (vpAdd c s) = vpAdd c (vpAdv b s) := by
  unfold vpAdv
  rw [show vpF (vpAdd c s) = none from h, h]
  rfl
theorem vMd.add {b : List Nat} {t op : Nat} {nm : Nat → Int32} {s : vPS} {c : Int32} {σ : vM} (h : vMd b t op nm s σ) : vMd b t op nm (vpAdd c s) σ := h
theorem vMd.worth {b : List Nat} {t op c : Nat} {nm : Nat → Int32} {s : vPS} {σ : vM} (hc : vsign c = true) (h : vMd b t op nm s σ) (hT : vpT s = nI c) : σ.2 58 28 = lN c := by
  have c8 := vsign_c hc
  have hl : vlive s := vlive_of hT (fun e => by have := (nI_eq (b := 0) (by omega) (by decide)).mp e; omega) (fun e => absurd (show nI c < 0 by rw [e]; decide) (nI_pos (by omega)))
  have hf := vFT_none h.FT hl
  obtain ⟨g1, g2⟩ := h.2.2.2.2.1 hf
  rcases g2 with k | k | k | ⟨c', k1, k2, k3, k4, k5, k6⟩ | k
  · exact absurd k.1 hl.1
  · rw [k.1] at hT
    have := (nI_eq (a := 1) (by decide) (by omega)).mp hT; omega
  · rw [k.2.2.2.1] at hT
    rcases vwtk_sm (vwordIx ((b.drop (vpP s)).take (vpN s - vpP s))) with w | ⟨w1, w2, w⟩ | w
    · rw [w] at hT
      have := (nI_eq (a := 2) (by decide) (by omega)).mp hT; omega
    · rw [w] at hT
      have := (nI_eq (by omega) (by omega)).mp hT; omega
    · rw [w] at hT
      exact absurd (show nI c < 0 by rw [← hT]; decide) (nI_pos (by omega))
  · rw [k3, nI_eq (by omega) (by omega)] at hT
    rw [k5, hT]
  · exact absurd k.1 hl.2
/-- not that sign -/
theorem vsg_no {b : List Nat} {t op c : Nat} {nm : Nat → Int32} {s : vPS} {σ : vM} (hc : vsign c = true) (h : vMd b t op nm s σ) (q : ¬ (vpF s = none ∧ vpT s = nI c)) : ¬ vpT s = nI c := fun z => q ⟨vFT_none h.FT (vlive_of z (fun e => by have := vsign_c hc; have := (nI_eq (b := 0) (by omega) (by decide)).mp e; omega) (fun e => absurd (show nI c < 0 by rw [e]; decide) (nI_pos (by have := vsign_c hc; omega)))), z⟩
theorem vstep_not {nm : Nat → Int32} {v : Int32} (st : List Int32) : vstep1 nm (-11) (v :: st) = some ((if v = 0 then 1 else 0) :: st) := by
  unfold vstep1
  rw [if_neg (by decide), if_pos (Or.inl rfl)]
  show some ((if (-11 : Int32) = -12 then -v else if v = 0 then 1 else 0) :: st) = _
  rw [if_neg (by decide)]
theorem vstep_neg {nm : Nat → Int32} {v : Int32} (st : List Int32) : vstep1 nm (-12) (v :: st) = some (-v :: st) := by
  unfold vstep1
  rw [if_neg (by decide), if_pos (Or.inr rfl)]
  rfl
section RA2
variable {Gx : Nat × (Nat → Int32)} {d : Nat} {σ : vM} {post : vQ} {b : List Nat} {t op : Nat} {nm : Nat → Int32} {s : vPS}
/-- the tokens that a ONE may begin with, by the reference's number -/
theorem vMd.tok (h : vMd b t op nm s σ) (hf : vpF s = none) : (σ.1 58 26 = 2 ∧ vpT s = 1 ∧ vpV s ≤ 9999 ∧ σ.2 58 28 = lN (vpV s)) ∨ (σ.1 58 26 = 1 ∧ vpT s = vwtk (vpV s)) ∨ (¬ σ.1 58 26 = 2 ∧ ¬ σ.1 58 26 = 1 ∧ ¬ vpT s = 1 ∧ ¬ vpT s = 2) := by
  obtain ⟨g1, g2⟩ := h.2.2.2.2.1 hf
  rcases g2 with k | k | k | ⟨c', k1, k2, k3, k4, k5, k6⟩ | k
  · refine Or.inr (Or.inr ⟨?_, ?_, ?_, ?_⟩)
    · rw [k.2]; decide
    · rw [k.2]; decide
    · rw [k.1]; decide
    · rw [k.1]; decide
  · exact Or.inl ⟨k.2.2.1, k.1, k.2.1, k.2.2.2.1⟩
  · exact Or.inr (Or.inl ⟨k.2.2.2.2.2.1, by rw [k.2.2.2.2.1]; exact k.2.2.2.1⟩)
  · have := vsign_c k2
    refine Or.inr (Or.inr ⟨?_, ?_, ?_, ?_⟩)
    · rw [k4]; decide
    · rw [k4]; decide
    · rw [k3]; intro q; have := (nI_eq (b := 1) (by omega) (by decide)).mp q; omega
    · rw [k3]; intro q; have := (nI_eq (b := 2) (by omega) (by decide)).mp q; omega
  · refine Or.inr (Or.inr ⟨?_, ?_, ?_, ?_⟩)
    · rw [k.2]; decide
    · rw [k.2]; decide
    · rw [k.1]; decide
    · rw [k.1]; decide
theorem vkt_nm {j : Nat} (hj : j < 6) : vkt j s ↔ vpT s = 2 ∧ vpV s = j := by unfold vkt; rw [if_pos hj]
end RA2
/-! ===== THE REFERENCE: TERM, SUM, NOT, BOTH, EITHER at level 5 ===== -/
section RL5
variable {Gx : Nat × (Nat → Int32)} {b : List Nat} {t n D dep : Nat} {nm : Nat → Int32}
theorem vm_term5 (hone : vMok Gx b t n nm (D + 4) iX7_atom5 [some (.ref 58), none] dep (vpOne b (vpLev b n))) : vMok Gx b t n nm (D + 5) iX7_term5 [some (.ref 58), none] (dep + 1) (vpTerm b (vpLev b n)) := by
  intro σ s post hf hJ hM h
  have H := vJ_H b
  have H2 := vpre_H b
  have h160 := hM.1.1
  unfold vpTerm at h
  have key : ∀ m s1 s2 v , vagI vMp σ s2 → vMd b t (5 - n) nm s1 s2 → vJ 0 s1 → 160 ≤ (vpC s1).length + m → vEv nm (dep + 1) s s1 v → (∀ σ' w, vagI vMp σ σ' → vMd b t (5 - n) nm (vpLoop (fun s => decide (vpT s = 42)) (fun s => vpAdd (-42) (vpOne b (vpLev b n) (vpAdv b s))) m s1) σ' → vEv nm (dep + 1) s (vpLoop (fun s => decide (vpT s = 42)) (fun s => vpAdd (-42) (vpOne b (vpLev b n) (vpAdv b s))) m s1) w → post (some (.int w)) σ') → VM (true, Gx) (D + 5) iX7_term5 5 [some (.ref 58), some (.int v)] [] s2 post := by
    intro m
    induction m with
    | zero =>
      intro s1 s2 v  hs2 hM2 hJ1 hm hE h2
      refine VM.go [] ⟨_, VM.at (vm_isSign (c := 42) rfl hM2 (fun q1 q2 => ?_) (fun q => ?_)), fun _ _ hh => hh⟩
      · exfalso
        have q2 : vpT s1 = 42 := q2
        have h1 := hJ1.2 (vlive_of q2 (by decide) (by decide))
        have h3 := hM2.pl.1
        omega
      · exact ⟨fun _ => h2 s2 v hs2 hM2 hE, fun q => absurd rfl q⟩
    | succ m ih =>
      intro s1 s2 v  hs2 hM2 hJ1 hm hE h2
      unfold vpLoop at h2
      refine VM.go [5] ⟨_, VM.at (vm_isSign (c := 42) rfl hM2 (fun q1 q2 => ?_) (fun q => ?_)), fun _ _ hh => hh⟩
      · have q2 : vpT s1 = 42 := q2
        have hl := vlive_of q2 (by decide) (by decide)
        rw [if_pos (decide_eq_true q2)] at h2
        have hJA : vJ 1 (vpAdv b s1) := (vJ_adv hJ1).2 hl q1
        refine ⟨fun q => absurd q (by decide), fun _ => ⟨_, VM.at (vm_nextD (d := D + 3) hl hM2 (fun s3 hs3 hM3 => ?_)), fun _ _ hh => hh⟩⟩
        refine ⟨_, VM.at (hone s3 (vpAdv b s1) _ (vpAdv_F q1) (vJ_down hJA) hM3 (fun s4 v2 hs4 hM4 hE4 => ?_)), fun _ _ hh => hh⟩
        have hJ4 := (vpOne_rel H (vpLev_rel H n) (vpAdv b s1)).2 (vFT_adv b s1) 1 hJA
        have hpr := (vpOne_rel H2 (vpLev_rel H2 n) (vpAdv b s1)).length_le
        rw [vpAdv_C] at hpr
        obtain ⟨S5, hS5⟩ : ∃ S, S = vpOne b (vpLev b n) (vpAdv b s1) := ⟨_, rfl⟩
        rw [← hS5] at hM4 hE4 hJ4 hpr h2
        have room := hM4.room hJ4
        have hlen : (vpC (vpAdd (-42) S5)).length = (vpC S5).length + 1 := by
          rw [vpAdd_room room, List.length_append]; rfl
        have hlen2 : 160 ≤ (vpC (vpAdd (-42) S5)).length + m := by
          rw [hlen]
          exact Nat.le_trans hm (by rw [Nat.add_assoc, Nat.add_comm 1 m]; exact Nat.add_le_add_right hpr _)
        have hE5 := vEv.bin (t := 42) (by decide) hE q1 hE4 (fun _ => room)
        have next := ih (vpAdd (-42) S5) s4 (vjoin 42 v v2)
        have nx := next ((hs2.tr hs3).tr hs4) hM4 (vJ_add hJ4) hlen2 hE5 h2
        exact VM.at (VM.go [5] nx)
      · have hp : ¬ vpT s1 = 42 := fun z => q ⟨vFT_none hM2.FT (vlive_of z (by decide) (by decide)), z⟩
        rw [if_neg (fun z => hp (of_decide_eq_true z))] at h2
        exact ⟨fun _ => h2 s2 v hs2 hM2 hE, fun q => absurd rfl q⟩
  refine VM.go [5] ⟨_, VM.at (hone σ s _ hf hJ hM (fun s2 v hs2 hM2 hE2 => ?_)), fun _ _ hh => hh⟩
  have k0 := key 160 (vpOne b (vpLev b n) s) s2 v  hs2 hM2 ((vpOne_rel H (vpLev_rel H n) s).2 hM.FT 0 hJ) (Nat.le_add_left _ _) (hE2.up (Nat.le_succ _)) h
  exact VM.at (VM.go [5] k0)
theorem vm_added5 (hone : vMok Gx b t n nm (D + 5) iX7_term5 [some (.ref 58), none] dep (vpTerm b (vpLev b n))) : vMok Gx b t n nm (D + 6) iX7_added5 [some (.ref 58), none, none, none] (dep + 1) (vpSum b (vpLev b n)) := by
  intro σ s post hf hJ hM h
  have H := vJ_H b
  have H2 := vpre_H b
  unfold vpSum at h
  have key : ∀ m s1 s2 v (y y' : Option Value), vagI vMp σ s2 → vMd b t (5 - n) nm s1 s2 → vJ 0 s1 → 160 ≤ (vpC s1).length + m → vEv nm (dep + 1) s s1 v → (∀ σ' w, vagI vMp σ σ' → vMd b t (5 - n) nm (vpLoop (fun s => decide (vpT s = 43) || decide (vpT s = 45)) (fun s => vpAdd (-(vpT s)) (vpTerm b (vpLev b n) (vpAdv b s))) m s1) σ' → vEv nm (dep + 1) s (vpLoop (fun s => decide (vpT s = 43) || decide (vpT s = 45)) (fun s => vpAdd (-(vpT s)) (vpTerm b (vpLev b n) (vpAdv b s))) m s1) w → post (some (.int w)) σ') → VM (true, Gx) (D + 6) iX7_added5 5 [some (.ref 58), some (.int v), y, y'] [] s2 post := by
    intro m
    induction m with
    | zero =>
      intro s1 s2 v y y' hs2 hM2 hJ1 hm hE h2
      have full : (vpT s1 = 43 ∨ vpT s1 = 45) → False := fun q2 => by
        have h1 := hJ1.2 (by rcases q2 with q2 | q2 <;> exact vlive_of q2 (by decide) (by decide))
        have h3 := hM2.pl.1
        have h160 := hM2.1.1
        omega
      refine VM.go [23] ⟨_, VM.at (vm_isSign (c := 43) rfl hM2 (fun q1 q2 => (full (Or.inl q2)).elim) (fun q => ?_)), fun _ _ hh => hh⟩
      refine ⟨fun z => absurd rfl z, fun _ => ⟨_, VM.at (vm_isSign (c := 45) rfl hM2 (fun q1 q2 => (full (Or.inr q2)).elim) (fun q => ?_)), fun _ _ hh => hh⟩⟩
      exact ⟨fun _ => h2 s2 v hs2 hM2 hE, fun q => absurd rfl q⟩
    | succ m ih =>
      intro s1 s2 v y y' hs2 hM2 hJ1 hm hE h2
      unfold vpLoop at h2
      have yes : ∀ c : Nat, (c = 43 ∨ c = 45) → vpF s1 = none → vpT s1 = nI c → VM (true, Gx) (D + 6) iX7_added5 23 [some (.ref 58), some (.int v), y, y'] [] s2 post := fun c hc q1 q2 => by
        have hcs : vsign c = true := by rcases hc with rfl | rfl <;> rfl
        have hw := hM2.worth hcs q2
        have hl : vlive s1 := by rcases hc with rfl | rfl <;> exact vlive_of q2 (by decide) (by decide)
        have hops : nI c ∈ vops := by rcases hc with rfl | rfl <;> decide
        rw [if_pos (by rw [Bool.or_eq_true, decide_eq_true_eq, decide_eq_true_eq]; rcases hc with rfl | rfl; exact Or.inl q2; exact Or.inr q2), q2] at h2
        have hJA : vJ 1 (vpAdv b s1) := (vJ_adv hJ1).2 hl q1
        have rest : ∀ x : Int32, (x = if c = 43 then 1 else 0) → VM (true, Gx) (D + 6) iX7_added5 39 [some (.ref 58), some (.int v), y, y'] [.int x] s2 post := fun x hx => by
          refine VM.go [5] ⟨_, VM.at (vm_nextD (d := D + 4) hl hM2 (fun s3 hs3 hM3 => ?_)), fun _ _ hh => hh⟩
          refine ⟨_, VM.at (hone s3 (vpAdv b s1) _ (vpAdv_F q1) (vJ_down hJA) hM3 (fun s4 v2 hs4 hM4 hE4 => ?_)), fun _ _ hh => hh⟩
          have hJ4 := (vpTerm_rel H (vpLev_rel H n) (vpAdv b s1)).2 (vFT_adv b s1) 1 hJA
          have hpr := (vpTerm_rel H2 (vpLev_rel H2 n) (vpAdv b s1)).length_le
          rw [vpAdv_C] at hpr
          obtain ⟨S5, hS5⟩ : ∃ S, S = vpTerm b (vpLev b n) (vpAdv b s1) := ⟨_, rfl⟩
          rw [← hS5] at hM4 hE4 hJ4 hpr h2
          have room := hM4.room hJ4
          have hlen : (vpC (vpAdd (-(nI c)) S5)).length = (vpC S5).length + 1 := by
            rw [vpAdd_room room, List.length_append]; rfl
          have hlen2 : 160 ≤ (vpC (vpAdd (-(nI c)) S5)).length + m := by
            rw [hlen]
            exact Nat.le_trans hm (by rw [Nat.add_assoc, Nat.add_comm 1 m]; exact Nat.add_le_add_right hpr _)
          have hE5 := vEv.bin (t := nI c) hops hE q1 hE4 (fun _ => room)
          have nx := ih (vpAdd (-(nI c)) S5) s4 (vjoin (nI c) v v2) (some (.int x)) (some (.int v2)) ((hs2.tr hs3).tr hs4) hM4 (vJ_add hJ4) hlen2 hE5 h2
          rcases hc with rfl | rfl
          · rw [show vjoin (nI 43) v v2 = v + v2 from rfl] at nx
            exact VM.at (VM.go [5] ⟨fun z => absurd (show x = 0 from z) (by rw [hx]; decide), fun _ => nx⟩)
          · rw [show vjoin (nI 45) v v2 = v - v2 from rfl] at nx
            exact VM.at (VM.go [5] ⟨fun _ => nx, fun z => absurd (show x = 0 by rw [hx]; rfl) z⟩)
        refine VM.go [39] ⟨fun z => ?_, fun z => ?_⟩
        · refine rest 0 ?_
          rw [if_neg (fun e => z (lgc_eq.mpr (by rw [hw, e]; decide)))]
        · refine rest 1 ?_
          have e := lgc_eq.mp z
          rw [hw] at e
          have : c = 43 := (pk_lEQ (b := 43) (by rcases hc with rfl | rfl <;> decide) (by decide)).mp e
          rw [if_pos this]
      refine VM.go [23] ⟨_, VM.at (vm_isSign (c := 43) rfl hM2 (fun q1 q2 => ?_) (fun q => ?_)), fun _ _ hh => hh⟩
      · exact ⟨fun _ => VM.at (yes 43 (Or.inl rfl) q1 q2), fun z => absurd z (by decide)⟩
      · refine ⟨fun z => absurd rfl z, fun _ => ⟨_, VM.at (vm_isSign (c := 45) rfl hM2 (fun q1 q2 => ?_) (fun q' => ?_)), fun _ _ hh => hh⟩⟩
        · exact ⟨fun z => absurd z (by decide), fun _ => VM.at (yes 45 (Or.inr rfl) q1 q2)⟩
        · have n1 : ¬ vpT s1 = 43 := vsg_no (c := 43) rfl hM2 q
          have n2 : ¬ vpT s1 = 45 := vsg_no (c := 45) rfl hM2 q'
          rw [if_neg (by rw [Bool.or_eq_true, decide_eq_true_eq, decide_eq_true_eq]; exact fun z => z.elim n1 n2)] at h2
          exact ⟨fun _ => h2 s2 v hs2 hM2 hE, fun q => absurd rfl q⟩
  refine VM.go [5] ⟨_, VM.at (hone σ s _ hf hJ hM (fun s2 v hs2 hM2 hE2 => ?_)), fun _ _ hh => hh⟩
  have k0 := key 160 (vpTerm b (vpLev b n) s) s2 v none none hs2 hM2 ((vpTerm_rel H (vpLev_rel H n) s).2 hM.FT 0 hJ) (Nat.le_add_left _ _) (hE2.up (Nat.le_succ _)) h
  exact VM.at (VM.go [5] k0)
theorem vm_not5 (hn : n = 0) (hsum : vMok Gx b t n nm (D + 6) iX7_added5 [some (.ref 58), none, none, none] dep (vpSum b (vpLev b n))) : vMok Gx b t n nm (D + 7) iX7_not5 [some (.ref 58), none, none, none] (dep + 1) (vpNot b (vpLev b n)) := by
  intro σ s post hf hJ hM h
  have H := vJ_H b
  obtain rfl : n = 0 := hn
  refine VM.go [25] ⟨_, VM.at (vm_isWord (d := D + 4) (j := 11) (by decide) hM (fun q1 q2 => ?_) (fun q => ?_)), fun _ _ hh => hh⟩
  · have q2 : vpT s = 11 := vkt_T q2 (by decide)
    unfold vpNot at h
    rw [if_pos q2] at h
    refine ⟨fun z => absurd z (by decide), fun _ => ⟨_, VM.at (vm_opens (d := D + 4) (by decide) (vlive_of q2 (by decide) (by decide)) hM (fun _ s2 hs2 hM2 => ?_) (fun z => absurd z (by decide))), fun _ _ hh => hh⟩⟩
    exact h s2 0 hs2 hM2 (vEv.bad (vpFail_no s))
  · have n11 : ¬ vpT s = 11 := vkt_no hM q (by decide) (by decide)
    unfold vpNot at h
    rw [if_neg n11] at h
    dsimp only at h
    refine ⟨fun _ => ?_, fun z => absurd rfl z⟩
    refine VM.at (VM.go [50] ⟨_, VM.at (hsum σ s _ hf hJ hM (fun s2 v hs2 hM2 hE2 => ?_)), fun _ _ hh => hh⟩)
    have hJ2 := (vpSum_rel H (vpLev_rel H 0) s).2 hM.FT 0 hJ
    obtain ⟨S1, hS1⟩ : ∃ S, S = vpSum b (vpLev b 0) s := ⟨_, rfl⟩
    rw [← hS1] at hM2 hE2 hJ2 h
    have yes : ∀ c : Nat, (c = 60 ∨ c = 61) → vpF S1 = none → vpT S1 = nI c → VM (true, Gx) (D + 7) iX7_not5 50 [some (.ref 58), some (.int v), none, none] [] s2 post := fun c hc q1 q2 => by
      have hcs : vsign c = true := by rcases hc with rfl | rfl <;> rfl
      have hw := hM2.worth hcs q2
      have hl : vlive S1 := by rcases hc with rfl | rfl <;> exact vlive_of q2 (by decide) (by decide)
      have hops : nI c ∈ vops := by rcases hc with rfl | rfl <;> decide
      rw [if_pos (by rcases hc with rfl | rfl; exact Or.inl q2; exact Or.inr q2), q2] at h
      have hJA : vJ 1 (vpAdv b S1) := (vJ_adv hJ2).2 hl q1
      have rest : ∀ x : Int32, (x = if c = 60 then 1 else 0) → VM (true, Gx) (D + 7) iX7_not5 66 [some (.ref 58), some (.int v), none, none] [.int x] s2 post := fun x hx => by
        refine VM.go [] ⟨_, VM.at (vm_nextD (d := D + 5) hl hM2 (fun s3 hs3 hM3 => ?_)), fun _ _ hh => hh⟩
        refine ⟨_, VM.at (hsum s3 (vpAdv b S1) _ (vpAdv_F q1) (vJ_down hJA) hM3 (fun s4 v2 hs4 hM4 hE4 => ?_)), fun _ _ hh => hh⟩
        have hJ4 := (vpSum_rel H (vpLev_rel H 0) (vpAdv b S1)).2 (vFT_adv b S1) 1 hJA
        obtain ⟨S5, hS5⟩ : ∃ S, S = vpSum b (vpLev b 0) (vpAdv b S1) := ⟨_, rfl⟩
        rw [← hS5] at hM4 hE4 hJ4 h
        have room := hM4.room hJ4
        have hE5 := vEv.bin (t := nI c) hops (hE2.up (Nat.le_succ _)) q1 hE4 (fun _ => room)
        have nx := h s4 (vjoin (nI c) v v2) ((hs2.tr hs3).tr hs4) hM4 hE5
        rcases hc with rfl | rfl
        · have ej : vjoin (nI 60) v v2 = if v < v2 then 1 else 0 := rfl
          rw [ej] at nx
          refine ⟨fun z => absurd (show x = 0 from z) (by rw [hx]; decide), fun _ => ⟨fun z => ?_, fun z => ?_⟩⟩
          · rw [if_neg (Int32.not_lt.mpr z)] at nx
            exact nx
          · rw [if_pos (Int32.not_le.mp z)] at nx
            exact nx
        · have ej : vjoin (nI 61) v v2 = if v = v2 then 1 else 0 := rfl
          rw [ej] at nx
          refine ⟨fun _ => ⟨fun z => ?_, fun z => ?_⟩, fun z => absurd (show x = 0 by rw [hx]; rfl) z⟩
          · rw [if_neg z] at nx
            exact nx
          · rw [if_pos z] at nx
            exact nx
      refine VM.go [66] ⟨fun z => ?_, fun z => ?_⟩
      · refine rest 0 ?_
        rw [if_neg (fun e => z (lgc_eq.mpr (by rw [hw, e]; decide)))]
      · refine rest 1 ?_
        have e := lgc_eq.mp z
        rw [hw] at e
        have : c = 60 := (pk_lEQ (b := 60) (by rcases hc with rfl | rfl <;> decide) (by decide)).mp e
        rw [if_pos this]
    refine VM.at (VM.go [50] ⟨_, VM.at (vm_isSign (c := 60) rfl hM2 (fun q1 q2 => ?_) (fun q => ?_)), fun _ _ hh => hh⟩)
    · exact ⟨fun _ => VM.at (yes 60 (Or.inl rfl) q1 q2), fun z => absurd z (by decide)⟩
    · refine ⟨fun z => absurd rfl z, fun _ => ⟨_, VM.at (vm_isSign (c := 61) rfl hM2 (fun q1 q2 => ?_) (fun q' => ?_)), fun _ _ hh => hh⟩⟩
      · exact ⟨fun _ => VM.at (yes 61 (Or.inr rfl) q1 q2), fun z => absurd z (by decide)⟩
      · have n1 : ¬ vpT S1 = 60 := vsg_no (c := 60) rfl hM2 q
        have n2 : ¬ vpT S1 = 61 := vsg_no (c := 61) rfl hM2 q'
        rw [if_neg (fun z => z.elim n1 n2)] at h
        exact ⟨fun z => absurd rfl z, fun _ => h s2 v hs2 hM2 (hE2.up (Nat.le_succ _))⟩
theorem vm_both5 (hone : vMok Gx b t n nm (D + 7) iX7_not5 [some (.ref 58), none, none, none] dep (vpNot b (vpLev b n))) : vMok Gx b t n nm (D + 8) iX7_both5 [some (.ref 58), none, none] (dep + 1) (vpBoth b (vpLev b n)) := by
  intro σ s post hf hJ hM h
  have H := vJ_H b
  have H2 := vpre_H b
  have h160 := hM.1.1
  unfold vpBoth at h
  have key : ∀ m s1 s2 v (y : Option Value), vagI vMp σ s2 → vMd b t (5 - n) nm s1 s2 → vJ 0 s1 → 160 ≤ (vpC s1).length + m → vEv nm (dep + 1) s s1 v → (∀ σ' w, vagI vMp σ σ' → vMd b t (5 - n) nm (vpLoop (fun s => decide (vpT s = 10)) (fun s => vpAdd (-10) (vpNot b (vpLev b n) (vpAdv b s))) m s1) σ' → vEv nm (dep + 1) s (vpLoop (fun s => decide (vpT s = 10)) (fun s => vpAdd (-10) (vpNot b (vpLev b n) (vpAdv b s))) m s1) w → post (some (.int w)) σ') → VM (true, Gx) (D + 8) iX7_both5 5 [some (.ref 58), some (.int v), y] [] s2 post := by
    intro m
    induction m with
    | zero =>
      intro s1 s2 v y hs2 hM2 hJ1 hm hE h2
      refine VM.go [] ⟨_, VM.at (vm_isWord (d := D + 5) (j := 10) (by decide) hM2 (fun q1 q2 => ?_) (fun q => ?_)), fun _ _ hh => hh⟩
      · exfalso
        have q2 : vpT s1 = 10 := vkt_T q2 (by decide)
        have h1 := hJ1.2 (vlive_of q2 (by decide) (by decide))
        have h3 := hM2.pl.1
        omega
      · exact ⟨fun _ => h2 s2 v hs2 hM2 hE, fun q => absurd rfl q⟩
    | succ m ih =>
      intro s1 s2 v y hs2 hM2 hJ1 hm hE h2
      unfold vpLoop at h2
      refine VM.go [5] ⟨_, VM.at (vm_isWord (d := D + 5) (j := 10) (by decide) hM2 (fun q1 q2 => ?_) (fun q => ?_)), fun _ _ hh => hh⟩
      · have q2 : vpT s1 = 10 := vkt_T q2 (by decide)
        have hl := vlive_of q2 (by decide) (by decide)
        rw [if_pos (decide_eq_true q2)] at h2
        have hJA : vJ 1 (vpAdv b s1) := (vJ_adv hJ1).2 hl q1
        refine ⟨fun q => absurd q (by decide), fun _ => ⟨_, VM.at (vm_nextD (d := D + 6) hl hM2 (fun s3 hs3 hM3 => ?_)), fun _ _ hh => hh⟩⟩
        refine ⟨_, VM.at (hone s3 (vpAdv b s1) _ (vpAdv_F q1) (vJ_down hJA) hM3 (fun s4 v2 hs4 hM4 hE4 => ?_)), fun _ _ hh => hh⟩
        have hJ4 := (vpNot_rel H (vpLev_rel H n) (vpAdv b s1)).2 (vFT_adv b s1) 1 hJA
        have hpr := (vpNot_rel H2 (vpLev_rel H2 n) (vpAdv b s1)).length_le
        rw [vpAdv_C] at hpr
        obtain ⟨S5, hS5⟩ : ∃ S, S = vpNot b (vpLev b n) (vpAdv b s1) := ⟨_, rfl⟩
        rw [← hS5] at hM4 hE4 hJ4 hpr h2
        have room := hM4.room hJ4
        have hlen : (vpC (vpAdd (-10) S5)).length = (vpC S5).length + 1 := by
          rw [vpAdd_room room, List.length_append]; rfl
        have hlen2 : 160 ≤ (vpC (vpAdd (-10) S5)).length + m := by
          rw [hlen]
          exact Nat.le_trans hm (by rw [Nat.add_assoc, Nat.add_comm 1 m]; exact Nat.add_le_add_right hpr _)
        have hE5 := vEv.bin (t := 10) (by decide) hE q1 hE4 (fun _ => room)
        have next := ih (vpAdd (-10) S5) s4 (vjoin 10 v v2)
        have nx := next (some (.int v2)) ((hs2.tr hs3).tr hs4) hM4 (vJ_add hJ4) hlen2 hE5 h2
        have ej : vjoin 10 v v2 = if v = 0 ∨ v2 = 0 then 0 else 1 := rfl
        rw [ej] at nx
        refine VM.at (VM.go [5] ⟨fun z => ?_, fun z => ⟨fun z2 => ?_, fun z2 => ?_⟩⟩)
        · rw [if_pos (Or.inl z)] at nx
          exact nx
        · rw [if_pos (Or.inr z2)] at nx
          exact nx
        · rw [if_neg (fun q => q.elim z z2)] at nx
          exact nx
      · have hp : ¬ vpT s1 = 10 := vkt_no hM2 q (by decide) (by decide)
        rw [if_neg (fun z => hp (of_decide_eq_true z))] at h2
        exact ⟨fun _ => h2 s2 v hs2 hM2 hE, fun q => absurd rfl q⟩
  refine VM.go [5] ⟨_, VM.at (hone σ s _ hf hJ hM (fun s2 v hs2 hM2 hE2 => ?_)), fun _ _ hh => hh⟩
  have k0 := key 160 (vpNot b (vpLev b n) s) s2 v none hs2 hM2 ((vpNot_rel H (vpLev_rel H n) s).2 hM.FT 0 hJ) (Nat.le_add_left _ _) (hE2.up (Nat.le_succ _)) h
  exact VM.at (VM.go [5] k0)
theorem vm_either5 (hone : vMok Gx b t n nm (D + 8) iX7_both5 [some (.ref 58), none, none] dep (vpBoth b (vpLev b n))) : vMok Gx b t n nm (D + 9) iX7_either5 [some (.ref 58), none, none] (dep + 1) (vpEither b (vpLev b n)) := by
  intro σ s post hf hJ hM h
  have H := vJ_H b
  have H2 := vpre_H b
  have h160 := hM.1.1
  unfold vpEither at h
  have key : ∀ m s1 s2 v (y : Option Value), vagI vMp σ s2 → vMd b t (5 - n) nm s1 s2 → vJ 0 s1 → 160 ≤ (vpC s1).length + m → vEv nm (dep + 1) s s1 v → (∀ σ' w, vagI vMp σ σ' → vMd b t (5 - n) nm (vpLoop (fun s => decide (vpT s = 9)) (fun s => vpAdd (-9) (vpBoth b (vpLev b n) (vpAdv b s))) m s1) σ' → vEv nm (dep + 1) s (vpLoop (fun s => decide (vpT s = 9)) (fun s => vpAdd (-9) (vpBoth b (vpLev b n) (vpAdv b s))) m s1) w → post (some (.int w)) σ') → VM (true, Gx) (D + 9) iX7_either5 5 [some (.ref 58), some (.int v), y] [] s2 post := by
    intro m
    induction m with
    | zero =>
      intro s1 s2 v y hs2 hM2 hJ1 hm hE h2
      refine VM.go [] ⟨_, VM.at (vm_isWord (d := D + 6) (j := 9) (by decide) hM2 (fun q1 q2 => ?_) (fun q => ?_)), fun _ _ hh => hh⟩
      · exfalso
        have q2 : vpT s1 = 9 := vkt_T q2 (by decide)
        have h1 := hJ1.2 (vlive_of q2 (by decide) (by decide))
        have h3 := hM2.pl.1
        omega
      · exact ⟨fun _ => h2 s2 v hs2 hM2 hE, fun q => absurd rfl q⟩
    | succ m ih =>
      intro s1 s2 v y hs2 hM2 hJ1 hm hE h2
      unfold vpLoop at h2
      refine VM.go [5] ⟨_, VM.at (vm_isWord (d := D + 6) (j := 9) (by decide) hM2 (fun q1 q2 => ?_) (fun q => ?_)), fun _ _ hh => hh⟩
      · have q2 : vpT s1 = 9 := vkt_T q2 (by decide)
        have hl := vlive_of q2 (by decide) (by decide)
        rw [if_pos (decide_eq_true q2)] at h2
        have hJA : vJ 1 (vpAdv b s1) := (vJ_adv hJ1).2 hl q1
        refine ⟨fun q => absurd q (by decide), fun _ => ⟨_, VM.at (vm_nextD (d := D + 7) hl hM2 (fun s3 hs3 hM3 => ?_)), fun _ _ hh => hh⟩⟩
        refine ⟨_, VM.at (hone s3 (vpAdv b s1) _ (vpAdv_F q1) (vJ_down hJA) hM3 (fun s4 v2 hs4 hM4 hE4 => ?_)), fun _ _ hh => hh⟩
        have hJ4 := (vpBoth_rel H (vpLev_rel H n) (vpAdv b s1)).2 (vFT_adv b s1) 1 hJA
        have hpr := (vpBoth_rel H2 (vpLev_rel H2 n) (vpAdv b s1)).length_le
        rw [vpAdv_C] at hpr
        obtain ⟨S5, hS5⟩ : ∃ S, S = vpBoth b (vpLev b n) (vpAdv b s1) := ⟨_, rfl⟩
        rw [← hS5] at hM4 hE4 hJ4 hpr h2
        have room := hM4.room hJ4
        have hlen : (vpC (vpAdd (-9) S5)).length = (vpC S5).length + 1 := by
          rw [vpAdd_room room, List.length_append]; rfl
        have hlen2 : 160 ≤ (vpC (vpAdd (-9) S5)).length + m := by
          rw [hlen]
          exact Nat.le_trans hm (by rw [Nat.add_assoc, Nat.add_comm 1 m]; exact Nat.add_le_add_right hpr _)
        have hE5 := vEv.bin (t := 9) (by decide) hE q1 hE4 (fun _ => room)
        have next := ih (vpAdd (-9) S5) s4 (vjoin 9 v v2)
        have nx := next (some (.int v2)) ((hs2.tr hs3).tr hs4) hM4 (vJ_add hJ4) hlen2 hE5 h2
        have ej : vjoin 9 v v2 = if v = 0 ∧ v2 = 0 then 0 else 1 := rfl
        rw [ej] at nx
        refine VM.at (VM.go [5] ⟨fun z => ?_, fun z => ⟨fun z2 => ?_, fun z2 => ?_⟩⟩)
        · rw [if_neg (fun q => z q.1)] at nx
          exact nx
        · rw [if_pos ⟨z, z2⟩] at nx
          exact nx
        · rw [if_neg (fun q => z2 q.2)] at nx
          exact nx
      · have hp : ¬ vpT s1 = 9 := vkt_no hM2 q (by decide) (by decide)
        rw [if_neg (fun z => hp (of_decide_eq_true z))] at h2
        exact ⟨fun _ => h2 s2 v hs2 hM2 hE, fun q => absurd rfl q⟩
  refine VM.go [5] ⟨_, VM.at (hone σ s _ hf hJ hM (fun s2 v hs2 hM2 hE2 => ?_)), fun _ _ hh => hh⟩
  have k0 := key 160 (vpBoth b (vpLev b n) s) s2 v none hs2 hM2 ((vpBoth_rel H (vpLev_rel H n) s).2 hM.FT 0 hJ) (Nat.le_add_left _ _) (hE2.up (Nat.le_succ _)) h
  exact VM.at (VM.go [5] k0)
theorem vm_atom5 (hn : n = 0) (hdep : 1 ≤ dep) : vMok Gx b t n nm (D + 4) iX7_atom5 [some (.ref 58), none] dep (vpOne b (vpLev b n)) := by
  intro σ s post hf hJ hM h
  have H := vJ_H b
  obtain rfl : n = 0 := hn
  unfold vpOne at h
  have rest : ¬ vpT s = 45 → ¬ vpT s = 40 → VM (true, Gx) (D + 4) iX7_atom5 36 [some (.ref 58), some (.int 0)] [] σ post := fun n45 n40 => by
    have e30 : σ.1 58 30 = 0 := hM.2.2.2.1.trans (vbad_0 hf)
    have failE : ¬ vpT s = 1 → ¬ vpT s = 2 → ∀ (post' : vQ), (∀ s2, vagI vMp σ s2 → post (some (.int 0)) s2 → post' none s2) → VM (true, Gx) (D + 3) iX7_fail 0 [some (.ref 58)] [] σ post' := fun n1 n2 post' k => by
      rw [if_neg n1, if_neg n2, if_neg n45, if_neg n40] at h
      exact vm_fail hM (fun s2 hs2 hM2 => k s2 hs2 (h s2 0 hs2 hM2 (vEv.bad (vpFail_no s))))
    rcases hM.tok hf with ⟨k1, k2, k3, k4⟩ | ⟨k1, k2⟩ | ⟨k1, k2, k3, k4⟩
    · have hl := vlive_of k2 (by decide) (by decide)
      rw [if_pos k2, vpAdv_add hf] at h
      have hJA : vJ 1 (vpAdv b s) := (vJ_adv hJ).2 hl hf
      have e2 : (σ.2 58 28).toInt32 = nI (vpV s) := by rw [k4, lN_i]
      have room : (vpC s).length < 160 := by
        have h1 := hJ.2 hl
        have h2 := hM.pl.1
        have h3 := hM.1.1
        omega
      have nx := fun s2 hs2 hM2 => h s2 (nI (vpV s)) hs2 hM2 (by
        have := (vEv.one (nm := nm) (c := nI (vpV s)) (v := nI (vpV s)) room hdep (fun st hst => vstep_num k3 st hst)).adv (b := b) hf
        rw [vpAdv_add hf] at this
        exact this)
      rw [← e2] at nx
      exact VM.go [] ⟨fun q => absurd e30 q, fun _ => ⟨fun q => absurd k1 q, fun _ => ⟨_, VM.at (vm_nextD (d := D + 2) hl hM (fun s2 hs2 hM2 => by exact nx s2 hs2 hM2)), fun _ _ hh => hh⟩⟩⟩
    · have nn2 : ¬ σ.1 58 26 = 2 := by rw [k1]; decide
      refine VM.go [] ⟨fun q => absurd e30 q, fun _ => ⟨fun _ => ⟨fun q => absurd e30 q, fun _ => ⟨fun q => absurd k1 q, fun _ => ⟨_, VM.at (vm_name (d := D + 0) hf hM (fun j hj z => ?_) (fun hno s2 hs2 hM2 => ?_)), fun _ _ hh => hh⟩⟩⟩, fun q => absurd q nn2⟩⟩
      · obtain ⟨z1, z2⟩ := (vkt_nm hj).mp z
        have hl := vlive_of z1 (by decide) (by decide)
        rw [if_neg (by rw [z1]; decide), if_pos z1, vpAdv_add hf, z2] at h
        have room : (vpC s).length < 160 := by
          have h1 := hJ.2 hl
          have h2 := hM.pl.1
          have h3 := hM.1.1
          omega
        have nx := fun s2 hs2 hM2 => h s2 (nm j) hs2 hM2 (by
          have := (vEv.one (nm := nm) (c := -1 - nI j) (v := nm j) room hdep (fun st hst => vstep_name j hj st hst)).adv (b := b) hf
          rw [vpAdv_add hf] at this
          exact this)
        exact ⟨fun q => absurd e30 q, fun _ => ⟨_, VM.at (vm_nextD (d := D + 2) hl hM (fun s2 hs2 hM2 => by exact nx s2 hs2 hM2)), fun _ _ hh => hh⟩⟩
      · have hV : ¬ vpV s < 6 := fun q => hno (vpV s) q ((vkt_nm q).mpr ⟨by rw [k2]; exact if_pos q, rfl⟩)
        have hne : ¬ vpT s = 1 ∧ ¬ vpT s = 2 := by
          rw [k2]
          unfold vwtk
          rw [if_neg hV]
          by_cases z : vpV s < 12
          · rw [if_pos z]
            exact ⟨fun q => by have := (nI_eq (b := 1) (by omega) (by decide)).mp q; omega, fun q => by have := (nI_eq (b := 2) (by omega) (by decide)).mp q; omega⟩
          · rw [if_neg z]; exact ⟨by decide, by decide⟩
        rw [if_neg hne.1, if_neg hne.2, if_neg n45, if_neg n40] at h
        have e30' : s2.1 58 30 = 1 := hM2.2.2.2.1.trans (by
          have : vpF (vpFail s) = some (vpP s) := by rw [vpFail_F, hf]
          exact vbad_1 this)
        exact ⟨fun _ => h s2 0 hs2 hM2 (vEv.bad (vpFail_no s)), fun q => absurd (show s2.1 58 30 = 0 from q) (by rw [e30']; decide)⟩
    · refine VM.go [] ⟨fun q => absurd e30 q, fun _ => ⟨fun _ => ⟨fun q => absurd e30 q, fun _ => ⟨fun _ => ⟨_, VM.at (failE k3 k4 _ (fun s2 hs2 hp => ?_)), fun _ _ hh => hh⟩, fun q => absurd q k2⟩⟩, fun q => absurd q k1⟩⟩
      exact hp
  refine VM.go [36] ⟨_, VM.at (vm_isSign (c := 45) rfl hM (fun q1 q2 => ?_) (fun q => ?_)), fun _ _ hh => hh⟩
  · have q2' : vpT s = 45 := q2
    rw [if_neg (by rw [q2']; decide), if_neg (by rw [q2']; decide), if_pos q2'] at h
    refine ⟨fun z => absurd z (by decide), fun _ => ⟨_, VM.at (vm_opens (d := D + 1) (by decide) (vlive_of q2' (by decide) (by decide)) hM (fun _ s2 hs2 hM2 => ?_) (fun z => absurd z (by decide))), fun _ _ hh => hh⟩⟩
    exact h s2 0 hs2 hM2 (vEv.bad (vpFail_no s))
  · have n45 : ¬ vpT s = 45 := vsg_no (c := 45) rfl hM q
    refine ⟨fun _ => ⟨_, VM.at (vm_isSign (c := 40) rfl hM (fun q1 q2 => ?_) (fun q' => ?_)), fun _ _ hh => hh⟩, fun z => absurd rfl z⟩
    · have q2' : vpT s = 40 := q2
      rw [if_neg (by rw [q2']; decide), if_neg (by rw [q2']; decide), if_neg n45, if_pos q2'] at h
      refine ⟨fun z => absurd z (by decide), fun _ => ⟨_, VM.at (vm_opens (d := D + 1) (by decide) (vlive_of q2' (by decide) (by decide)) hM (fun _ s2 hs2 hM2 => ?_) (fun z => absurd z (by decide))), fun _ _ hh => hh⟩⟩
      exact h s2 0 hs2 hM2 (vEv.bad (vpFail_no s))
    · exact ⟨fun _ => VM.at (rest n45 (vsg_no (c := 40) rfl hM q')), fun z => absurd rfl z⟩
end RL5
