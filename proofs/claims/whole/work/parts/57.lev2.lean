/-! ===== THE REFERENCE: TERM, SUM, NOT, BOTH, EITHER at level 2 ===== -/
section RL2
variable {Gx : Nat × (Nat → Int32)} {b : List Nat} {t n D dep : Nat} {nm : Nat → Int32}
theorem vm_term2 (hone : vMok Gx b t n nm (D + 4) iX7_atom2 [some (.ref 58), none] dep (vpOne b (vpLev b n))) : vMok Gx b t n nm (D + 5) iX7_term2 [some (.ref 58), none] (dep + 1) (vpTerm b (vpLev b n)) := by
  intro σ s post hf hJ hM h
  have H := vJ_H b
  have H2 := vpre_H b
  have h160 := hM.1.1
  unfold vpTerm at h
  have key : ∀ m s1 s2 v , vagI vMp σ s2 → vMd b t (5 - n) nm s1 s2 → vJ 0 s1 → 160 ≤ (vpC s1).length + m → vEv nm (dep + 1) s s1 v → (∀ σ' w, vagI vMp σ σ' → vMd b t (5 - n) nm (vpLoop (fun s => decide (vpT s = 42)) (fun s => vpAdd (-42) (vpOne b (vpLev b n) (vpAdv b s))) m s1) σ' → vEv nm (dep + 1) s (vpLoop (fun s => decide (vpT s = 42)) (fun s => vpAdd (-42) (vpOne b (vpLev b n) (vpAdv b s))) m s1) w → post (some (.int w)) σ') → VM (true, Gx) (D + 5) iX7_term2 5 [some (.ref 58), some (.int v)] [] s2 post := by
    intro m
    induction m with
    | zero =>
      intro s1 s2 v  hs2 hM2 hJ1 hm hE h2
      refine VM.go [] ⟨_, VM.at (vm_isSign (c := 42) rfl hM2 (fun q1 q2 => ?_) (fun q => ?_)), fun _ _ hh => hh⟩
      · exfalso
        have q2 : vpT s1 = 42 := q2
        have h1 := hJ1.2 (vlive_of q2 (by decide) (by decide))
        have h3 := hM2.pl.1
        omega
      · exact ⟨fun _ => h2 s2 v hs2 hM2 hE, fun q => absurd rfl q⟩
    | succ m ih =>
      intro s1 s2 v  hs2 hM2 hJ1 hm hE h2
      unfold vpLoop at h2
      refine VM.go [5] ⟨_, VM.at (vm_isSign (c := 42) rfl hM2 (fun q1 q2 => ?_) (fun q => ?_)), fun _ _ hh => hh⟩
      · have q2 : vpT s1 = 42 := q2
        have hl := vlive_of q2 (by decide) (by decide)
        rw [if_pos (decide_eq_true q2)] at h2
        have hJA : vJ 1 (vpAdv b s1) := (vJ_adv hJ1).2 hl q1
        refine ⟨fun q => absurd q (by decide), fun _ => ⟨_, VM.at (vm_nextD (d := D + 3) hl hM2 (fun s3 hs3 hM3 => ?_)), fun _ _ hh => hh⟩⟩
        refine ⟨_, VM.at (hone s3 (vpAdv b s1) _ (vpAdv_F q1) (vJ_down hJA) hM3 (fun s4 v2 hs4 hM4 hE4 => ?_)), fun _ _ hh => hh⟩
        have hJ4 := (vpOne_rel H (vpLev_rel H n) (vpAdv b s1)).2 (vFT_adv b s1) 1 hJA
        have hpr := (vpOne_rel H2 (vpLev_rel H2 n) (vpAdv b s1)).length_le
        rw [vpAdv_C] at hpr
        obtain ⟨S5, hS5⟩ : ∃ S, S = vpOne b (vpLev b n) (vpAdv b s1) := ⟨_, rfl⟩
        rw [← hS5] at hM4 hE4 hJ4 hpr h2
        have room := hM4.room hJ4
        have hlen : (vpC (vpAdd (-42) S5)).length = (vpC S5).length + 1 := by
          rw [vpAdd_room room, List.length_append]; rfl
        have hlen2 : 160 ≤ (vpC (vpAdd (-42) S5)).length + m := by
          rw [hlen]
          exact Nat.le_trans hm (by rw [Nat.add_assoc, Nat.add_comm 1 m]; exact Nat.add_le_add_right hpr _)
        have hE5 := vEv.bin (t := 42) (by decide) hE q1 hE4 (fun _ => room)
        have next := ih (vpAdd (-42) S5) s4 (vjoin 42 v v2)
        have nx := next ((hs2.tr hs3).tr hs4) hM4 (vJ_add hJ4) hlen2 hE5 h2
        exact VM.at (VM.go [5] nx)
      · have hp : ¬ vpT s1 = 42 := fun z => q ⟨vFT_none hM2.FT (vlive_of z (by decide) (by decide)), z⟩
        rw [if_neg (fun z => hp (of_decide_eq_true z))] at h2
        exact ⟨fun _ => h2 s2 v hs2 hM2 hE, fun q => absurd rfl q⟩
  refine VM.go [5] ⟨_, VM.at (hone σ s _ hf hJ hM (fun s2 v hs2 hM2 hE2 => ?_)), fun _ _ hh => hh⟩
  have k0 := key 160 (vpOne b (vpLev b n) s) s2 v  hs2 hM2 ((vpOne_rel H (vpLev_rel H n) s).2 hM.FT 0 hJ) (Nat.le_add_left _ _) (hE2.up (Nat.le_succ _)) h
  exact VM.at (VM.go [5] k0)
theorem vm_added2 (hone : vMok Gx b t n nm (D + 5) iX7_term2 [some (.ref 58), none] dep (vpTerm b (vpLev b n))) : vMok Gx b t n nm (D + 6) iX7_added2 [some (.ref 58), none, none, none] (dep + 1) (vpSum b (vpLev b n)) := by
  intro σ s post hf hJ hM h
  have H := vJ_H b
  have H2 := vpre_H b
  unfold vpSum at h
  have key : ∀ m s1 s2 v (y y' : Option Value), vagI vMp σ s2 → vMd b t (5 - n) nm s1 s2 → vJ 0 s1 → 160 ≤ (vpC s1).length + m → vEv nm (dep + 1) s s1 v → (∀ σ' w, vagI vMp σ σ' → vMd b t (5 - n) nm (vpLoop (fun s => decide (vpT s = 43) || decide (vpT s = 45)) (fun s => vpAdd (-(vpT s)) (vpTerm b (vpLev b n) (vpAdv b s))) m s1) σ' → vEv nm (dep + 1) s (vpLoop (fun s => decide (vpT s = 43) || decide (vpT s = 45)) (fun s => vpAdd (-(vpT s)) (vpTerm b (vpLev b n) (vpAdv b s))) m s1) w → post (some (.int w)) σ') → VM (true, Gx) (D + 6) iX7_added2 5 [some (.ref 58), some (.int v), y, y'] [] s2 post := by
    intro m
    induction m with
    | zero =>
      intro s1 s2 v y y' hs2 hM2 hJ1 hm hE h2
      have full : (vpT s1 = 43 ∨ vpT s1 = 45) → False := fun q2 => by
        have h1 := hJ1.2 (by rcases q2 with q2 | q2 <;> exact vlive_of q2 (by decide) (by decide))
        have h3 := hM2.pl.1
        have h160 := hM2.1.1
        omega
      refine VM.go [23] ⟨_, VM.at (vm_isSign (c := 43) rfl hM2 (fun q1 q2 => (full (Or.inl q2)).elim) (fun q => ?_)), fun _ _ hh => hh⟩
      refine ⟨fun z => absurd rfl z, fun _ => ⟨_, VM.at (vm_isSign (c := 45) rfl hM2 (fun q1 q2 => (full (Or.inr q2)).elim) (fun q => ?_)), fun _ _ hh => hh⟩⟩
      exact ⟨fun _ => h2 s2 v hs2 hM2 hE, fun q => absurd rfl q⟩
    | succ m ih =>
      intro s1 s2 v y y' hs2 hM2 hJ1 hm hE h2
      unfold vpLoop at h2
      have yes : ∀ c : Nat, (c = 43 ∨ c = 45) → vpF s1 = none → vpT s1 = nI c → VM (true, Gx) (D + 6) iX7_added2 23 [some (.ref 58), some (.int v), y, y'] [] s2 post := fun c hc q1 q2 => by
        have hcs : vsign c = true := by rcases hc with rfl | rfl <;> rfl
        have hw := hM2.worth hcs q2
        have hl : vlive s1 := by rcases hc with rfl | rfl <;> exact vlive_of q2 (by decide) (by decide)
        have hops : nI c ∈ vops := by rcases hc with rfl | rfl <;> decide
        rw [if_pos (by rw [Bool.or_eq_true, decide_eq_true_eq, decide_eq_true_eq]; rcases hc with rfl | rfl; exact Or.inl q2; exact Or.inr q2), q2] at h2
        have hJA : vJ 1 (vpAdv b s1) := (vJ_adv hJ1).2 hl q1
        have rest : ∀ x : Int32, (x = if c = 43 then 1 else 0) → VM (true, Gx) (D + 6) iX7_added2 39 [some (.ref 58), some (.int v), y, y'] [.int x] s2 post := fun x hx => by
          refine VM.go [5] ⟨_, VM.at (vm_nextD (d := D + 4) hl hM2 (fun s3 hs3 hM3 => ?_)), fun _ _ hh => hh⟩
          refine ⟨_, VM.at (hone s3 (vpAdv b s1) _ (vpAdv_F q1) (vJ_down hJA) hM3 (fun s4 v2 hs4 hM4 hE4 => ?_)), fun _ _ hh => hh⟩
          have hJ4 := (vpTerm_rel H (vpLev_rel H n) (vpAdv b s1)).2 (vFT_adv b s1) 1 hJA
          have hpr := (vpTerm_rel H2 (vpLev_rel H2 n) (vpAdv b s1)).length_le
          rw [vpAdv_C] at hpr
          obtain ⟨S5, hS5⟩ : ∃ S, S = vpTerm b (vpLev b n) (vpAdv b s1) := ⟨_, rfl⟩
          rw [← hS5] at hM4 hE4 hJ4 hpr h2
          have room := hM4.room hJ4
          have hlen : (vpC (vpAdd (-(nI c)) S5)).length = (vpC S5).length + 1 := by
            rw [vpAdd_room room, List.length_append]; rfl
          have hlen2 : 160 ≤ (vpC (vpAdd (-(nI c)) S5)).length + m := by
            rw [hlen]
            exact Nat.le_trans hm (by rw [Nat.add_assoc, Nat.add_comm 1 m]; exact Nat.add_le_add_right hpr _)
          have hE5 := vEv.bin (t := nI c) hops hE q1 hE4 (fun _ => room)
          have nx := ih (vpAdd (-(nI c)) S5) s4 (vjoin (nI c) v v2) (some (.int x)) (some (.int v2)) ((hs2.tr hs3).tr hs4) hM4 (vJ_add hJ4) hlen2 hE5 h2
          rcases hc with rfl | rfl
          · rw [show vjoin (nI 43) v v2 = v + v2 from rfl] at nx
            exact VM.at (VM.go [5] ⟨fun z => absurd (show x = 0 from z) (by rw [hx]; decide), fun _ => nx⟩)
          · rw [show vjoin (nI 45) v v2 = v - v2 from rfl] at nx
            exact VM.at (VM.go [5] ⟨fun _ => nx, fun z => absurd (show x = 0 by rw [hx]; rfl) z⟩)
        refine VM.go [39] ⟨fun z => ?_, fun z => ?_⟩
        · refine rest 0 ?_
          rw [if_neg (fun e => z (lgc_eq.mpr (by rw [hw, e]; decide)))]
        · refine rest 1 ?_
          have e := lgc_eq.mp z
          rw [hw] at e
          have : c = 43 := (pk_lEQ (b := 43) (by rcases hc with rfl | rfl <;> decide) (by decide)).mp e
          rw [if_pos this]
      refine VM.go [23] ⟨_, VM.at (vm_isSign (c := 43) rfl hM2 (fun q1 q2 => ?_) (fun q => ?_)), fun _ _ hh => hh⟩
      · exact ⟨fun _ => VM.at (yes 43 (Or.inl rfl) q1 q2), fun z => absurd z (by decide)⟩
      · refine ⟨fun z => absurd rfl z, fun _ => ⟨_, VM.at (vm_isSign (c := 45) rfl hM2 (fun q1 q2 => ?_) (fun q' => ?_)), fun _ _ hh => hh⟩⟩
        · exact ⟨fun z => absurd z (by decide), fun _ => VM.at (yes 45 (Or.inr rfl) q1 q2)⟩
        · have n1 : ¬ vpT s1 = 43 := vsg_no (c := 43) rfl hM2 q
          have n2 : ¬ vpT s1 = 45 := vsg_no (c := 45) rfl hM2 q'
          rw [if_neg (by rw [Bool.or_eq_true, decide_eq_true_eq, decide_eq_true_eq]; exact fun z => z.elim n1 n2)] at h2
          exact ⟨fun _ => h2 s2 v hs2 hM2 hE, fun q => absurd rfl q⟩
  refine VM.go [5] ⟨_, VM.at (hone σ s _ hf hJ hM (fun s2 v hs2 hM2 hE2 => ?_)), fun _ _ hh => hh⟩
  have k0 := key 160 (vpTerm b (vpLev b n) s) s2 v none none hs2 hM2 ((vpTerm_rel H (vpLev_rel H n) s).2 hM.FT 0 hJ) (Nat.le_add_left _ _) (hE2.up (Nat.le_succ _)) h
  exact VM.at (VM.go [5] k0)
theorem vm_not2 {m dep1 : Nat} (hm : m + 1 ≤ 5) (hdep : dep1 ≤ dep + 1) (hlo : vMok Gx b t m nm (D + 6) iX7_not3 [some (.ref 58), none, none, none] dep1 (vpNot b (vpLev b m))) (hsum : vMok Gx b t (m + 1) nm (D + 6) iX7_added2 [some (.ref 58), none, none, none] dep (vpSum b (vpLev b (m + 1)))) : vMok Gx b t (m + 1) nm (D + 7) iX7_not2 [some (.ref 58), none, none, none] (dep + 1) (vpNot b (vpLev b (m + 1))) := by
  intro σ s post hf hJ hM h
  have H := vJ_H b
  refine VM.go [52] ⟨_, VM.at (vm_isWord (d := D + 4) (j := 11) (by decide) hM (fun q1 q2 => ?_) (fun q => ?_)), fun _ _ hh => hh⟩
  · have q2 : vpT s = 11 := vkt_T q2 (by decide)
    have hl := vlive_of q2 (by decide) (by decide)
    unfold vpNot at h
    rw [if_pos q2] at h
    have hJA : vJ 1 (vpAdv b s) := (vJ_adv hJ).2 hl q1
    refine ⟨fun z => absurd z (by decide), fun _ => ⟨_, VM.at (vm_opens (d := D + 4) (by omega) hl hM (fun z => absurd z (by omega)) (fun _ s2 hs2 hM2 => ?_)), fun _ _ hh => hh⟩⟩
    refine ⟨fun _ => ?_, fun z => absurd z (by decide)⟩
    rw [show 5 - (m + 1) + 1 = 5 - m by omega] at hM2
    refine VM.at (VM.go [] ⟨_, VM.at (hlo s2 (vpAdv b s) _ (vpAdv_F q1) (vJ_down hJA) hM2 (fun s3 v hs3 hM3 hE3 => ?_)), fun _ _ hh => hh⟩)
    have hJ3 := (vpNot_rel H (vpLev_rel H m) (vpAdv b s)).2 (vFT_adv b s) 1 hJA
    have hx : ∀ S, S = vpNot b (vpLev b m) (vpAdv b s) → vpNot b (vpLev b m) (vpAdv b s) = S := fun S e => e.symm
    obtain ⟨S5, hS5⟩ : ∃ S, S = vpNot b (vpLev b m) (vpAdv b s) := ⟨_, rfl⟩
    have h' : ∀ (σ' : vM) (v : Int32), vagI vMp σ σ' → vMd b t (5 - (m + 1)) nm (vpAdd (-11) S5) σ' → vEv nm (dep + 1) s (vpAdd (-11) S5) v → post (some (.int v)) σ' := by rw [hS5]; exact h
    rw [← hS5] at hM3 hE3 hJ3
    have room := hM3.room hJ3
    have e29 : s3.1 58 29 = nI (5 - m) := hM3.2.2.1
    have hM4 := hM3.opn (op' := 5 - (m + 1))
    rw [show nI (5 - (m + 1)) = s3.1 58 29 - 1 from by rw [e29, show 5 - m = (5 - (m + 1)) + 1 by omega, nI_pred]] at hM4
    have nx := h' _ (if v = 0 then 1 else 0) ((hs2.tr hs3).put rfl) hM4 (((hE3.un (fun _ => room) (fun st => vstep_not st))).up hdep)
    refine ⟨fun z => ?_, fun z => ?_⟩
    · rw [if_neg z] at nx
      exact nx
    · rw [if_pos z] at nx
      exact nx
  · have n11 : ¬ vpT s = 11 := vkt_no hM q (by decide) (by decide)
    unfold vpNot at h
    rw [if_neg n11] at h
    dsimp only at h
    refine ⟨fun _ => ?_, fun z => absurd rfl z⟩
    refine VM.at (VM.go [77] ⟨_, VM.at (hsum σ s _ hf hJ hM (fun s2 v hs2 hM2 hE2 => ?_)), fun _ _ hh => hh⟩)
    have hJ2 := (vpSum_rel H (vpLev_rel H (m + 1)) s).2 hM.FT 0 hJ
    obtain ⟨S1, hS1⟩ : ∃ S, S = vpSum b (vpLev b (m + 1)) s := ⟨_, rfl⟩
    rw [← hS1] at hM2 hE2 hJ2 h
    have yes : ∀ c : Nat, (c = 60 ∨ c = 61) → vpF S1 = none → vpT S1 = nI c → VM (true, Gx) (D + 7) iX7_not2 77 [some (.ref 58), some (.int v), none, none] [] s2 post := fun c hc q1 q2 => by
      have hcs : vsign c = true := by rcases hc with rfl | rfl <;> rfl
      have hw := hM2.worth hcs q2
      have hl : vlive S1 := by rcases hc with rfl | rfl <;> exact vlive_of q2 (by decide) (by decide)
      have hops : nI c ∈ vops := by rcases hc with rfl | rfl <;> decide
      rw [if_pos (by rcases hc with rfl | rfl; exact Or.inl q2; exact Or.inr q2), q2] at h
      have hJA : vJ 1 (vpAdv b S1) := (vJ_adv hJ2).2 hl q1
      have rest : ∀ x : Int32, (x = if c = 60 then 1 else 0) → VM (true, Gx) (D + 7) iX7_not2 93 [some (.ref 58), some (.int v), none, none] [.int x] s2 post := fun x hx => by
        refine VM.go [] ⟨_, VM.at (vm_nextD (d := D + 5) hl hM2 (fun s3 hs3 hM3 => ?_)), fun _ _ hh => hh⟩
        refine ⟨_, VM.at (hsum s3 (vpAdv b S1) _ (vpAdv_F q1) (vJ_down hJA) hM3 (fun s4 v2 hs4 hM4 hE4 => ?_)), fun _ _ hh => hh⟩
        have hJ4 := (vpSum_rel H (vpLev_rel H (m + 1)) (vpAdv b S1)).2 (vFT_adv b S1) 1 hJA
        obtain ⟨S5, hS5⟩ : ∃ S, S = vpSum b (vpLev b (m + 1)) (vpAdv b S1) := ⟨_, rfl⟩
        rw [← hS5] at hM4 hE4 hJ4 h
        have room := hM4.room hJ4
        have hE5 := vEv.bin (t := nI c) hops (hE2.up (Nat.le_succ _)) q1 hE4 (fun _ => room)
        have nx := h s4 (vjoin (nI c) v v2) ((hs2.tr hs3).tr hs4) hM4 hE5
        rcases hc with rfl | rfl
        · have ej : vjoin (nI 60) v v2 = if v < v2 then 1 else 0 := rfl
          rw [ej] at nx
          refine ⟨fun z => absurd (show x = 0 from z) (by rw [hx]; decide), fun _ => ⟨fun z => ?_, fun z => ?_⟩⟩
          · rw [if_neg (Int32.not_lt.mpr z)] at nx
            exact nx
          · rw [if_pos (Int32.not_le.mp z)] at nx
            exact nx
        · have ej : vjoin (nI 61) v v2 = if v = v2 then 1 else 0 := rfl
          rw [ej] at nx
          refine ⟨fun _ => ⟨fun z => ?_, fun z => ?_⟩, fun z => absurd (show x = 0 by rw [hx]; rfl) z⟩
          · rw [if_neg z] at nx
            exact nx
          · rw [if_pos z] at nx
            exact nx
      refine VM.go [93] ⟨fun z => ?_, fun z => ?_⟩
      · refine rest 0 ?_
        rw [if_neg (fun e => z (lgc_eq.mpr (by rw [hw, e]; decide)))]
      · refine rest 1 ?_
        have e := lgc_eq.mp z
        rw [hw] at e
        have : c = 60 := (pk_lEQ (b := 60) (by rcases hc with rfl | rfl <;> decide) (by decide)).mp e
        rw [if_pos this]
    refine VM.at (VM.go [77] ⟨_, VM.at (vm_isSign (c := 60) rfl hM2 (fun q1 q2 => ?_) (fun q => ?_)), fun _ _ hh => hh⟩)
    · exact ⟨fun _ => VM.at (yes 60 (Or.inl rfl) q1 q2), fun z => absurd z (by decide)⟩
    · refine ⟨fun z => absurd rfl z, fun _ => ⟨_, VM.at (vm_isSign (c := 61) rfl hM2 (fun q1 q2 => ?_) (fun q' => ?_)), fun _ _ hh => hh⟩⟩
      · exact ⟨fun _ => VM.at (yes 61 (Or.inr rfl) q1 q2), fun z => absurd z (by decide)⟩
      · have n1 : ¬ vpT S1 = 60 := vsg_no (c := 60) rfl hM2 q
        have n2 : ¬ vpT S1 = 61 := vsg_no (c := 61) rfl hM2 q'
        rw [if_neg (fun z => z.elim n1 n2)] at h
        exact ⟨fun z => absurd rfl z, fun _ => h s2 v hs2 hM2 (hE2.up (Nat.le_succ _))⟩
theorem vm_both2 (hone : vMok Gx b t n nm (D + 7) iX7_not2 [some (.ref 58), none, none, none] dep (vpNot b (vpLev b n))) : vMok Gx b t n nm (D + 8) iX7_both2 [some (.ref 58), none, none] (dep + 1) (vpBoth b (vpLev b n)) := by
  intro σ s post hf hJ hM h
  have H := vJ_H b
  have H2 := vpre_H b
  have h160 := hM.1.1
  unfold vpBoth at h
  have key : ∀ m s1 s2 v (y : Option Value), vagI vMp σ s2 → vMd b t (5 - n) nm s1 s2 → vJ 0 s1 → 160 ≤ (vpC s1).length + m → vEv nm (dep + 1) s s1 v → (∀ σ' w, vagI vMp σ σ' → vMd b t (5 - n) nm (vpLoop (fun s => decide (vpT s = 10)) (fun s => vpAdd (-10) (vpNot b (vpLev b n) (vpAdv b s))) m s1) σ' → vEv nm (dep + 1) s (vpLoop (fun s => decide (vpT s = 10)) (fun s => vpAdd (-10) (vpNot b (vpLev b n) (vpAdv b s))) m s1) w → post (some (.int w)) σ') → VM (true, Gx) (D + 8) iX7_both2 5 [some (.ref 58), some (.int v), y] [] s2 post := by
    intro m
    induction m with
    | zero =>
      intro s1 s2 v y hs2 hM2 hJ1 hm hE h2
      refine VM.go [] ⟨_, VM.at (vm_isWord (d := D + 5) (j := 10) (by decide) hM2 (fun q1 q2 => ?_) (fun q => ?_)), fun _ _ hh => hh⟩
      · exfalso
        have q2 : vpT s1 = 10 := vkt_T q2 (by decide)
        have h1 := hJ1.2 (vlive_of q2 (by decide) (by decide))
        have h3 := hM2.pl.1
        omega
      · exact ⟨fun _ => h2 s2 v hs2 hM2 hE, fun q => absurd rfl q⟩
    | succ m ih =>
      intro s1 s2 v y hs2 hM2 hJ1 hm hE h2
      unfold vpLoop at h2
      refine VM.go [5] ⟨_, VM.at (vm_isWord (d := D + 5) (j := 10) (by decide) hM2 (fun q1 q2 => ?_) (fun q => ?_)), fun _ _ hh => hh⟩
      · have q2 : vpT s1 = 10 := vkt_T q2 (by decide)
        have hl := vlive_of q2 (by decide) (by decide)
        rw [if_pos (decide_eq_true q2)] at h2
        have hJA : vJ 1 (vpAdv b s1) := (vJ_adv hJ1).2 hl q1
        refine ⟨fun q => absurd q (by decide), fun _ => ⟨_, VM.at (vm_nextD (d := D + 6) hl hM2 (fun s3 hs3 hM3 => ?_)), fun _ _ hh => hh⟩⟩
        refine ⟨_, VM.at (hone s3 (vpAdv b s1) _ (vpAdv_F q1) (vJ_down hJA) hM3 (fun s4 v2 hs4 hM4 hE4 => ?_)), fun _ _ hh => hh⟩
        have hJ4 := (vpNot_rel H (vpLev_rel H n) (vpAdv b s1)).2 (vFT_adv b s1) 1 hJA
        have hpr := (vpNot_rel H2 (vpLev_rel H2 n) (vpAdv b s1)).length_le
        rw [vpAdv_C] at hpr
        obtain ⟨S5, hS5⟩ : ∃ S, S = vpNot b (vpLev b n) (vpAdv b s1) := ⟨_, rfl⟩
        rw [← hS5] at hM4 hE4 hJ4 hpr h2
        have room := hM4.room hJ4
        have hlen : (vpC (vpAdd (-10) S5)).length = (vpC S5).length + 1 := by
          rw [vpAdd_room room, List.length_append]; rfl
        have hlen2 : 160 ≤ (vpC (vpAdd (-10) S5)).length + m := by
          rw [hlen]
          exact Nat.le_trans hm (by rw [Nat.add_assoc, Nat.add_comm 1 m]; exact Nat.add_le_add_right hpr _)
        have hE5 := vEv.bin (t := 10) (by decide) hE q1 hE4 (fun _ => room)
        have next := ih (vpAdd (-10) S5) s4 (vjoin 10 v v2)
        have nx := next (some (.int v2)) ((hs2.tr hs3).tr hs4) hM4 (vJ_add hJ4) hlen2 hE5 h2
        have ej : vjoin 10 v v2 = if v = 0 ∨ v2 = 0 then 0 else 1 := rfl
        rw [ej] at nx
        refine VM.at (VM.go [5] ⟨fun z => ?_, fun z => ⟨fun z2 => ?_, fun z2 => ?_⟩⟩)
        · rw [if_pos (Or.inl z)] at nx
          exact nx
        · rw [if_pos (Or.inr z2)] at nx
          exact nx
        · rw [if_neg (fun q => q.elim z z2)] at nx
          exact nx
      · have hp : ¬ vpT s1 = 10 := vkt_no hM2 q (by decide) (by decide)
        rw [if_neg (fun z => hp (of_decide_eq_true z))] at h2
        exact ⟨fun _ => h2 s2 v hs2 hM2 hE, fun q => absurd rfl q⟩
  refine VM.go [5] ⟨_, VM.at (hone σ s _ hf hJ hM (fun s2 v hs2 hM2 hE2 => ?_)), fun _ _ hh => hh⟩
  have k0 := key 160 (vpNot b (vpLev b n) s) s2 v none hs2 hM2 ((vpNot_rel H (vpLev_rel H n) s).2 hM.FT 0 hJ) (Nat.le_add_left _ _) (hE2.up (Nat.le_succ _)) h
  exact VM.at (VM.go [5] k0)
theorem vm_either2 (hone : vMok Gx b t n nm (D + 8) iX7_both2 [some (.ref 58), none, none] dep (vpBoth b (vpLev b n))) : vMok Gx b t n nm (D + 9) iX7_either2 [some (.ref 58), none, none] (dep + 1) (vpEither b (vpLev b n)) := by
  intro σ s post hf hJ hM h
  have H := vJ_H b
  have H2 := vpre_H b
  have h160 := hM.1.1
  unfold vpEither at h
  have key : ∀ m s1 s2 v (y : Option Value), vagI vMp σ s2 → vMd b t (5 - n) nm s1 s2 → vJ 0 s1 → 160 ≤ (vpC s1).length + m → vEv nm (dep + 1) s s1 v → (∀ σ' w, vagI vMp σ σ' → vMd b t (5 - n) nm (vpLoop (fun s => decide (vpT s = 9)) (fun s => vpAdd (-9) (vpBoth b (vpLev b n) (vpAdv b s))) m s1) σ' → vEv nm (dep + 1) s (vpLoop (fun s => decide (vpT s = 9)) (fun s => vpAdd (-9) (vpBoth b (vpLev b n) (vpAdv b s))) m s1) w → post (some (.int w)) σ') → VM (true, Gx) (D + 9) iX7_either2 5 [some (.ref 58), some (.int v), y] [] s2 post := by
    intro m
    induction m with
    | zero =>
      intro s1 s2 v y hs2 hM2 hJ1 hm hE h2
      refine VM.go [] ⟨_, VM.at (vm_isWord (d := D + 6) (j := 9) (by decide) hM2 (fun q1 q2 => ?_) (fun q => ?_)), fun _ _ hh => hh⟩
      · exfalso
        have q2 : vpT s1 = 9 := vkt_T q2 (by decide)
        have h1 := hJ1.2 (vlive_of q2 (by decide) (by decide))
        have h3 := hM2.pl.1
        omega
      · exact ⟨fun _ => h2 s2 v hs2 hM2 hE, fun q => absurd rfl q⟩
    | succ m ih =>
      intro s1 s2 v y hs2 hM2 hJ1 hm hE h2
      unfold vpLoop at h2
      refine VM.go [5] ⟨_, VM.at (vm_isWord (d := D + 6) (j := 9) (by decide) hM2 (fun q1 q2 => ?_) (fun q => ?_)), fun _ _ hh => hh⟩
      · have q2 : vpT s1 = 9 := vkt_T q2 (by decide)
        have hl := vlive_of q2 (by decide) (by decide)
        rw [if_pos (decide_eq_true q2)] at h2
        have hJA : vJ 1 (vpAdv b s1) := (vJ_adv hJ1).2 hl q1
        refine ⟨fun q => absurd q (by decide), fun _ => ⟨_, VM.at (vm_nextD (d := D + 7) hl hM2 (fun s3 hs3 hM3 => ?_)), fun _ _ hh => hh⟩⟩
        refine ⟨_, VM.at (hone s3 (vpAdv b s1) _ (vpAdv_F q1) (vJ_down hJA) hM3 (fun s4 v2 hs4 hM4 hE4 => ?_)), fun _ _ hh => hh⟩
        have hJ4 := (vpBoth_rel H (vpLev_rel H n) (vpAdv b s1)).2 (vFT_adv b s1) 1 hJA
        have hpr := (vpBoth_rel H2 (vpLev_rel H2 n) (vpAdv b s1)).length_le
        rw [vpAdv_C] at hpr
        obtain ⟨S5, hS5⟩ : ∃ S, S = vpBoth b (vpLev b n) (vpAdv b s1) := ⟨_, rfl⟩
        rw [← hS5] at hM4 hE4 hJ4 hpr h2
        have room := hM4.room hJ4
        have hlen : (vpC (vpAdd (-9) S5)).length = (vpC S5).length + 1 := by
          rw [vpAdd_room room, List.length_append]; rfl
        have hlen2 : 160 ≤ (vpC (vpAdd (-9) S5)).length + m := by
          rw [hlen]
          exact Nat.le_trans hm (by rw [Nat.add_assoc, Nat.add_comm 1 m]; exact Nat.add_le_add_right hpr _)
        have hE5 := vEv.bin (t := 9) (by decide) hE q1 hE4 (fun _ => room)
        have next := ih (vpAdd (-9) S5) s4 (vjoin 9 v v2)
        have nx := next (some (.int v2)) ((hs2.tr hs3).tr hs4) hM4 (vJ_add hJ4) hlen2 hE5 h2
        have ej : vjoin 9 v v2 = if v = 0 ∧ v2 = 0 then 0 else 1 := rfl
        rw [ej] at nx
        refine VM.at (VM.go [5] ⟨fun z => ?_, fun z => ⟨fun z2 => ?_, fun z2 => ?_⟩⟩)
        · rw [if_neg (fun q => z q.1)] at nx
          exact nx
        · rw [if_pos ⟨z, z2⟩] at nx
          exact nx
        · rw [if_neg (fun q => z2 q.2)] at nx
          exact nx
      · have hp : ¬ vpT s1 = 9 := vkt_no hM2 q (by decide) (by decide)
        rw [if_neg (fun z => hp (of_decide_eq_true z))] at h2
        exact ⟨fun _ => h2 s2 v hs2 hM2 hE, fun q => absurd rfl q⟩
  refine VM.go [5] ⟨_, VM.at (hone σ s _ hf hJ hM (fun s2 v hs2 hM2 hE2 => ?_)), fun _ _ hh => hh⟩
  have k0 := key 160 (vpBoth b (vpLev b n) s) s2 v none hs2 hM2 ((vpBoth_rel H (vpLev_rel H n) s).2 hM.FT 0 hJ) (Nat.le_add_left _ _) (hE2.up (Nat.le_succ _)) h
  exact VM.at (VM.go [5] k0)
theorem vm_atom2 {m dep1 dep2 : Nat} (hm : m + 1 ≤ 5) (hdep : 1 ≤ dep) (hd1 : dep1 ≤ dep) (hd2 : dep2 ≤ dep) (hone : vMok Gx b t m nm (D + 9) iX7_atom3 [some (.ref 58), none] dep1 (vpOne b (vpLev b m))) (heith : vMok Gx b t m nm (D + 9) iX7_either3 [some (.ref 58), none, none] dep2 (vpEither b (vpLev b m))) : vMok Gx b t (m + 1) nm (D + 10) iX7_atom2 [some (.ref 58), none] dep (vpOne b (vpLev b (m + 1))) := by
  intro σ s post hf hJ hM h
  have H := vJ_H b
  unfold vpOne at h
  have rest : ¬ vpT s = 45 → ¬ vpT s = 40 → VM (true, Gx) (D + 10) iX7_atom2 95 [some (.ref 58), some (.int 0)] [] σ post := fun n45 n40 => by
    have e30 : σ.1 58 30 = 0 := hM.2.2.2.1.trans (vbad_0 hf)
    have failE : ¬ vpT s = 1 → ¬ vpT s = 2 → ∀ (post' : vQ), (∀ s2, vagI vMp σ s2 → post (some (.int 0)) s2 → post' none s2) → VM (true, Gx) (D + 9) iX7_fail 0 [some (.ref 58)] [] σ post' := fun n1 n2 post' k => by
      rw [if_neg n1, if_neg n2, if_neg n45, if_neg n40] at h
      exact vm_fail hM (fun s2 hs2 hM2 => k s2 hs2 (h s2 0 hs2 hM2 (vEv.bad (vpFail_no s))))
    rcases hM.tok hf with ⟨k1, k2, k3, k4⟩ | ⟨k1, k2⟩ | ⟨k1, k2, k3, k4⟩
    · have hl := vlive_of k2 (by decide) (by decide)
      rw [if_pos k2, vpAdv_add hf] at h
      have hJA : vJ 1 (vpAdv b s) := (vJ_adv hJ).2 hl hf
      have e2 : (σ.2 58 28).toInt32 = nI (vpV s) := by rw [k4, lN_i]
      have room : (vpC s).length < 160 := by
        have h1 := hJ.2 hl
        have h2 := hM.pl.1
        have h3 := hM.1.1
        omega
      have nx := fun s2 hs2 hM2 => h s2 (nI (vpV s)) hs2 hM2 (by
        have := (vEv.one (nm := nm) (c := nI (vpV s)) (v := nI (vpV s)) room hdep (fun st hst => vstep_num k3 st hst)).adv (b := b) hf
        rw [vpAdv_add hf] at this
        exact this)
      rw [← e2] at nx
      exact VM.go [] ⟨fun q => absurd e30 q, fun _ => ⟨fun q => absurd k1 q, fun _ => ⟨_, VM.at (vm_nextD (d := D + 8) hl hM (fun s2 hs2 hM2 => by exact nx s2 hs2 hM2)), fun _ _ hh => hh⟩⟩⟩
    · have nn2 : ¬ σ.1 58 26 = 2 := by rw [k1]; decide
      refine VM.go [] ⟨fun q => absurd e30 q, fun _ => ⟨fun _ => ⟨fun q => absurd e30 q, fun _ => ⟨fun q => absurd k1 q, fun _ => ⟨_, VM.at (vm_name (d := D + 6) hf hM (fun j hj z => ?_) (fun hno s2 hs2 hM2 => ?_)), fun _ _ hh => hh⟩⟩⟩, fun q => absurd q nn2⟩⟩
      · obtain ⟨z1, z2⟩ := (vkt_nm hj).mp z
        have hl := vlive_of z1 (by decide) (by decide)
        rw [if_neg (by rw [z1]; decide), if_pos z1, vpAdv_add hf, z2] at h
        have room : (vpC s).length < 160 := by
          have h1 := hJ.2 hl
          have h2 := hM.pl.1
          have h3 := hM.1.1
          omega
        have nx := fun s2 hs2 hM2 => h s2 (nm j) hs2 hM2 (by
          have := (vEv.one (nm := nm) (c := -1 - nI j) (v := nm j) room hdep (fun st hst => vstep_name j hj st hst)).adv (b := b) hf
          rw [vpAdv_add hf] at this
          exact this)
        exact ⟨fun q => absurd e30 q, fun _ => ⟨_, VM.at (vm_nextD (d := D + 8) hl hM (fun s2 hs2 hM2 => by exact nx s2 hs2 hM2)), fun _ _ hh => hh⟩⟩
      · have hV : ¬ vpV s < 6 := fun q => hno (vpV s) q ((vkt_nm q).mpr ⟨by rw [k2]; exact if_pos q, rfl⟩)
        have hne : ¬ vpT s = 1 ∧ ¬ vpT s = 2 := by
          rw [k2]
          unfold vwtk
          rw [if_neg hV]
          by_cases z : vpV s < 12
          · rw [if_pos z]
            exact ⟨fun q => by have := (nI_eq (b := 1) (by omega) (by decide)).mp q; omega, fun q => by have := (nI_eq (b := 2) (by omega) (by decide)).mp q; omega⟩
          · rw [if_neg z]; exact ⟨by decide, by decide⟩
        rw [if_neg hne.1, if_neg hne.2, if_neg n45, if_neg n40] at h
        have e30' : s2.1 58 30 = 1 := hM2.2.2.2.1.trans (by
          have : vpF (vpFail s) = some (vpP s) := by rw [vpFail_F, hf]
          exact vbad_1 this)
        exact ⟨fun _ => h s2 0 hs2 hM2 (vEv.bad (vpFail_no s)), fun q => absurd (show s2.1 58 30 = 0 from q) (by rw [e30']; decide)⟩
    · refine VM.go [] ⟨fun q => absurd e30 q, fun _ => ⟨fun _ => ⟨fun q => absurd e30 q, fun _ => ⟨fun _ => ⟨_, VM.at (failE k3 k4 _ (fun s2 hs2 hp => ?_)), fun _ _ hh => hh⟩, fun q => absurd q k2⟩⟩, fun q => absurd q k1⟩⟩
      exact hp
  refine VM.go [95] ⟨_, VM.at (vm_isSign (c := 45) rfl hM (fun q1 q2 => ?_) (fun q => ?_)), fun _ _ hh => hh⟩
  · have q2' : vpT s = 45 := q2
    have hl := vlive_of q2' (by decide) (by decide)
    rw [if_neg (by rw [q2']; decide), if_neg (by rw [q2']; decide), if_pos q2'] at h
    have hJA : vJ 1 (vpAdv b s) := (vJ_adv hJ).2 hl q1
    refine ⟨fun z => absurd z (by decide), fun _ => ⟨_, VM.at (vm_opens (d := D + 7) (by omega) hl hM (fun z => absurd z (by omega)) (fun _ s2 hs2 hM2 => ?_)), fun _ _ hh => hh⟩⟩
    refine ⟨fun z => absurd z (by decide), fun _ => ?_⟩
    rw [show 5 - (m + 1) + 1 = 5 - m by omega] at hM2
    refine ⟨_, VM.at (hone s2 (vpAdv b s) _ (vpAdv_F q1) (vJ_down hJA) hM2 (fun s3 v hs3 hM3 hE3 => ?_)), fun _ _ hh => hh⟩
    have hJ3 := (vpOne_rel H (vpLev_rel H m) (vpAdv b s)).2 (vFT_adv b s) 1 hJA
    obtain ⟨S5, hS5⟩ : ∃ S, S = vpOne b (vpLev b m) (vpAdv b s) := ⟨_, rfl⟩
    have h' : ∀ (σ' : vM) (v : Int32), vagI vMp σ σ' → vMd b t (5 - (m + 1)) nm (vpAdd (-12) S5) σ' → vEv nm dep s (vpAdd (-12) S5) v → post (some (.int v)) σ' := by rw [hS5]; exact h
    rw [← hS5] at hM3 hE3 hJ3
    have room := hM3.room hJ3
    have e29 : s3.1 58 29 = nI (5 - m) := hM3.2.2.1
    have hM4 := hM3.opn (op' := 5 - (m + 1))
    rw [show nI (5 - (m + 1)) = s3.1 58 29 - 1 from by rw [e29, show 5 - m = (5 - (m + 1)) + 1 by omega, nI_pred]] at hM4
    exact h' _ (-v) ((hs2.tr hs3).put rfl) hM4 ((hE3.un (fun _ => room) (fun st => vstep_neg st)).up hd1)
  · have n45 : ¬ vpT s = 45 := vsg_no (c := 45) rfl hM q
    refine ⟨fun _ => ⟨_, VM.at (vm_isSign (c := 40) rfl hM (fun q1 q2 => ?_) (fun q' => ?_)), fun _ _ hh => hh⟩, fun z => absurd rfl z⟩
    · have q2' : vpT s = 40 := q2
      have hl := vlive_of q2' (by decide) (by decide)
      rw [if_neg (by rw [q2']; decide), if_neg (by rw [q2']; decide), if_neg n45, if_pos q2'] at h
      have hJA : vJ 1 (vpAdv b s) := (vJ_adv hJ).2 hl q1
      refine ⟨fun z => absurd z (by decide), fun _ => ⟨_, VM.at (vm_opens (d := D + 7) (by omega) hl hM (fun z => absurd z (by omega)) (fun _ s2 hs2 hM2 => ?_)), fun _ _ hh => hh⟩⟩
      refine ⟨fun z => absurd z (by decide), fun _ => ?_⟩
      rw [show 5 - (m + 1) + 1 = 5 - m by omega] at hM2
      refine ⟨_, VM.at (heith s2 (vpAdv b s) _ (vpAdv_F q1) (vJ_down hJA) hM2 (fun s3 v hs3 hM3 hE3 => ?_)), fun _ _ hh => hh⟩
      have hJ3 := (vpEither_rel H (vpLev_rel H m) (vpAdv b s)).2 (vFT_adv b s) 1 hJA
      obtain ⟨S5, hS5⟩ : ∃ S, S = vpEither b (vpLev b m) (vpAdv b s) := ⟨_, rfl⟩
      have h' : ∀ (σ' : vM) (v : Int32), vagI vMp σ σ' → vMd b t (5 - (m + 1)) nm (vpExp b 41 S5) σ' → vEv nm dep s (vpExp b 41 S5) v → post (some (.int v)) σ' := by rw [hS5]; exact h
      rw [← hS5] at hM3 hE3 hJ3
      have down : ∀ S (s4 : vM), vMd b t (5 - m) nm S s4 → vMd b t (5 - (m + 1)) nm S (vput s4 58 29 (s4.1 58 29 - 1)) := fun S s4 hM4 => by
        have e29 : s4.1 58 29 = nI (5 - m) := hM4.2.2.1
        have := hM4.opn (op' := 5 - (m + 1))
        rw [show nI (5 - (m + 1)) = s4.1 58 29 - 1 from by rw [e29, show 5 - m = (5 - (m + 1)) + 1 by omega, nI_pred]] at this
        exact this
      refine ⟨_, VM.at (vm_isSign (c := 41) rfl hM3 (fun z1 z2 => ?_) (fun z => ?_)), fun _ _ hh => hh⟩
      · have z2' : vpT S5 = 41 := z2
        have hl5 := vlive_of z2' (by decide) (by decide)
        have hM4 := down S5 s3 hM3
        have hs4 : vagI vMp σ (vput s3 58 29 (s3.1 58 29 - 1)) := (hs2.tr hs3).put rfl
        have e30 : (vput s3 58 29 (s3.1 58 29 - 1)).1 58 30 = 0 := hM4.2.2.2.1.trans (vbad_0 z1)
        unfold vpExp at h'
        rw [if_pos z2'] at h'
        refine ⟨fun _ => ⟨fun q => absurd e30 q, fun _ => ⟨_, VM.at (vm_nextD (d := D + 8) hl5 hM4 (fun s5 hs5 hM5 => ?_)), fun _ _ hh => hh⟩⟩, fun q => absurd q (by decide)⟩
        exact h' s5 v (hs4.tr hs5) hM5 ((hE3.pre.adv z1).up hd2)
      · have z' : ¬ vpT S5 = 41 := vsg_no (c := 41) rfl hM3 z
        unfold vpExp at h'
        rw [if_neg z'] at h'
        refine ⟨fun q => absurd rfl q, fun _ => ⟨_, VM.at (vm_fail hM3 (fun s4 hs4 hM4 => ?_)), fun _ _ hh => hh⟩⟩
        have hM5 := down (vpFail S5) s4 hM4
        have e30 : ¬ (vput s4 58 29 (s4.1 58 29 - 1)).1 58 30 = 0 := fun q => vpFail_no S5 (vbad_i.mp (hM5.2.2.2.1.symm.trans q))
        exact ⟨fun _ => h' _ v (((hs2.tr hs3).tr hs4).put rfl) hM5 (vEv.bad (vpFail_no S5)), fun q => absurd q e30⟩
    · exact ⟨fun _ => VM.at (rest n45 (vsg_no (c := 40) rfl hM q')), fun z => absurd rfl z⟩
end RL2
