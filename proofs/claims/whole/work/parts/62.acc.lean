/-! ===== an accepted text tells a number, part by part ===== -/
def vGd (b : List Nat) (f : vPS → vPS) : Prop := (∀ s, vJI s (f s)) ∧ (∀ s g, vpF s = some g → vpF (f s) = some g) ∧ (∀ s, vpl b s → vpl b (f s)) ∧ ∀ s, vokT s → vokT (f s)
theorem vGd_of {b : List Nat} {f : vPS → vPS} (h : ∀ I, vpRel b I → ∀ s, I s (f s)) : vGd b f :=
  ⟨fun s => h _ (vJ_H b) s, fun s => h _ (vstk_H b) s, fun s => h (fun s t => vpl b s → vpl b t) (vp_simH (fun s q => q) (fun h1 h2 q => h2 (h1 q)) (fun s q => vpl_adv q) (fun c s q => q) (fun s q => vpl_fail q)) s, fun s => h (fun s t => vokT s → vokT t) (vp_simH (fun s q => q) (fun h1 h2 q => h2 (h1 q)) (fun s _ => vokT_adv b s) (fun c s q => q) (fun s _ => vokT_fail s)) s⟩
theorem vGd_back {b : List Nat} {f : vPS → vPS} (h : vGd b f) {s : vPS} (hf : vpF (f s) = none) : vpF s = none := by
  cases hs : vpF s with
  | none => rfl
  | some g => rw [h.2.1 s g hs] at hf; cases hf
/-- with k ones to spare, no fault -/
def vPg (b : List Nat) (k : Nat) (s : vPS) : Prop := vpF s = none ∧ vFT s ∧ vJ k s ∧ vpl b s ∧ vokT s
def vEx (b : List Nat) (nm : Nat → Int32) (dep : Nat) (f : vPS → vPS) : Prop := ∀ s, vPg b 0 s → vpF (f s) = none → ∃ v, vEv nm dep s (f s) v
theorem vpLev_0 (b : List Nat) : vpLev b 0 = none := rfl
theorem vpLev_s (b : List Nat) (n : Nat) : vpLev b (n + 1) = some (vpOne b (vpLev b n), vpEither b (vpLev b n), vpNot b (vpLev b n)) := rfl
theorem vpAdd_F (c : Int32) (s : vPS) : vpF (vpAdd c s) = vpF s := rfl
theorem vpAdv_back {b : List Nat} {s : vPS} (h : vpF (vpAdv b s) = none) : vpF s = none := by
  cases hs : vpF s with
  | none => rfl
  | some g => unfold vpAdv at h; rw [hs] at h; cases h
section EX
variable {b : List Nat} {nm : Nat → Int32} {dep : Nat} {f : vPS → vPS}
theorem vPg.adv {s : vPS} (h : vPg b 0 s) (hl : vlive s) : vPg b 1 (vpAdv b s) := ⟨vpAdv_F h.1, vFT_adv b s, (vJ_adv h.2.2.1).2 hl h.1, vpl_adv h.2.2.2.1, vokT_adv b s⟩
theorem vPg.dn {k : Nat} {s : vPS} (h : vPg b (k + 1) s) : vPg b k s := ⟨h.1, h.2.1, vJ_down h.2.2.1, h.2.2.2⟩
theorem vPg.via {k : Nat} {s : vPS} (hg : vGd b f) (h : vPg b k s) (hf : vpF (f s) = none) : vPg b k (f s) := ⟨hf, (hg.1 s).1 h.2.1, (hg.1 s).2 h.2.1 k h.2.2.1, hg.2.2.1 s h.2.2.2.1, hg.2.2.2 s h.2.2.2.2⟩
theorem vPg.add {k : Nat} {c : Int32} {s : vPS} (h : vPg b (k + 1) s) : vPg b k (vpAdd c s) := ⟨h.1, h.2.1, vJ_add h.2.2.1, h.2.2.2.1, h.2.2.2.2⟩
theorem vPg.room {s : vPS} (hb : b.length ≤ 160) (h : vPg b 1 s) : (vpC s).length < 160 := by
  have h1 := h.2.2.1.1
  have h2 := h.2.2.2.1.1
  omega
theorem vEx_loop {P : vPS → Bool} {F : vPS → vPS} (hb : b.length ≤ 160) (hg : vGd b f) (hx : vEx b nm dep f) (hF : ∀ s, P s = true → ∃ t, t ∈ vops ∧ vlive s ∧ F s = vpAdd (-t) (f (vpAdv b s))) (hL : ∀ m s g, vpF s = some g → vpF (vpLoop P F m s) = some g) : ∀ m s0 s v, vEv nm (dep + 1) s0 s v → vPg b 0 s → vpF (vpLoop P F m s) = none → ∃ w, vEv nm (dep + 1) s0 (vpLoop P F m s) w := by
  intro m
  induction m with
  | zero => exact fun s0 s v hE _ _ => ⟨v, hE⟩
  | succ m ih =>
    intro s0 s v hE hp hn
    unfold vpLoop at hn ⊢
    by_cases hP : P s = true
    · rw [if_pos hP] at hn ⊢
      obtain ⟨t, ht, hl, eF⟩ := hF s hP
      have hA := hp.adv hl
      have hn2 : vpF (F s) = none := by
        cases hs : vpF (F s) with
        | none => rfl
        | some g => rw [hL m _ g hs] at hn; cases hn
      rw [eF] at hn hn2 ⊢
      have hn3 : vpF (f (vpAdv b s)) = none := hn2
      obtain ⟨v2, hE2⟩ := hx _ hA.dn hn3
      have h3 := hA.via hg hn3
      exact ih s0 _ _ (vEv.bin ht hE hp.1 hE2 (fun _ => h3.room hb)) h3.add hn
    · rw [if_neg hP] at hn ⊢
      exact ⟨v, hE⟩
theorem vL_stk {P : vPS → Bool} {F : vPS → vPS} (h : ∀ s g, vpF s = some g → vpF (F s) = some g) : ∀ m s g, vpF s = some g → vpF (vpLoop P F m s) = some g := fun m s g q => (vpLoop_rel (I := fun s t => ∀ g, vpF s = some g → vpF t = some g) (fun s g q => q) (fun h1 h2 g q => h2 g (h1 g q)) (fun s _ g q => h s g q) m s) g q
theorem vF_stk (hg : vGd b f) {c : vPS → Int32} : ∀ s g, vpF s = some g → vpF (vpAdd (c s) (f (vpAdv b s))) = some g := fun s g q => hg.2.1 _ g (by unfold vpAdv; rw [q])
theorem vEx_chain {P : vPS → Bool} {t : Int32} (hb : b.length ≤ 160) (hg : vGd b f) (hx : vEx b nm dep f) (ht : t ∈ vops) (hP : ∀ s, P s = true → vlive s) : vEx b nm (dep + 1) (fun s => vpLoop P (fun s => vpAdd (-t) (f (vpAdv b s))) 160 (f s)) := by
  intro s hp hn
  have hL := vL_stk (P := P) (vF_stk hg (c := fun _ => -t))
  have hn1 : vpF (f s) = none := by
    cases hs : vpF (f s) with
    | none => rfl
    | some g => rw [hL 160 _ g hs] at hn; cases hn
  obtain ⟨v, hE⟩ := hx s hp hn1
  exact vEx_loop hb hg hx (fun s hPs => ⟨t, ht, hP s hPs, rfl⟩) hL 160 s (f s) v (hE.up (Nat.le_succ _)) (hp.via hg hn1) hn
theorem gOne (b : List Nat) (n : Nat) : vGd b (vpOne b (vpLev b n)) := vGd_of (fun _ H s => vpOne_rel H (vpLev_rel H n) s)
theorem gTerm (b : List Nat) (n : Nat) : vGd b (vpTerm b (vpLev b n)) := vGd_of (fun _ H s => vpTerm_rel H (vpLev_rel H n) s)
theorem gSum (b : List Nat) (n : Nat) : vGd b (vpSum b (vpLev b n)) := vGd_of (fun _ H s => vpSum_rel H (vpLev_rel H n) s)
theorem gNot (b : List Nat) (n : Nat) : vGd b (vpNot b (vpLev b n)) := vGd_of (fun _ H s => vpNot_rel H (vpLev_rel H n) s)
theorem gBoth (b : List Nat) (n : Nat) : vGd b (vpBoth b (vpLev b n)) := vGd_of (fun _ H s => vpBoth_rel H (vpLev_rel H n) s)
theorem gEither (b : List Nat) (n : Nat) : vGd b (vpEither b (vpLev b n)) := vGd_of (fun _ H s => vpEither_rel H (vpLev_rel H n) s)
theorem eTerm {n : Nat} (hb : b.length ≤ 160) (h : vEx b nm dep (vpOne b (vpLev b n))) : vEx b nm (dep + 1) (vpTerm b (vpLev b n)) := by
  unfold vpTerm
  exact vEx_chain (t := 42) hb (gOne b n) h (by decide) (fun s q => vlive_of (of_decide_eq_true q) (by decide) (by decide))
theorem eBoth {n : Nat} (hb : b.length ≤ 160) (h : vEx b nm dep (vpNot b (vpLev b n))) : vEx b nm (dep + 1) (vpBoth b (vpLev b n)) := by
  unfold vpBoth
  exact vEx_chain (t := 10) hb (gNot b n) h (by decide) (fun s q => vlive_of (of_decide_eq_true q) (by decide) (by decide))
theorem eEither {n : Nat} (hb : b.length ≤ 160) (h : vEx b nm dep (vpBoth b (vpLev b n))) : vEx b nm (dep + 1) (vpEither b (vpLev b n)) := by
  unfold vpEither
  exact vEx_chain (t := 9) hb (gBoth b n) h (by decide) (fun s q => vlive_of (of_decide_eq_true q) (by decide) (by decide))
theorem eSum {n : Nat} (hb : b.length ≤ 160) (hx : vEx b nm dep (vpTerm b (vpLev b n))) : vEx b nm (dep + 1) (vpSum b (vpLev b n)) := by
  intro s hp hn
  have hg := gTerm b n
  unfold vpSum at hn ⊢
  have hL := vL_stk (P := fun s => decide (vpT s = 43) || decide (vpT s = 45)) (vF_stk hg (c := fun s => -(vpT s)))
  have hn1 : vpF (vpTerm b (vpLev b n) s) = none := by
    cases hs : vpF (vpTerm b (vpLev b n) s) with
    | none => rfl
    | some g => rw [hL 160 _ g hs] at hn; cases hn
  obtain ⟨v, hE⟩ := hx s hp hn1
  refine vEx_loop hb hg hx (fun s hPs => ?_) hL 160 s _ v (hE.up (Nat.le_succ _)) (hp.via hg hn1) hn
  rw [Bool.or_eq_true, decide_eq_true_eq, decide_eq_true_eq] at hPs
  refine ⟨vpT s, ?_, ?_, rfl⟩
  · rcases hPs with q | q <;> rw [q] <;> decide
  · rcases hPs with q | q <;> exact vlive_of q (by decide) (by decide)
theorem eNot {n : Nat} (hb : b.length ≤ 160) (hx : vEx b nm dep (vpSum b (vpLev b n))) {dep1 : Nat} (hlo : ∀ m, n = m + 1 → vEx b nm dep1 (vpNot b (vpLev b m))) (hd : dep1 ≤ dep + 1) : vEx b nm (dep + 1) (vpNot b (vpLev b n)) := by
  intro s hp hn
  unfold vpNot at hn ⊢
  by_cases h11 : vpT s = 11
  · rw [if_pos h11] at hn ⊢
    cases n with
    | zero =>
      rw [vpLev_0] at hn
      exact absurd hn (vpFail_no s)
    | succ m =>
      rw [vpLev_s] at hn ⊢
      dsimp only at hn ⊢
      rw [vpAdd_F] at hn
      have hl := vlive_of h11 (by decide) (by decide)
      have hA := hp.adv hl
      have hg := gNot b m
      have hn' := hn
      obtain ⟨v, hE⟩ := hlo m rfl _ hA.dn hn'
      have h3 := hA.via hg hn'
      exact ⟨_, (hE.un (fun _ => h3.room hb) (fun st => vstep_not st)).up hd⟩
  · rw [if_neg h11] at hn ⊢
    dsimp only at hn ⊢
    have hg := gSum b n
    by_cases h6 : vpT (vpSum b (vpLev b n) s) = 60 ∨ vpT (vpSum b (vpLev b n) s) = 61
    · rw [if_pos h6] at hn ⊢
      rw [vpAdd_F] at hn
      have hn2 := hn
      have hn1 := vpAdv_back (vGd_back hg hn2)
      obtain ⟨v, hE⟩ := hx s hp hn1
      have h1 := hp.via hg hn1
      have hl : vlive (vpSum b (vpLev b n) s) := by rcases h6 with q | q <;> exact vlive_of q (by decide) (by decide)
      have hA := h1.adv hl
      obtain ⟨v2, hE2⟩ := hx _ hA.dn hn2
      have h3 := hA.via hg hn2
      exact ⟨_, vEv.bin (by rcases h6 with q | q <;> rw [q] <;> decide) (hE.up (Nat.le_succ _)) hn1 hE2 (fun _ => h3.room hb)⟩
    · rw [if_neg h6] at hn ⊢
      obtain ⟨v, hE⟩ := hx s hp hn
      exact ⟨v, hE.up (Nat.le_succ _)⟩
theorem eOne {n : Nat} (hb : b.length ≤ 160) (hd1 : 1 ≤ dep) {dep1 dep2 : Nat} (hlo : ∀ m, n = m + 1 → vEx b nm dep1 (vpOne b (vpLev b m)) ∧ vEx b nm dep2 (vpEither b (vpLev b m))) (hd : dep1 ≤ dep) (hd2 : dep2 ≤ dep) : vEx b nm dep (vpOne b (vpLev b n)) := by
  intro s hp hn
  unfold vpOne at hn ⊢
  have room : vlive s → (vpC s).length < 160 := fun hl => by
    have h1 := hp.2.2.1.2 hl
    have h2 := hp.2.2.2.1.1
    omega
  by_cases h1 : vpT s = 1
  · rw [if_pos h1]
    have := (vEv.one (nm := nm) (c := nI (vpV s)) (v := nI (vpV s)) (room (vlive_of h1 (by decide) (by decide))) hd1 (fun st hst => vstep_num (hp.2.2.2.2.1 h1) st hst)).adv (b := b) hp.1
    exact ⟨_, this⟩
  · rw [if_neg h1] at hn ⊢
    by_cases h2 : vpT s = 2
    · rw [if_pos h2]
      have := (vEv.one (nm := nm) (c := -1 - nI (vpV s)) (v := nm (vpV s)) (room (vlive_of h2 (by decide) (by decide))) hd1 (fun st hst => vstep_name _ (hp.2.2.2.2.2 h2) st hst)).adv (b := b) hp.1
      exact ⟨_, this⟩
    · rw [if_neg h2] at hn ⊢
      by_cases h3 : vpT s = 45
      · rw [if_pos h3] at hn ⊢
        cases n with
        | zero =>
          rw [vpLev_0] at hn
          exact absurd hn (vpFail_no s)
        | succ m =>
          rw [vpLev_s] at hn ⊢
          dsimp only at hn ⊢
          rw [vpAdd_F] at hn
          have hA := hp.adv (vlive_of h3 (by decide) (by decide))
          have hg := gOne b m
          have hn' := hn
          obtain ⟨v, hE⟩ := (hlo m rfl).1 _ hA.dn hn'
          have h3 := hA.via hg hn'
          exact ⟨_, (hE.un (fun _ => h3.room hb) (fun st => vstep_neg st)).up hd⟩
      · rw [if_neg h3] at hn ⊢
        by_cases h4 : vpT s = 40
        · rw [if_pos h4] at hn ⊢
          cases n with
          | zero =>
            rw [vpLev_0] at hn
            exact absurd hn (vpFail_no s)
          | succ m =>
            rw [vpLev_s] at hn ⊢
            dsimp only at hn ⊢
            have hA := hp.adv (vlive_of h4 (by decide) (by decide))
            obtain ⟨S, hS⟩ : ∃ S, S = vpEither b (vpLev b m) (vpAdv b s) := ⟨_, rfl⟩
            have hx2 := (hlo m rfl).2 _ hA.dn
            rw [← hS] at hn hx2 ⊢
            unfold vpExp at hn ⊢
            by_cases h5 : vpT S = 41
            · rw [if_pos h5] at hn ⊢
              have hn' := vpAdv_back hn
              obtain ⟨v, hE⟩ := hx2 hn'
              exact ⟨v, (hE.pre.adv hn').up hd2⟩
            · rw [if_neg h5] at hn
              exact absurd hn (vpFail_no _)
        · rw [if_neg h4] at hn
          exact absurd hn (vpFail_no s)
theorem eLev (hb : b.length ≤ 160) : ∀ n, vEx b nm (5 * n + 1) (vpOne b (vpLev b n)) ∧ vEx b nm (5 * n + 6) (vpEither b (vpLev b n)) ∧ vEx b nm (5 * n + 4) (vpNot b (vpLev b n)) := by
  intro n
  induction n with
  | zero =>
    have h1 : vEx b nm 1 (vpOne b (vpLev b 0)) := eOne (dep1 := 0) (dep2 := 0) hb (by decide) (fun m e => by omega) (by decide) (by decide)
    have h4 := eNot (dep1 := 0) hb (eSum hb (eTerm hb h1)) (fun m e => by omega) (by decide)
    exact ⟨h1, eEither hb (eBoth hb h4), h4⟩
  | succ n ih =>
    have h1 : vEx b nm (5 * (n + 1) + 1) (vpOne b (vpLev b (n + 1))) := eOne hb (by omega) (fun m e => by
      have e' : n = m := by omega
      subst e'
      exact ⟨ih.1, ih.2.1⟩) (by omega) (by omega)
    have h4 := eNot hb (eSum hb (eTerm hb h1)) (fun m e => by
      have e' : n = m := by omega
      subst e'
      exact ih.2.2) (by omega)
    exact ⟨h1, eEither hb (eBoth hb h4), h4⟩
end EX
theorem vpsk_ok (b : List Nat) : ∀ k, vokT (vpsk b k) := by
  have hE : ∀ t s, vokT s → vokT (vpExp b t s) := fun t s h => by
    unfold vpExp; split
    · exact vokT_adv b s
    · exact vokT_fail s
  intro k
  induction k with
  | zero => rw [vpsk_0]; unfold vp0; exact vokT_adv b _
  | succ k ih =>
    rw [vpsk_s]
    unfold vpPart
    exact hE _ _ ((gEither b 5).2.2.2 _ (hE _ _ ih))
/-- a part of no fault -/
theorem vpart_run {b : List Nat} {nm : Nat → Int32} {k : Nat} {S S' : vPS} (hb : b.length ≤ 160) (eS : S' = vpExp b 59 (vpEither b (vpLev b 5) (vpExp b (nI (6 + k)) S))) (hp : vPg b 0 S) (hf : vpF S' = none) : ∃ v, vrunC nm ((vpC S').drop (vpC S).length) [] = some [v] := by
  have hlev := (eLev (nm := nm) hb 5).2.1
  have hg := gEither b 5
  obtain ⟨X, hX⟩ : ∃ X, X = vpExp b (nI (6 + k)) S := ⟨_, rfl⟩
  rw [← hX] at eS
  have hex := hlev X
  have hgb := fun q => vGd_back hg (s := X) q
  obtain ⟨E, hE⟩ : ∃ E, E = vpEither b (vpLev b 5) X := ⟨_, rfl⟩
  rw [← hE] at eS hex hgb
  unfold vpExp at eS hX
  by_cases h59 : vpT E = 59
  · rw [if_pos h59] at eS
    have hfE : vpF E = none := vpAdv_back (by rw [← eS]; exact hf)
    have hfX := hgb hfE
    by_cases h6 : vpT S = nI (6 + k)
    · rw [if_pos h6] at hX
      have hpX : vPg b 0 X := by
        rw [hX]
        exact ⟨vpAdv_F hp.1, vFT_adv b S, (vJ_adv hp.2.2.1).1, vpl_adv hp.2.2.2.1, vokT_adv b S⟩
      obtain ⟨v, hv⟩ := hex hpX hfE
      rw [hX] at hv
      refine ⟨v, ?_⟩
      have := (hv.pre.adv (b := b) hfE)
      rw [← eS] at this
      exact vEv_run this hf
    · rw [if_neg h6] at hX
      rw [hX] at hfX
      exact absurd hfX (vpFail_no S)
  · rw [if_neg h59] at eS
    rw [eS] at hf
    exact absurd hf (vpFail_no E)
theorem vacc_F {b : List Nat} (hf : vfault b = none) : vpF (vpsk b 1) = none ∧ vpF (vpsk b 2) = none ∧ vpF (vpsk b 3) = none := by
  have h3 := (vfault_no hf).2
  have h2 : vpF (vpsk b 2) = none := by
    cases hs : vpF (vpsk b 2) with
    | none => rfl
    | some g => rw [vpst_S (vpsk_E3 b) hs] at h3; cases h3
  have h1 : vpF (vpsk b 1) = none := by
    cases hs : vpF (vpsk b 1) with
    | none => rfl
    | some g => rw [vpst_S (vpsk_E2 b) hs] at h2; cases h2
  exact ⟨h1, h2, h3⟩
theorem vacc_wf {b : List Nat} (hb : b.length ≤ 160) (hf : vfault b = none) : vWf (vcomp b) := by
  obtain ⟨h1, h2, h3⟩ := vacc_F hf
  have pg : ∀ k, vpF (vpsk b k) = none → vPg b 0 (vpsk b k) := fun k q => ⟨q, vpsk_FT b k, vpsk_J b k, vpl_sk b k, vpsk_ok b k⟩
  intro p hp nm
  rcases (show p = 0 ∨ p = 1 ∨ p = 2 by omega) with h | h | h
  · obtain ⟨v, hv⟩ := vpart_run (nm := nm) hb (vpsk_E1 b) (pg 0 (vpsk0_F b)) h1
    have c00 : vpC (vpsk b 0) = [] := by rw [vpsk_0]; unfold vp0; rw [vpAdv_C]
    rw [c00] at hv
    refine ⟨v, ?_⟩
    rw [h, vcomp_0]
    exact hv
  · obtain ⟨v, hv⟩ := vpart_run (nm := nm) hb (vpsk_E2 b) (pg 1 h1) h2
    refine ⟨v, ?_⟩
    rw [h, vcomp_1]
    exact hv
  · obtain ⟨v, hv⟩ := vpart_run (nm := nm) hb (vpsk_E3 b) (pg 2 h2) h3
    refine ⟨v, ?_⟩
    rw [h, vcomp_2]
    exact hv
theorem vneg6 {x : Int32} (h1 : -6 ≤ x) (h2 : x < 0) : ∃ j, j < 6 ∧ (-1 - x).toNatClampNeg = j ∧ (j = 3 → x = -4) := by
  rw [Int32.le_iff_toInt_le, show (-6 : Int32).toInt = -6 from by decide] at h1
  rw [Int32.lt_iff_toInt_lt, show (0 : Int32).toInt = 0 from by decide] at h2
  rcases (show x.toInt = -1 ∨ x.toInt = -2 ∨ x.toInt = -3 ∨ x.toInt = -4 ∨ x.toInt = -5 ∨ x.toInt = -6 by omega) with h | h | h | h | h | h
  · have e : x = -1 := i32 (h.trans (by decide))
    subst e; exact ⟨0, by decide, by decide, by decide⟩
  · have e : x = -2 := i32 (h.trans (by decide))
    subst e; exact ⟨1, by decide, by decide, by decide⟩
  · have e : x = -3 := i32 (h.trans (by decide))
    subst e; exact ⟨2, by decide, by decide, by decide⟩
  · have e : x = -4 := i32 (h.trans (by decide))
    subst e; exact ⟨3, by decide, by decide, by decide⟩
  · have e : x = -5 := i32 (h.trans (by decide))
    subst e; exact ⟨4, by decide, by decide, by decide⟩
  · have e : x = -6 := i32 (h.trans (by decide))
    subst e; exact ⟨5, by decide, by decide, by decide⟩
theorem vrunC_cg {nm nm' : Nat → Int32} : ∀ (c st : List Int32), (∀ i, i < 6 → (¬ (-4 : Int32) ∈ c → i ≠ 3) → nm i = nm' i) → vrunC nm c st = vrunC nm' c st := by
  intro c
  induction c with
  | nil => exact fun st _ => rfl
  | cons x c ih =>
    intro st h
    have hs : vstep1 nm x st = vstep1 nm' x st := by
      unfold vstep1
      by_cases h6 : -6 ≤ x
      · rw [if_pos h6, if_pos h6]
        by_cases h0 : x < 0
        · obtain ⟨j, hj, e, h4⟩ := vneg6 h6 h0
          rw [if_pos h0, if_pos h0, e, h j hj (fun q z => q (by rw [h4 z]; exact List.mem_cons_self))]
        · rw [if_neg h0, if_neg h0]
      · rw [if_neg h6, if_neg h6]
    show (match vstep1 nm x st with | some st' => vrunC nm c st' | none => none) = match vstep1 nm' x st with | some st' => vrunC nm' c st' | none => none
    rw [hs]
    cases vstep1 nm' x st with
    | none => rfl
    | some st' => exact ih st' (fun i hi q => h i hi (fun z => q (fun y => z (List.mem_cons_of_mem _ y))))
theorem vcomp_sub (b : List Nat) (p : Nat) {x : Int32} (h : x ∈ vcomp b p) : x ∈ vpC (vpsk b 3) := by
  rcases (show p = 0 ∨ p = 1 ∨ 2 ≤ p by omega) with e | e | e
  · rw [e, vcomp_0] at h
    exact (vpsk_pre b (show 1 ≤ 3 by decide)).subset h
  · rw [e, vcomp_1] at h
    exact (vpsk_pre b (show 2 ≤ 3 by decide)).subset (List.mem_of_mem_drop h)
  · have e2 : vcomp b p = vcomp b 2 := by
      obtain ⟨q, rfl⟩ : ∃ q, p = q + 2 := ⟨p - 2, by omega⟩
      unfold vcomp
      rfl
    rw [e2, vcomp_2] at h
    exact List.mem_of_mem_drop h
theorem vacc_tok (b : List Nat) : vTok (vTof (vcomp b)) (vnn b) := by
  intro p nm nm' h
  have e : vrunC nm (vcomp b p) [] = vrunC nm' (vcomp b p) [] := by
    refine vrunC_cg _ _ (fun i hi q => h i hi (fun hn => q (fun z => ?_)))
    rw [vnn_sk, if_pos (vcomp_sub b p z)] at hn
    cases hn
  unfold vTof
  rw [e]
