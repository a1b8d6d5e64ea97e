/-! ===== THE REFERENCE: a part, a text ===== -/
section RP
variable {Gx : Nat × (Nat → Int32)} {b : List Nat} {t : Nat} {nm : Nat → Int32}
theorem vm_L5 : ∀ D, vMok Gx b t 0 nm (D + 4) iX7_atom5 [some (.ref 58), none] 1 (vpOne b (vpLev b 0)) ∧ vMok Gx b t 0 nm (D + 9) iX7_either5 [some (.ref 58), none, none] 6 (vpEither b (vpLev b 0)) ∧ vMok Gx b t 0 nm (D + 7) iX7_not5 [some (.ref 58), none, none, none] 4 (vpNot b (vpLev b 0)) := by
  intro D
  have h1 := vm_atom5 (Gx := Gx) (b := b) (t := t) (nm := nm) (n := 0) (D := D) (dep := 1) rfl (Nat.le_refl _)
  have h2 := vm_term5 h1
  have h3 := vm_added5 h2
  have h4 := vm_not5 rfl h3
  exact ⟨h1, vm_either5 (vm_both5 h4), h4⟩
theorem vm_L4 : ∀ D, vMok Gx b t 1 nm (D + 10) iX7_atom4 [some (.ref 58), none] 6 (vpOne b (vpLev b 1)) ∧ vMok Gx b t 1 nm (D + 15) iX7_either4 [some (.ref 58), none, none] 11 (vpEither b (vpLev b 1)) ∧ vMok Gx b t 1 nm (D + 13) iX7_not4 [some (.ref 58), none, none, none] 9 (vpNot b (vpLev b 1)) := by
  intro D
  have lo := vm_L5 (Gx := Gx) (b := b) (t := t) (nm := nm) (D + 5)
  have lo2 := vm_L5 (Gx := Gx) (b := b) (t := t) (nm := nm) D
  have h1 := vm_atom4 (Gx := Gx) (b := b) (t := t) (nm := nm) (m := 0) (D := D + 0) (dep := 6) (by decide) (by decide) (by decide) (Nat.le_refl _) lo.1 lo2.2.1
  have h2 := vm_term4 (D := D + 6) h1
  have h3 := vm_added4 (D := D + 6) h2
  have h4 := vm_not4 (D := D + 6) (by decide) (by decide) lo.2.2 h3
  exact ⟨h1, vm_either4 (D := D + 6) (vm_both4 (D := D + 6) h4), h4⟩
theorem vm_L3 : ∀ D, vMok Gx b t 2 nm (D + 16) iX7_atom3 [some (.ref 58), none] 11 (vpOne b (vpLev b 2)) ∧ vMok Gx b t 2 nm (D + 21) iX7_either3 [some (.ref 58), none, none] 16 (vpEither b (vpLev b 2)) ∧ vMok Gx b t 2 nm (D + 19) iX7_not3 [some (.ref 58), none, none, none] 14 (vpNot b (vpLev b 2)) := by
  intro D
  have lo := vm_L4 (Gx := Gx) (b := b) (t := t) (nm := nm) (D + 5)
  have lo2 := vm_L4 (Gx := Gx) (b := b) (t := t) (nm := nm) D
  have h1 := vm_atom3 (Gx := Gx) (b := b) (t := t) (nm := nm) (m := 1) (D := D + 6) (dep := 11) (by decide) (by decide) (by decide) (Nat.le_refl _) lo.1 lo2.2.1
  have h2 := vm_term3 (D := D + 12) h1
  have h3 := vm_added3 (D := D + 12) h2
  have h4 := vm_not3 (D := D + 12) (by decide) (by decide) lo.2.2 h3
  exact ⟨h1, vm_either3 (D := D + 12) (vm_both3 (D := D + 12) h4), h4⟩
theorem vm_L2 : ∀ D, vMok Gx b t 3 nm (D + 22) iX7_atom2 [some (.ref 58), none] 16 (vpOne b (vpLev b 3)) ∧ vMok Gx b t 3 nm (D + 27) iX7_either2 [some (.ref 58), none, none] 21 (vpEither b (vpLev b 3)) ∧ vMok Gx b t 3 nm (D + 25) iX7_not2 [some (.ref 58), none, none, none] 19 (vpNot b (vpLev b 3)) := by
  intro D
  have lo := vm_L3 (Gx := Gx) (b := b) (t := t) (nm := nm) (D + 5)
  have lo2 := vm_L3 (Gx := Gx) (b := b) (t := t) (nm := nm) D
  have h1 := vm_atom2 (Gx := Gx) (b := b) (t := t) (nm := nm) (m := 2) (D := D + 12) (dep := 16) (by decide) (by decide) (by decide) (Nat.le_refl _) lo.1 lo2.2.1
  have h2 := vm_term2 (D := D + 18) h1
  have h3 := vm_added2 (D := D + 18) h2
  have h4 := vm_not2 (D := D + 18) (by decide) (by decide) lo.2.2 h3
  exact ⟨h1, vm_either2 (D := D + 18) (vm_both2 (D := D + 18) h4), h4⟩
theorem vm_L1 : ∀ D, vMok Gx b t 4 nm (D + 28) iX7_atom1 [some (.ref 58), none] 21 (vpOne b (vpLev b 4)) ∧ vMok Gx b t 4 nm (D + 33) iX7_either1 [some (.ref 58), none, none] 26 (vpEither b (vpLev b 4)) ∧ vMok Gx b t 4 nm (D + 31) iX7_not1 [some (.ref 58), none, none, none] 24 (vpNot b (vpLev b 4)) := by
  intro D
  have lo := vm_L2 (Gx := Gx) (b := b) (t := t) (nm := nm) (D + 5)
  have lo2 := vm_L2 (Gx := Gx) (b := b) (t := t) (nm := nm) D
  have h1 := vm_atom1 (Gx := Gx) (b := b) (t := t) (nm := nm) (m := 3) (D := D + 18) (dep := 21) (by decide) (by decide) (by decide) (Nat.le_refl _) lo.1 lo2.2.1
  have h2 := vm_term1 (D := D + 24) h1
  have h3 := vm_added1 (D := D + 24) h2
  have h4 := vm_not1 (D := D + 24) (by decide) (by decide) lo.2.2 h3
  exact ⟨h1, vm_either1 (D := D + 24) (vm_both1 (D := D + 24) h4), h4⟩
theorem vm_L0 : ∀ D, vMok Gx b t 5 nm (D + 34) iX7_atom0 [some (.ref 58), none] 26 (vpOne b (vpLev b 5)) ∧ vMok Gx b t 5 nm (D + 39) iX7_either0 [some (.ref 58), none, none] 31 (vpEither b (vpLev b 5)) ∧ vMok Gx b t 5 nm (D + 37) iX7_not0 [some (.ref 58), none, none, none] 29 (vpNot b (vpLev b 5)) := by
  intro D
  have lo := vm_L1 (Gx := Gx) (b := b) (t := t) (nm := nm) (D + 5)
  have lo2 := vm_L1 (Gx := Gx) (b := b) (t := t) (nm := nm) D
  have h1 := vm_atom0 (Gx := Gx) (b := b) (t := t) (nm := nm) (m := 4) (D := D + 24) (dep := 26) (by decide) (by decide) (by decide) (Nat.le_refl _) lo.1 lo2.2.1
  have h2 := vm_term0 (D := D + 30) h1
  have h3 := vm_added0 (D := D + 30) h2
  have h4 := vm_not0 (D := D + 30) (by decide) (by decide) lo.2.2 h3
  exact ⟨h1, vm_either0 (D := D + 30) (vm_both0 (D := D + 30) h4), h4⟩
theorem vMd.same {s S : vPS} {op f : Nat} {σ : vM} (h : vMd b t op nm s σ) (hf : vpF s = some f) (hS : vpF S = some f) (h1 : vFT S) (h2 : vpl b S) : vMd b t op nm S σ := by
  obtain ⟨m1, m2, m3, m4, m5, m6, m7, m8⟩ := h
  exact ⟨m1, m2, m3, by rw [vbad_1 hS, m4, vbad_1 hf], fun q => (by rw [hS] at q; cases q), fun g q => (by rw [hS] at q; cases q; exact m6 f hf), h1, h2⟩
theorem vm_part {D k : Nat} {x : Int32} {s S' : vPS} {σ : vM} {post : vQ} (hk : k < 3) (hS' : S' = vpExp b 59 (vpEither b (vpLev b 5) (vpExp b (nI (6 + k)) s))) (hst : ∀ f, vpF (vpExp b (nI (6 + k)) s) = some f → vpF S' = some f) (hFT : vFT S') (hpl : vpl b S') (hx : (x = 1 ∧ vpT s = nI (6 + k)) ∨ (x = 0 ∧ ¬ vpT s = nI (6 + k))) (hf : vpF s = none) (hJ : vJ 0 s) (hM : vMd b t 0 nm s σ) (h : ∀ σ' v, vagI vMp σ σ' → vMd b t 0 nm S' σ' → vEv nm 31 s S' v → post (some (.int v)) σ') : VM (true, Gx) (D + 40) iX7_part 0 [some (.ref 58), some (.int x), none] [] σ post := by
  have e30 : σ.1 58 30 = 0 := hM.2.2.2.1.trans (vbad_0 hf)
  rcases hx with ⟨rfl, hT⟩ | ⟨rfl, hT⟩
  · have hl : vlive s := vlive_of hT (fun e => by have := (nI_eq (b := 0) (by omega) (by decide)).mp e; omega) (fun e => absurd (show nI (6 + k) < 0 by rw [e]; decide) (nI_pos (by omega)))
    have eE : vpExp b (nI (6 + k)) s = vpAdv b s := if_pos hT
    rw [eE] at hS' hst
    refine VM.go [8] ⟨fun _ => ?_, fun q => absurd q (by decide)⟩
    refine VM.go [19] ⟨fun q => absurd e30 q, fun _ => ⟨_, VM.at (vm_nextD (d := D + 38) hl hM (fun s2 hs2 hM2 => ?_)), fun _ _ hh => hh⟩⟩
    have e30' : s2.1 58 30 = 0 := hM2.2.2.2.1.trans (vbad_0 (vpAdv_F hf))
    have hJ2 := (vJ_adv (b := b) hJ).1
    have eith := (vm_L0 (Gx := Gx) (b := b) (t := t) (nm := nm) D).2.1
    refine VM.at (VM.go [] ⟨fun _ => ⟨_, VM.at (eith s2 (vpAdv b s) _ (vpAdv_F hf) hJ2 hM2 (fun s3 v hs3 hM3 hE3 => ?_)), fun _ _ hh => hh⟩, fun q => absurd e30' q⟩)
    obtain ⟨S, hS⟩ : ∃ S, S = vpEither b (vpLev b 5) (vpAdv b s) := ⟨_, rfl⟩
    rw [← hS] at hM3 hE3 hS'
    refine ⟨_, VM.at (vm_isSign (c := 59) rfl hM3 (fun z1 z2 => ?_) (fun z => ?_)), fun _ _ hh => hh⟩
    · have z2' : vpT S = 59 := z2
      have e5 : S' = vpAdv b S := hS'.trans (if_pos z2')
      have e33 : s3.1 58 30 = 0 := hM3.2.2.2.1.trans (vbad_0 z1)
      have hl5 := vlive_of z2' (by decide) (by decide)
      refine ⟨fun _ => ⟨fun q => absurd e33 q, fun _ => ⟨_, VM.at (vm_nextD (d := D + 38) hl5 hM3 (fun s4 hs4 hM4 => ?_)), fun _ _ hh => hh⟩⟩, fun q => absurd q (by decide)⟩
      exact h s4 v ((hs2.tr hs3).tr hs4) (by rw [e5]; exact hM4) (by rw [e5]; exact hE3.pre.adv z1)
    · have z' : ¬ vpT S = 59 := vsg_no (c := 59) rfl hM3 z
      have e5 : S' = vpFail S := hS'.trans (if_neg z')
      refine ⟨fun q => absurd rfl q, fun _ => ⟨_, VM.at (vm_fail hM3 (fun s4 hs4 hM4 => ?_)), fun _ _ hh => hh⟩⟩
      have e34 : ¬ s4.1 58 30 = 0 := fun q => vpFail_no S (vbad_i.mp (hM4.2.2.2.1.symm.trans q))
      exact ⟨fun _ => h s4 v ((hs2.tr hs3).tr hs4) (by rw [e5]; exact hM4) (by rw [e5]; exact vEv.bad (vpFail_no S)), fun q => absurd q e34⟩
  · have eE : vpExp b (nI (6 + k)) s = vpFail s := if_neg hT
    rw [eE] at hst
    have eF : vpF (vpFail s) = some (vpP s) := by rw [vpFail_F, hf]
    have hF' := hst _ eF
    refine VM.go [8] ⟨fun q => absurd rfl q, fun _ => ⟨_, VM.at (vm_fail hM (fun s2 hs2 hM2 => ?_)), fun _ _ hh => hh⟩⟩
    have e32 : ¬ s2.1 58 30 = 0 := fun q => vpFail_no s (vbad_i.mp (hM2.2.2.2.1.symm.trans q))
    refine VM.at (VM.go [] ⟨fun _ => ⟨fun q => absurd q e32, fun _ => ⟨_, VM.at (vm_isSign (c := 59) rfl hM2 (fun z1 _ => by rw [eF] at z1; cases z1) (fun _ => ?_)), fun _ _ hh => hh⟩⟩, fun q => absurd q e32⟩)
    refine ⟨fun q => absurd rfl q, fun _ => ⟨_, VM.at (vm_fail hM2 (fun s4 hs4 hM4 => ?_)), fun _ _ hh => hh⟩⟩
    have e34 : ¬ s4.1 58 30 = 0 := fun q => vpFail_no (vpFail s) (vbad_i.mp (hM4.2.2.2.1.symm.trans q))
    have eF4 : vpF (vpFail (vpFail s)) = some (vpP s) := by rw [vpFail_F, eF]
    exact ⟨fun _ => h s4 0 (hs2.tr hs4) (hM4.same eF4 hF' hFT hpl) (vEv.bad (by rw [hF']; exact fun q => by cases q)), fun q => absurd q e34⟩
end RP
