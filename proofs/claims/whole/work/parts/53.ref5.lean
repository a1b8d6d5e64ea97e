/-! ===== what the code read so far tells ===== -/
/-- from s to s' code has been added that lays v on the stack, if there is no fault -/
def vEv (nm : Nat → Int32) (dep : Nat) (s s' : vPS) (v : Int32) : Prop := vpF s' = none → ∃ c, vpC s' = vpC s ++ c ∧ ∀ st : List Int32, st.length + dep ≤ 40 → vrunC nm c st = some (v :: st)
theorem vrunC_app {nm : Nat → Int32} : ∀ (c1 c2 st : List Int32), vrunC nm (c1 ++ c2) st = match vrunC nm c1 st with | some st' => vrunC nm c2 st' | none => none := by
  intro c1
  induction c1 with
  | nil => intro c2 st; rfl
  | cons x c1 ih =>
    intro c2 st
    show (match vstep1 nm x st with | some st' => vrunC nm (c1 ++ c2) st' | none => none) = match (match vstep1 nm x st with | some st' => vrunC nm c1 st' | none => none) with | some st' => vrunC nm c2 st' | none => none
    cases vstep1 nm x st with
    | none => rfl
    | some st' => exact ih c2 st'
def vops : List Int32 := [9, 10, 60, 61, 43, 45, 42]
theorem vstep_bin {nm : Nat → Int32} {x y : Int32} {st : List Int32} : ∀ t ∈ vops, vstep1 nm (-t) (y :: x :: st) = some (vjoin t x y :: st) := by
  intro t ht
  have e : ∀ t ∈ vops, ¬ (-6 : Int32) ≤ -t ∧ ¬ (-t = -11 ∨ -t = -12) ∧ - -t = t := by decide
  obtain ⟨e1, e2, e3⟩ := e t ht
  unfold vstep1
  rw [if_neg e1, if_neg e2, e3]
theorem vpAdd_room {c : Int32} {s : vPS} (h : (vpC s).length < 160) : vpC (vpAdd c s) = vpC s ++ [c] := if_pos h
theorem vEv.bin {b : List Nat} {nm : Nat → Int32} {dep : Nat} {s0 s s2 : vPS} {v v2 t : Int32} (ht : t ∈ vops) (h1 : vEv nm (dep + 1) s0 s v) (hs : vpF s = none) (h2 : vEv nm dep (vpAdv b s) s2 v2) (hroom : vpF s2 = none → (vpC s2).length < 160) : vEv nm (dep + 1) s0 (vpAdd (-t) s2) (vjoin t v v2) := by
  intro hf
  have hf2 : vpF s2 = none := hf
  obtain ⟨c1, e1, r1⟩ := h1 hs
  obtain ⟨c2, e2, r2⟩ := h2 hf2
  refine ⟨c1 ++ (c2 ++ [-t]), ?_, fun st hst => ?_⟩
  · rw [vpAdd_room (hroom hf2), e2, vpAdv_C, e1, List.append_assoc, List.append_assoc]
  · rw [vrunC_app, r1 st hst]
    dsimp only
    rw [vrunC_app, r2 (v :: st) (by simp only [List.length_cons]; omega)]
    dsimp only
    show (match vstep1 nm (-t) (v2 :: v :: st) with | some st' => vrunC nm [] st' | none => none) = _
    rw [vstep_bin t ht]
    rfl
theorem vEv.un {b : List Nat} {nm : Nat → Int32} {dep : Nat} {s s2 : vPS} {v c w : Int32} (h2 : vEv nm dep (vpAdv b s) s2 v) (hroom : vpF s2 = none → (vpC s2).length < 160) (hc : ∀ st, vstep1 nm c (v :: st) = some (w :: st)) : vEv nm dep s (vpAdd c s2) w := by
  intro hf
  have hf2 : vpF s2 = none := hf
  obtain ⟨c2, e2, r2⟩ := h2 hf2
  refine ⟨c2 ++ [c], ?_, fun st hst => ?_⟩
  · rw [vpAdd_room (hroom hf2), e2, vpAdv_C, List.append_assoc]
  · rw [vrunC_app, r2 st hst]
    dsimp only
    show (match vstep1 nm c (v :: st) with | some st' => vrunC nm [] st' | none => none) = _
    rw [hc]
    rfl
theorem vEv.adv {b : List Nat} {nm : Nat → Int32} {dep : Nat} {s s2 : vPS} {v : Int32} (h : vEv nm dep s s2 v) (hf : vpF s2 = none) : vEv nm dep s (vpAdv b s2) v := by
  intro _
  obtain ⟨c, e, r⟩ := h hf
  exact ⟨c, by rw [vpAdv_C]; exact e, r⟩
theorem vEv.pre {b : List Nat} {nm : Nat → Int32} {dep : Nat} {s s2 : vPS} {v : Int32} (h : vEv nm dep (vpAdv b s) s2 v) : vEv nm dep s s2 v := by
  intro hf
  obtain ⟨c, e, r⟩ := h hf
  exact ⟨c, by rw [e, vpAdv_C], r⟩
theorem vEv.up {nm : Nat → Int32} {dep dep' : Nat} {s s2 : vPS} {v : Int32} (h : vEv nm dep s s2 v) (hd : dep ≤ dep') : vEv nm dep' s s2 v := by
  intro hf
  obtain ⟨c, e, r⟩ := h hf
  exact ⟨c, e, fun st hst => r st (by omega)⟩
theorem vEv.bad {nm : Nat → Int32} {dep : Nat} {s s2 : vPS} {v : Int32} (h : ¬ vpF s2 = none) : vEv nm dep s s2 v := fun hf => absurd hf h
theorem vEv.one {nm : Nat → Int32} {dep : Nat} {s : vPS} {c v : Int32} (hroom : (vpC s).length < 160) (hd : 1 ≤ dep) (hc : ∀ st : List Int32, st.length < 40 → vstep1 nm c st = some (v :: st)) : vEv nm dep s (vpAdd c s) v := by
  intro _
  refine ⟨[c], vpAdd_room hroom, fun st hst => ?_⟩
  show (match vstep1 nm c st with | some st' => vrunC nm [] st' | none => none) = _
  rw [hc st (by omega)]
  rfl
theorem vstep_num {nm : Nat → Int32} {v : Nat} (hv : v ≤ 9999) (st : List Int32) (hst : st.length < 40) : vstep1 nm (nI v) st = some (nI v :: st) := by
  unfold vstep1
  rw [if_pos (Int32.le_trans (by decide) (Int32.not_lt.mp (nI_pos (by omega)))), if_pos hst, if_neg (nI_pos (by omega))]
theorem vstep_name {nm : Nat → Int32} : ∀ j, j < 6 → ∀ (st : List Int32), st.length < 40 → vstep1 nm (-1 - nI j) st = some (nm j :: st) := by
  intro j hj st hst
  have e : ∀ j, j < 6 → (-6 : Int32) ≤ -1 - nI j ∧ -1 - nI j < 0 ∧ (-1 - (-1 - nI j)).toNatClampNeg = j := by decide
  obtain ⟨e1, e2, e3⟩ := e j hj
  unfold vstep1
  rw [if_pos e1, if_pos hst, if_pos e2, e3]
section RN2
variable {Gx : Nat × (Nat → Int32)} {d : Nat} {σ : vM} {post : vQ} {b : List Nat} {t op : Nat} {nm : Nat → Int32} {s : vPS}
theorem vMd.opn {op' : Nat} (hM : vMd b t op nm s σ) : vMd b t op' nm s (vput σ 58 29 (nI op')) := by
  obtain ⟨m1, m2, m3, m4, m5, m6, m7, m8⟩ := hM
  have hs : vagI vMp σ (vput σ 58 29 (nI op')) := vagI.rf.put rfl
  have ne : ∀ k, ¬ k = 29 → (vput σ 58 29 (nI op')).1 58 k = σ.1 58 k := fun k hk => vput_ne (Or.inr hk)
  refine ⟨m1.ag hs, fun i hi => (ne _ (by omega)).trans (m2 i hi), vput_eq _ _ _ _, (ne 30 (by decide)).trans m4, fun hf => ?_, fun f hf => (ne 31 (by decide)).trans (m6 f hf), m7, m8⟩
  obtain ⟨g1, g2⟩ := m5 hf
  refine ⟨(ne 27 (by decide)).trans g1, ?_⟩
  rcases g2 with k | k | k | ⟨c, k⟩ | k
  · exact Or.inl ⟨k.1, (ne 26 (by decide)).trans k.2⟩
  · exact Or.inr (Or.inl ⟨k.1, k.2.1, (ne 26 (by decide)).trans k.2.2.1, k.2.2.2.1, (ne 25 (by decide)).trans k.2.2.2.2⟩)
  · exact Or.inr (Or.inr (Or.inl ⟨k.1, k.2.1, k.2.2.1, k.2.2.2.1, k.2.2.2.2.1, (ne 26 (by decide)).trans k.2.2.2.2.2.1, (ne 25 (by decide)).trans k.2.2.2.2.2.2⟩))
  · exact Or.inr (Or.inr (Or.inr (Or.inl ⟨c, k.1, k.2.1, k.2.2.1, (ne 26 (by decide)).trans k.2.2.2.1, k.2.2.2.2.1, (ne 25 (by decide)).trans k.2.2.2.2.2⟩)))
  · exact Or.inr (Or.inr (Or.inr (Or.inr ⟨k.1, (ne 26 (by decide)).trans k.2⟩)))
theorem vm_opens (hop : op ≤ 5) (hl : vlive s) (hM : vMd b t op nm s σ) (h0 : op = 5 → ∀ σ', vagI vMp σ σ' → vMd b t op nm (vpFail s) σ' → post (some (.int 0)) σ') (h1 : op < 5 → ∀ σ', vagI vMp σ σ' → vMd b t (op + 1) nm (vpAdv b s) σ' → post (some (.int 1)) σ') : VM (true, Gx) (d + 2) iX7_opens 0 [some (.ref 58)] [] σ post := by
  have e29 : σ.1 58 29 = nI op := hM.2.2.1
  by_cases h5 : op = 5
  · refine VM.go [] ⟨fun q => absurd (show σ.1 58 29 = 5 by rw [e29, h5]; rfl) q, fun _ => ⟨_, VM.at (vm_fail hM (fun s2 hs2 h2 => by exact ⟨Or.inl rfl, h0 h5 s2 hs2 h2⟩)), fun _ _ hh => hh⟩⟩
  · have call : VM (true, Gx) (d + 1) iX7_next 0 [some (.ref 58), none, none] [] (vput σ 58 29 (nI (op + 1))) (fun v s2 => v = none ∧ post (some (.int 1)) s2) := vm_nextD hl (hM.opn (op' := op + 1)) (fun s2 hs2 h2 => ⟨rfl, h1 (by omega) s2 ((vagI.rf.put rfl).tr hs2) h2⟩)
    rw [← nI_1, ← e29] at call
    refine VM.go [] ⟨fun _ => ⟨_, VM.at call, fun _ _ hh => by rcases hh with ⟨rfl, hh⟩; exact ⟨Or.inr rfl, hh⟩⟩, fun q => absurd ((nI_eq (b := 5) (by omega) (by decide)).mp (show nI op = nI 5 by rw [← e29]; exact q)) h5⟩
theorem vm_name (hf : vpF s = none) (hM : vMd b t op nm s σ) (hy : ∀ j, j < 6 → vkt j s → post (some (.int (nm j))) σ) (hn : (∀ j, j < 6 → ¬ vkt j s) → ∀ σ', vagI vMp σ σ' → vMd b t op nm (vpFail s) σ' → post (some (.int 0)) σ') : VM (true, Gx) (d + 3) iX7_name 0 [some (.ref 58)] [] σ post := by
  have en : ∀ i, i < 6 → σ.1 58 (17 + i) = nm i := hM.2.1
  have yes : ∀ j, j < 6 → vkt j s → post (some (.int (σ.1 58 (17 + j)))) σ := fun j hj z => by rw [en j hj]; exact hy j hj z
  have ng : ∀ {j : Nat}, ¬ (vpF s = none ∧ vkt j s) → ¬ vkt j s := fun z k => z ⟨hf, k⟩
  refine VM.go [] ⟨_, VM.at (vm_isWord (d := d) (j := 0) (by decide) hM (fun _ z => ?_) (fun z0 => ?_)), fun _ _ hh => hh⟩
  · exact ⟨fun q => absurd q (by decide), fun _ => yes 0 (by decide) z⟩
  refine ⟨fun _ => ⟨_, VM.at (vm_isWord (d := d) (j := 1) (by decide) hM (fun _ z => ?_) (fun z1 => ?_)), fun _ _ hh => hh⟩, fun q => absurd rfl q⟩
  · exact ⟨fun q => absurd q (by decide), fun _ => yes 1 (by decide) z⟩
  refine ⟨fun _ => ⟨_, VM.at (vm_isWord (d := d) (j := 2) (by decide) hM (fun _ z => ?_) (fun z2 => ?_)), fun _ _ hh => hh⟩, fun q => absurd rfl q⟩
  · exact ⟨fun q => absurd q (by decide), fun _ => yes 2 (by decide) z⟩
  refine ⟨fun _ => ⟨_, VM.at (vm_isWord (d := d) (j := 3) (by decide) hM (fun _ z => ?_) (fun z3 => ?_)), fun _ _ hh => hh⟩, fun q => absurd rfl q⟩
  · exact ⟨fun q => absurd q (by decide), fun _ => yes 3 (by decide) z⟩
  refine ⟨fun _ => ⟨_, VM.at (vm_isWord (d := d) (j := 4) (by decide) hM (fun _ z => ?_) (fun z4 => ?_)), fun _ _ hh => hh⟩, fun q => absurd rfl q⟩
  · exact ⟨fun q => absurd q (by decide), fun _ => yes 4 (by decide) z⟩
  refine ⟨fun _ => ⟨_, VM.at (vm_isWord (d := d) (j := 5) (by decide) hM (fun _ z => ?_) (fun z5 => ?_)), fun _ _ hh => hh⟩, fun q => absurd rfl q⟩
  · exact ⟨fun q => absurd q (by decide), fun _ => yes 5 (by decide) z⟩
  refine ⟨fun _ => ⟨_, VM.at (vm_fail hM (fun s2 hs2 h2 => ?_)), fun _ _ hh => hh⟩, fun q => absurd rfl q⟩
  refine hn (fun j hj => ?_) s2 hs2 h2
  rcases (show j = 0 ∨ j = 1 ∨ j = 2 ∨ j = 3 ∨ j = 4 ∨ j = 5 by omega) with rfl | rfl | rfl | rfl | rfl | rfl
  · exact ng z0
  · exact ng z1
  · exact ng z2
  · exact ng z3
  · exact ng z4
  · exact ng z5
end RN2
/-- a method of the reference reads as f says, and tells what the code tells -/
def vMok (Gx : Nat × (Nat → Int32)) (b : List Nat) (t n : Nat) (nm : Nat → Int32) (D y : Nat) (ls : vL) (dep : Nat) (f : vPS → vPS) : Prop := ∀ (σ : vM) (s : vPS) (post : vQ), vpF s = none → vJ 0 s → vMd b t (5 - n) nm s σ → (∀ σ' v, vagI vMp σ σ' → vMd b t (5 - n) nm (f s) σ' → vEv nm dep s (f s) v → post (some (.int v)) σ') → VM (true, Gx) D y 0 ls [] σ post
theorem vpAdv_F {b : List Nat} {s : vPS} (h : vpF s = none) : vpF (vpAdv b s) = none := by unfold vpAdv; rw [h]
theorem vMd.FT {b : List Nat} {t op : Nat} {nm : Nat → Int32} {s : vPS} {σ : vM} (h : vMd b t op nm s σ) : vFT s := h.2.2.2.2.2.2.1
theorem vMd.pl {b : List Nat} {t op : Nat} {nm : Nat → Int32} {s : vPS} {σ : vM} (h : vMd b t op nm s σ) : vpl b s := h.2.2.2.2.2.2.2
theorem vMd.room {b : List Nat} {t op : Nat} {nm : Nat → Int32} {s : vPS} {σ : vM} (h : vMd b t op nm s σ) (hJ : vJ 1 s) : (vpC s).length < 160 := by
  have h1 := hJ.1
  have h2 := h.pl.1
  have h3 := h.1.1
  omega
theorem vkt_no {b : List Nat} {t op : Nat} {nm : Nat → Int32} {s : vPS} {σ : vM} {j : Nat} (h : vMd b t op nm s σ) (q : ¬ (vpF s = none ∧ vkt j s)) (hj : 6 ≤ j) (hj2 : j < 12) : ¬ vpT s = nI j := fun z => q ⟨vFT_none h.FT (vlive_of z (fun e => by have := (nI_eq (b := 0) (by omega) (by decide)).mp e; omega) (fun e => absurd (show nI j < 0 by rw [e]; decide) (nI_pos (by omega)))), by unfold vkt; rw [if_neg (by omega)]; exact z⟩
theorem vkt_T {s : vPS} {j : Nat} (h : vkt j s) (hj : 6 ≤ j) : vpT s = nI j := by
  unfold vkt at h; rw [if_neg (by omega)] at h; exact h
