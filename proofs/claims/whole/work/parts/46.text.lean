/-! ===== Reader.read, text ===== -/
def vpsk (b : List Nat) : Nat → vPS
  | 0 => vp0 b
  | k + 1 => vpPart b k (vpsk b k)
theorem vpsk_pre (b : List Nat) {i j : Nat} (h : i ≤ j) : vpC (vpsk b i) <+: vpC (vpsk b j) := by
  induction j with
  | zero =>
    have : i = 0 := by omega
    rw [this]; exact List.prefix_refl _
  | succ j ih =>
    by_cases e : i = j + 1
    · rw [e]; exact List.prefix_refl _
    · exact (ih (by omega)).trans ((vp_prefix b).2.2 j (vpsk b j))
theorem vcomp_0 (b : List Nat) : vcomp b 0 = vpC (vpsk b 1) := rfl
theorem vend_comp (b : List Nat) : ∀ p, p < 3 → vend (vcomp b) p = (vpC (vpsk b (p + 1))).length := by
  have l1 := (vpsk_pre b (show 1 ≤ 2 by decide)).length_le
  have l2 := (vpsk_pre b (show 2 ≤ 3 by decide)).length_le
  have e0 : vend (vcomp b) 0 = (vpC (vpsk b 1)).length := rfl
  have e1 : vend (vcomp b) 1 = (vpC (vpsk b 2)).length := by
    show vend (vcomp b) 0 + ((vpC (vpsk b 2)).drop (vpC (vpsk b 1)).length).length = _
    rw [e0, List.length_drop]; omega
  have e2 : vend (vcomp b) 2 = (vpC (vpsk b 3)).length := by
    show vend (vcomp b) 1 + ((vpC (vpsk b 3)).drop (vpC (vpsk b 2)).length).length = _
    rw [e1, List.length_drop]; omega
  intro p hp
  rcases (show p = 0 ∨ p = 1 ∨ p = 2 by omega) with rfl | rfl | rfl
  · exact e0
  · exact e1
  · exact e2
theorem vpre_getD {l m : List Int32} {k : Nat} (h : l <+: m) (hk : k < l.length) : l.getD k 0 = m.getD k 0 := by
  obtain ⟨t, rfl⟩ := h
  rw [List.getD_eq_getElem?_getD, List.getD_eq_getElem?_getD, List.getElem?_append_left hk]
theorem vcode_comp (b : List Nat) : ∀ p, p < 3 → ∀ k, k < (vcomp b p).length → (vcomp b p).getD k 0 = (vpC (vpsk b 3)).getD (vbeg (vcomp b) p + k) 0 ∧ vbeg (vcomp b) p + k < (vpC (vpsk b 3)).length := by
  have p13 := vpsk_pre b (show 1 ≤ 3 by decide)
  have p23 := vpsk_pre b (show 2 ≤ 3 by decide)
  have l1 := p13.length_le
  have l2 := p23.length_le
  have e0 := vend_comp b 0 (by decide)
  have e1 := vend_comp b 1 (by decide)
  intro p hp k hk
  rcases (show p = 0 ∨ p = 1 ∨ p = 2 by omega) with rfl | rfl | rfl
  · have hk' : k < (vpC (vpsk b 1)).length := hk
    refine ⟨?_, ?_⟩
    · show (vpC (vpsk b 1)).getD k 0 = (vpC (vpsk b 3)).getD (0 + k) 0
      rw [Nat.zero_add]; exact vpre_getD p13 hk'
    · show 0 + k < _
      omega
  · have hk' : k < ((vpC (vpsk b 2)).drop (vpC (vpsk b 1)).length).length := hk
    rw [List.length_drop] at hk'
    show ((vpC (vpsk b 2)).drop (vpC (vpsk b 1)).length).getD k 0 = (vpC (vpsk b 3)).getD (vend (vcomp b) 0 + k) 0 ∧ vend (vcomp b) 0 + k < _
    rw [e0]
    refine ⟨?_, by show (vpC (vpsk b 1)).length + k < _; omega⟩
    rw [List.getD_eq_getElem?_getD, List.getElem?_drop, ← List.getD_eq_getElem?_getD]
    exact vpre_getD p23 (by omega)
  · have hk' : k < ((vpC (vpsk b 3)).drop (vpC (vpsk b 2)).length).length := hk
    rw [List.length_drop] at hk'
    show ((vpC (vpsk b 3)).drop (vpC (vpsk b 2)).length).getD k 0 = (vpC (vpsk b 3)).getD (vend (vcomp b) 1 + k) 0 ∧ vend (vcomp b) 1 + k < _
    rw [e1]
    refine ⟨?_, by show (vpC (vpsk b 2)).length + k < _; omega⟩
    rw [List.getD_eq_getElem?_getD, List.getElem?_drop, ← List.getD_eq_getElem?_getD]
/-- with no fault the code isn't full -/
theorem vp_room {b : List Nat} (hb : b.length ≤ 160) (hN : vpN (vpsk b 3) ≤ b.length) (hf : vfault b = none) : (vpC (vpsk b 3)).length < 160 := by
  have hF3 : vpF (vpsk b 3) = none := by
    cases h : vpF (vpsk b 3) with
    | none => rfl
    | some f =>
      unfold vfault vpEnd at hf
      have h' : vpF (vp3 b) = some f := h
      by_cases q : vpT (vp3 b) = 0
      · rw [if_pos q, h'] at hf; cases hf
      · rw [if_neg q] at hf
        unfold vpFail at hf
        dsimp only [vpF] at hf
        rw [show (vp3 b).2.2.2.2.1 = some f from h'] at hf
        cases hf
  have st := vp_stick b
  have back : ∀ k s, vpF (vpPart b k s) = none → vpF s = none := fun k s h => by
    cases hs : vpF s with
    | none => rfl
    | some f => rw [st.2.2 k s f hs] at h; cases h
  have hF2 := back 2 _ hF3
  have hF1 := back 1 _ hF2
  have fE : ∀ t s, vFT (vpExp b t s) := fun t s => by
    unfold vpExp; split
    · intro f h
      cases hf : vpF s with
      | some g => unfold vpAdv; rw [hf]
      | none => unfold vpAdv at h; rw [hf] at h; cases h
    · exact fun f _ => rfl
  have jE : ∀ t k s, vJ k s → vJ k (vpExp b t s) := fun t k s h => by
    unfold vpExp; split
    · exact (vJ_adv h).1
    · exact vJ_fail h
  have part : ∀ m k s, vJ m (vpExp b (nI (6 + k)) s) → vJ m (vpPart b k s) := fun m k s h => jE _ m _ (((vJ_rel b) 5 _).2 (fE _ s) m h)
  have j00 : vJ 0 ((0, 0, 0, 0, none, []) : vPS) := ⟨Nat.le_refl _, fun q => absurd rfl q.1⟩
  have j0 : vJ 0 (vp0 b) := (vJ_adv j00).1
  have hF0 : vpF (vp0 b) = none := rfl
  have h6 : vpT (vp0 b) = 6 := by
    refine Classical.byContradiction (fun q => ?_)
    have e : vpExp b (nI (6 + 0)) (vp0 b) = vpFail (vp0 b) := if_neg q
    have f1 : vpF (vpExp b (nI (6 + 0)) (vp0 b)) = some (vpP (vp0 b)) := by rw [e]; unfold vpFail; dsimp only [vpF]; rw [show (vp0 b).2.2.2.2.1 = none from hF0]
    have f2 := st.2.1 59 _ _ (st.1 5 _ _ f1)
    have f3 : vpF (vpsk b 1) = some (vpP (vp0 b)) := f2
    rw [hF1] at f3; cases f3
  have j1 : vJ 1 (vpExp b (nI (6 + 0)) (vp0 b)) := by
    rw [show vpExp b (nI (6 + 0)) (vp0 b) = vpAdv b (vp0 b) from if_pos h6]
    exact (vJ_adv j0).2 (vlive_of h6 (by decide) (by decide)) hF0
  have k1 : vJ 1 (vpsk b 1) := part 1 0 _ j1
  have k2 : vJ 1 (vpsk b 2) := part 1 1 _ (jE _ 1 _ k1)
  have k3 : vJ 1 (vpsk b 3) := part 1 2 _ (jE _ 1 _ k2)
  have := k3.1
  omega
/-- what reading changes -/
def vRd3 (r c k : Nat) : Bool := vRdS r c k || Nat.beq c (r + 2)
theorem vRd3_up {r c k : Nat} (h : vRd3 r c k = false) : vRdS r c k = false := by
  unfold vRd3 at h
  cases hb : vRdS r c k with
  | false => rfl
  | true => rw [hb] at h; cases h
theorem vRdS_2 {r k : Nat} (hr : vRc r) : vRdS r (r + 2) k = false := by
  unfold vRc at hr
  cases hb : vRdS r (r + 2) k with
  | false => rfl
  | true => exfalso; simp only [vRdS, Bool.or_eq_true, Bool.and_eq_true, Nat.ble_eq, vbq] at hb; omega
section TX
variable {G : vG} {D : Nat} {σ : vM} {post : vQ} {b : List Nat} {r : Nat}
theorem vb_endPart {k z : Nat} (hk : k < 3) (hr : vRc r) (h3 : σ.1 r 3 = nI z) (h : post none (vput σ (r + 2) k (nI z))) : VM G D iX4_endPart 0 [some (.ref r), some (.int (nI k))] [] σ post := by
  rw [← h3] at h
  unfold vRc at hr
  rcases hr with rfl | rfl | rfl | rfl | rfl | rfl
  all_goals exact VM.go [] ⟨fun q => absurd q (nI_pos (by omega)), fun _ => ⟨fun q => absurd q (nI_ge hk (by decide)), fun _ => ⟨nofun, k, rfl, hk, h⟩⟩⟩
theorem vRD.put2 {s : vPS} {k : Nat} {v : Int32} (hr : vRc r) (h : vRD b r s σ) : vRD b r s (vput σ (r + 2) k v) := by
  obtain ⟨⟨a1, a2, a3, a4, a5, a6, a7, a8, a9, a10, a11, a12⟩, o⟩ := h
  have hr' : r + 2 ≠ 38 ∧ r + 2 ≠ 39 := by unfold vRc at hr; omega
  have h38 : ∀ j, (vput σ (r + 2) k v).1 38 j = σ.1 38 j := fun j => vput_ne (Or.inl (fun e => hr'.1 e.symm))
  exact ⟨⟨a1.ag (h38 0) (fun j => vput_ne (Or.inl (fun e => hr'.2 e.symm))), (h38 2).trans a2, (h38 3).trans a3, (h38 4).trans a4, (h38 5).trans a5, (h38 6).trans a6, fun q => (h38 7).trans (a7 q), a8, fun j hj => by rw [vput_ne (Or.inl (by omega))]; exact a9 j hj, by rw [vput_ne (Or.inl (by omega))]; exact a10, ⟨fun q => by rw [vput_ne (Or.inl (by omega))]; exact a11.1 q, by rw [vput_ne (Or.inl (by omega))]; exact a11.2⟩, a12⟩, o⟩
theorem vd_read (hr : vRc r) (hT : vTp b σ) (h : ∀ σ', vag (vRd3 r) σ σ' → (vfault b = none → vRu r (vcomp b) σ' ∧ σ'.1 r 0 = nI (vnn b)) → post (some (.int (vpFi (vfault b)))) σ') : VM G (D + 44) iX2_read 0 [some (.ref 38), some (.ref r), none] [] σ post := by
  have h160 := hT.1
  have eith := (vd_lev (G := G) (b := b) hr 5 (by decide) D).2.1
  have key : ∀ k, k ≤ 3 → ∀ s2, vag (vRd3 r) σ s2 → vRD b r (vpsk b k) s2 → (∀ p, p < k → s2.1 (r + 2) p = nI (vpC (vpsk b (p + 1))).length) → VM G (D + 44) iX2_read 28 [some (.ref 38), some (.ref r), some (.int (nI k))] [] s2 post := by
    refine vloop _ ?_ ?_
    · intro s2 hs2 hR2 hE
      have eT := hR2.T
      have e3 : s2.1 38 3 = vpFi (vpF (vpsk b 3)) := hR2.1.2.2.1
      have hN : vpN (vpsk b 3) ≤ b.length := hR2.1.2.2.2.2.2.2.2.2.2.2.2.1
      have fin : vfault b = none → vRu r (vcomp b) s2 ∧ s2.1 r 0 = nI (vnn b) := fun hf => by
        obtain ⟨a1, a2, a3, a4, a5, a6, a7, a8, a9, a10, a11, a12⟩ := hR2.1
        refine ⟨⟨?_, fun p hp => ?_, fun p hp k hk => ?_⟩, ?_⟩
        · rw [vend_comp b 2 (by decide)]; exact a8
        · rw [vend_comp b p hp]; exact hE p hp
        · obtain ⟨g1, g2⟩ := vcode_comp b p hp k hk
          rw [g1]; exact a9 _ g2
        · rw [a11.1 (vp_room h160 hN hf)]
          rfl
      refine VM.go [66] ⟨fun _ => ?_, fun q => absurd (by decide) q⟩
      by_cases q : vpT (vp3 b) = 0
      · have ef : vfault b = vpF (vpsk b 3) := by unfold vfault vpEnd; rw [if_pos q]; rfl
        have h' := h s2 hs2 fin
        rw [ef, ← e3] at h'
        exact VM.go [] ⟨fun _ => h', fun z => absurd (eT.trans q) z⟩
      · have ef : vfault b = vpF (vpFail (vpsk b 3)) := by unfold vfault vpEnd; rw [if_neg q]; rfl
        refine VM.go [] ⟨fun z => absurd (eT.symm.trans z) q, fun _ => ⟨_, VM.at (vd_fail hr hR2 (fun s3 hs3 h3 => ?_)), fun _ _ hh => hh⟩⟩
        have e33 : s3.1 38 3 = vpFi (vpF (vpFail (vpsk b 3))) := h3.1.2.2.1
        have h' := h s3 (hs2.tr (hs3.up (fun c k => vRd3_up))) (fun hf => by
          exfalso
          rw [ef] at hf
          unfold vpFail at hf
          dsimp only [vpF] at hf
          cases hx : (vpsk b 3).2.2.2.2.1 with
          | none => rw [hx] at hf; cases hf
          | some f => rw [hx] at hf; cases hf)
        rw [ef, ← e33] at h'
        exact h'
    · intro k hk ih s2 hs2 hR2 hE
      refine VM.go [38] ⟨fun q => absurd q (nI_ge hk (by decide)), fun _ => ?_⟩
      show VM G (D + 44) iX2_read 38 _ _ _ _
      rw [show (6 : Int32) + nI k = nI (6 + k) from nI_add 6 k]
      refine VM.go [28] ⟨_, VM.at (vd_expect (d := D + 36) hr hR2 (fun s3 hs3 h3 => ?_)), fun _ _ hh => hh⟩
      refine ⟨_, VM.at (eith s3 _ _ h3 (fun s4 hs4 h4 => ?_)), fun _ _ hh => hh⟩
      refine ⟨_, VM.at (vd_expect (d := D + 36) hr h4 (fun s5 hs5 h5 => ?_)), fun _ _ hh => hh⟩
      have hs35 := (hs3.tr hs4).tr hs5
      have eR5 := h5.R
      have e10 : s5.1 r 3 = nI (vpC (vpsk b (k + 1))).length := h5.1.2.2.2.2.2.2.2.2.2.1
      have call : VM G (D + 43) iX4_endPart 0 [some (.ref r), some (.int (nI k))] [] s5 (fun v s6 => v = none ∧ VM G (D + 44) iX2_read 28 [some (.ref 38), some (.ref r), some (.int (nI k + 1))] [] s6 post) := by
        refine vb_endPart hk hr e10 ⟨rfl, ?_⟩
        rw [nI_1]
        refine ih _ ((hs2.tr (hs35.up (fun c k => vRd3_up))).put ?_) (h5.put2 hr) (fun p hp => ?_)
        · unfold vRd3; rw [show Nat.beq (r + 2) (r + 2) = true from Nat.beq_refl _]; simp
        · rw [vput_get]
          by_cases e : p = k
          · rw [if_pos ⟨rfl, e⟩, e]
          · rw [if_neg (fun q => e q.2), hs35.get (vRdS_2 hr)]
            exact hE p (by omega)
      have hlt := vRc_lt hr
      unfold vRc at hr
      rcases hr with rfl | rfl | rfl | rfl | rfl | rfl
      all_goals exact ⟨_, eR5, hlt, _, VM.at call, fun _ _ hh => by rcases hh with ⟨rfl, hh⟩; exact VM.at (VM.go [28] hh)⟩
  have hr0 := hr
  have hA : ∀ s2, s2 = vput (vput (vput (vput (vput σ 38 2 (nI r)) r 3 0) r 0 0) 38 3 (-1)) 38 5 0 → VM G (D + 43) iX2_advance 0 [some (.ref 38), none] [] s2 (fun v s3 => v = none ∧ VM G (D + 44) iX2_read 28 [some (.ref 38), some (.ref r), some (.int (nI 0))] [] s3 post) := by
    intro s2 e2
    have hr1 : r ≠ 38 ∧ r ≠ 39 := by unfold vRc at hr; omega
    have hs2 : vag (vRd3 r) σ s2 := by
      rw [e2]
      have z1 : vRd3 r r 3 = true ∧ vRd3 r r 0 = true := by unfold vRd3; rw [vRdS_r.1, vRdS_r.1]; exact ⟨rfl, rfl⟩
      have z2 : ∀ k, 1 ≤ k → vRd3 r 38 k = true := fun k hk => by unfold vRd3; rw [vRdS_38 hk]; rfl
      exact ((((vag.rf.put (z2 2 (by decide))).put z1.1).put z1.2).put (z2 3 (by decide))).put (z2 5 (by decide))
    have eN : s2.1 38 5 = 0 := by rw [e2, vput_eq]
    have eF : s2.1 38 3 = -1 := by rw [e2, vput_ne (Or.inr (by decide)), vput_eq]
    have eR : s2.1 38 2 = nI r := by rw [e2, vput_ne (Or.inr (by decide)), vput_ne (Or.inr (by decide)), vput_ne (Or.inl (fun e => hr1.1 e.symm)), vput_ne (Or.inl (fun e => hr1.1 e.symm)), vput_eq]
    have e0 : s2.1 r 0 = 0 := by rw [e2, vput_ne (Or.inl hr1.1), vput_ne (Or.inl hr1.1), vput_eq]
    have e3 : s2.1 r 3 = 0 := by rw [e2, vput_ne (Or.inl hr1.1), vput_ne (Or.inl hr1.1), vput_ne (Or.inr (by decide)), vput_eq]
    have hT2 : vTp b s2 := hT.ag (by rw [e2, vput_ne (Or.inr (by decide)), vput_ne (Or.inr (by decide)), vput_ne (Or.inl (fun e => hr1.1 e.symm)), vput_ne (Or.inl (fun e => hr1.1 e.symm)), vput_ne (Or.inr (by decide))]) (fun k => by rw [e2, vput_ne (Or.inl (by decide)), vput_ne (Or.inl (by decide)), vput_ne (Or.inl (fun e => hr1.2 e.symm)), vput_ne (Or.inl (fun e => hr1.2 e.symm)), vput_ne (Or.inl (by decide))])
    refine vb_advN (d := D + 37) (s := (0, 0, 0, 0, none, [])) hr rfl ⟨hT2, eR, Nat.zero_le _, fun k hk => absurd hk (Nat.not_lt_zero _), e3, fun _ => ?_, Or.inl e0⟩ eF eN (Nat.zero_le _) (fun s3 hs3 h3 => ⟨rfl, ?_⟩)
    · rw [e0, if_neg List.not_mem_nil]; decide
    · exact key 0 (Nat.zero_le _) s3 (hs2.tr (hs3.up (fun c k => vRd3_up))) ⟨h3, vokT_adv b _⟩ (fun p hp => absurd hp (Nat.not_lt_zero _))
  unfold vRc at hr
  rcases hr with rfl | rfl | rfl | rfl | rfl | rfl
  all_goals sorry
end TX
