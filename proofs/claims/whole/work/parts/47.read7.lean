/-! ===== Reader.read: the machine ===== -/
/-- what reading changes -/
def vRd3 (r c k : Nat) : Bool := vRdS r c k || Nat.beq c (r + 2)
theorem vRd3_up {r c k : Nat} (h : vRd3 r c k = false) : vRdS r c k = false := by
  unfold vRd3 at h
  cases hb : vRdS r c k with
  | false => rfl
  | true => rw [hb] at h; cases h
theorem vRdS_2 {r k : Nat} (hr : vRc r) : vRdS r (r + 2) k = false := by
  unfold vRc at hr
  cases hb : vRdS r (r + 2) k with
  | false => rfl
  | true => exfalso; simp only [vRdS, Bool.or_eq_true, Bool.and_eq_true, Nat.ble_eq, vbq] at hb; omega
section TX
variable {G : vG} {D : Nat} {σ : vM} {post : vQ} {b : List Nat} {r : Nat}
theorem vb_endPart {k z : Nat} (hk : k < 3) (hr : vRc r) (h3 : σ.1 r 3 = nI z) (h : post none (vput σ (r + 2) k (nI z))) : VM G D iX4_endPart 0 [some (.ref r), some (.int (nI k))] [] σ post := by
  rw [← h3] at h
  unfold vRc at hr
  rcases hr with rfl | rfl | rfl | rfl | rfl | rfl
  all_goals exact VM.go [] ⟨fun q => absurd q (nI_pos (by omega)), fun _ => ⟨fun q => absurd q (nI_ge hk (by decide)), fun _ => ⟨nofun, k, rfl, hk, h⟩⟩⟩
theorem vRD.put2 {s : vPS} {k : Nat} {v : Int32} (hr : vRc r) (h : vRD b r s σ) : vRD b r s (vput σ (r + 2) k v) := by
  obtain ⟨⟨a1, a2, a3, a4, a5, a6, a7, a8, a9, a10, a11, a12⟩, o⟩ := h
  have hr' : r + 2 ≠ 38 ∧ r + 2 ≠ 39 := by unfold vRc at hr; omega
  have h38 : ∀ j, (vput σ (r + 2) k v).1 38 j = σ.1 38 j := fun j => vput_ne (Or.inl (fun e => hr'.1 e.symm))
  exact ⟨⟨a1.ag (h38 0) (fun j => vput_ne (Or.inl (fun e => hr'.2 e.symm))), (h38 2).trans a2, (h38 3).trans a3, (h38 4).trans a4, (h38 5).trans a5, (h38 6).trans a6, fun q => (h38 7).trans (a7 q), a8, fun j hj => by rw [vput_ne (Or.inl (by omega))]; exact a9 j hj, by rw [vput_ne (Or.inl (by omega))]; exact a10, ⟨fun q => by rw [vput_ne (Or.inl (by omega))]; exact a11.1 q, by rw [vput_ne (Or.inl (by omega))]; exact a11.2⟩, a12⟩, o⟩
theorem vb_empty (hr : vRc r) (h : post none (vput (vput σ r 3 0) r 0 0)) : VM G D iX4_empty 0 [some (.ref r)] [] σ post := by
  unfold vRc at hr
  rcases hr with rfl | rfl | rfl | rfl | rfl | rfl
  all_goals exact VM.go [] ⟨Or.inl rfl, h⟩
/-- behind the three parts -/
theorem vd_readE {S : vPS} {s2 : vM} (hr : vRc r) (hR2 : vRD b r S s2) (h : ∀ σ', vag (vRdS r) s2 σ' → (vpT S = 0 → σ' = s2) → post (some (.int (vpFi (vpF (if vpT S = 0 then S else vpFail S))))) σ') {y : Option Value} : VM G (D + 44) iX2_read 66 [some (.ref 38), some (.ref r), y] [] s2 post := by
  have eT := hR2.T
  by_cases q : vpT S = 0
  · have h' := h s2 vag.rf (fun _ => rfl)
    have e3 : s2.1 38 3 = vpFi (vpF S) := hR2.1.2.2.1
    rw [if_pos q, ← e3] at h'
    exact VM.go [] ⟨fun _ => h', fun z => absurd (eT.trans q) z⟩
  · refine VM.go [] ⟨fun z => absurd (eT.symm.trans z) q, fun _ => ⟨_, VM.at (vd_fail hr hR2 (fun s3 hs3 h3 => ?_)), fun _ _ hh => hh⟩⟩
    have e33 : s3.1 38 3 = vpFi (vpF (vpFail S)) := h3.1.2.2.1
    have h' := h s3 hs3 (fun z => absurd z q)
    rw [if_neg q, ← e33] at h'
    exact h'
/-- one part -/
theorem vd_readP {S S' : vPS} {k : Nat} {s2 : vM} (hr : vRc r) (hk : k < 3) (hS : S' = vpPart b k S) (hR2 : vRD b r S s2) (h : ∀ σ' z, vag (vRdS r) s2 σ' → vRD b r S' σ' → z = (vpC S').length → VM G (D + 44) iX2_read 28 [some (.ref 38), some (.ref r), some (.int (nI (k + 1)))] [] (vput σ' (r + 2) k (nI z)) post) : VM G (D + 44) iX2_read 28 [some (.ref 38), some (.ref r), some (.int (nI k))] [] s2 post := by
  have eith := (vd_lev (G := G) (b := b) hr 5 (by decide) D).2.1
  unfold vpPart at hS
  refine VM.go [38] ⟨fun q => absurd q (nI_ge hk (by decide)), fun _ => ?_⟩
  show VM G (D + 44) iX2_read 38 _ _ _ _
  rw [show (6 : Int32) + nI k = nI (6 + k) from nI_add 6 k]
  refine VM.go [28] ⟨_, VM.at (vd_expect (d := D + 36) hr hR2 (fun s3 hs3 h3 => ?_)), fun _ _ hh => hh⟩
  refine ⟨_, VM.at (eith s3 _ _ h3 (fun s4 hs4 h4 => ?_)), fun _ _ hh => hh⟩
  refine ⟨_, VM.at (vd_expect (d := D + 36) hr h4 (fun s5 hs5 h5 => ?_)), fun _ _ hh => hh⟩
  rw [← hS] at h5
  have hs35 := (hs3.tr hs4).tr hs5
  have eR5 := h5.R
  have e10 : s5.1 r 3 = nI (vpC S').length := h5.1.2.2.2.2.2.2.2.2.2.1
  have call : VM G (D + 43) iX4_endPart 0 [some (.ref r), some (.int (nI k))] [] s5 (fun v s6 => v = none ∧ VM G (D + 44) iX2_read 28 [some (.ref 38), some (.ref r), some (.int (nI k + 1))] [] s6 post) := by
    refine vb_endPart hk hr e10 ⟨rfl, ?_⟩
    rw [nI_1]
    exact h s5 _ hs35 h5 rfl
  have hlt := vRc_lt hr
  unfold vRc at hr
  rcases hr with rfl | rfl | rfl | rfl | rfl | rfl
  all_goals exact ⟨_, eR5, hlt, _, VM.at call, fun _ _ hh => by rcases hh with ⟨rfl, hh⟩; exact VM.at (VM.go [28] hh)⟩
theorem vd_read (hr : vRc r) (hT : vTp b σ) (h : ∀ σ', vag (vRd3 r) σ σ' → (vfault b = none → vRu r (vcomp b) σ' ∧ σ'.1 r 0 = nI (vnn b)) → post (some (.int (vpFi (vfault b)))) σ') : VM G (D + 44) iX2_read 0 [some (.ref 38), some (.ref r), none] [] σ post := by
  have h160 := hT.1
  have key : ∀ k, k ≤ 3 → ∀ s2, vag (vRd3 r) σ s2 → vRD b r (vpsk b k) s2 → (∀ p, p < k → s2.1 (r + 2) p = nI (vpC (vpsk b (p + 1))).length) → VM G (D + 44) iX2_read 28 [some (.ref 38), some (.ref r), some (.int (nI k))] [] s2 post := by
    refine vloop _ ?_ ?_
    · intro s2 hs2 hR2 hE
      have ev := vpEnd_sk b
      have evf : vfault b = vpF (vpEnd b) := rfl
      have hroom := vp_room (b := b) h160
      have hno := vfault_no (b := b)
      have hcode := vcode_comp b
      have hend := vend_comp b
      have hnn := vnn_sk b
      obtain ⟨S, hS⟩ : ∃ S, S = vpsk b 3 := ⟨_, rfl⟩
      rw [← hS] at hR2 ev hroom hno hcode hnn
      have hE3 : ∀ p, p < 3 → s2.1 (r + 2) p = nI (vend (vcomp b) p) := fun p hp => by rw [hend p hp]; exact hE p hp
      have he2 : vend (vcomp b) 2 = (vpC S).length := by rw [hend 2 (by decide), show 2 + 1 = 3 from rfl, hS]
      refine VM.go [66] ⟨fun _ => vd_readE hr hR2 (fun s3 hs3 hx => ?_), fun q => absurd (by decide) q⟩
      rw [← ev, ← evf]
      refine h s3 (hs2.tr (hs3.up (fun c k => vRd3_up))) (fun hf => ?_)
      have e3 := hx (hno hf).1
      subst e3
      obtain ⟨a1, a2, a3, a4, a5, a6, a7, a8, a9, a10, a11, a12, a13, a14⟩ := hR2.1
      refine ⟨⟨by rw [he2]; exact a8, hE3, fun p hp k hk => ?_⟩, ?_⟩
      · obtain ⟨g1, g2⟩ := hcode p hp k hk
        rw [g1]; exact a9 _ g2
      · rw [a11.1 (hroom a12 hf), hnn]
    · intro k hk ih s2 hs2 hR2 hE
      have es := vpsk_s b k
      obtain ⟨S, hS⟩ : ∃ S, S = vpsk b k := ⟨_, rfl⟩
      obtain ⟨S', hS'⟩ : ∃ S, S = vpsk b (k + 1) := ⟨_, rfl⟩
      rw [← hS] at hR2 es
      rw [← hS'] at es ih
      refine vd_readP hr hk es hR2 (fun s5 z hs5 h5 hz => ?_)
      refine ih _ ((hs2.tr (hs5.up (fun c k => vRd3_up))).put ?_) (h5.put2 hr) (fun p hp => ?_)
      · unfold vRd3; rw [show Nat.beq (r + 2) (r + 2) = true from Nat.beq_refl _]; simp
      · rw [vput_get]
        by_cases e : p = k
        · rw [if_pos ⟨rfl, e⟩, e, ← hS', hz]
        · rw [if_neg (fun q => e q.2), hs5.get (vRdS_2 hr)]
          exact hE p (by omega)
  have hA : ∀ s2, s2 = vput (vput (vput (vput (vput σ 38 2 (nI r)) r 3 0) r 0 0) 38 3 (-1)) 38 5 0 → VM G (D + 43) iX2_advance 0 [some (.ref 38), none] [] s2 (fun v s3 => v = none ∧ VM G (D + 44) iX2_read 28 [some (.ref 38), some (.ref r), some (.int (nI 0))] [] s3 post) := by
    intro s2 e2
    have hr1 : r ≠ 38 ∧ r ≠ 39 := by unfold vRc at hr; omega
    have hs2 : vag (vRd3 r) σ s2 := by
      rw [e2]
      have z1 : vRd3 r r 3 = true ∧ vRd3 r r 0 = true := by unfold vRd3; rw [vRdS_r.1, vRdS_r.1]; exact ⟨rfl, rfl⟩
      have z2 : ∀ k, 1 ≤ k → vRd3 r 38 k = true := fun k hk => by unfold vRd3; rw [vRdS_38 hk]; rfl
      exact ((((vag.rf.put (z2 2 (by decide))).put z1.1).put z1.2).put (z2 3 (by decide))).put (z2 5 (by decide))
    have eN : s2.1 38 5 = 0 := by rw [e2, vput_eq]
    have eF : s2.1 38 3 = -1 := by rw [e2, vput_ne (Or.inr (by decide)), vput_eq]
    have eR : s2.1 38 2 = nI r := by rw [e2, vput_ne (Or.inr (by decide)), vput_ne (Or.inr (by decide)), vput_ne (Or.inl (fun e => hr1.1 e.symm)), vput_ne (Or.inl (fun e => hr1.1 e.symm)), vput_eq]
    have e0 : s2.1 r 0 = 0 := by rw [e2, vput_ne (Or.inl hr1.1), vput_ne (Or.inl hr1.1), vput_eq]
    have e3 : s2.1 r 3 = 0 := by rw [e2, vput_ne (Or.inl hr1.1), vput_ne (Or.inl hr1.1), vput_ne (Or.inr (by decide)), vput_eq]
    have hT2 : vTp b s2 := hT.ag (by rw [e2, vput_ne (Or.inr (by decide)), vput_ne (Or.inr (by decide)), vput_ne (Or.inl (fun e => hr1.1 e.symm)), vput_ne (Or.inl (fun e => hr1.1 e.symm)), vput_ne (Or.inr (by decide))]) (fun k => by rw [e2, vput_ne (Or.inl (by decide)), vput_ne (Or.inl (by decide)), vput_ne (Or.inl (fun e => hr1.2 e.symm)), vput_ne (Or.inl (fun e => hr1.2 e.symm)), vput_ne (Or.inl (by decide))])
    have ok0 := vokT_adv b ((0, 0, 0, 0, none, []) : vPS)
    have k0 := key 0 (Nat.zero_le _)
    rw [vpsk_0] at k0
    unfold vp0 at k0
    refine vb_advN (d := D + 37) (s := (0, 0, 0, 0, none, [])) hr rfl ⟨hT2, eR, Nat.zero_le _, fun k hk => absurd hk (Nat.not_lt_zero _), e3, fun _ => ?_, Or.inl e0⟩ eF eN (Nat.zero_le _) (fun s3 hs3 h3 => ⟨rfl, ?_⟩)
    · rw [e0, if_neg List.not_mem_nil]; decide
    · exact k0 s3 (hs2.tr (hs3.up (fun c k => vRd3_up))) ⟨h3, ok0⟩ (fun p hp => absurd hp (Nat.not_lt_zero _))
  have hA' := hA _ rfl
  have call : VM G (D + 43) iX4_empty 0 [some (.ref r)] [] (vput σ 38 2 (nI r)) (fun v s3 => v = none ∧ s3 = vput (vput (vput σ 38 2 (nI r)) r 3 0) r 0 0) := vb_empty hr ⟨rfl, rfl⟩
  have hlt := vRc_lt hr
  unfold vRc at hr
  rcases hr with rfl | rfl | rfl | rfl | rfl | rfl
  all_goals exact VM.go [28] ⟨_, rfl, hlt, _, VM.at call, fun _ _ hh => by
    rcases hh with ⟨rfl, rfl⟩
    exact ⟨_, VM.at hA', fun _ _ hh => by
      rcases hh with ⟨rfl, hh⟩
      exact VM.at (VM.go [28] hh)⟩⟩
end TX
