/-! ===== THE REFERENCE: light ===== -/
section RX2
variable {Gx : Nat × (Nat → Int32)} {d D : Nat} {σ : vM} {post : vQ} {a : vα}
theorem vRM.kd {k v : Nat} (hk : a.1 1 2 ≤ k) (h : vRM a σ) : vRM (vaput a 2 k v) (vput σ 62 k (nI v)) := by
  obtain ⟨⟨p1, p2, p3, p4, p5⟩, h2, h3, h4, ⟨k1, k2, k3, k4⟩, h6⟩ := h
  have na : ∀ c' k', ¬ c' = 2 → (vaput a 2 k v).1 c' k' = a.1 c' k' := fun c' k' e => vaput_ne (Or.inl e)
  have ns : ∀ c' k', ¬ c' = 62 → (vput σ 62 k (nI v)).1 c' k' = σ.1 c' k' := fun c' k' e => vput_ne (Or.inl e)
  refine ⟨⟨?_, ?_, ?_, ?_, ?_⟩, fun k' hk' => ?_, fun k' => ?_, fun t ht => ?_, ⟨?_, ?_, ?_, fun k' => ?_⟩, fun s hs => ?_⟩
  · rw [ns _ _ (by decide), na _ _ (by decide)]; exact p1
  · rw [ns _ _ (by decide), na _ _ (by decide)]; exact p2
  · rw [ns _ _ (by decide), na _ _ (by decide)]; exact p3
  · rw [ns _ _ (by decide), na _ _ (by decide)]; exact p4
  · rw [ns _ _ (by decide), na _ _ (by decide)]; exact p5
  · rw [na 1 2 (by decide)] at hk'
    rw [vput_ne (Or.inr (by omega)), vaput_ne (Or.inr (by omega))]; exact h2 k' hk'
  · rw [ns _ _ (by decide), ns _ _ (by decide), ns _ _ (by decide), ns _ _ (by decide), ns _ _ (by decide), ns _ _ (by decide), ns _ _ (by decide), ns _ _ (by decide), na _ _ (by decide), na _ _ (by decide), na _ _ (by decide), na _ _ (by decide), na _ _ (by decide), na _ _ (by decide), na _ _ (by decide), na _ _ (by decide), na _ _ (by decide)]
    exact h3 k'
  · rw [na 0 4 (by decide)] at ht
    exact ⟨(ns _ _ (by decide)).trans (h4 t ht).1, fun k' hk => (ns _ _ (by decide)).trans ((h4 t ht).2 k' hk)⟩
  · rw [ns _ _ (by decide), na _ _ (by decide), na _ _ (by decide)]; exact k1
  · rw [ns _ _ (by decide), na _ _ (by decide)]; exact k2
  · rw [ns _ _ (by decide), na _ _ (by decide)]; exact k3
  · rw [ns _ _ (by decide), ns _ _ (by decide), ns _ _ (by decide), ns _ _ (by decide), ns _ _ (by decide), ns _ _ (by decide), ns _ _ (by decide), na _ _ (by decide), na _ _ (by decide), na _ _ (by decide), na _ _ (by decide), na _ _ (by decide), na _ _ (by decide), na _ _ (by decide)]
    exact k4 k'
  · rw [ns _ _ (by decide), ns _ _ (by decide), ns _ _ (by decide), na _ _ (by omega), na _ _ (by omega)]
    obtain ⟨q1, q2⟩ := h6 s hs
    refine ⟨q1, fun z => ?_⟩
    obtain ⟨r1, r2, r3⟩ := q2 z
    exact ⟨r1, r2, fun k' hk => (ns _ _ (by decide)).trans (r3 k' hk)⟩
theorem vRM.mn {n : Nat} (hn : a.1 1 2 = n) (he : σ.1 62 n = nI (a.1 2 n)) (h : vRM a σ) : vRM (vaput a 1 2 (n + 1)) (vput σ 58 11 (nI (n + 1))) := by
  obtain ⟨⟨p1, p2, p3, p4, p5⟩, h2, h3, h4, ⟨k1, k2, k3, k4⟩, h6⟩ := h
  have na : ∀ c' k', (¬ c' = 1 ∨ ¬ k' = 2) → (vaput a 1 2 (n + 1)).1 c' k' = a.1 c' k' := fun c' k' e => vaput_ne e
  have nc : ∀ c' k', ¬ c' = 58 → (vput σ 58 11 (nI (n + 1))).1 c' k' = σ.1 c' k' := fun c' k' e => vput_ne (Or.inl e)
  have nf : ∀ k', ¬ k' = 11 → (vput σ 58 11 (nI (n + 1))).1 58 k' = σ.1 58 k' := fun k' e => vput_ne (Or.inr e)
  have e12 : (vaput a 1 2 (n + 1)).1 1 2 = n + 1 := by rw [vaput_get]; exact if_pos ⟨rfl, rfl⟩
  refine ⟨⟨?_, ?_, ?_, ?_, ?_⟩, fun k' hk => ?_, fun k' => ?_, fun t ht => ?_, ⟨?_, ?_, ?_, fun k' => ?_⟩, fun s hs => ?_⟩
  · rw [nf _ (by decide), na _ _ (by decide)]; exact p1
  · rw [nf _ (by decide), na _ _ (by decide)]; exact p2
  · rw [nf _ (by decide), na _ _ (by decide)]; exact p3
  · rw [nf _ (by decide), na _ _ (by decide)]; exact p4
  · rw [e12, vput_eq]
  · rw [e12] at hk
    rw [nc _ _ (by decide), na _ _ (by omega)]
    by_cases z : k' = n
    · rw [z]; exact he
    · exact h2 k' (by omega)
  · rw [nc _ _ (by decide), nc _ _ (by decide), nc _ _ (by decide), nc _ _ (by decide), nc _ _ (by decide), nc _ _ (by decide), nc _ _ (by decide), nc _ _ (by decide), na _ _ (by omega), na _ _ (by omega), na _ _ (by omega), na _ _ (by omega), na _ _ (by omega), na _ _ (by omega), na _ _ (by omega), na _ _ (by omega), na _ _ (by omega)]
    exact h3 k'
  · rw [na 0 4 (by decide)] at ht
    exact ⟨(nc _ _ (by decide)).trans (h4 t ht).1, fun k' hk => (nc _ _ (by decide)).trans ((h4 t ht).2 k' hk)⟩
  · rw [nf _ (by decide), na _ _ (by decide), na _ _ (by decide)]; exact k1
  · rw [nf _ (by decide), na _ _ (by decide)]; exact k2
  · rw [nf _ (by decide), na _ _ (by decide)]; exact k3
  · rw [nc _ _ (by decide), nc _ _ (by decide), nc _ _ (by decide), nc _ _ (by decide), nc _ _ (by decide), nc _ _ (by decide), nc _ _ (by decide), na _ _ (by omega), na _ _ (by omega), na _ _ (by omega), na _ _ (by omega), na _ _ (by omega), na _ _ (by omega), na _ _ (by omega)]
    exact k4 k'
  · rw [nc _ _ (by decide), nc _ _ (by decide), nc _ _ (by decide), na _ _ (by omega), na _ _ (by omega)]
    obtain ⟨q1, q2⟩ := h6 s hs
    refine ⟨q1, fun z => ?_⟩
    obtain ⟨r1, r2, r3⟩ := q2 z
    exact ⟨r1, r2, fun k' hk => (nc _ _ (by decide)).trans (r3 k' hk)⟩
theorem vr_light {k0 m0 y0 : Int32} (hR : vRM a σ) (hW : vWF a) (h : ∀ σ', vagI vRf σ σ' → vRM (sLight a k0 m0 y0).2 σ' → post (some (.int (sLight a k0 m0 y0).1)) σ') : VM (true, Gx) (d + 1) iX7_light 0 [some (.ref 58), some (.int k0), some (.int m0), some (.int y0), none] [] σ post := by
  have hn6 := hW.1.2.2
  have bad : ∀ v, sLight a k0 m0 y0 = (v, a) → post (some (.int v)) σ := fun v e => by
    have := h σ vagI.rf (by rw [e]; exact hR)
    rw [e] at this
    exact this
  have badN : (vix k0 6 = none ∨ vix m0 10 = none ∨ ¬ (1 ≤ y0 ∧ y0 ≤ nI 999)) → post (some (.int (-2))) σ := fun q => by
    refine bad _ ?_
    rcases q with q | q | q
    · unfold sLight; rw [q]
    · unfold sLight; rw [q]; cases vix k0 6 <;> rfl
    · exact sLight_no (Or.inr (Or.inr q))
  refine VM.go [39] ⟨_, VM.at (vm_in0 (m := 5) (by decide) (by decide) (fun k ek hk e1 => ?_) (fun ek => ?_)), fun _ _ hh => hh⟩
  · refine ⟨fun c => absurd c (by decide), fun _ => ⟨_, VM.at (vm_in0 (m := 9) (by decide) (by decide) (fun m em hm e2 => ?_) (fun em => ?_)), fun _ _ hh => hh⟩⟩
    · refine ⟨fun c => absurd c (by decide), fun _ => ⟨_, VM.at (vm_inI (a := 1) (b := nI 999) (by decide) (by decide) (fun b1 b2 => ?_) (fun hno => ?_)), fun _ _ hh => hh⟩⟩
      · obtain ⟨y, hy1, hy, e3⟩ := vnat1 (m := 999) (by decide) b1 b2
        have es : sLight a k0 m0 y0 = if a.1 1 2 = 6 then (-4, a) else (nI (a.1 1 2), vlight a k m y) := by
          unfold sLight
          rw [ek, em, e3, vix_nI (show y < 1000 by omega) (by decide)]
          exact if_neg (by omega)
        subst e1; subst e2; subst e3
        refine ⟨fun _ => ?_, fun c => absurd c (by decide)⟩
        refine VM.at ?_
        have p5 := hR.1.2.2.2.2
        obtain ⟨n, hgn⟩ : ∃ n, n = a.1 1 2 := ⟨_, rfl⟩
        by_cases e6 : a.1 1 2 = 6
        · rw [if_pos e6] at es
          exact VM.go [] ⟨fun q => absurd (show σ.1 58 11 = 6 by rw [p5, e6]; rfl) q, fun _ => bad _ es⟩
        · rw [if_neg e6] at es
          rw [es] at h
          unfold vlight at h
          rw [← hgn] at h p5 hn6 e6
          have hlt : n < 6 := by omega
          have R1 := hR.kd (k := n) (v := k) (by omega)
          have R2 := R1.put (c := 3) (m := 63) (k := n) (v := m) (Or.inl ⟨by decide, by decide, rfl⟩)
          have R3 := R2.put (c := 4) (m := 64) (k := n) (v := y) (Or.inl ⟨by decide, by decide, rfl⟩)
          have f3 : vagI vRf σ (vput (vput (vput σ 62 n (nI k)) 63 n (nI m)) 64 n (nI y)) := ((vagI.rf.put rfl).put rfl).put rfl
          have key : ∀ i, i ≤ 5 → ∀ s2, vagI vRf σ s2 → s2.1 62 n = nI k → s2.1 58 11 = nI n → vRM (vseen0 (vaput (vaput (vaput a 2 n k) 3 n m) 4 n y) n i) s2 → VM (true, Gx) (d + 1) iX7_light 84 [some (.ref 58), some (.int (nI k)), some (.int (nI m)), some (.int (nI y)), some (.int (nI i))] [] s2 post := by
            refine vloop _ ?_ ?_
            · intro s2 hs2 e62 e11 hR2
              have en : (vseen0 (vaput (vaput (vaput a 2 n k) 3 n m) 4 n y) n 5).1 1 2 = n := by
                rw [vseen0_ne (by decide), vaput_ne (Or.inl (by decide)), vaput_ne (Or.inl (by decide)), vaput_ne (Or.inl (by decide))]; exact hgn.symm
              have ek2 : (vseen0 (vaput (vaput (vaput a 2 n k) 3 n m) 4 n y) n 5).1 2 n = k := by
                rw [vseen0_ne (by decide), vaput_ne (Or.inl (by decide)), vaput_ne (Or.inl (by decide))]; exact if_pos ⟨rfl, rfl⟩
              have fin := h (vput s2 58 11 (nI (n + 1))) (hs2.put rfl) (hR2.mn en (by rw [ek2]; exact e62))
              dsimp only at fin
              rw [← nI_pred n, ← nI_1 n, ← e11] at fin
              exact VM.go [] ⟨fun _ => fin, fun q => absurd (by decide) q⟩
            · intro i hi ih s2 hs2 e62 e11 hR2
              have ix : (6 : Int32) * nI i + s2.1 58 11 = nI (6 * i + n) := by rw [e11, show (6 : Int32) = nI 6 from rfl, pk_mul, nI_add]
              have := ih (vput s2 65 (6 * i + n) (nI 0)) (hs2.put rfl) e62 e11 (hR2.put (Or.inl ⟨by decide, by decide, rfl⟩))
              rw [← nI_1] at this
              exact VM.go [84] ⟨fun q => absurd q (nI_ge hi (by decide)), fun _ => ⟨nofun, 6 * i + n, ix, by omega, this⟩⟩
          have k0 := key 0 (Nat.zero_le _) _ f3 (by rw [vput_ne (Or.inl (by decide)), vput_ne (Or.inl (by decide)), vput_eq]) p5 R3
          exact VM.go [84] ⟨fun _ => ⟨nofun, n, p5, hlt, nofun, n, p5, hlt, nofun, n, p5, hlt, k0⟩, fun q => absurd ((nI_eq (b := 6) (by omega) (by decide)).mp (show nI n = nI 6 by rw [← p5]; exact q)) e6⟩
      · exact ⟨fun c => absurd rfl c, fun _ => badN (Or.inr (Or.inr hno))⟩
    · exact ⟨fun _ => badN (Or.inr (Or.inl em)), fun c => absurd rfl c⟩
  · exact ⟨fun _ => badN (Or.inl ek), fun c => absurd rfl c⟩
end RX2
