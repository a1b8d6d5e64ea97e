/-! ===== THE REFERENCE: cell, film, copy ===== -/
theorem vix_upto {i : Int32} {sz : Nat} (hz : sz ≤ 40) (b1 : 0 ≤ i) (b2 : i ≤ nI sz - 1) : ∃ j, vix i sz = some j ∧ j < sz ∧ i = nI j := by
  cases sz with
  | zero => exact absurd (Int32.le_trans b1 b2) (by decide)
  | succ z =>
    rw [nI_pred] at b2
    obtain ⟨j, hj, e⟩ := vnat (by omega) b1 b2
    exact ⟨j, by rw [e]; exact vix_nI (by omega) (by omega), by omega, e⟩
theorem vix_upno {i : Int32} {sz : Nat} (hz : sz ≤ 40) (h : ¬ (0 ≤ i ∧ i ≤ nI sz - 1)) : vix i sz = none :=
  vix_no (by omega) (fun j hj e => h ⟨by rw [e]; exact Int32.not_lt.mp (nI_pos (by omega)), by rw [e, show sz = (sz - 1) + 1 by omega, nI_pred]; exact nI_le (by omega) (by omega)⟩)
theorem vowA_eq {a b : vα} {c t p l : Nat} (hne : ∀ c k, c < 50 → b.1 c k = a.1 c k) (h2 : b.2.2 = a.2.2) : vowA b c t p l = vowA a c t p l := by
  unfold vowA
  rw [h2, hne 1 2 (by decide), show b.1 2 = a.1 2 from funext fun k => hne 2 k (by decide), show b.1 3 = a.1 3 from funext fun k => hne 3 k (by decide), show b.1 4 = a.1 4 from funext fun k => hne 4 k (by decide), show (fun l => b.1 5 (6 * p + l)) = (fun l => a.1 5 (6 * p + l)) from funext fun k => hne 5 _ (by decide)]
theorem vflm_1 {a : vα} {s p : Nat} : ∀ i, (vflm a s p i).1 = (vbec a s 3 (a.1 1 2)).1 ∧ (vflm a s p i).2.2 = a.2.2 := by
  intro i
  induction i with
  | zero => exact ⟨rfl, rfl⟩
  | succ i ih => exact ih
theorem vbec_ne {a : vα} {s so n c k : Nat} (h : c < 50) : (vbec a s so n).1 c k = a.1 c k := by
  show (if c = 50 + 2 * s ∧ k = 0 then so else if c = 50 + 2 * s ∧ k = 1 then n else a.1 c k) = a.1 c k
  rw [if_neg (by omega), if_neg (by omega)]
theorem vbec_1 {a : vα} {s so n : Nat} : (vbec a s so n).1 (50 + 2 * s) 1 = n := (if_neg (by omega)).trans (if_pos ⟨rfl, rfl⟩)
section RC
variable {Gx : Nat × (Nat → Int32)} {d D : Nat} {σ : vM} {post : vQ} {a : vα}
theorem vr_cell {s0 i0 v0 : Int32} (hR : vRM a σ) (hW : vWF a) (h : ∀ σ', vagI vRf σ σ' → vRM (sCell a s0 i0 v0).2 σ' → post (some (.int (sCell a s0 i0 v0).1)) σ') : VM (true, Gx) (d + 2) iX7_cell 0 [some (.ref 58), some (.int s0), some (.int i0), some (.int v0)] [] σ post := by
  have bad : ∀ v, sCell a s0 i0 v0 = (v, a) → post (some (.int v)) σ := fun v e => by
    have := h σ vagI.rf (by rw [e]; exact hR)
    rw [e] at this
    exact this
  refine VM.go [] ⟨_, VM.at (vm_isSheet (d := d) (fun s es hs e1 => ?_) (fun es => ?_)), fun _ _ hh => hh⟩
  · subst e1
    obtain ⟨q1, q2⟩ := hR.2.2.2.2.2 s hs
    obtain ⟨z1, z2, -⟩ := hW.2.2.2.2.2.2.2.1 s hs
    have er : sCell a (nI s) i0 v0 = if a.1 (50 + 2 * s) 0 = 0 then ((-11 : Int32), a) else match vix i0 (a.1 (50 + 2 * s) 1) with
        | none => ((-12 : Int32), a)
        | some i => (1, vitm a s i (vcnv (a.1 (50 + 2 * s) 0) v0)) := by
      unfold sCell
      rw [es]
      dsimp only
      cases vix i0 (a.1 (50 + 2 * s) 1) <;> rfl
    refine ⟨fun _ => ⟨s, rfl, hs, fun c => ?_, fun c => ?_⟩, fun c => absurd c (by decide)⟩
    · have c' : ¬ σ.1 79 s = 0 := c
      have n0 : ¬ a.1 (50 + 2 * s) 0 = 0 := fun e => by rw [if_pos e] at q1; exact c' q1
      rw [if_neg n0] at er
      obtain ⟨r1, r2, r3⟩ := q2 n0
      obtain ⟨so, hso⟩ : ∃ so, so = a.1 (50 + 2 * s) 0 := ⟨_, rfl⟩
      rw [← hso] at r1 er n0 z1
      obtain ⟨sz, hsz⟩ : ∃ sz, sz = a.1 (50 + 2 * s) 1 := ⟨_, rfl⟩
      rw [← hsz] at r2 er z2
      refine ⟨s, rfl, hs, _, VM.at (vm_inI (a := 0) (b := nI sz - 1) (by decide) (by rw [r2]) (fun b1 b2 => ?_) (fun hno => ?_)), fun _ _ hh => hh⟩
      · obtain ⟨i, vi, hi, e2⟩ := vix_upto z2 b1 b2
        rw [vi] at er
        subst e2
        have ix : (40 : Int32) * nI s + nI i = nI (40 * s + i) := by rw [show (40 : Int32) = nI 40 from rfl, pk_mul, nI_add]
        have fin := h (vput σ 82 (40 * s + i) (vcnv so v0)) (vagI.rf.put rfl) (by rw [er]; exact hR.itm hW hs (by rw [← hsz]; exact hi))
        rw [er] at fin
        rcases (show so = 1 ∨ so = 2 ∨ so = 3 by omega) with e | e | e
        · rw [e] at fin r1
          exact ⟨fun _ => VM.at (VM.go [] ⟨s, rfl, hs, fun q => absurd (r1.trans (by decide)) q, fun _ => ⟨nofun, 40 * s + i, ix, by omega, fin⟩⟩), fun c => absurd c (by decide)⟩
        · rw [e] at fin r1
          exact ⟨fun _ => VM.at (VM.go [] ⟨s, rfl, hs, fun _ => ⟨s, rfl, hs, fun q => absurd (r1.trans (by decide)) q, fun _ => ⟨nofun, 40 * s + i, ix, by omega, fin⟩⟩, fun q => absurd (r1.symm.trans q) (by decide)⟩), fun c => absurd c (by decide)⟩
        · rw [e] at fin r1
          exact ⟨fun _ => VM.at (VM.go [] ⟨s, rfl, hs, fun _ => ⟨s, rfl, hs, fun _ => ⟨nofun, 40 * s + i, ix, by omega, fin⟩, fun q => absurd (r1.symm.trans q) (by decide)⟩, fun q => absurd (r1.symm.trans q) (by decide)⟩), fun c => absurd c (by decide)⟩
      · refine ⟨fun c => absurd rfl c, fun _ => bad (-12) ?_⟩
        rw [er, vix_upno z2 hno]
    · have c' : σ.1 79 s = 0 := c
      have n0 : a.1 (50 + 2 * s) 0 = 0 := Classical.byContradiction (fun e => by rw [if_neg e] at q1; exact absurd (q1.symm.trans c') (by decide))
      exact bad _ (by rw [er, if_pos n0])
  · refine ⟨fun c => absurd rfl c, fun _ => bad (-2) ?_⟩
    unfold sCell
    rw [es]
theorem vr_film {s0 p0 : Int32} (hR : vRM a σ) (hW : vWF a) (hA : vAc a) (h : ∀ σ', vagI vRf σ σ' → vRM (sFilm a s0 p0).2 σ' → post (some (.int (sFilm a s0 p0).1)) σ') : VM (true, Gx) (D + 45) iX7_film 0 [some (.ref 58), some (.int s0), some (.int p0), none] [] σ post := by
  have bad : ∀ v, sFilm a s0 p0 = (v, a) → post (some (.int v)) σ := fun v e => by
    have := h σ vagI.rf (by rw [e]; exact hR)
    rw [e] at this
    exact this
  have hn6 := hW.1.2.2
  refine VM.go [17] ⟨_, VM.at (vm_isSheet (d := D + 43) (fun s es hs e1 => ?_) (fun es => ?_)), fun _ _ hh => hh⟩
  · refine ⟨fun c => absurd c (by decide), fun _ => ⟨_, VM.at (vm_isLooker (d := D + 43) (fun p ep hp e2 => ?_) (fun ep => ?_)), fun _ _ hh => hh⟩⟩
    · subst e1; subst e2
      obtain ⟨n, hn⟩ : ∃ n, n = a.1 1 2 := ⟨_, rfl⟩
      rw [← hn] at hn6
      have er : sFilm a (nI s) (nI p) = (nI n, vflm a s p n) := by
        unfold sFilm
        rw [es, ep, hn]
      rw [er] at h
      have esh : sSheet a (nI s) (nI 2) (nI n) = (1, vbec a s 3 n) := by
        unfold sSheet
        rw [es]
        dsimp only
        rw [if_neg (by decide), show vix (nI 2) 3 = some 2 from vix_nI (by decide) (by decide)]
        dsimp only
        rw [if_neg (by rw [show (40 : Int32) = nI 40 from rfl, nIlt (by decide) (by omega)]; omega), show vix (nI n) 41 = some n from vix_nI (by omega) (by decide)]
      have p11 : σ.1 58 11 = nI n := by rw [hn]; exact hR.1.2.2.2.2
      have key : ∀ i, i ≤ n → ∀ s2, vagI vRf σ s2 → vRM (vflm a s p i) s2 → vWF (vflm a s p i) → VM (true, Gx) (D + 45) iX7_film 30 [some (.ref 58), some (.int (nI s)), some (.int (nI p)), some (.int (nI i))] [] s2 post := by
        refine vloop _ ?_ ?_
        · intro s2 hs2 hR2 hW2
          have q11 : s2.1 58 11 = nI n := by rw [hR2.1.2.2.2.2, (vflm_1 n).1, vbec_ne (by decide), hn]
          have fin := h s2 hs2 hR2
          rw [← q11] at fin
          exact VM.go [] ⟨fun _ => fin, fun q => absurd (by rw [q11]; exact nI_le (Nat.le_refl _) (by omega)) q⟩
        · intro i hi ih s2 hs2 hR2 hW2
          have q11 : s2.1 58 11 = nI n := by rw [hR2.1.2.2.2.2, (vflm_1 i).1, vbec_ne (by decide), hn]
          have ne : ∀ c k, c < 50 → (vflm a s p i).1 c k = a.1 c k := fun c k hc => by rw [(vflm_1 i).1]; exact vbec_ne hc
          have ix : (40 : Int32) * nI s + nI i = nI (40 * s + i) := by rw [show (40 : Int32) = nI 40 from rfl, pk_mul, nI_add]
          refine VM.go [30] ⟨fun q => absurd q (by rw [q11]; exact nI_ge hi (by omega)), fun _ => ⟨_, VM.at (vr_owesFor hR2 hW2 (fun t ht => by rw [(vflm_1 i).2]; exact hA t (by rw [← ne 0 4 (by decide)]; exact ht)) hp (by rw [ne 1 2 (by decide), ← hn]; exact hi) (fun s3 hs3 => ?_)), fun _ _ hh => hh⟩⟩
          rw [ne 1 0 (by decide), ne 1 1 (by decide), vowA_eq ne (vflm_1 i).2]
          have hs3' := hs3.up vMo_s
          have hR3 := (hR2.ag hs3').itm (i := i) (v := nI (vowA a (a.1 1 0) (a.1 1 1) p i)) hW2 hs (by rw [(vflm_1 i).1, vbec_1, ← hn]; exact hi)
          have := ih _ ((hs2.tr (hs3'.up vRf_o)).put (a := 82) (k := 40 * s + i) (v := nI (vowA a (a.1 1 0) (a.1 1 1) p i)) rfl) hR3 hW2.itm
          rw [← nI_1] at this
          exact ⟨nofun, 40 * s + i, ix, by omega, VM.at (VM.go [30] this)⟩
      refine ⟨fun _ => VM.at (VM.go [24] ?_), fun c => absurd c (by decide)⟩
      show VM (true, Gx) (D + 45) iX7_film 24 _ _ _ _
      rw [p11]
      refine VM.go [30] ⟨_, VM.at (vr_sheet (d := D + 42) (o0 := nI 2) hR hW (fun s2 hs2 hR2 => ?_)), fun _ _ hh => hh⟩
      rw [esh] at hR2 ⊢
      have e0 : vflm a s p 0 = vbec a s 3 n := by rw [hn]; rfl
      exact VM.at (VM.go [30] (key 0 (Nat.zero_le _) s2 hs2 (by rw [e0]; exact hR2) (by rw [e0]; exact hW.bec hs (by decide) (by omega) (fun q => absurd q (by decide)))))
    · refine ⟨fun c => absurd rfl c, fun _ => bad (-2) ?_⟩
      unfold sFilm
      rw [ep]
      cases vix s0 4 <;> rfl
  · refine ⟨fun _ => bad (-2) ?_, fun c => absurd rfl c⟩
    unfold sFilm
    rw [es]
end RC
