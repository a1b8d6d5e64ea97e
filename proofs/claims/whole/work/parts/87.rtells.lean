/-! ===== THE REFERENCE: tells, whole ===== -/
section RTN
variable {Gx : Nat × (Nat → Int32)} {d D : Nat} {σ : vM} {post : vQ} {a b : vα}
theorem vr_tells {s0 p0 w0 : Int32} (hR : vRM a σ) (hW : vWF a) (hA : vAc a) (h : ∀ σ', vagI vRf σ σ' → vRM a σ' → post (some (.int (sTells a s0 p0 w0))) σ') : VM (true, Gx) (D + 48) iX7_tells 0 [some (.ref 58), some (.int s0), some (.int p0), some (.int w0), none, none, none, none, none, none, none, none, none] [] σ post := by
  have hn6 := hW.1.2.2
  have bad : ∀ v, sTells a s0 p0 w0 = v → post (some (.int v)) σ := fun v e => by
    have := h σ vagI.rf hR
    rw [e] at this
    exact this
  -- of a valid question
  have ok : ∀ s p w (x4 : Int32), vix s0 4 = some s → vix p0 5 = some p → vix w0 50 = some w → s0 = nI s → p0 = nI p → w0 = nI w → s < 4 → p < 5 → (w ≤ 2 ∨ (10 ≤ w ∧ w < 50 ∧ w % 10 < a.1 1 2)) → VM (true, Gx) (D + 48) iX7_tells 66 [some (.ref 58), some (.int s0), some (.int p0), some (.int w0), some (.int x4), none, none, none, none, none, none, none, none] [] σ post := by
    intro s p w x4 es ep ew e1 e2 e3 hs hp hw
    have er : sTells a s0 p0 w0 = if a.1 (50 + 2 * s) 0 = 0 then -11 else if ¬ a.1 (50 + 2 * s) 1 = a.1 1 2 then -2 else vtA a s p w := by
      unfold sTells vtA
      rw [es, ep, ew]
      dsimp only
      rw [if_neg (by omega), if_neg (by omega)]
    subst e1; subst e2; subst e3
    obtain ⟨q1, q2⟩ := hR.2.2.2.2.2 s hs
    obtain ⟨z1, z2, -⟩ := hW.2.2.2.2.2.2.2.1 s hs
    by_cases th : a.1 (50 + 2 * s) 0 = 0
    · rw [if_pos th] at q1 er
      exact VM.go [] ⟨s, rfl, hs, fun q => absurd q1 q, fun _ => bad _ er⟩
    · rw [if_neg th] at q1 er
      obtain ⟨r1, r2, r3⟩ := q2 th
      have nz : ¬ σ.1 79 s = 0 := fun q => absurd (q1.symm.trans q) (by decide)
      have em : σ.1 81 s = σ.1 58 11 ↔ a.1 (50 + 2 * s) 1 = a.1 1 2 := by
        rw [r2, hR.1.2.2.2.2, nI_eq (by omega) (by omega)]
      refine VM.go [94] ⟨s, rfl, hs, fun _ => ⟨s, rfl, hs, fun c => ?_, fun c => ?_⟩, fun q => absurd q nz⟩
      · have c' := em.mp c
        rw [if_neg (fun q => q c')] at er
        rw [er] at h
        exact vr_tells94 hR hW hA hp hs hw (fun l hl => r3 l (by omega)) h
      · rw [if_pos (fun q => c (em.mpr q))] at er
        exact bad _ er
  -- once it is known whether it is of a light
  have go32 : ∀ x4 : Int32, (x4 = 0 ∨ x4 = 1) → (x4 = 1 ↔ ∃ w, vix w0 50 = some w ∧ w0 = nI w ∧ 10 ≤ w ∧ w < 50 ∧ w % 10 < a.1 1 2) → VM (true, Gx) (D + 48) iX7_tells 32 [some (.ref 58), some (.int s0), some (.int p0), some (.int w0), some (.int x4), none, none, none, none, none, none, none, none] [] σ post := by
    intro x4 hx4 hx
    refine VM.go [66] ⟨_, VM.at (vm_isSheet (d := D + 46) (fun s es hs e1 => ?_) (fun es => ?_)), fun _ _ hh => hh⟩
    · refine ⟨fun c => absurd c (by decide), fun _ => ⟨_, VM.at (vm_isLooker (d := D + 46) (fun p ep hp e2 => ?_) (fun ep => ?_)), fun _ _ hh => hh⟩⟩
      · refine ⟨fun c => absurd c (by decide), fun _ => ⟨_, VM.at (vm_in0 (m := 2) (by decide) (by decide) (fun w ew hw e3 => ?_) (fun ew => ?_)), fun _ _ hh => hh⟩⟩
        · exact ⟨fun _ => VM.at (ok s p w x4 es ep (by rw [e3]; exact vix_nI (by omega) (by decide)) e1 e2 e3 hs hp (Or.inl hw)), fun c => absurd c (by decide)⟩
        · refine ⟨fun c => absurd rfl c, fun _ => ⟨fun c => ?_, fun c => bad _ ?_⟩⟩
          · have c1 : x4 = 1 := by
              rcases hx4 with e | e
              · exact absurd e c
              · exact e
            obtain ⟨w, ew', e3, hw⟩ := hx.mp c1
            exact VM.at (ok s p w x4 es ep ew' e1 e2 e3 hs hp (Or.inr hw))
          · have c0 : x4 = 0 := c
            unfold sTells
            rw [es, ep]
            cases hv : vix w0 50 with
            | none => rfl
            | some w =>
              obtain ⟨hw, e3⟩ := vix_some (by decide) hv
              have n2 : ¬ w ≤ 2 := fun q => vix_none (by decide) ew w (by omega) e3
              have nl : ¬ (10 ≤ w ∧ w % 10 < a.1 1 2) := fun q => by
                have := hx.mpr ⟨w, hv, e3, q.1, hw, q.2⟩
                rw [c0] at this
                exact absurd this (by decide)
              dsimp only
              by_cases w3 : 3 ≤ w ∧ w < 10
              · rw [if_pos w3]
              · rw [if_neg w3, if_pos (by omega)]
      · refine ⟨fun _ => bad _ ?_, fun c => absurd rfl c⟩
        unfold sTells
        rw [ep]
        cases vix s0 4 <;> rfl
    · refine ⟨fun _ => bad _ ?_, fun c => absurd rfl c⟩
      unfold sTells
      rw [es]
  refine VM.go [32] ⟨_, VM.at (vm_inI (a := 10) (b := 49) (by decide) (by decide) (fun b1 b2 => ?_) (fun hno => ?_)), fun _ _ hh => hh⟩
  · obtain ⟨w, hw, e3⟩ := vnat (m := 49) (by decide) (Int32.le_trans (by decide) b1) b2
    have hw10 : 10 ≤ w := by
      rw [e3, show (10 : Int32) = nI 10 from rfl, nIle (by decide) (by omega)] at b1
      exact b1
    have ew : vix w0 50 = some w := by rw [e3]; exact vix_nI (by omega) (by decide)
    have em : w0 - w0 / nI 10 * nI 10 = nI (w % 10) := by rw [e3]; exact pk_rem (by omega) (by decide) (by decide)
    refine ⟨fun c => absurd c (by decide), fun _ => ⟨by decide, _, VM.at (vm_isLight (d := D + 46) hR.1.2.2.2.2 hn6 (fun l el hl e2 => ?_) (fun el => ?_)), fun _ _ hh => hh⟩⟩
    · have e2' : nI (w % 10) = nI l := em.symm.trans e2
      rw [nI_eq (by omega) (by omega)] at e2'
      exact ⟨fun c => absurd c (by decide), fun _ => VM.at (VM.go [32] (go32 1 (Or.inr rfl) ⟨fun _ => ⟨w, ew, e3, hw10, by omega, by omega⟩, fun _ => rfl⟩))⟩
    · have el' : vix (nI (w % 10)) (a.1 1 2) = none := by rw [← em]; exact el
      refine ⟨fun _ => VM.at (VM.go [32] (go32 0 (Or.inl rfl) ⟨fun c => absurd c (by decide), fun ⟨w', ew', e3', h1, h2, h3⟩ => ?_⟩)), fun c => absurd rfl c⟩
      exfalso
      rw [ew] at ew'
      cases ew'
      rw [vix_nI h3 (by omega)] at el'
      cases el'
  · refine ⟨fun _ => VM.at (VM.go [32] (go32 0 (Or.inl rfl) ⟨fun c => absurd c (by decide), fun ⟨w', ew', e3', h1, h2, h3⟩ => ?_⟩)), fun c => absurd rfl c⟩
    exact absurd ⟨by rw [e3']; exact nI_le h1 (by omega), by rw [e3']; exact nI_le (show w' ≤ 49 by omega) (by decide)⟩ hno
end RTN
