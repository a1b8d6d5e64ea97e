/-! ===== THE REFERENCE: told ===== -/
def vob (n w : Nat) : Nat := match w with | 1 => n | 2 => n | 6 => n | 4 => 4 | 5 => 4 | _ => 5
section RU
variable {Gx : Nat × (Nat → Int32)} {d D : Nat} {σ : vM} {post : vQ} {a : vα}
theorem vm_isOf {w n : Nat} {i0 : Int32} (hw : 1 ≤ w ∧ w ≤ 9) (h11 : σ.1 58 11 = nI n) (hn6 : n ≤ 6) (h1 : ∀ j, vix i0 (vob n w) = some j → post (some (.int 1)) σ) (h0 : vix i0 (vob n w) = none → post (some (.int 0)) σ) : VM (true, Gx) (d + 2) iX7_isOf 0 [some (.ref 58), some (.int (nI w)), some (.int i0)] [] σ post := by
  have light : vob n w = n → ∀ (post' : vQ), (post (some (.int 1)) σ → post' (some (.int 1)) σ) → (post (some (.int 0)) σ → post' (some (.int 0)) σ) → VM (true, Gx) (d + 1) iX7_isLight 0 [some (.ref 58), some (.int i0)] [] σ post' := fun e post' k1 k0 => by
    rw [e] at h1 h0
    exact vm_isLight (d := d) h11 hn6 (fun l el _ _ => k1 (h1 l el)) (fun el => k0 (h0 el))
  have look : vob n w = 5 → ∀ (post' : vQ), (post (some (.int 1)) σ → post' (some (.int 1)) σ) → (post (some (.int 0)) σ → post' (some (.int 0)) σ) → VM (true, Gx) (d + 1) iX7_isLooker 0 [some (.int i0)] [] σ post' := fun e post' k1 k0 => by
    rw [e] at h1 h0
    exact vm_isLooker (d := d) (fun l el _ _ => k1 (h1 l el)) (fun el => k0 (h0 el))
  have four : vob n w = 4 → ∀ (post' : vQ) {hi : Int64}, hi = (nI 3).toInt64 → (post (some (.int 1)) σ → post' (some (.int 1)) σ) → (post (some (.int 0)) σ → post' (some (.int 0)) σ) → VM (true, Gx) (d + 1) iX7_in 0 [some (.long i0.toInt64), none, some (.long 0), none, some (.long hi), none] [] σ post' := fun e post' hi ehi k1 k0 => by
    rw [e] at h1 h0
    exact vm_in0 (m := 3) (by decide) ehi (fun l el _ _ => k1 (h1 l el)) (fun el => k0 (h0 el))
  have ne : ∀ x : Nat, x < 10 → ¬ w = x → ¬ nI w = nI x := fun x hx q e => q ((nI_eq (by omega) (by omega)).mp e)
  rcases (show w = 1 ∨ w = 2 ∨ w = 3 ∨ w = 4 ∨ w = 5 ∨ w = 6 ∨ w = 7 ∨ w = 8 ∨ w = 9 by omega) with rfl | rfl | rfl | rfl | rfl | rfl | rfl | rfl | rfl
  · exact VM.go [] ⟨fun _ => ⟨fun _ => ⟨_, VM.at (light rfl _ (fun k => ⟨Or.inr rfl, k⟩) (fun k => ⟨Or.inl rfl, k⟩)), fun _ _ hh => hh⟩, fun q => absurd (by decide) q⟩, fun q => absurd q (by decide)⟩
  · exact VM.go [] ⟨fun _ => ⟨fun _ => ⟨_, VM.at (light rfl _ (fun k => ⟨Or.inr rfl, k⟩) (fun k => ⟨Or.inl rfl, k⟩)), fun _ _ hh => hh⟩, fun q => absurd (by decide) q⟩, fun q => absurd q (by decide)⟩
  · exact VM.go [] ⟨fun _ => ⟨fun q => absurd q (by decide), fun _ => ⟨fun _ => ⟨fun q => absurd q (by decide), fun _ => ⟨fun _ => ⟨_, VM.at (look rfl _ (fun k => ⟨Or.inr rfl, k⟩) (fun k => ⟨Or.inl rfl, k⟩)), fun _ _ hh => hh⟩, fun q => absurd q (by decide)⟩⟩, fun q => absurd q (by decide)⟩⟩, fun q => absurd q (by decide)⟩
  · exact VM.go [] ⟨fun _ => ⟨fun q => absurd q (by decide), fun _ => ⟨fun _ => ⟨fun _ => ⟨_, VM.at (four rfl _ (by decide) (fun k => ⟨Or.inr rfl, k⟩) (fun k => ⟨Or.inl rfl, k⟩)), fun _ _ hh => hh⟩, fun q => absurd rfl q⟩, fun q => absurd q (by decide)⟩⟩, fun q => absurd q (by decide)⟩
  · exact VM.go [] ⟨fun _ => ⟨fun q => absurd q (by decide), fun _ => ⟨fun _ => ⟨fun q => absurd q (by decide), fun _ => ⟨fun q => absurd rfl q, fun _ => ⟨_, VM.at (four rfl _ (by decide) (fun k => ⟨Or.inr rfl, k⟩) (fun k => ⟨Or.inl rfl, k⟩)), fun _ _ hh => hh⟩⟩⟩, fun q => absurd q (by decide)⟩⟩, fun q => absurd q (by decide)⟩
  · exact VM.go [] ⟨fun _ => ⟨fun q => absurd q (by decide), fun _ => ⟨fun q => absurd rfl q, fun _ => ⟨_, VM.at (light rfl _ (fun k => ⟨Or.inr rfl, k⟩) (fun k => ⟨Or.inl rfl, k⟩)), fun _ _ hh => hh⟩⟩⟩, fun q => absurd q (by decide)⟩
  · exact VM.go [] ⟨fun _ => ⟨fun q => absurd q (by decide), fun _ => ⟨fun _ => ⟨fun q => absurd q (by decide), fun _ => ⟨fun _ => ⟨_, VM.at (look rfl _ (fun k => ⟨Or.inr rfl, k⟩) (fun k => ⟨Or.inl rfl, k⟩)), fun _ _ hh => hh⟩, fun q => absurd q (by decide)⟩⟩, fun q => absurd q (by decide)⟩⟩, fun q => absurd q (by decide)⟩
  · exact VM.go [] ⟨fun _ => ⟨fun q => absurd q (by decide), fun _ => ⟨fun _ => ⟨fun q => absurd q (by decide), fun _ => ⟨fun _ => ⟨_, VM.at (look rfl _ (fun k => ⟨Or.inr rfl, k⟩) (fun k => ⟨Or.inl rfl, k⟩)), fun _ _ hh => hh⟩, fun q => absurd q (by decide)⟩⟩, fun q => absurd q (by decide)⟩⟩, fun q => absurd q (by decide)⟩
  · exact VM.go [] ⟨fun _ => ⟨fun q => absurd q (by decide), fun _ => ⟨fun _ => ⟨fun q => absurd q (by decide), fun _ => ⟨fun _ => ⟨_, VM.at (look rfl _ (fun k => ⟨Or.inr rfl, k⟩) (fun k => ⟨Or.inl rfl, k⟩)), fun _ _ hh => hh⟩, fun q => absurd q (by decide)⟩⟩, fun q => absurd q (by decide)⟩⟩, fun q => absurd q (by decide)⟩
theorem vm_isOf0 {i0 : Int32} (h1 : post (some (.int 1)) σ) : VM (true, Gx) (d + 2) iX7_isOf 0 [some (.ref 58), some (.int (nI 0)), some (.int i0)] [] σ post :=
  VM.go [] ⟨fun q => absurd rfl q, fun _ => ⟨Or.inr rfl, h1⟩⟩
theorem sTold_1 {i0 : Int32} : sTold a i0 (nI 1) = match vix i0 (a.1 1 2) with | some l => nI (a.1 3 l) | none => -2 := by
  unfold sTold; rw [vix_nI (by decide) (by decide)]; rfl
theorem sTold_2 {i0 : Int32} : sTold a i0 (nI 2) = match vix i0 (a.1 1 2) with | some l => nI (a.1 4 l) | none => -2 := by
  unfold sTold; rw [vix_nI (by decide) (by decide)]; rfl
theorem sTold_3 {i0 : Int32} : sTold a i0 (nI 3) = match vix i0 (5) with | some l => nI (a.1 6 l) | none => -2 := by
  unfold sTold; rw [vix_nI (by decide) (by decide)]; rfl
theorem sTold_4 {i0 : Int32} : sTold a i0 (nI 4) = match vix i0 (4) with | some l => nI (a.1 8 l) | none => -2 := by
  unfold sTold; rw [vix_nI (by decide) (by decide)]; rfl
theorem sTold_5 {i0 : Int32} : sTold a i0 (nI 5) = match vix i0 (4) with | some l => nI (a.1 9 l) | none => -2 := by
  unfold sTold; rw [vix_nI (by decide) (by decide)]; rfl
theorem sTold_6 {i0 : Int32} : sTold a i0 (nI 6) = match vix i0 (a.1 1 2) with | some l => nI (a.1 2 l) | none => -2 := by
  unfold sTold; rw [vix_nI (by decide) (by decide)]; rfl
theorem sTold_7 {i0 : Int32} : sTold a i0 (nI 7) = match vix i0 (5) with | some l => nI (a.1 7 l) | none => -2 := by
  unfold sTold; rw [vix_nI (by decide) (by decide)]; rfl
theorem sTold_8 {i0 : Int32} : sTold a i0 (nI 8) = match vix i0 (5) with | some l => nI (vallA a (a.1 1 0) l) | none => -2 := by
  unfold sTold; rw [vix_nI (by decide) (by decide)]; rfl
theorem sTold_9 {i0 : Int32} : sTold a i0 (nI 9) = match vix i0 (5) with | some l => nI (vlitS (a.1 1 0) (fun k => a.1 5 (6 * l + k)) (a.1 1 2)) | none => -2 := by
  unfold sTold; rw [vix_nI (by decide) (by decide)]; rfl
theorem vr_told {i0 w0 : Int32} (hR : vRM a σ) (hW : vWF a) (hA : vAc a) (h : ∀ σ', vagI vMs σ σ' → post (some (.int (sTold a i0 w0))) σ') : VM (true, Gx) (D + 47) iX7_told 0 [some (.ref 58), some (.int i0), some (.int w0)] [] σ post := by
  have hn6 := hW.1.2.2
  have p5 := hR.1.2.2.2.2
  have bad : sTold a i0 w0 = -2 → post (some (.int (-2))) σ := fun e => by
    have := h σ vagI.rf
    rw [e] at this
    exact this
  refine VM.go [24] ⟨_, VM.at (vm_in0 (m := 9) (by decide) (by decide) (fun w ew hw e => ?_) (fun ew => ?_)), fun _ _ hh => hh⟩
  · refine ⟨fun c => absurd c (by decide), fun _ => ?_⟩
    subst e
    by_cases hw0 : w = 0
    · subst hw0
      have h' := h σ vagI.rf
      rw [show sTold a i0 (nI 0) = nI (a.1 1 0) from by unfold sTold; rw [vix_nI (by decide) (by decide)]; rfl, ← hR.1.2.2.2.1] at h'
      exact ⟨_, VM.at (vm_isOf0 (d := D + 44) (by exact ⟨fun _ => VM.go [] ⟨fun q => absurd q (by decide), fun _ => ⟨fun q => absurd rfl q, fun _ => h'⟩⟩, fun q => absurd q (by decide)⟩)), fun _ _ hh => hh⟩
    · have h1 : 1 ≤ w := Nat.pos_of_ne_zero hw0
      refine ⟨_, VM.at (vm_isOf (d := D + 44) ⟨h1, hw⟩ p5 hn6 (fun j ej => ?_) (fun ej => ?_)), fun _ _ hh => hh⟩
      · refine ⟨fun _ => ?_, fun q => absurd q (by decide)⟩
        show VM (true, Gx) (D + 47) iX7_told 24 _ _ _ _
        have h' := h σ vagI.rf
        rcases (show w = 1 ∨ w = 2 ∨ w = 3 ∨ w = 4 ∨ w = 5 ∨ w = 6 ∨ w = 7 ∨ w = 8 ∨ w = 9 by omega) with rfl | rfl | rfl | rfl | rfl | rfl | rfl | rfl | rfl
        · rw [show vob (a.1 1 2) 1 = a.1 1 2 from rfl] at ej
          obtain ⟨hj, ei⟩ := vix_some (by omega) ej
          rw [sTold_1, ej] at h'
          dsimp only at h'
          rw [← (hR.2.2.1 j).1] at h'
          exact VM.go [] ⟨fun q => absurd q (by decide), fun _ => ⟨fun _ => ⟨fun q => absurd rfl q, fun _ => ⟨j, ei, by omega, h'⟩⟩, fun q => absurd q (by decide)⟩⟩
        · rw [show vob (a.1 1 2) 2 = a.1 1 2 from rfl] at ej
          obtain ⟨hj, ei⟩ := vix_some (by omega) ej
          rw [sTold_2, ej] at h'
          dsimp only at h'
          rw [← (hR.2.2.1 j).2.1] at h'
          exact VM.go [] ⟨fun q => absurd q (by decide), fun _ => ⟨fun _ => ⟨fun _ => ⟨fun q => absurd rfl q, fun _ => ⟨j, ei, by omega, h'⟩⟩, fun q => absurd q (by decide)⟩, fun q => absurd q (by decide)⟩⟩
        · rw [show vob (a.1 1 2) 3 = 5 from rfl] at ej
          obtain ⟨hj, ei⟩ := vix_some (by omega) ej
          rw [sTold_3, ej] at h'
          dsimp only at h'
          rw [← (hR.2.2.1 j).2.2.2.1] at h'
          exact VM.go [] ⟨fun q => absurd q (by decide), fun _ => ⟨fun _ => ⟨fun _ => ⟨fun _ => ⟨j, ei, by omega, h'⟩, fun q => absurd q (by decide)⟩, fun q => absurd q (by decide)⟩, fun q => absurd q (by decide)⟩⟩
        · rw [show vob (a.1 1 2) 4 = 4 from rfl] at ej
          obtain ⟨hj, ei⟩ := vix_some (by omega) ej
          rw [sTold_4, ej] at h'
          dsimp only at h'
          rw [← (hR.2.2.1 j).2.2.2.2.2.1] at h'
          exact VM.go [] ⟨fun _ => ⟨fun q => absurd q (by decide), fun _ => ⟨fun q => absurd rfl q, fun _ => ⟨j, ei, by omega, h'⟩⟩⟩, fun q => absurd (by decide) q⟩
        · rw [show vob (a.1 1 2) 5 = 4 from rfl] at ej
          obtain ⟨hj, ei⟩ := vix_some (by omega) ej
          rw [sTold_5, ej] at h'
          dsimp only at h'
          rw [← (hR.2.2.1 j).2.2.2.2.2.2.1] at h'
          exact VM.go [] ⟨fun _ => ⟨fun q => absurd q (by decide), fun _ => ⟨fun _ => ⟨fun q => absurd rfl q, fun _ => ⟨j, ei, by omega, h'⟩⟩, fun q => absurd q (by decide)⟩⟩, fun q => absurd (by decide) q⟩
        · rw [show vob (a.1 1 2) 6 = a.1 1 2 from rfl] at ej
          obtain ⟨hj, ei⟩ := vix_some (by omega) ej
          rw [sTold_6, ej] at h'
          dsimp only at h'
          rw [← hR.2.1 j hj] at h'
          exact VM.go [] ⟨fun _ => ⟨fun q => absurd q (by decide), fun _ => ⟨fun _ => ⟨fun _ => ⟨j, ei, by omega, h'⟩, fun q => absurd q (by decide)⟩, fun q => absurd q (by decide)⟩⟩, fun q => absurd (by decide) q⟩
        · rw [show vob (a.1 1 2) 7 = 5 from rfl] at ej
          obtain ⟨hj, ei⟩ := vix_some (by omega) ej
          rw [sTold_7, ej] at h'
          dsimp only at h'
          rw [← (hR.2.2.1 j).2.2.2.2.1] at h'
          exact VM.go [] ⟨fun _ => ⟨fun _ => ⟨fun q => absurd rfl q, fun _ => ⟨j, ei, by omega, h'⟩⟩, fun q => absurd (by decide) q⟩, fun q => absurd (by decide) q⟩
        · rw [show vob (a.1 1 2) 8 = 5 from rfl] at ej
          obtain ⟨hj, ei⟩ := vix_some (by omega) ej
          rw [sTold_8, ej] at h
          subst ei
          exact VM.go [] ⟨fun _ => ⟨fun _ => ⟨fun _ => ⟨fun q => absurd rfl q, fun _ => ⟨_, VM.at (vr_allOf hR hW hA hj (by exact h)), fun _ _ hh => hh⟩⟩, fun q => absurd q (by decide)⟩, fun q => absurd (by decide) q⟩, fun q => absurd (by decide) q⟩
        · rw [show vob (a.1 1 2) 9 = 5 from rfl] at ej
          obtain ⟨hj, ei⟩ := vix_some (by omega) ej
          rw [sTold_9, ej] at h'
          dsimp only at h'
          subst ei
          exact VM.go [] ⟨fun _ => ⟨fun _ => ⟨fun _ => ⟨fun _ => ⟨_, VM.at (vm_lightMany (d := D + 44) hj hW.mr hR.mb (by exact h')), fun _ _ hh => hh⟩, fun q => absurd q (by decide)⟩, fun q => absurd q (by decide)⟩, fun q => absurd (by decide) q⟩, fun q => absurd (by decide) q⟩
      · refine ⟨fun q => absurd rfl q, fun _ => bad ?_⟩
        rcases (show w = 1 ∨ w = 2 ∨ w = 3 ∨ w = 4 ∨ w = 5 ∨ w = 6 ∨ w = 7 ∨ w = 8 ∨ w = 9 by omega) with rfl | rfl | rfl | rfl | rfl | rfl | rfl | rfl | rfl
        · rw [show vob (a.1 1 2) 1 = a.1 1 2 from rfl] at ej
          rw [sTold_1, ej]
        · rw [show vob (a.1 1 2) 2 = a.1 1 2 from rfl] at ej
          rw [sTold_2, ej]
        · rw [show vob (a.1 1 2) 3 = 5 from rfl] at ej
          rw [sTold_3, ej]
        · rw [show vob (a.1 1 2) 4 = 4 from rfl] at ej
          rw [sTold_4, ej]
        · rw [show vob (a.1 1 2) 5 = 4 from rfl] at ej
          rw [sTold_5, ej]
        · rw [show vob (a.1 1 2) 6 = a.1 1 2 from rfl] at ej
          rw [sTold_6, ej]
        · rw [show vob (a.1 1 2) 7 = 5 from rfl] at ej
          rw [sTold_7, ej]
        · rw [show vob (a.1 1 2) 8 = 5 from rfl] at ej
          rw [sTold_8, ej]
        · rw [show vob (a.1 1 2) 9 = 5 from rfl] at ej
          rw [sTold_9, ej]
  · refine ⟨fun _ => bad ?_, fun c => absurd rfl c⟩
    unfold sTold
    rw [ew]
end RU
