/-! ===== THE REFERENCE: set ===== -/
section RV
variable {Gx : Nat × (Nat → Int32)} {d D : Nat} {σ : vM} {post : vQ} {a : vα}
theorem vm_mostOf {w : Nat} (hw : w ≤ 5) (h : post (some (.int (nI (vhi w)))) σ) : VM (true, Gx) d iX7_mostOf 0 [some (.int (nI w))] [] σ post := by
  rcases (show w = 0 ∨ w = 1 ∨ w = 2 ∨ w = 3 ∨ w = 4 ∨ w = 5 by omega) with rfl | rfl | rfl | rfl | rfl | rfl
  · exact VM.go [] ⟨fun q => absurd rfl q, fun _ => h⟩
  · exact VM.go [] ⟨fun _ => ⟨fun q => absurd rfl q, fun _ => h⟩, fun q => absurd q (by decide)⟩
  · exact VM.go [] ⟨fun _ => ⟨fun _ => ⟨fun q => absurd rfl q, fun _ => h⟩, fun q => absurd q (by decide)⟩, fun q => absurd q (by decide)⟩
  · exact VM.go [] ⟨fun _ => ⟨fun _ => ⟨fun _ => ⟨fun _ => h, fun q => absurd q (by decide)⟩, fun q => absurd q (by decide)⟩, fun q => absurd q (by decide)⟩, fun q => absurd q (by decide)⟩
  · exact VM.go [] ⟨fun _ => ⟨fun _ => ⟨fun _ => ⟨fun _ => h, fun q => absurd q (by decide)⟩, fun q => absurd q (by decide)⟩, fun q => absurd q (by decide)⟩, fun q => absurd q (by decide)⟩
  · exact VM.go [] ⟨fun _ => ⟨fun _ => ⟨fun _ => ⟨fun q => absurd rfl q, fun _ => h⟩, fun q => absurd q (by decide)⟩, fun q => absurd q (by decide)⟩, fun q => absurd q (by decide)⟩
theorem vm_lays0 {i0 v0 : Int32} (h : post none (vput σ 58 7 v0)) : VM (true, Gx) d iX7_lays 0 [some (.ref 58), some (.int (nI 0)), some (.int i0), some (.int v0)] [] σ post := VM.go [] ⟨fun q => absurd rfl q, fun _ => h⟩
theorem vm_lays1 {j : Nat} {v0 : Int32} (hj : j < 6) (h : post none (vput σ 63 j v0)) : VM (true, Gx) d iX7_lays 0 [some (.ref 58), some (.int (nI 1)), some (.int (nI j)), some (.int v0)] [] σ post := VM.go [] ⟨fun _ => ⟨fun q => absurd rfl q, fun _ => ⟨nofun, j, rfl, hj, h⟩⟩, fun q => absurd q (by decide)⟩
theorem vm_lays2 {j : Nat} {v0 : Int32} (hj : j < 6) (h : post none (vput σ 64 j v0)) : VM (true, Gx) d iX7_lays 0 [some (.ref 58), some (.int (nI 2)), some (.int (nI j)), some (.int v0)] [] σ post := VM.go [] ⟨fun _ => ⟨fun _ => ⟨fun q => absurd rfl q, fun _ => ⟨nofun, j, rfl, hj, h⟩⟩, fun q => absurd q (by decide)⟩, fun q => absurd q (by decide)⟩
theorem vm_lays3 {j : Nat} {v0 : Int32} (hj : j < 5) (h : post none (vput σ 66 j v0)) : VM (true, Gx) d iX7_lays 0 [some (.ref 58), some (.int (nI 3)), some (.int (nI j)), some (.int v0)] [] σ post := VM.go [] ⟨fun _ => ⟨fun _ => ⟨fun _ => ⟨fun q => absurd rfl q, fun _ => ⟨nofun, j, rfl, hj, h⟩⟩, fun q => absurd q (by decide)⟩, fun q => absurd q (by decide)⟩, fun q => absurd q (by decide)⟩
theorem vm_lays4 {j : Nat} {v0 : Int32} (hj : j < 4) (h : post none (vput σ 68 j v0)) : VM (true, Gx) d iX7_lays 0 [some (.ref 58), some (.int (nI 4)), some (.int (nI j)), some (.int v0)] [] σ post := VM.go [] ⟨fun _ => ⟨fun _ => ⟨fun _ => ⟨fun _ => ⟨fun q => absurd rfl q, fun _ => ⟨nofun, j, rfl, hj, h⟩⟩, fun q => absurd q (by decide)⟩, fun q => absurd q (by decide)⟩, fun q => absurd q (by decide)⟩, fun q => absurd q (by decide)⟩
theorem vm_lays5 {j : Nat} {v0 : Int32} (hj : j < 4) (h : post none (vput σ 69 j v0)) : VM (true, Gx) d iX7_lays 0 [some (.ref 58), some (.int (nI 5)), some (.int (nI j)), some (.int v0)] [] σ post := VM.go [] ⟨fun _ => ⟨fun _ => ⟨fun _ => ⟨fun _ => ⟨fun _ => ⟨fun q => absurd rfl q, fun _ => ⟨nofun, j, rfl, hj, h⟩⟩, fun q => absurd q (by decide)⟩, fun q => absurd q (by decide)⟩, fun q => absurd q (by decide)⟩, fun q => absurd q (by decide)⟩, fun q => absurd q (by decide)⟩
theorem vr_set {w0 i0 v0 : Int32} (hR : vRM a σ) (hW : vWF a) (hA : vAc a) (h : ∀ σ', vagI vRf σ σ' → vRM (sSet a w0 i0 v0).2 σ' → post (some (.int (sSet a w0 i0 v0).1)) σ') : VM (true, Gx) (D + 48) iX7_set 0 [some (.ref 58), some (.int w0), some (.int i0), some (.int v0), none] [] σ post := by
  have hn6 := hW.1.2.2
  have p5 := hR.1.2.2.2.2
  have bad : sSet a w0 i0 v0 = (-2, a) → post (some (.int (-2))) σ := fun e => by
    have := h σ vagI.rf (by rw [e]; exact hR)
    rw [e] at this
    exact this
  have inn : ∀ w, w ≤ 5 → ∀ {l1 : Int64}, l1 = (nI (vlo w)).toInt64 → vhi w < 2 ^ 30 → ∀ (post' : vQ), (nI (vlo w) ≤ v0 → v0 ≤ nI (vhi w) → post' (some (.int 1)) σ) → (¬ (nI (vlo w) ≤ v0 ∧ v0 ≤ nI (vhi w)) → post' (some (.int 0)) σ) → VM (true, Gx) (D + 47) iX7_in 0 [some (.long v0.toInt64), none, some (.long l1), none, some (.long (nI (vhi w)).toInt64), none] [] σ post' := fun w _ l1 e1 _ post' q1 q0 => vm_inI e1 rfl q1 q0
  refine VM.go [52] ⟨_, VM.at (vm_in0 (m := 5) (by decide) (by decide) (fun w ew hw e => ?_) (fun ew => ?_)), fun _ _ hh => hh⟩
  · refine ⟨fun c => absurd c (by decide), fun _ => ?_⟩
    subst e
    by_cases hw0 : w = 0
    · subst hw0
      have go0 : nI (vlo 0) ≤ v0 → v0 ≤ nI (vhi 0) → VM (true, Gx) (D + 48) iX7_set 52 [some (.ref 58), some (.int (nI 0)), some (.int i0), some (.int v0), none] [] σ post := fun b1 b2 => by
        obtain ⟨x, hx, rfl⟩ := vnat (m := vhi 0) (by decide) (Int32.le_trans (by decide) b1) b2
        have hx4 : x < 4096 := Nat.lt_succ_of_le hx
        have es : sSet a (nI 0) i0 (nI x) = (nI (a.1 1 0), vaput a 1 0 x) := by rw [sSet_0, vix_nI hx4 (by decide)]
        rw [es] at h
        refine VM.go [] ⟨_, VM.at (vr_told hR hW hA (fun s2 hs2 => ?_)), fun _ _ hh => hh⟩
        rw [show sTold a i0 (nI 0) = nI (a.1 1 0) from by unfold sTold; rw [vix_nI (by decide) (by decide)]; rfl]
        have fin := h (vput s2 58 7 (nI x)) ((hs2.up (fun c k q => vMo_s c k (vRf_o c k q))).put rfl) ((hR.ag (hs2.up vMo_s)).putF (Or.inl ⟨rfl, rfl, rfl⟩))
        exact ⟨_, VM.at (vm_lays0 (by exact fin)), fun _ _ hh => hh⟩
      refine ⟨_, VM.at (vm_isOf0 (d := D + 45) (by exact ⟨fun q => absurd q (by decide), fun _ => ⟨fun q => absurd q (by decide), fun _ => ⟨fun _ => ⟨_, VM.at (vm_mostOf (w := 0) (by decide) (by exact ⟨_, VM.at (inn 0 (by decide) (by decide) (by decide) _ (fun b1 b2 => by exact ⟨fun _ => VM.at (go0 b1 b2), fun c => absurd c (by decide)⟩) (fun hno => by exact ⟨fun c => absurd rfl c, fun _ => bad (sSet_no (by decide) hno)⟩)), fun _ _ hh => hh⟩)), fun _ _ hh => hh⟩, fun q => absurd q (by decide)⟩⟩⟩)), fun _ _ hh => hh⟩
    · have h1 : 1 ≤ w := Nat.pos_of_ne_zero hw0
      refine ⟨_, VM.at (vm_isOf (d := D + 45) ⟨h1, by omega⟩ p5 hn6 (fun j ej => ?_) (fun ej => ?_)), fun _ _ hh => hh⟩
      · refine ⟨fun q => absurd q (by decide), fun _ => ?_⟩
        rcases (show w = 1 ∨ w = 2 ∨ w = 3 ∨ w = 4 ∨ w = 5 by omega) with rfl | rfl | rfl | rfl | rfl
        · rw [show vob (a.1 1 2) 1 = a.1 1 2 from rfl] at ej
          have hj : j < a.1 1 2 := (vix_some (by omega) ej).1
          have ei := (vix_some (by omega) ej).2
          subst ei
          have go1 : nI (vlo 1) ≤ v0 → v0 ≤ nI (vhi 1) → VM (true, Gx) (D + 48) iX7_set 52 [some (.ref 58), some (.int (nI 1)), some (.int (nI j)), some (.int v0), none] [] σ post := fun b1 b2 => by
            obtain ⟨x, hx, rfl⟩ := vnat (m := vhi 1) (by decide) (Int32.le_trans (by decide) b1) b2
            rw [nIle (by decide) (Nat.lt_of_le_of_lt hx (by decide))] at b1
            have es := sSet_yes (w := 1) hW (by decide) (by decide) hj b1 hx
            rw [es] at h
            refine VM.go [] ⟨_, VM.at (vr_told hR hW hA (fun s2 hs2 => ?_)), fun _ _ hh => hh⟩
            rw [sTold_1, ej]
            dsimp only
            have fin := h (vput s2 63 j (nI x)) ((hs2.up (fun c k q => vMo_s c k (vRf_o c k q))).put rfl) ((hR.ag (hs2.up vMo_s)).put (Or.inl ⟨by decide, by decide, rfl⟩))
            exact ⟨_, VM.at (vm_lays1 (by omega) (by exact fin)), fun _ _ hh => hh⟩
          exact ⟨fun q => absurd q (by decide), fun _ => ⟨fun _ => ⟨_, VM.at (vm_mostOf (w := 1) (by decide) (by exact ⟨_, VM.at (inn 1 (by decide) (by decide) (by decide) _ (fun b1 b2 => by exact ⟨fun _ => VM.at (go1 b1 b2), fun c => absurd c (by decide)⟩) (fun hno => by exact ⟨fun c => absurd rfl c, fun _ => bad (sSet_no (by decide) hno)⟩)), fun _ _ hh => hh⟩)), fun _ _ hh => hh⟩, fun q => absurd q (by decide)⟩⟩
        · rw [show vob (a.1 1 2) 2 = a.1 1 2 from rfl] at ej
          have hj : j < a.1 1 2 := (vix_some (by omega) ej).1
          have ei := (vix_some (by omega) ej).2
          subst ei
          have go2 : nI (vlo 2) ≤ v0 → v0 ≤ nI (vhi 2) → VM (true, Gx) (D + 48) iX7_set 52 [some (.ref 58), some (.int (nI 2)), some (.int (nI j)), some (.int v0), none] [] σ post := fun b1 b2 => by
            obtain ⟨x, hx, rfl⟩ := vnat (m := vhi 2) (by decide) (Int32.le_trans (by decide) b1) b2
            rw [nIle (by decide) (Nat.lt_of_le_of_lt hx (by decide))] at b1
            have es := sSet_yes (w := 2) hW (by decide) (by decide) hj b1 hx
            rw [es] at h
            refine VM.go [] ⟨_, VM.at (vr_told hR hW hA (fun s2 hs2 => ?_)), fun _ _ hh => hh⟩
            rw [sTold_2, ej]
            dsimp only
            have fin := h (vput s2 64 j (nI x)) ((hs2.up (fun c k q => vMo_s c k (vRf_o c k q))).put rfl) ((hR.ag (hs2.up vMo_s)).put (Or.inl ⟨by decide, by decide, rfl⟩))
            exact ⟨_, VM.at (vm_lays2 (by omega) (by exact fin)), fun _ _ hh => hh⟩
          exact ⟨fun _ => ⟨_, VM.at (vm_mostOf (w := 2) (by decide) (by exact ⟨_, VM.at (inn 2 (by decide) (by decide) (by decide) _ (fun b1 b2 => by exact ⟨fun _ => VM.at (go2 b1 b2), fun c => absurd c (by decide)⟩) (fun hno => by exact ⟨fun c => absurd rfl c, fun _ => bad (sSet_no (by decide) hno)⟩)), fun _ _ hh => hh⟩)), fun _ _ hh => hh⟩, fun q => absurd rfl q⟩
        · rw [show vob (a.1 1 2) 3 = 5 from rfl] at ej
          have hj : j < 5 := (vix_some (by omega) ej).1
          have ei := (vix_some (by omega) ej).2
          subst ei
          have go3 : nI (vlo 3) ≤ v0 → v0 ≤ nI (vhi 3) → VM (true, Gx) (D + 48) iX7_set 52 [some (.ref 58), some (.int (nI 3)), some (.int (nI j)), some (.int v0), none] [] σ post := fun b1 b2 => by
            obtain ⟨x, hx, rfl⟩ := vnat (m := vhi 3) (by decide) (Int32.le_trans (by decide) b1) b2
            rw [nIle (by decide) (Nat.lt_of_le_of_lt hx (by decide))] at b1
            have es := sSet_yes (w := 3) hW (by decide) (by decide) hj b1 hx
            rw [es] at h
            refine VM.go [] ⟨_, VM.at (vr_told hR hW hA (fun s2 hs2 => ?_)), fun _ _ hh => hh⟩
            rw [sTold_3, ej]
            dsimp only
            have fin := h (vput s2 66 j (nI x)) ((hs2.up (fun c k q => vMo_s c k (vRf_o c k q))).put rfl) ((hR.ag (hs2.up vMo_s)).put (Or.inl ⟨by decide, by decide, rfl⟩))
            exact ⟨_, VM.at (vm_lays3 (by omega) (by exact fin)), fun _ _ hh => hh⟩
          exact ⟨fun q => absurd q (by decide), fun _ => ⟨fun _ => ⟨_, VM.at (vm_mostOf (w := 3) (by decide) (by exact ⟨_, VM.at (inn 3 (by decide) (by decide) (by decide) _ (fun b1 b2 => by exact ⟨fun _ => VM.at (go3 b1 b2), fun c => absurd c (by decide)⟩) (fun hno => by exact ⟨fun c => absurd rfl c, fun _ => bad (sSet_no (by decide) hno)⟩)), fun _ _ hh => hh⟩)), fun _ _ hh => hh⟩, fun q => absurd q (by decide)⟩⟩
        · rw [show vob (a.1 1 2) 4 = 4 from rfl] at ej
          have hj : j < 4 := (vix_some (by omega) ej).1
          have ei := (vix_some (by omega) ej).2
          subst ei
          have go4 : nI (vlo 4) ≤ v0 → v0 ≤ nI (vhi 4) → VM (true, Gx) (D + 48) iX7_set 52 [some (.ref 58), some (.int (nI 4)), some (.int (nI j)), some (.int v0), none] [] σ post := fun b1 b2 => by
            obtain ⟨x, hx, rfl⟩ := vnat (m := vhi 4) (by decide) (Int32.le_trans (by decide) b1) b2
            rw [nIle (by decide) (Nat.lt_of_le_of_lt hx (by decide))] at b1
            have es := sSet_yes (w := 4) hW (by decide) (by decide) hj b1 hx
            rw [es] at h
            refine VM.go [] ⟨_, VM.at (vr_told hR hW hA (fun s2 hs2 => ?_)), fun _ _ hh => hh⟩
            rw [sTold_4, ej]
            dsimp only
            have fin := h (vput s2 68 j (nI x)) ((hs2.up (fun c k q => vMo_s c k (vRf_o c k q))).put rfl) ((hR.ag (hs2.up vMo_s)).put (Or.inl ⟨by decide, by decide, rfl⟩))
            exact ⟨_, VM.at (vm_lays4 (by omega) (by exact fin)), fun _ _ hh => hh⟩
          exact ⟨fun q => absurd q (by decide), fun _ => ⟨fun q => absurd rfl q, fun _ => ⟨_, VM.at (vm_mostOf (w := 4) (by decide) (by exact ⟨_, VM.at (inn 4 (by decide) (by decide) (by decide) _ (fun b1 b2 => by exact ⟨fun _ => VM.at (go4 b1 b2), fun c => absurd c (by decide)⟩) (fun hno => by exact ⟨fun c => absurd rfl c, fun _ => bad (sSet_no (by decide) hno)⟩)), fun _ _ hh => hh⟩)), fun _ _ hh => hh⟩⟩⟩
        · rw [show vob (a.1 1 2) 5 = 4 from rfl] at ej
          have hj : j < 4 := (vix_some (by omega) ej).1
          have ei := (vix_some (by omega) ej).2
          subst ei
          have go5 : nI (vlo 5) ≤ v0 → v0 ≤ nI (vhi 5) → VM (true, Gx) (D + 48) iX7_set 52 [some (.ref 58), some (.int (nI 5)), some (.int (nI j)), some (.int v0), none] [] σ post := fun b1 b2 => by
            obtain ⟨x, hx, rfl⟩ := vnat (m := vhi 5) (by decide) (Int32.le_trans (by decide) b1) b2
            rw [nIle (by decide) (Nat.lt_of_le_of_lt hx (by decide))] at b1
            have es := sSet_yes (w := 5) hW (by decide) (by decide) hj b1 hx
            rw [es] at h
            refine VM.go [] ⟨_, VM.at (vr_told hR hW hA (fun s2 hs2 => ?_)), fun _ _ hh => hh⟩
            rw [sTold_5, ej]
            dsimp only
            have fin := h (vput s2 69 j (nI x)) ((hs2.up (fun c k q => vMo_s c k (vRf_o c k q))).put rfl) ((hR.ag (hs2.up vMo_s)).put (Or.inl ⟨by decide, by decide, rfl⟩))
            exact ⟨_, VM.at (vm_lays5 (by omega) (by exact fin)), fun _ _ hh => hh⟩
          exact ⟨fun q => absurd q (by decide), fun _ => ⟨fun _ => ⟨_, VM.at (vm_mostOf (w := 5) (by decide) (by exact ⟨_, VM.at (inn 5 (by decide) (by decide) (by decide) _ (fun b1 b2 => by exact ⟨fun _ => VM.at (go5 b1 b2), fun c => absurd c (by decide)⟩) (fun hno => by exact ⟨fun c => absurd rfl c, fun _ => bad (sSet_no (by decide) hno)⟩)), fun _ _ hh => hh⟩)), fun _ _ hh => hh⟩, fun q => absurd q (by decide)⟩⟩
      · refine ⟨fun _ => bad (sSet_noI hW (by omega) h1 (fun j hj e => ?_)), fun q => absurd rfl q⟩
        have e2 : vob (a.1 1 2) w = vpln a w := by
          rcases (show w = 1 ∨ w = 2 ∨ w = 3 ∨ w = 4 ∨ w = 5 by omega) with rfl | rfl | rfl | rfl | rfl <;> rfl
        rw [e2] at ej
        exact vix_none (Nat.lt_of_le_of_lt (vpln_le hW w) (by decide)) ej j hj e
  · refine ⟨fun _ => bad ?_, fun c => absurd rfl c⟩
    unfold sSet
    rw [ew]
end RV
