/-! ===== light ===== -/
section C4
variable {G : vG} {d : Nat} {σ : vM} {post : vQ} {a : vα}
theorem vb_addLight {k m y : Nat} (hC : vRC a σ) (hW : vWF a) (h4 : a.1 1 2 = 6 → post (some (.int (-4))) σ) (h : a.1 1 2 < 6 → ∀ σ', vag vKl σ σ' → vRC (vlight a k m y) σ' → post (some (.int (nI (a.1 1 2)))) σ') : VM G d iX5_addLight 0 [some (.ref 1), some (.int (nI k)), some (.int (nI m)), some (.int (nI y)), none, none] [] σ post := by
  have hn6 := hW.1.2.2
  have hT := hW.2.1.2
  have hn := hC.num 1 2 rfl
  obtain ⟨n, hgn⟩ : ∃ n, n = a.1 1 2 := ⟨_, rfl⟩
  unfold vlight at h
  rw [← hgn] at hn6 hn h4 h
  refine VM.go [6] ?_
  show VM G d iX5_addLight 6 _ _ _ _
  rw [hn]
  by_cases e6 : n = 6
  · refine VM.go [] ⟨fun _ => h4 e6, fun _ => ⟨fun c => absurd c ?_, fun _ => h4 e6⟩⟩
    rw [e6]; decide
  · have hlt : n < 6 := by omega
    have key : ∀ i, i ≤ 5 → ∀ s2, vag vKl σ s2 → vRC (vseen0 (vaput (vaput (vaput a 2 n k) 3 n m) 4 n y) n i) s2 → VM G d iX5_addLight 48 [some (.ref 1), some (.int (nI k)), some (.int (nI m)), some (.int (nI y)), some (.int (nI n)), some (.int (nI i))] [] s2 post := by
      refine vloop _ ?_ ?_
      · intro s2 hs2 h2
        refine VM.go [48] ⟨fun _ => ?_, fun c1 => absurd (by decide) c1⟩
        have hT2 : (vseen0 (vaput (vaput (vaput a 2 n k) 3 n m) 4 n y) n 5).1 0 4 ≤ 6 := by rw [vseen0_ne (by decide)]; exact hT
        have := h hlt (vput s2 1 2 (nI (n + 1))) (hs2.put rfl) (h2.put rfl (Or.inl ⟨by decide, by decide⟩) hT2)
        rw [← nI_1] at this
        exact this
      · intro i hi ih s2 hs2 h2
        have ix : nI i * 6 + nI n = nI (6 * i + n) := by
          rw [show (6 : Int32) = nI 6 from rfl, pk_mul, nI_add, Nat.mul_comm]
        refine VM.go [48] ⟨fun c1 => absurd c1 (nI_ge hi (by decide)), fun _ => ⟨nofun, 6 * i + n, ix, by omega, ?_⟩⟩
        have hT2 : (vseen0 (vaput (vaput (vaput a 2 n k) 3 n m) 4 n y) n i).1 0 4 ≤ 6 := by rw [vseen0_ne (by decide)]; exact hT
        have := ih (vput s2 5 (6 * i + n) (nI 0)) (hs2.put rfl) (h2.put rfl (Or.inl ⟨by decide, by decide⟩) hT2)
        rw [← nI_1] at this
        exact this
    refine VM.go [48] ⟨fun c => absurd c (nI_pos (by omega)), fun _ => ⟨fun _ => ⟨nofun, n, rfl, hlt, nofun, n, rfl, hlt, nofun, n, rfl, hlt, ?_⟩, fun c => absurd (show nI n < nI 6 from nI_lt hlt (by decide)) c⟩⟩
    exact key 0 (Nat.zero_le _) _ (((vag.rf.put rfl).put rfl).put rfl) (((hC.put (c := 2) rfl (Or.inl ⟨by decide, by decide⟩) hT).put (c := 3) rfl (Or.inl ⟨by decide, by decide⟩) hT).put (c := 4) rfl (Or.inl ⟨by decide, by decide⟩) hT)
theorem vnat1 {x : Int32} {m : Nat} (hm : m < 2 ^ 31) (h0 : 1 ≤ x) (h1 : x ≤ nI m) : ∃ n : Nat, 1 ≤ n ∧ n ≤ m ∧ x = nI n := by
  obtain ⟨n, hn, rfl⟩ := vnat hm (by
    rw [Int32.le_iff_toInt_le] at h0 ⊢
    rw [show (1 : Int32).toInt = 1 from by decide] at h0
    rw [show (0 : Int32).toInt = 0 from by decide]
    omega) h1
  rw [show (1 : Int32) = nI 1 from rfl, nIle (by decide) (by omega)] at h0
  exact ⟨n, h0, hn, rfl⟩
theorem sLight_no {k0 m0 y0 : Int32} (hn : ¬ (0 ≤ k0 ∧ k0 ≤ nI 5) ∨ ¬ (0 ≤ m0 ∧ m0 ≤ nI 9) ∨ ¬ (1 ≤ y0 ∧ y0 ≤ nI 999)) : sLight a k0 m0 y0 = (-2, a) := by
  unfold sLight
  cases hk : vix k0 6 with
  | none => rfl
  | some k =>
    cases hm : vix m0 10 with
    | none => rfl
    | some m =>
      cases hy : vix y0 1000 with
      | none => rfl
      | some y =>
        dsimp only
        obtain ⟨k1, rfl⟩ := vix_some (by decide) hk
        obtain ⟨m1, rfl⟩ := vix_some (by decide) hm
        obtain ⟨y1, rfl⟩ := vix_some (by decide) hy
        rcases hn with q | q | q
        · exact absurd ⟨Int32.not_lt.mp (nI_pos (by omega)), nI_le (show k ≤ 5 by omega) (by decide)⟩ q
        · exact absurd ⟨Int32.not_lt.mp (nI_pos (by omega)), nI_le (show m ≤ 9 by omega) (by decide)⟩ q
        · refine if_pos ?_
          rcases Nat.eq_zero_or_pos y with e | e
          · exact e
          · exact absurd ⟨show nI 1 ≤ nI y from nI_le e (by omega), nI_le (show y ≤ 999 by omega) (by decide)⟩ q
theorem vc_light {k0 m0 y0 : Int32} (hC : vRC a σ) (hW : vWF a) (h : ∀ σ', vag vKl σ σ' → vRC (sLight a k0 m0 y0).2 σ' → post (some (.int (sLight a k0 m0 y0).1)) σ') : VM G (d + 1) iX6_light 0 [some (.ref 0), some (.int k0), some (.int m0), some (.int y0)] [] σ post := by
  have bad : sLight a k0 m0 y0 = (-2, a) → post (some (.int (-2))) σ := fun e => by
    have := h σ vag.rf (by rw [e]; exact hC)
    rw [e] at this
    exact this
  refine VM.go [] ⟨_, VM.at (vb_between (fun b1 b2 => ?_) (fun hno => ?_)), fun _ _ hh => hh⟩
  · obtain ⟨k, hk, rfl⟩ := vnat (m := 5) (by decide) b1 b2
    refine ⟨fun c => absurd c (by decide), fun _ => ⟨_, VM.at (vb_between (fun b1 b2 => ?_) (fun hno => ?_)), fun _ _ hh => hh⟩⟩
    · obtain ⟨m, hm, rfl⟩ := vnat (m := 9) (by decide) b1 b2
      refine ⟨fun c => absurd c (by decide), fun _ => ⟨_, VM.at (vb_between (fun b1 b2 => ?_) (fun hno => ?_)), fun _ _ hh => hh⟩⟩
      · obtain ⟨y, hy1, hy, rfl⟩ := vnat1 (m := 999) (by decide) b1 b2
        have es : sLight a (nI k) (nI m) (nI y) = if a.1 1 2 = 6 then (-4, a) else (nI (a.1 1 2), vlight a k m y) := by
          unfold sLight
          rw [vix_nI (show k < 6 by omega) (by decide), vix_nI (show m < 10 by omega) (by decide), vix_nI (show y < 1000 by omega) (by decide)]
          exact if_neg (by omega)
        rw [es] at h
        refine ⟨fun _ => ⟨_, VM.at (vb_addLight hC hW (fun e6 => ?_) (fun hlt s2 hs2 h2 => ?_)), fun _ _ hh => hh⟩, fun c => absurd c (by decide)⟩
        · rw [if_pos e6] at h
          exact h σ vag.rf hC
        · rw [if_neg (by omega)] at h
          exact h s2 hs2 h2
      · exact ⟨fun c => absurd rfl c, fun _ => bad (sLight_no (Or.inr (Or.inr hno)))⟩
    · exact ⟨fun _ => bad (sLight_no (Or.inr (Or.inl hno))), fun c => absurd rfl c⟩
  · exact ⟨fun _ => bad (sLight_no (Or.inl hno)), fun c => absurd rfl c⟩
end C4
