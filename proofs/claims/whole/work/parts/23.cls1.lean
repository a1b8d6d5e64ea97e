/-! ===== the class's calls, one by one ===== -/
section C1
variable {G : vG} {d : Nat} {σ : vM} {post : vQ} {a : vα}
theorem vc_look {p0 l0 w0 : Int32} (hC : vRC a σ) (hW : vWF a) (h : ∀ σ', (∀ c k, ¬ c = 5 → σ'.1 c k = σ.1 c k) → σ'.2 = σ.2 → vRC (sLook a p0 l0 w0).2 σ' → post (some (.int (sLook a p0 l0 w0).1)) σ') : VM G (d + 1) iX6_look 0 [some (.ref 0), some (.int p0), some (.int l0), some (.int w0), none, none] [] σ post := by
  have bad : sLook a p0 l0 w0 = (-2, a) → post (some (.int (-2))) σ := fun e => by
    have := h σ (fun _ _ _ => rfl) rfl (by rw [e]; exact hC)
    rw [e] at this
    exact this
  have hn6 := hW.1.2.2
  refine VM.go [] ⟨_, VM.at (vb_isLooker (fun p hp e1 => ?_) (fun hno => ?_)), fun _ _ hh => hh⟩
  · refine ⟨fun c => absurd c (by decide), fun _ => ⟨_, VM.at (vb_isLight hC hW (fun l hl e2 => ?_) (fun hno => ?_)), fun _ _ hh => hh⟩⟩
    · refine ⟨fun c => absurd c (by decide), fun _ => ⟨_, VM.at (vb_between (fun b1 b2 => ?_) (fun hno => ?_)), fun _ _ hh => hh⟩⟩
      · obtain ⟨w, hw, e3⟩ := vnat (m := 4095) (by decide) b1 b2
        have es : sLook a p0 l0 w0 = (nI (a.1 5 (6 * p + l)), vaput a 5 (6 * p + l) w) := by
          unfold sLook
          rw [e1, e2, e3, vix_nI hp (by decide), vix_nI hl (by omega), vix_nI (show w < 4096 by omega) (by decide)]
        have ix : p0 * 6 + l0 = nI (6 * p + l) := by
          rw [e1, e2, show (6 : Int32) = nI 6 from rfl, pk_mul, nI_add, Nat.mul_comm]
        refine ⟨fun _ => ⟨6 * p + l, ix, by omega, nofun, 6 * p + l, ix, by omega, ?_⟩, fun c => absurd c (by decide)⟩
        have := h (vput σ 5 (6 * p + l) w0) (fun c k hc => vput_ne (Or.inl hc)) rfl (by rw [es, e3]; exact hC.put rfl (Or.inl ⟨by decide, by decide⟩) hW.2.1.2)
        rw [es] at this
        rw [hC.num 5 (6 * p + l) rfl]
        exact this
      · refine ⟨fun c => absurd rfl c, fun _ => bad ?_⟩
        unfold sLook
        rw [e1, e2, vix_nI hp (by decide), vix_nI hl (by omega), vix_no (by decide) (fun j hj e => hno ⟨by rw [e]; exact Int32.not_lt.mp (nI_pos (by omega)), by rw [e]; exact nI_le (show j ≤ 4095 by omega) (by decide)⟩)]
    · refine ⟨fun _ => bad ?_, fun c => absurd rfl c⟩
      unfold sLook
      rw [e1, vix_nI hp (by decide), vix_no (by omega) hno]
  · refine ⟨fun _ => bad ?_, fun c => absurd rfl c⟩
    unfold sLook
    rw [vix_no (by decide) hno]
theorem vix_btw {x : Int32} {m : Nat} (hm : m < 2 ^ 30) (hno : ¬ (0 ≤ x ∧ x ≤ nI m)) : vix x (m + 1) = none := vix_no (by omega) (fun j hj e => hno ⟨by rw [e]; exact Int32.not_lt.mp (nI_pos (by omega)), by rw [e]; exact nI_le (show j ≤ m by omega) (by omega)⟩)
theorem vc_force {t0 : Int32} (hC : vRC a σ) (hW : vWF a) (h : ∀ σ', (∀ c k, ¬ c = 1 → σ'.1 c k = σ.1 c k) → σ'.2 = σ.2 → vRC (sForce a t0).2 σ' → post (some (.int (sForce a t0).1)) σ') : VM G (d + 1) iX6_force 0 [some (.ref 0), some (.int t0), none] [] σ post := by
  obtain ⟨hT1, hT6⟩ := hW.2.1
  refine VM.go [8] ?_
  show VM G (d + 1) iX6_force 8 _ _ _ _
  rw [hC.num 0 4 rfl, show nI (a.1 0 4) - 1 = nI (a.1 0 4 - 1) from pk_sub (b := 1) hT1]
  refine VM.go [] ⟨_, VM.at (vb_between (fun b1 b2 => ?_) (fun hno => ?_)), fun _ _ hh => hh⟩
  · obtain ⟨t, ht, rfl⟩ := vnat (by omega) b1 b2
    have es : sForce a (nI t) = (nI (a.1 1 1), vaput a 1 1 t) := by
      unfold sForce; rw [vix_nI (by omega) (by omega)]
    refine ⟨fun _ => ?_, fun c => absurd c (by decide)⟩
    have := h (vput σ 1 1 (nI t)) (fun c k hc => vput_ne (Or.inl hc)) rfl (by rw [es]; exact hC.put rfl (Or.inl ⟨by decide, by decide⟩) hT6)
    rw [es, ← hC.num 1 1 rfl] at this
    exact this
  · refine ⟨fun c => absurd rfl c, fun _ => ?_⟩
    have es : sForce a t0 = (-2, a) := by
      unfold sForce
      have := vix_btw (by omega) hno
      rw [show a.1 0 4 - 1 + 1 = a.1 0 4 by omega] at this
      rw [this]
    have := h σ (fun _ _ _ => rfl) rfl (by rw [es]; exact hC)
    rw [es] at this
    exact this
theorem vb_worth (hC : vRC a σ) (h : post (some (.int (nI (vworth a)))) σ) : VM G d iX5_worth 0 [some (.ref 1), none, none] [] σ post := by
  have key : ∀ i, i ≤ 4 → VM G d iX5_worth 4 [some (.ref 1), some (.int (nI (vsumN i (fun k => a.1 8 k * a.1 9 k)))), some (.int (nI i))] [] σ post := by
    refine vloop _ ?_ ?_
    · exact VM.go [4] ⟨fun _ => h, fun c1 => absurd (by decide) c1⟩
    · intro i hi ih
      refine VM.go [4] ⟨fun c1 => absurd c1 (nI_ge hi (by decide)), fun _ => ⟨i, rfl, hi, i, rfl, hi, ?_⟩⟩
      rw [show vsumN (i + 1) (fun k => a.1 8 k * a.1 9 k) = vsumN i (fun k => a.1 8 k * a.1 9 k) + a.1 8 i * a.1 9 i from rfl, ← nI_add, ← nI_1, ← pk_mul, ← hC.num 8 i rfl, ← hC.num 9 i rfl] at ih
      exact ih
  exact VM.go [4] (key 0 (Nat.zero_le _))
theorem vb_pieceCount (hC : vRC a σ) (h : post (some (.int (nI (vpcs a)))) σ) : VM G d iX5_pieceCount 0 [some (.ref 1), none, none] [] σ post := by
  have key : ∀ i, i ≤ 4 → VM G d iX5_pieceCount 4 [some (.ref 1), some (.int (nI (vsumN i (fun k => a.1 9 k)))), some (.int (nI i))] [] σ post := by
    refine vloop _ ?_ ?_
    · exact VM.go [4] ⟨fun _ => h, fun c1 => absurd (by decide) c1⟩
    · intro i hi ih
      refine VM.go [4] ⟨fun c1 => absurd c1 (nI_ge hi (by decide)), fun _ => ⟨i, rfl, hi, ?_⟩⟩
      rw [show vsumN (i + 1) (fun k => a.1 9 k) = vsumN i (fun k => a.1 9 k) + a.1 9 i from rfl, ← nI_add, ← nI_1, ← hC.num 9 i rfl] at ih
      exact ih
  exact VM.go [4] (key 0 (Nat.zero_le _))
/-- out of a switch's keys, all of which are below m -/
theorem vsw_outN {x : Int32} {m df : Nat} {l : List (Int32 × Nat)} (hm : m < 2 ^ 31) (hv : vix x m = none) (hk : l.all (fun q => (List.range m).any (fun j => decide (q.1 = nI j))) = true) : vswT x df l = df := by
  induction l with
  | nil => rfl
  | cons q l ih =>
    simp only [List.all_cons, Bool.and_eq_true] at hk
    unfold vswT
    obtain ⟨j, hj, e⟩ := List.any_eq_true.mp hk.1
    rw [if_neg (fun e2 => vix_none hm hv j (List.mem_range.mp hj) (e2.trans (of_decide_eq_true e)))]
    exact ih hk.2
theorem vc_count {w0 : Int32} (hC : vRC a σ) (hW : vWF a) (h : post (some (.int (sCount a w0))) σ) : VM G (d + 1) iX6_count 0 [some (.ref 0), some (.int w0)] [] σ post := by
  unfold sCount at h
  cases hv : vix w0 6 with
  | none =>
    rw [hv] at h
    exact VM.go [] (vsw_go 88 (vsw_outN (m := 6) (by decide) hv (by decide)) h)
  | some w =>
    rw [hv] at h
    obtain ⟨hw, rfl⟩ := vix_some (by decide) hv
    rcases (show w = 0 ∨ w = 1 ∨ w = 2 ∨ w = 3 ∨ w = 4 ∨ w = 5 by omega) with rfl | rfl | rfl | rfl | rfl | rfl
    · refine VM.go [] (vsw_go 40 (by decide) ?_)
      rw [← hC.num 1 2 rfl] at h
      exact h
    · refine VM.go [] (vsw_go 48 (by decide) ⟨_, VM.at (vb_bitCount ?_), fun _ _ hh => hh⟩)
      rw [hC.num 1 0 rfl, vbc hW.1.1]
      exact h
    · exact VM.go [] (vsw_go 59 (by decide) ⟨_, VM.at (vb_pieceCount hC (by exact h)), fun _ _ hh => hh⟩)
    · refine VM.go [] (vsw_go 67 (by decide) ?_)
      rw [← hC.num 0 4 rfl] at h
      exact h
    · refine VM.go [] (vsw_go 72 (by decide) ?_)
      rw [← hC.num 38 0 rfl] at h
      exact h
    · refine VM.go [] (vsw_go 80 (by decide) ?_)
      rw [← hC.num 1 1 rfl] at h
      exact h
theorem vc_all {w0 : Int32} (hC : vRC a σ) (hW : vWF a) (h : ∀ σ', vag vBi σ σ' → post (some (.int (sAll a w0))) σ') : VM G (d + 6) iX6_all 0 [some (.ref 0), some (.int w0)] [] σ post := by
  unfold sAll at h
  cases hv : vix w0 3 with
  | none =>
    rw [hv] at h
    exact VM.go [] (vsw_go 53 (vsw_outN (m := 3) (by decide) hv (by decide)) (h σ vag.rf))
  | some w =>
    rw [hv] at h
    obtain ⟨hw, rfl⟩ := vix_some (by decide) hv
    rcases (show w = 0 ∨ w = 1 ∨ w = 2 by omega) with rfl | rfl | rfl
    · refine VM.go [36] (vsw_go 28 (by decide) ?_)
      show VM G (d + 6) iX6_all 36 _ _ _ _
      rw [hC.num 1 0 rfl]
      exact VM.go [] ⟨_, VM.at (vb_allTogether hW.1.1 hC hW (by exact h)), fun _ _ hh => hh⟩
    · exact VM.go [] (vsw_go 40 (by decide) ⟨_, VM.at (vb_whoOwesMost hC hW (by exact h)), fun _ _ hh => hh⟩)
    · exact VM.go [] (vsw_go 45 (by decide) ⟨_, VM.at (vb_worth hC (by exact h σ vag.rf)), fun _ _ hh => hh⟩)
theorem vc_owes {p0 l0 w0 : Int32} (hC : vRC a σ) (hW : vWF a) (h : ∀ σ', vag vBi σ σ' → post (some (.int (sOwes a p0 l0 w0))) σ') : VM G (d + 3) iX6_owes 0 [some (.ref 0), some (.int p0), some (.int l0), some (.int w0)] [] σ post := by
  have hn6 := hW.1.2.2
  have ht6 : a.1 1 1 < 6 := by have := hW.1.2.1; have := hW.2.1.2; omega
  refine VM.go [] ⟨_, VM.at (vb_isLooker (fun p hp e1 => ?_) (fun hno => ?_)), fun _ _ hh => hh⟩
  · refine ⟨fun c => absurd c (by decide), fun _ => ⟨_, VM.at (vb_isLight hC hW (fun l hl e2 => ?_) (fun hno => ?_)), fun _ _ hh => hh⟩⟩
    · subst e1; subst e2
      refine ⟨fun _ => ⟨_, VM.at (vb_openBill hp hC hW (fun s2 hs2 hB => ?_)), fun _ _ hh => hh⟩, fun c => absurd c (by decide)⟩
      have hl6 : l < 6 := by omega
      unfold sOwes at h
      rw [vix_nI hp (by decide), vix_nI hl (by omega)] at h
      have hrc := vRc_of ht6
      refine ⟨fun c1 => ⟨fun c2 => ⟨_, VM.at (vb_between (fun b1 b2 => ?_) (fun hno => ?_)), fun _ _ hh => hh⟩, fun c2 => ?_⟩, fun c1 => ?_⟩
      · obtain ⟨w, hw, rfl⟩ := vnat (m := 21) (by decide) (by
          rw [Int32.le_iff_toInt_le] at b1 ⊢
          rw [show (10 : Int32).toInt = 10 from by decide] at b1
          rw [show (0 : Int32).toInt = 0 from by decide]
          omega) b2
        rw [show (10 : Int32) = nI 10 from rfl, nIle (by decide) (by omega)] at b1
        rw [vix_nI (show w < 22 by omega) (by decide)] at h
        dsimp only at h
        rw [if_neg (by omega), if_neg (by omega), if_pos b1] at h
        refine ⟨fun _ => ?_, fun c => absurd c (by decide)⟩
        obtain ⟨k1, k2, k3, ⟨nn, k4, k5, k6⟩, k7, k8⟩ := hB
        have ex : nI w - 10 = nI (w - 10) := pk_sub (b := 10) b1
        refine VM.at (VM.go [73] ?_)
        show VM G (d + 3) iX6_owes 73 _ _ _ _
        rw [ex]
        refine VM.go [] ⟨_, VM.at (vb_dueFor k5 hrc hl6 (show w - 10 < 12 by omega) k7 k8 (vb_vTl k1 k2 k3) (fun s3 hs3 => ?_)), fun _ _ hh => hh⟩
        exact h s3 (hs2.tr (hs3.up vSc_Bi))
      · refine ⟨fun c => absurd rfl c, fun _ => ?_⟩
        have := h s2 hs2
        cases hv : vix w0 22 with
        | none => rw [hv] at this; exact this
        | some w =>
          rw [hv] at this
          obtain ⟨hw, rfl⟩ := vix_some (by decide) hv
          dsimp only at this
          rw [if_neg (fun e => c1 (by rw [e]; rfl)), if_neg (fun e => c2 (by rw [e]; rfl)), if_neg (fun e => hno ⟨nI_le e (by omega), nI_le (show w ≤ 21 by omega) (by decide)⟩)] at this
          exact this
      · rw [show w0 = nI 1 from c2, vix_nI (by decide) (by decide)] at h
        exact ⟨_, VM.at (vb_nightsOf hl6 hB.2.2.2.2.1 hB.2.2.2.2.2 (by exact h s2 hs2)), fun _ _ hh => hh⟩
      · rw [show w0 = nI 0 from c1, vix_nI (by decide) (by decide)] at h
        exact ⟨_, VM.at (vb_owedR hl6 hB (fun s3 hs3 => by exact h s3 (hs2.tr (hs3.up vSc_Bi)))), fun _ _ hh => hh⟩
    · refine ⟨fun c => absurd rfl c, fun _ => ?_⟩
      have := h σ vag.rf
      unfold sOwes at this
      rw [e1, vix_nI hp (by decide), vix_no (by omega) hno] at this
      exact this
  · refine ⟨fun _ => ?_, fun c => absurd rfl c⟩
    have := h σ vag.rf
    unfold sOwes at this
    rw [vix_no (by decide) hno] at this
    exact this
end C1
