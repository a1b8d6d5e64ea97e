/-! ===== leave, farm, walk ===== -/
section LE
variable {G : vG} {d : Nat} {σ : vM} {post : vQ} {a : vα}
theorem vlvp_le {f : Nat → Nat} {base : Nat} (hb : base ≤ 77922) (hf : ∀ t, f t ≤ 77922) (t : Nat) : (vlvp f base t).1 ≤ t ∧ (vlvp f base t).2 ≤ 77922 := by
  induction t with
  | zero => exact ⟨Nat.le_refl _, hb⟩
  | succ t ih =>
    unfold vlvp
    split
    · exact ⟨Nat.le_refl _, hf t⟩
    · exact ⟨by omega, ih.2⟩
theorem vc_leave {p0 w0 : Int32} (hC : vRC a σ) (hW : vWF a) (h : ∀ σ', vag vBi σ σ' → post (some (.int (sLeave a p0 w0))) σ') : VM G (d + 4) iX6_leave 0 [some (.ref 0), some (.int p0), some (.int w0), none, none, none, none, none] [] σ post := by
  have bad : sLeave a p0 w0 = -2 → post (some (.int (-2))) σ := fun e => by
    have := h σ vag.rf
    rw [e] at this
    exact this
  have hn6 := hW.1.2.2
  refine VM.go [] ⟨_, VM.at (vb_isLooker (fun p hp e1 => ?_) (fun hno => ?_)), fun _ _ hh => hh⟩
  · refine ⟨fun c => absurd c (by decide), fun _ => ⟨_, VM.at (vb_between (fun b1 b2 => ?_) (fun hno => ?_)), fun _ _ hh => hh⟩⟩
    · obtain ⟨w, hw, e3⟩ := vnat (m := 1) (by decide) b1 b2
      subst e1; subst e3
      unfold sLeave at h
      rw [vix_nI hp (by decide), vix_nI (show w < 2 by omega) (by decide)] at h
      dsimp only at h
      obtain ⟨f, hf⟩ : ∃ f, f = (fun l => vsm a (vupd (vse a p) l 0)) := ⟨_, rfl⟩
      obtain ⟨base, hbase⟩ : ∃ b, b = vsm a (vse a p) := ⟨_, rfl⟩
      rw [← hf, ← hbase] at h
      have hfl : ∀ t, f t ≤ 77922 := fun t => by rw [hf]; exact vsm_le hn6
      have hbl : base ≤ 77922 := by rw [hbase]; exact vsm_le hn6
      refine ⟨fun _ => ⟨_, VM.at (vb_openBill hp hC hW (fun s2 hs2 hB => ?_)), fun _ _ hh => hh⟩, fun c => absurd c (by decide)⟩
      refine VM.at (VM.go [38] ⟨_, VM.at (vb_sum hB (fun s3 hs3 => ?_)), fun _ _ hh => hh⟩)
      rw [show vsumN (a.1 1 2) (vowes (vTof (vcomp (a.2.2 (a.1 1 1)))) (a.1 1 0) (a.1 1 2) (a.1 2) (a.1 3) (a.1 4) (vse a p)) = base from by rw [hbase]; rfl]
      have hs3' := hs2.tr (hs3.up vSc_Bi)
      have hB3 := hB.ag hs3
      have key : ∀ i, i ≤ a.1 1 2 → ∀ (s4 : vM) (y6 y7 : Option Value), vag vBi σ s4 → vBR (vcomp (a.2.2 (a.1 1 1))) (a.1 1 0) (a.1 1 2) (20 + 3 * a.1 1 1) (a.1 2) (a.1 3) (a.1 4) (vse a p) s4 → VM G (d + 4) iX6_leave 38 [some (.ref 0), some (.int (nI p)), some (.int (nI w)), some (.int (nI (vlvp f base i).1 - 1)), some (.int (nI (vlvp f base i).2)), some (.int (nI i)), y6, y7] [] s4 post := by
        refine vloop _ ?_ ?_
        · intro s4 y6 y7 hs4 hB4
          have en : s4.1 1 2 = nI (a.1 1 2) := (hs4.get rfl).trans (hC.num 1 2 rfl)
          have fin : VM G (d + 4) iX6_leave 121 [some (.ref 0), some (.int (nI p)), some (.int (nI w)), some (.int (nI (vlvp f base (a.1 1 2)).1 - 1)), some (.int (nI (vlvp f base (a.1 1 2)).2)), some (.int (nI (a.1 1 2))), y6, y7] [] s4 post := by
            refine VM.go [] ⟨fun c => ?_, fun c => ?_⟩
            · have := h s4 hs4
              rw [if_neg (fun e => c (by rw [e]; rfl))] at this
              exact this
            · have e0 : w = 0 := by
                have q := congrArg Int32.toNatClampNeg (show nI w = 0 from c)
                rw [nI_clamp (by omega)] at q
                exact q.trans (by decide)
              have := h s4 hs4
              rw [if_pos e0] at this
              exact this
          refine VM.go [121] ⟨fun _ => fin, fun q => absurd ?_ q⟩
          rw [en]; exact nI_le (Nat.le_refl _) (by omega)
        · intro i hi ih s4 y6 y7 hs4 hB4
          have en : s4.1 1 2 = nI (a.1 1 2) := (hs4.get rfl).trans (hC.num 1 2 rfl)
          have hi6 : i < 6 := by omega
          have e44 : s4.1 44 i = nI (vse a p i) := hB4.2.2.2.2.2.2.2.2.2.2.2 i hi6
          have hse : vse a p i < 4096 := hW.2.2.2.1 _ (by omega)
          have hb := vlvp_le hbl hfl i
          obtain ⟨r, hr⟩ : ∃ r, r = vlvp f base i := ⟨_, rfl⟩
          have es : vlvp f base (i + 1) = if f i < r.2 then (i + 1, f i) else r := by rw [hr]; rfl
          rw [es] at ih
          rw [← hr] at hb ⊢
          refine VM.go [80] ⟨fun q => absurd q (by rw [en]; exact nI_ge hi (by omega)), fun _ => ⟨fun q => absurd q (nI_ge hi6 (by decide)), fun _ => ⟨i, rfl, hi6, nofun, i, rfl, hi6, ?_⟩⟩⟩
          show VM G (d + 4) iX6_leave 80 _ _ _ _
          rw [e44]
          have hB5 := hB4.seen (v := 0) hi6 (by decide)
          have hs5 : vag vBi σ (vput s4 44 i (nI 0)) := hs4.put rfl
          refine VM.go [115] ⟨_, VM.at (vb_sum hB5 (fun s6 hs6 => ?_)), fun _ _ hh => hh⟩
          rw [show vsumN (a.1 1 2) (vowes (vTof (vcomp (a.2.2 (a.1 1 1)))) (a.1 1 0) (a.1 1 2) (a.1 2) (a.1 3) (a.1 4) (vupd (vse a p) i 0)) = f i from by rw [hf]; rfl]
          have hB7 := (hB5.ag hs6).seen (l := i) (v := vse a p i) hi6 hse
          rw [vupd_id] at hB7
          have hs7 : vag vBi σ (vput s6 44 i (nI (vse a p i))) := (hs5.tr (hs6.up vSc_Bi)).put rfl
          have hft := hfl i
          have cont : ∀ (r' : Nat × Nat) (y6 y7 : Option Value), r' = (if f i < r.2 then (i + 1, f i) else r) → VM G (d + 4) iX6_leave 115 [some (.ref 0), some (.int (nI p)), some (.int (nI w)), some (.int (nI r'.1 - 1)), some (.int (nI r'.2)), some (.int (nI i)), y6, y7] [] (vput s6 44 i (nI (vse a p i))) post := by
            intro r' y6 y7 er
            refine VM.go [38] ?_
            show VM G (d + 4) iX6_leave 38 _ _ _ _
            rw [nI_1, er]
            exact ih _ y6 y7 hs7 hB7
          have ctA := fun q y6 y7 => cont (i + 1, f i) y6 y7 (if_pos q).symm
          have ctB := fun q y6 y7 => cont r y6 y7 (if_neg q).symm
          dsimp only at ctA
          rw [nI_pred] at ctA
          refine VM.at (VM.go [115] ⟨nofun, i, rfl, hi6, fun q => ?_, fun q => ?_⟩)
          · have q' : nI r.2 ≤ nI (f i) := q
            rw [nIle (by omega) (by omega)] at q'
            exact ctB (by omega) _ _
          · have q' : ¬ nI r.2 ≤ nI (f i) := q
            rw [nIle (by omega) (by omega)] at q'
            exact ctA (by omega) _ _
      refine VM.at (VM.go [38] ?_)
      exact key 0 (Nat.zero_le _) s3 none none hs3' hB3
    · refine ⟨fun c => absurd rfl c, fun _ => bad ?_⟩
      unfold sLeave
      rw [vix_btw (x := w0) (m := 1) (by decide) hno]
      cases vix p0 5 <;> rfl
  · refine ⟨fun _ => bad ?_, fun c => absurd rfl c⟩
    unfold sLeave
    rw [vix_no (x := p0) (by decide) hno]
theorem vc_farm {p0 k0 : Int32} (hC : vRC a σ) (hW : vWF a) (h : ∀ σ', vag vBi σ σ' → post (some (.int (sFarm a p0 k0))) σ') : VM G (d + 4) iX6_farm 0 [some (.ref 0), some (.int p0), some (.int k0), none] [] σ post := by
  have bad : sFarm a p0 k0 = -2 → post (some (.int (-2))) σ := fun e => by
    have := h σ vag.rf
    rw [e] at this
    exact this
  have hn6 := hW.1.2.2
  refine VM.go [] ⟨_, VM.at (vb_isLooker (fun p hp e1 => ?_) (fun hno => ?_)), fun _ _ hh => hh⟩
  · refine ⟨fun c => absurd c (by decide), fun _ => ⟨_, VM.at (vb_between (fun b1 b2 => ?_) (fun hno => ?_)), fun _ _ hh => hh⟩⟩
    · obtain ⟨K, hK, e3⟩ := vnat (m := 99999) (by decide) b1 b2
      subst e1; subst e3
      unfold sFarm at h
      rw [vix_nI hp (by decide), vix_nI (show K < 100000 by omega) (by decide)] at h
      dsimp only at h
      obtain ⟨f, hf⟩ : ∃ f, f = (fun t => vsm a (vkeep (vse a p) (2 ^ (t + 1) - 1) 6)) := ⟨_, rfl⟩
      rw [← hf] at h
      have hfl : ∀ t, f t ≤ 77922 := fun t => by rw [hf]; exact vsm_le hn6
      have key : ∀ t, t ≤ 12 → ∀ (s3 : vM), vag vBi σ s3 → (∀ σ', vag vBi σ σ' → post (some (.int (vff f K (12 - t) t))) σ') → VM G (d + 4) iX6_farm 22 [some (.ref 0), some (.int (nI p)), some (.int (nI K)), some (.int (nI t))] [] s3 post := by
        refine vloop _ ?_ ?_
        · intro s3 hs3 h'
          exact VM.go [22] ⟨fun _ => h' s3 hs3, fun q => absurd (by decide) q⟩
        · intro t ht ih s3 hs3 h'
          rw [show 12 - t = (12 - (t + 1)) + 1 by omega] at h'
          unfold vff at h'
          refine VM.go [22] ⟨fun q => absurd q (nI_ge ht (by decide)), fun _ => ⟨_, VM.at (vb_openBill hp (hC.bi hW hs3) hW (fun s4 hs4 hB => ?_)), fun _ _ hh => hh⟩⟩
          refine VM.at (VM.go [42] ?_)
          show VM G (d + 4) iX6_farm 42 _ _ _ _
          rw [nI_shl2 t ht]
          have hm : 2 ^ (t + 1) - 1 < 4096 := by
            have : 2 ^ (t + 1) ≤ 2 ^ 12 := Nat.pow_le_pow_right (by decide) (by omega)
            omega
          refine VM.go [22] ⟨_, VM.at (vb_keepNights hm hB (fun s5 hs5 hB5 => ?_)), fun _ _ hh => hh⟩
          refine ⟨_, VM.at (vb_sum hB5 (fun s6 hs6 => ?_)), fun _ _ hh => hh⟩
          have hs6' := ((hs3.tr hs4).tr hs5).tr (hs6.up vSc_Bi)
          rw [show vsumN (a.1 1 2) (vowes (vTof (vcomp (a.2.2 (a.1 1 1)))) (a.1 1 0) (a.1 1 2) (a.1 2) (a.1 3) (a.1 4) (vkeep (vse a p) (2 ^ (t + 1) - 1) 6)) = f t from by rw [hf]; rfl]
          have hft := hfl t
          refine ⟨fun q => ?_, fun q => ?_⟩
          · have q' : nI (f t) < nI K := q
            rw [nIlt (by omega) (by omega)] at q'
            rw [if_neg (by omega)] at h'
            have := ih s6 hs6' h'
            rw [← nI_1] at this
            exact this
          · have q' : ¬ nI (f t) < nI K := q
            rw [nIlt (by omega) (by omega)] at q'
            rw [if_pos (by omega)] at h'
            exact h' s6 hs6'
      refine ⟨fun _ => ?_, fun c => absurd c (by decide)⟩
      refine VM.at (VM.go [22] ?_)
      exact key 0 (Nat.zero_le _) σ vag.rf h
    · refine ⟨fun c => absurd rfl c, fun _ => bad ?_⟩
      unfold sFarm
      rw [vix_btw (x := k0) (m := 99999) (by decide) hno]
      cases vix p0 5 <;> rfl
  · refine ⟨fun _ => bad ?_, fun c => absurd rfl c⟩
    unfold sFarm
    rw [vix_no (x := p0) (by decide) hno]
end LE
