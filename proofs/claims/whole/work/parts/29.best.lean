/-! ===== cheapest, leave, farm ===== -/
def vupd (se : Nat → Nat) (l v : Nat) : Nat → Nat := fun k => if k = l then v else se k
theorem vupd_2 {se : Nat → Nat} {l v w : Nat} : vupd (vupd se l v) l w = vupd se l w := by
  funext k; unfold vupd; split <;> rfl
theorem vupd_id {se : Nat → Nat} {l v : Nat} : vupd (vupd se l v) l (se l) = se := by
  funext k; unfold vupd; split
  · next h => rw [h]
  · rfl
def vkeep (se : Nat → Nat) (m i : Nat) : Nat → Nat := fun k => if k < i then se k &&& m else se k
theorem vkeep_s {se : Nat → Nat} {m i : Nat} : vupd (vkeep se m i) i (se i &&& m) = vkeep se m (i + 1) := by
  funext k; unfold vupd vkeep
  by_cases h : k = i
  · rw [if_pos h, if_pos (by omega), h]
  · rw [if_neg h]
    by_cases h2 : k < i
    · rw [if_pos h2, if_pos (by omega)]
    · rw [if_neg h2, if_neg (by omega)]
abbrev vse (a : vα) (p : Nat) : Nat → Nat := fun l => a.1 5 (6 * p + l)
def vsm (a : vα) (se : Nat → Nat) : Nat := vsumN (a.1 1 2) (vowes (vTof (vcomp (a.2.2 (a.1 1 1)))) (a.1 1 0) (a.1 1 2) (a.1 2) (a.1 3) (a.1 4) se)
theorem vsm_le {a : vα} {se : Nat → Nat} (hn : a.1 1 2 ≤ 6) : vsm a se ≤ 77922 := by
  have h1 := vsumN_le (n := a.1 1 2) (f := vowes (vTof (vcomp (a.2.2 (a.1 1 1)))) (a.1 1 0) (a.1 1 2) (a.1 2) (a.1 3) (a.1 4) se) (b := 12987) (fun i _ => vowes_le)
  have h2 : a.1 1 2 * 12987 ≤ 6 * 12987 := Nat.mul_le_mul_right _ hn
  exact Nat.le_trans h1 h2
def vchp (f : Nat → Nat) (tk : Nat) : Nat → Nat × Nat
  | 0 => (0, 0)
  | t + 1 => if tk / 2 ^ t % 2 = 1 then vchp f tk t else if (vchp f tk t).1 = 0 ∨ f t + 1 < (vchp f tk t).2 then (t + 1, f t + 1) else vchp f tk t
def sCheapest (a : vα) (looker light what : Int32) : Int32 := match vix looker 5, vix light (a.1 1 2), vix what 2 with
  | some p, some l, some w => if w = 0 then nI (vchp (fun t => vsm a (vupd (vse a p) l (a.1 5 (6 * p + l) ||| 2 ^ t))) (a.1 5 (6 * p + l) ||| a.1 1 0) 12).1 - 1 else nI (vchp (fun t => vsm a (vupd (vse a p) l (a.1 5 (6 * p + l) ||| 2 ^ t))) (a.1 5 (6 * p + l) ||| a.1 1 0) 12).2 - 1
  | _, _, _ => -2
def vlvp (f : Nat → Nat) (base : Nat) : Nat → Nat × Nat
  | 0 => (0, base)
  | l + 1 => if f l < (vlvp f base l).2 then (l + 1, f l) else vlvp f base l
def sLeave (a : vα) (looker what : Int32) : Int32 := match vix looker 5, vix what 2 with
  | some p, some w => if w = 0 then nI (vlvp (fun l => vsm a (vupd (vse a p) l 0)) (vsm a (vse a p)) (a.1 1 2)).1 - 1 else nI (vlvp (fun l => vsm a (vupd (vse a p) l 0)) (vsm a (vse a p)) (a.1 1 2)).2
  | _, _ => -2
def vff (f : Nat → Nat) (K : Nat) : Nat → Nat → Int32
  | 0, _ => -1
  | n + 1, t => if K ≤ f t then nI t else vff f K n (t + 1)
def sFarm (a : vα) (looker k : Int32) : Int32 := match vix looker 5, vix k 100000 with
  | some p, some K => vff (fun t => vsm a (vkeep (vse a p) (2 ^ (t + 1) - 1) 6)) K 12 0
  | _, _ => -2
theorem vBR.seen {cs : Nat → List Int32} {c n r : Nat} {kd nu ye se : Nat → Nat} {σ : vM} {l v : Nat} (hB : vBR cs c n r kd nu ye se σ) (hl : l < 6) (hv : v < 4096) : vBR cs c n r kd nu ye (vupd se l v) (vput σ 44 l (nI v)) := by
  obtain ⟨w1, w2, w3, w4, w5, w6, w7⟩ := hB.2.2.2.2.1
  obtain ⟨g1, g2, g3, g4, g5, g6, g7⟩ := hB.2.2.2.2.2
  refine hB.to (vag.rf.put rfl) ⟨w1, w2, w3, w4, w5, w6, fun k hk => ?_⟩ ⟨g1, g2, g3, g4, g5, g6, fun k hk => ?_⟩
  · unfold vupd; split
    · exact hv
    · exact w7 k hk
  · rw [vput_get]
    unfold vupd
    by_cases e : k = l
    · rw [if_pos ⟨rfl, e⟩, if_pos e]
    · rw [if_neg (fun q => e q.2), if_neg e]; exact g7 k hk
theorem nI_shl1 : ∀ t, t < 12 → (1 : Int32) <<< (nI t &&& 31) = nI (2 ^ t) := by decide
theorem nI_shl2 : ∀ t, t < 12 → (2 : Int32) <<< (nI t &&& 31) - 1 = nI (2 ^ (t + 1) - 1) := by decide
theorem vor_lt {s t : Nat} (hs : s < 4096) (ht : t < 12) : s ||| 2 ^ t < 4096 := Nat.or_lt_two_pow (n := 12) hs (Nat.pow_lt_pow_right (by decide) ht)
section BE
variable {G : vG} {d : Nat} {σ : vM} {post : vQ} {a : vα} {cs : Nat → List Int32} {c n r : Nat} {kd nu ye se : Nat → Nat}
theorem vb_keepNights {m : Nat} (hm : m < 4096) (hB : vBR cs c n r kd nu ye se σ) (h : ∀ σ', vag vBi σ σ' → vBR cs c n r kd nu ye (vkeep se m 6) σ' → post none σ') : VM G d iX0_keepNights 0 [some (.ref 40), some (.int (nI m)), none] [] σ post := by
  have key : ∀ i, i ≤ 6 → ∀ s2, vag vBi σ s2 → vBR cs c n r kd nu ye (vkeep se m i) s2 → VM G d iX0_keepNights 2 [some (.ref 40), some (.int (nI m)), some (.int (nI i))] [] s2 post := by
    refine vloop _ ?_ ?_
    · intro s2 hs2 h2
      exact VM.go [2] ⟨fun _ => h s2 hs2 h2, fun q => absurd (by decide) q⟩
    · intro i hi ih s2 hs2 h2
      have e : s2.1 44 i = nI (se i) := by
        have := h2.2.2.2.2.2.2.2.2.2.2.2 i hi
        unfold vkeep at this
        rw [if_neg (Nat.lt_irrefl _)] at this
        exact this
      have hse : se i < 4096 := by
        have := h2.2.2.2.2.1.2.2.2.2.2.2 i hi
        unfold vkeep at this
        rw [if_neg (Nat.lt_irrefl _)] at this
        exact this
      refine VM.go [2] ⟨fun q => absurd q (nI_ge hi (by decide)), fun _ => ⟨i, rfl, hi, nofun, i, rfl, hi, ?_⟩⟩
      have h3 := h2.seen (v := se i &&& m) hi (Nat.lt_of_le_of_lt Nat.and_le_left hse)
      rw [vkeep_s] at h3
      have := ih (vput s2 44 i (nI (se i &&& m))) (hs2.put rfl) h3
      rw [← nI_and (by omega) (by omega), ← e, ← nI_1] at this
      exact this
  refine VM.go [2] (key 0 (Nat.zero_le _) σ vag.rf ?_)
  have : vkeep se m 0 = se := by funext k; unfold vkeep; rw [if_neg (Nat.not_lt_zero _)]
  rw [this]; exact hB
theorem vchp_le {f : Nat → Nat} {tk : Nat} (hf : ∀ t, f t ≤ 77922) (t : Nat) : (vchp f tk t).1 ≤ t ∧ (vchp f tk t).2 ≤ 77923 := by
  induction t with
  | zero => exact ⟨Nat.le_refl _, Nat.zero_le _⟩
  | succ t ih =>
    unfold vchp
    have := hf t
    split
    · exact ⟨by omega, ih.2⟩
    · split
      · exact ⟨Nat.le_refl _, by dsimp only; omega⟩
      · exact ⟨by omega, ih.2⟩
theorem vc_cheapest {p0 l0 w0 : Int32} (hC : vRC a σ) (hW : vWF a) (h : ∀ σ', vag vBi σ σ' → post (some (.int (sCheapest a p0 l0 w0))) σ') : VM G (d + 4) iX6_cheapest 0 [some (.ref 0), some (.int p0), some (.int l0), some (.int w0), none, none, none, none, none, none] [] σ post := by
  have bad : sCheapest a p0 l0 w0 = -2 → post (some (.int (-2))) σ := fun e => by
    have := h σ vag.rf
    rw [e] at this
    exact this
  have hn6 := hW.1.2.2
  refine VM.go [] ⟨_, VM.at (vb_isLooker (fun p hp e1 => ?_) (fun hno => ?_)), fun _ _ hh => hh⟩
  · refine ⟨fun c => absurd c (by decide), fun _ => ⟨_, VM.at (vb_isLight hC hW (fun l hl e2 => ?_) (fun hno => ?_)), fun _ _ hh => hh⟩⟩
    · refine ⟨fun c => absurd c (by decide), fun _ => ⟨_, VM.at (vb_between (fun b1 b2 => ?_) (fun hno => ?_)), fun _ _ hh => hh⟩⟩
      · obtain ⟨w, hw, e3⟩ := vnat (m := 1) (by decide) b1 b2
        subst e1; subst e2; subst e3
        unfold sCheapest at h
        rw [vix_nI hp (by decide), vix_nI hl (by omega), vix_nI (show w < 2 by omega) (by decide)] at h
        dsimp only at h
        obtain ⟨f, hf⟩ : ∃ f, f = (fun t => vsm a (vupd (vse a p) l (a.1 5 (6 * p + l) ||| 2 ^ t))) := ⟨_, rfl⟩
        obtain ⟨s, hs⟩ : ∃ s, s = a.1 5 (6 * p + l) := ⟨_, rfl⟩
        obtain ⟨tk, htk⟩ : ∃ tk, tk = s ||| a.1 1 0 := ⟨_, rfl⟩
        rw [← hf, ← hs, ← htk] at h
        have hl6 : l < 6 := by omega
        have hs4 : s < 4096 := by rw [hs]; exact hW.2.2.2.1 _ (by omega)
        have hc4 := hW.1.1
        have htk4 : tk < 4096 := by rw [htk]; exact Nat.or_lt_two_pow (n := 12) hs4 hc4
        have hfl : ∀ t, f t ≤ 77922 := fun t => by rw [hf]; exact vsm_le hn6
        refine ⟨fun _ => ⟨_, VM.at (vb_openBill hp hC hW (fun s2 hs2 hB => ?_)), fun _ _ hh => hh⟩, fun c => absurd c (by decide)⟩
        have g7 : s2.1 44 l = nI s := by rw [hs]; exact hB.2.2.2.2.2.2.2.2.2.2.2 l hl6
        have g1 : s2.1 40 0 = nI (a.1 1 0) := hB.2.2.2.2.2.1
        have key : ∀ t, t ≤ 12 → ∀ (s3 : vM) (se' : Nat → Nat) (y9 : Option Value), vag vBi σ s3 → (∀ v, vupd se' l v = vupd (vse a p) l v) → vBR (vcomp (a.2.2 (a.1 1 1))) (a.1 1 0) (a.1 1 2) (20 + 3 * a.1 1 1) (a.1 2) (a.1 3) (a.1 4) se' s3 → VM G (d + 4) iX6_cheapest 64 [some (.ref 0), some (.int (nI p)), some (.int (nI l)), some (.int (nI w)), some (.int (nI s)), some (.int (nI tk)), some (.int (nI (vchp f tk t).1 - 1)), some (.int (nI (vchp f tk t).2 - 1)), some (.int (nI t)), y9] [] s3 post := by
          refine vloop _ ?_ ?_
          · intro s3 se' y9 hs3 _ hB3
            refine VM.go [64] ⟨fun _ => ⟨fun c => ?_, fun c => ?_⟩, fun q => absurd (by decide) q⟩
            · have := h s3 hs3
              rw [if_neg (fun e => c (by rw [e]; rfl))] at this
              exact this
            · have e0 : w = 0 := by
                have q := congrArg Int32.toNatClampNeg (show nI w = 0 from c)
                rw [nI_clamp (by omega)] at q
                exact q.trans (by decide)
              have := h s3 hs3
              rw [if_pos e0] at this
              exact this
          · intro t ht ih s3 se' y9 hs3 hse' hB3
            have hb := vchp_le (tk := tk) hfl t
            obtain ⟨r, hr⟩ : ∃ r, r = vchp f tk t := ⟨_, rfl⟩
            have es : vchp f tk (t + 1) = if tk / 2 ^ t % 2 = 1 then r else if r.1 = 0 ∨ f t + 1 < r.2 then (t + 1, f t + 1) else r := by rw [hr]; rfl
            rw [es] at ih
            rw [← hr] at hb ⊢
            refine VM.go [78] ⟨fun q => absurd q (nI_ge ht (by decide)), fun _ => ?_⟩
            show VM G (d + 4) iX6_cheapest 78 _ _ _ _
            rw [nI_night htk4 (by omega)]
            have cont : ∀ (r' : Nat × Nat) (s4 : vM) (se4 : Nat → Nat) (y : Option Value), vag vBi σ s4 → (∀ v, vupd se4 l v = vupd (vse a p) l v) → vBR (vcomp (a.2.2 (a.1 1 1))) (a.1 1 0) (a.1 1 2) (20 + 3 * a.1 1 1) (a.1 2) (a.1 3) (a.1 4) se4 s4 → r' = (if tk / 2 ^ t % 2 = 1 then r else if r.1 = 0 ∨ f t + 1 < r.2 then (t + 1, f t + 1) else r) → VM G (d + 4) iX6_cheapest 127 [some (.ref 0), some (.int (nI p)), some (.int (nI l)), some (.int (nI w)), some (.int (nI s)), some (.int (nI tk)), some (.int (nI r'.1 - 1)), some (.int (nI r'.2 - 1)), some (.int (nI t)), y] [] s4 post := by
              intro r' s4 se4 y hs4 hse4 hB4 er
              refine VM.go [64] ?_
              show VM G (d + 4) iX6_cheapest 64 _ _ _ _
              rw [nI_1, er]
              exact ih s4 se4 y hs4 hse4 hB4
            by_cases hbit : tk / 2 ^ t % 2 = 1
            · rw [hbit]
              refine VM.go [127] ⟨fun _ => cont r s3 se' _ hs3 hse' hB3 (if_pos hbit).symm, fun q => absurd q (by decide)⟩
            · rw [show tk / 2 ^ t % 2 = 0 by omega]
              rw [if_neg hbit] at cont
              refine VM.go [97] ⟨fun q => absurd rfl q, fun _ => ⟨nofun, l, rfl, hl6, ?_⟩⟩
              show VM G (d + 4) iX6_cheapest 97 _ _ _ _
              rw [nI_shl1 t ht, nI_or (by omega) (Nat.lt_of_lt_of_le (Nat.pow_lt_pow_right (by decide) ht) (by decide))]
              have hB4 := hB3.seen (v := s ||| 2 ^ t) hl6 (vor_lt hs4 ht)
              rw [hse'] at hB4
              have hs4' : vag vBi σ (vput s3 44 l (nI (s ||| 2 ^ t))) := hs3.put rfl
              have ef : f t = vsm a (vupd (vse a p) l (s ||| 2 ^ t)) := by rw [hf, hs]
              refine VM.go [127] ⟨_, VM.at (vb_sum hB4 (fun s5 hs5 => ?_)), fun _ _ hh => hh⟩
              have hs5' := hs4'.tr (hs5.up vSc_Bi)
              have hB5 := hB4.ag hs5
              have hft := hfl t
              rw [show vsumN (a.1 1 2) (vowes (vTof (vcomp (a.2.2 (a.1 1 1)))) (a.1 1 0) (a.1 1 2) (a.1 2) (a.1 3) (a.1 4) (vupd (vse a p) l (s ||| 2 ^ t))) = f t from by rw [ef]; rfl]
              have ctA := fun q => cont (t + 1, f t + 1) s5 (vupd (vse a p) l (s ||| 2 ^ t)) (some (.int (nI (f t)))) hs5' (fun v => vupd_2) hB5 (if_pos q).symm
              have ctB := fun q => cont r s5 (vupd (vse a p) l (s ||| 2 ^ t)) (some (.int (nI (f t)))) hs5' (fun v => vupd_2) hB5 (if_neg q).symm
              dsimp only at ctA
              rw [nI_pred, nI_pred] at ctA
              refine VM.at (VM.go [127] ⟨fun q => ?_, fun q => ⟨fun q2 => ?_, fun q2 => ?_⟩⟩)
              · have q' : nI r.1 - 1 = -1 := q
                rw [nI_m1e (by omega)] at q'
                exact ctA (Or.inl q')
              · have q' : ¬ nI r.1 - 1 = -1 := q
                rw [nI_m1e (by omega)] at q'
                have q2' : nI r.2 - 1 ≤ nI (f t) := q2
                refine ctB (fun z => ?_)
                rcases z with z | z
                · exact q' z
                · rw [show r.2 = (r.2 - 1) + 1 by omega, nI_pred, nIle (by omega) (by omega)] at q2'
                  omega
              · have q' : ¬ nI r.1 - 1 = -1 := q
                rw [nI_m1e (by omega)] at q'
                have q2' : ¬ nI r.2 - 1 ≤ nI (f t) := q2
                refine ctA (Or.inr ?_)
                refine Classical.byContradiction (fun z => q2' ?_)
                by_cases e0 : r.2 = 0
                · rw [e0]
                  refine Int32.not_lt.mp (fun z2 => ?_)
                  exact nI_pos (show f t < 2 ^ 31 by omega) (Int32.lt_trans z2 (by decide))
                · rw [show r.2 = (r.2 - 1) + 1 by omega, nI_pred, nIle (by omega) (by omega)]
                  omega
        refine VM.at (VM.go [64] ⟨l, rfl, hl6, ?_⟩)
        show VM G (d + 4) iX6_cheapest 64 _ _ _ _
        rw [g7, g1, nI_or (by omega) (by omega), ← htk]
        exact key 0 (Nat.zero_le _) s2 (vse a p) none hs2 (fun _ => rfl) hB
      · refine ⟨fun c => absurd rfl c, fun _ => bad ?_⟩
        unfold sCheapest
        rw [vix_btw (x := w0) (m := 1) (by decide) hno]
        cases vix p0 5 <;> cases vix l0 (a.1 1 2) <;> rfl
    · refine ⟨fun _ => bad ?_, fun c => absurd rfl c⟩
      unfold sCheapest
      rw [vix_no (x := l0) (by omega) hno]
      cases vix p0 5 <;> rfl
  · refine ⟨fun _ => bad ?_, fun c => absurd rfl c⟩
    unfold sCheapest
    rw [vix_no (x := p0) (by decide) hno]
end BE
