/-! ===== THE REFERENCE: drawn, chance ===== -/
theorem nI_shl0 : ∀ t, t < 12 → (0 : Int32) <<< (nI t &&& 31) = nI 0 := by decide
theorem lN_rem : ∀ x, x < 21 → ∀ y, y < 21 → 1 ≤ y → lN x - lN x / lN y * lN y = lN (x % y) := by decide +kernel
theorem lN_div : ∀ x, x < 21 → ∀ y, y < 21 → 1 ≤ y → lN x / lN y = lN (x / y) := by decide +kernel
theorem lN_z : ∀ x, x < 21 → (lN x = 0 ↔ x = 0) := by decide +kernel
theorem lN_s : ∀ x, x < 21 → lN x + 1 = lN (x + 1) := by decide +kernel
theorem lN_0 : ∀ x, x < 21 → lN x + 0 = lN x := by decide +kernel
theorem vtog_put {a : vα} {v c : Nat} : vtogA (vaput a 1 0 v) c = vtogA a c := by
  unfold vtogA
  refine vsumN_congr (fun p _ => ?_)
  unfold vallA
  have e := vsumA_eq (a := a) (b := vaput a 1 0 v) (c := c) (t := a.1 1 1) (p := p) (se := vse a p) rfl rfl (vaput_c (by decide)) (vaput_c (by decide)) (vaput_c (by decide)) (funext fun k => vaput_ne (Or.inl (by decide)))
  rw [show (vaput a 1 0 v).1 1 1 = a.1 1 1 from rfl, e, show (vaput a 1 0 v).1 7 p = a.1 7 p from vaput_ne (Or.inl (by decide))]
  rfl
section RD
variable {Gx : Nat × (Nat → Int32)} {d D : Nat} {σ : vM} {post : vQ} {a : vα}
theorem vWF.cld (hW : vWF a) {c : Nat} (hc : c < 4096) : vWF (vaput a 1 0 c) := hW.put (Or.inl ⟨by decide, by decide⟩) (fun _ => Or.inl ⟨rfl, hc⟩) (fun e => absurd e (by decide)) (fun e => absurd e (by decide)) (fun e => absurd e (by decide)) (fun e => absurd e (by decide)) (fun e => absurd e (by decide)) (fun e => absurd e (by decide)) (fun e => absurd e (by decide)) (fun e => absurd e (by decide)) (fun e => absurd e (by decide)) (fun e => absurd e (by decide))
theorem vr_allBy {s0 : Int32} (hR : vRM a σ) (hW : vWF a) (hA : vAc a) (h : ∀ σ', vagI vRf σ σ' → vRM a σ' → post (some (.int (nI (vtogA a (vcb s0))))) σ') : VM (true, Gx) (D + 48) iX7_allBy 0 [some (.ref 58), some (.int s0), none, none, none] [] σ post := by
  have key : ∀ t, t ≤ 12 → ∀ s, vagI vRf σ s → vRM (vaput a 1 0 (vcby s0 t).2) s → VM (true, Gx) (D + 48) iX7_allBy 15 [some (.ref 58), some (.int s0), some (.int (nI (a.1 1 0))), some (.int (vcby s0 t).1), some (.int (nI t))] [] s post := by
    refine vloop _ ?_ ?_
    · intro s hs hRs0
      obtain ⟨c, hc⟩ : ∃ c, c = vcb s0 := ⟨_, rfl⟩
      have hRs : vRM (vaput a 1 0 c) s := by rw [hc]; exact hRs0
      have hc4 : c < 4096 := by rw [hc]; exact vcb_lt
      rw [← hc] at h
      clear hRs0
      refine VM.go [] ⟨fun _ => ⟨_, VM.at (vr_allSum hRs (hW.cld hc4) (hA.eq rfl rfl) (fun s2 hs2 => ?_)), fun _ _ hh => hh⟩, fun q => absurd (by decide) q⟩
      have hs2' := hs2.up vMo_s
      have hR2 := (hRs.ag hs2').putF (c := 1) (j := 0) (f := 7) (v := a.1 1 0) (Or.inl ⟨rfl, rfl, rfl⟩)
      rw [vaput_2, vaput_id] at hR2
      have h' := h _ ((hs.tr (hs2'.up vRf_o)).put (a := 58) (k := 7) (v := nI (a.1 1 0)) rfl) hR2
      rw [← vtog_put (v := c)] at h'
      exact h'
    · intro i hi ih s hs hRs
      have hlt := vcby_lt (seed := s0) (t := i)
      have hp : 2 ^ i < 2 ^ 32 := Nat.pow_lt_pow_right (by decide) (by omega)
      have e1 : (vcby s0 (i + 1)).1 = (vcby s0 i).1 * 1103515245 + 12345 := rfl
      have e7 : s.1 58 7 = nI (vcby s0 i).2 := hRs.1.2.2.2.1
      refine VM.go [51] ⟨fun q => absurd q (nI_ge hi (by decide)), fun _ => ⟨by decide, fun q => ?_, fun q => ?_⟩⟩
      · have e2 : (vcby s0 (i + 1)).2 = (vcby s0 i).2 := if_neg (by unfold vzb; rw [decide_eq_true_eq]; exact q)
        rw [e1, e2, ← nI_1] at ih
        show VM (true, Gx) (D + 48) iX7_allBy 51 _ _ _ _
        refine VM.go [55] ?_
        show VM (true, Gx) (D + 48) iX7_allBy 55 _ _ _ _
        rw [e7, nI_shl0 i (by omega), nI_or (by omega) (by decide), Nat.or_zero]
        have hRn := hRs.putF (c := 1) (j := 0) (f := 7) (v := (vcby s0 i).2) (Or.inl ⟨rfl, rfl, rfl⟩)
        rw [vaput_2] at hRn
        exact VM.go [15] (ih _ (hs.put (a := 58) (k := 7) (v := nI (vcby s0 i).2) rfl) hRn)
      · have e2 : (vcby s0 (i + 1)).2 = (vcby s0 i).2 ||| 2 ^ i := if_pos (by unfold vzb; rw [decide_eq_true_eq]; exact q)
        rw [e1, e2, ← nI_1] at ih
        show VM (true, Gx) (D + 48) iX7_allBy 51 _ _ _ _
        refine VM.go [55] ?_
        show VM (true, Gx) (D + 48) iX7_allBy 55 _ _ _ _
        rw [e7, nI_shl1 i (by omega), nI_or (by omega) hp]
        have hRn := hRs.putF (c := 1) (j := 0) (f := 7) (v := (vcby s0 i).2 ||| 2 ^ i) (Or.inl ⟨rfl, rfl, rfl⟩)
        rw [vaput_2] at hRn
        exact VM.go [15] (ih _ (hs.put (a := 58) (k := 7) (v := nI ((vcby s0 i).2 ||| 2 ^ i)) rfl) hRn)
  have hR0 := hR.putF (c := 1) (j := 0) (f := 7) (v := 0) (Or.inl ⟨rfl, rfl, rfl⟩)
  have k0 := key 0 (Nat.zero_le _) _ (vagI.rf.put (a := 58) (k := 7) (v := nI 0) rfl) hR0
  rw [← hR.1.2.2.2.1] at k0
  exact VM.go [15] k0
theorem vr_drawn {s0 : Int32} (hR : vRM a σ) (hW : vWF a) (hA : vAc a) (h : ∀ σ', vagI vRf σ σ' → vRM a σ' → post (some (.int (sDrawn a s0))) σ') : VM (true, Gx) (D + 49) iX7_drawn 0 [some (.ref 58), some (.int s0)] [] σ post :=
  VM.go [] ⟨_, VM.at (vr_allBy hR hW hA (by exact h)), fun _ _ hh => hh⟩
theorem vr_chance {s0 m0 k0 w0 : Int32} (hR : vRM a σ) (hW : vWF a) (hA : vAc a) (h : ∀ σ', vagI vRf σ σ' → vRM a σ' → post (some (.long (sChance a s0 m0 k0 w0))) σ') : VM (true, Gx) (D + 49) iX7_chance 0 [some (.ref 58), some (.int s0), some (.int m0), some (.int k0), some (.int w0), none, none, none, none, none, none, none, none] [] σ post := by
  have bad : sChance a s0 m0 k0 w0 = vNO → post (some (.long vNO)) σ := fun e => by
    have := h σ vagI.rf hR
    rw [e] at this
    exact this
  refine VM.go [39] ⟨_, VM.at (vm_inI (a := 1) (b := 20) (by decide) (by decide) (fun b1 b2 => ?_) (fun hno => ?_)), fun _ _ hh => hh⟩
  · obtain ⟨m, hm, e1⟩ := vnat (m := 20) (by decide) (Int32.le_trans (by decide) b1) b2
    have hm1 : 1 ≤ m := by
      rw [e1, show (1 : Int32) = nI 1 from rfl, nIle (by decide) (by omega)] at b1
      exact b1
    refine ⟨fun c => absurd c (by decide), fun _ => ⟨_, VM.at (vm_in0 (m := 99999) (by decide) (by decide) (fun K ek hK e2 => ?_) (fun ek => ?_)), fun _ _ hh => hh⟩⟩
    · refine ⟨fun c => absurd c (by decide), fun _ => ⟨_, VM.at (vm_in0 (m := 1) (by decide) (by decide) (fun w ew hw e3 => ?_) (fun ew => ?_)), fun _ _ hh => hh⟩⟩
      · refine ⟨fun _ => ?_, fun c => absurd c (by decide)⟩
        subst e1; subst e2; subst e3
        unfold sChance at h
        rw [vix_nI (show m < 21 by omega) (by decide), vix_nI (show K < 100000 by omega) (by decide), vix_nI (show w < 2 by omega) (by decide)] at h
        dsimp only at h
        rw [if_neg (by omega)] at h
        have thb : ∀ i, vthose a s0 K i ≤ i := fun i => vthose_le
        obtain ⟨T, hT⟩ : ∃ T, T = vthose a s0 K m := ⟨_, rfl⟩
        have hTm := thb m
        rw [← hT] at h hTm
        have gcdL : ∀ n q, q ≤ n → ∀ p s (y11 y12 : Option Value), q ≤ 20 → p ≤ 20 → (1 ≤ p ∨ 1 ≤ q) → Nat.gcd p q = Nat.gcd T m → vagI vRf σ s → vRM a s → VM (true, Gx) (D + 49) iX7_chance 87 [some (.ref 58), some (.int s0), some (.int (nI m)), some (.int (nI K)), some (.int (nI w)), some (.long (lN T)), none, some (.long (lN p)), none, some (.long (lN q)), none, y11, y12] [] s post := by
          have fin : ∀ p s (x9 : Int64) (y11 y12 : Option Value), p ≤ 20 → 1 ≤ p → p = Nat.gcd T m → vagI vRf σ s → vRM a s → VM (true, Gx) (D + 49) iX7_chance 112 [some (.ref 58), some (.int s0), some (.int (nI m)), some (.int (nI K)), some (.int (nI w)), some (.long (lN T)), none, some (.long (lN p)), none, some (.long x9), none, y11, y12] [] s post := by
            intro p s x9 y11 y12 hp hp1 hg hs hRs
            have h' := h s hs hRs
            rw [← hg] at h'
            have nz : ¬ lN p = 0 := fun q => by have := (lN_z p (by omega)).mp q; omega
            by_cases w0 : w = 0
            · rw [if_pos w0, ← lN_div T (by omega) p (by omega) hp1] at h'
              subst w0
              exact VM.go [] ⟨fun q => absurd rfl q, fun _ => ⟨nz, h'⟩⟩
            · rw [if_neg w0, ← lN_div m (by omega) p (by omega) hp1, ← nI_l (by omega)] at h'
              have w1 : w = 1 := by omega
              subst w1
              exact VM.go [] ⟨fun _ => ⟨nz, h'⟩, fun q => absurd q (by decide)⟩
          intro n
          induction n with
          | zero =>
            intro q hq p s y11 y12 hq20 hp20 hp1 hg hs hRs
            have q0 : q = 0 := Nat.le_zero.mp hq
            subst q0
            rw [Nat.gcd_zero_right] at hg
            exact VM.go [112] ⟨fun _ => fin p s _ y11 y12 hp20 (by omega) hg hs hRs, fun c => absurd (lgc_eq.mpr ((lN_z 0 (by decide)).mpr rfl)) c⟩
          | succ n ih =>
            intro q hq p s y11 y12 hq20 hp20 hp1 hg hs hRs
            refine VM.go [87, 112] ⟨fun c => ?_, fun c => ?_⟩
            · have q0 : q = 0 := (lN_z q (by omega)).mp (lgc_eq.mp c)
              subst q0
              rw [Nat.gcd_zero_right] at hg
              exact fin p s _ y11 y12 hp20 (by omega) hg hs hRs
            · have nz : ¬ lN q = 0 := fun e => c (lgc_eq.mpr e)
              have q1 : ¬ q = 0 := fun e => nz ((lN_z q (by omega)).mpr e)
              refine ⟨nz, ?_⟩
              show VM (true, Gx) (D + 49) iX7_chance 87 _ _ _ _
              rw [lN_rem p (by omega) q (by omega) (by omega)]
              have hlt := Nat.mod_lt p (show 0 < q by omega)
              exact ih (p % q) (by omega) q s _ _ (by omega) hq20 (Or.inl (by omega)) (by rw [← hg, Nat.gcd_comm p q, Nat.gcd_rec q p, Nat.gcd_comm]) hs hRs
        have key : ∀ i, i ≤ m → ∀ s (y8 y9 y10 y11 y12 : Option Value), vagI vRf σ s → vRM a s → VM (true, Gx) (D + 49) iX7_chance 45 [some (.ref 58), some (.int s0), some (.int (nI m)), some (.int (nI K)), some (.int (nI w)), some (.long (lN (vthose a s0 K i))), none, some (.int (nI i)), y8, y9, y10, y11, y12] [] s post := by
          refine vloop _ ?_ ?_
          · intro s y8 y9 y10 y11 y12 hs hRs
            rw [← hT]
            refine VM.go [87] ⟨fun _ => ?_, fun q => absurd (nI_le (Nat.le_refl _) (by omega)) q⟩
            show VM (true, Gx) (D + 49) iX7_chance 87 _ _ _ _
            rw [nI_l (by omega)]
            exact gcdL m m (Nat.le_refl _) T s y11 y12 hm (by omega) (Or.inr hm1) rfl hs hRs
          · intro i hi ih s y8 y9 y10 y11 y12 hs hRs
            have hb := thb i
            have htg : vtogA a (vcb (s0 + nI i)) ≤ 5 * 77922 := vsumN_le (fun p _ => vallA_le hW)
            have et : vthose a s0 K (i + 1) = if K ≤ vtogA a (vcb (s0 + nI i)) then vthose a s0 K i + 1 else vthose a s0 K i := rfl
            refine VM.go [45] ⟨fun q => absurd q (nI_ge hi (by omega)), fun _ => ⟨_, VM.at (vr_allBy hRs hW hA (fun s2 hs2 hR2 => ?_)), fun _ _ hh => hh⟩⟩
            have := ih s2 y8 y9 y10 y11 y12 (hs.tr hs2) hR2
            rw [et] at this
            refine ⟨fun c => ?_, fun c => ?_⟩
            · have c' : nI (vtogA a (vcb (s0 + nI i))) < nI K := c
              rw [nIlt (by omega) (by omega)] at c'
              rw [if_neg (by omega), ← nI_1, ← lN_0 _ (by omega)] at this
              exact VM.at (VM.go [45] this)
            · have c' : ¬ nI (vtogA a (vcb (s0 + nI i))) < nI K := c
              rw [nIlt (by omega) (by omega)] at c'
              rw [if_pos (by omega), ← nI_1, ← lN_s _ (by omega)] at this
              exact VM.at (VM.go [45] this)
        exact VM.at (VM.go [45] (key 0 (Nat.zero_le _) σ _ _ _ _ _ vagI.rf hR))
      · refine ⟨fun c => absurd rfl c, fun _ => bad ?_⟩
        unfold sChance
        rw [ew]
        cases vix m0 21 <;> cases vix k0 100000 <;> rfl
    · refine ⟨fun _ => bad ?_, fun c => absurd rfl c⟩
      unfold sChance
      rw [ek]
      cases vix m0 21 <;> rfl
  · refine ⟨fun _ => bad ?_, fun c => absurd rfl c⟩
    unfold sChance
    cases hv : vix m0 21 with
    | none => rfl
    | some m =>
      cases vix k0 100000 <;> cases vix w0 2
      · rfl
      · rfl
      · rfl
      · dsimp only
        obtain ⟨hm, rfl⟩ := vix_some (by decide) hv
        refine if_pos ?_
        rcases Nat.eq_zero_or_pos m with e | e
        · exact e
        · exact absurd ⟨show nI 1 ≤ nI m from nI_le e (by omega), nI_le (show m ≤ 20 by omega) (by decide)⟩ hno
end RD
