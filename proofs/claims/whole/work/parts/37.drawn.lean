/-! ===== drawn, chance ===== -/
def vzb (z : Int32) : Bool := decide ((z.toUInt32 >>> ((9 : Int32).toUInt32 &&& Int32.toUInt32 31)).toInt32 - (z.toUInt32 >>> ((9 : Int32).toUInt32 &&& Int32.toUInt32 31)).toInt32 / 3 * 3 = 0)
def vcby (seed : Int32) : Nat → Int32 × Nat
  | 0 => (seed, 0)
  | t + 1 => ((vcby seed t).1 * 1103515245 + 12345, if vzb ((vcby seed t).1 * 1103515245 + 12345) then (vcby seed t).2 ||| 2 ^ t else (vcby seed t).2)
theorem vcby_lt {seed : Int32} {t : Nat} : (vcby seed t).2 < 2 ^ t := by
  induction t with
  | zero => exact Nat.one_pos
  | succ n ih =>
    unfold vcby
    have h2 : 2 ^ n < 2 ^ (n + 1) := Nat.pow_lt_pow_right (by decide) (Nat.lt_succ_self n)
    dsimp only
    split
    · exact Nat.or_lt_two_pow (Nat.lt_trans ih h2) h2
    · exact Nat.lt_trans ih h2
def vcb (seed : Int32) : Nat := (vcby seed 12).2
theorem vcb_lt {seed : Int32} : vcb seed < 4096 := vcby_lt (t := 12)
def sDrawn (a : vα) (seed : Int32) : Int32 := nI (vtogA a (vcb seed))
/-- how many of the first n -/
def vthose (a : vα) (seed : Int32) (K : Nat) : Nat → Nat
  | 0 => 0
  | i + 1 => if K ≤ vtogA a (vcb (seed + nI i)) then vthose a seed K i + 1 else vthose a seed K i
theorem vthose_le {a : vα} {seed : Int32} {K n : Nat} : vthose a seed K n ≤ n := by
  induction n with
  | zero => exact Nat.le_refl _
  | succ n ih => unfold vthose; split <;> omega
def vNO : Int64 := -4611686018427387904
def sChance (a : vα) (seed m k part : Int32) : Int64 := match vix m 21, vix k 100000, vix part 2 with
  | some m, some K, some w => if m = 0 then vNO else lN ((if w = 0 then vthose a seed K m else m) / Nat.gcd (vthose a seed K m) m)
  | _, _, _ => vNO
section DR
variable {G : vG} {d : Nat} {σ : vM} {post : vQ} {a : vα}
theorem vb_cloudsBy {seed : Int32} (h : post (some (.int (nI (vcb seed)))) σ) : VM G d iX6_cloudsBy 0 [some (.int seed), none, none, none] [] σ post := by
  have key : ∀ i, i ≤ 12 → VM G d iX6_cloudsBy 6 [some (.int seed), some (.int (vcby seed i).1), some (.int (nI (vcby seed i).2)), some (.int (nI i))] [] σ post := by
    refine vloop _ ?_ ?_
    · exact VM.go [6] ⟨fun _ => h, fun q => absurd (by decide) q⟩
    · intro i hi ih
      have hlt := vcby_lt (seed := seed) (t := i)
      have hp : 2 ^ i < 2 ^ 32 := Nat.pow_lt_pow_right (by decide) (by omega)
      have e1 : (vcby seed (i + 1)).1 = (vcby seed i).1 * 1103515245 + 12345 := rfl
      refine VM.go [6] ⟨fun q => absurd q (nI_ge hi (by decide)), fun _ => ⟨by decide, fun q => ?_, fun q => ?_⟩⟩
      · have e2 : (vcby seed (i + 1)).2 = (vcby seed i).2 := if_neg (by unfold vzb; rw [decide_eq_true_eq]; exact q)
        rw [e1, e2, ← nI_1] at ih
        exact ih
      · have e2 : (vcby seed (i + 1)).2 = (vcby seed i).2 ||| 2 ^ i := if_pos (by unfold vzb; rw [decide_eq_true_eq]; exact q)
        rw [e1, e2, ← nI_or (by omega) hp, ← nI_shl1 i (by omega), ← nI_1] at ih
        exact ih
  exact VM.go [6] (key 0 (Nat.zero_le _))
theorem vc_drawn {s0 : Int32} (hC : vRC a σ) (hW : vWF a) (h : ∀ σ', vag vBi σ σ' → post (some (.int (sDrawn a s0))) σ') : VM G (d + 6) iX6_drawn 0 [some (.ref 0), some (.int s0)] [] σ post :=
  VM.go [] ⟨_, VM.at (vb_cloudsBy (by exact ⟨_, VM.at (vb_allTogether vcb_lt hC hW (by exact h)), fun _ _ hh => hh⟩)), fun _ _ hh => hh⟩
theorem vb_lowest {x m : Nat} (hx : x ≤ 20) (hm : m ≤ 20) (h1 : 1 ≤ x ∨ 1 ≤ m) (h : post (some (.int (nI (x / Nat.gcd x m)))) σ) : VM G (d + 1) iX6_lowest 0 [some (.int (nI x)), some (.int (nI m)), none] [] σ post := by
  have hg1 : 1 ≤ Nat.gcd x m := by
    rcases h1 with q | q
    · exact Nat.gcd_pos_of_pos_left m q
    · exact Nat.gcd_pos_of_pos_right x q
  have key : ∀ e, e ≤ 20 → Nat.gcd x m ≤ e → VM G (d + 1) iX6_lowest 6 [some (.int (nI x)), some (.int (nI m)), some (.int (nI e))] [] σ post := by
    intro e
    induction e with
    | zero => intro _ hq; omega
    | succ e ih =>
      intro he hg
      by_cases e0 : e = 0
      · subst e0
        have : Nat.gcd x m = 1 := by omega
        rw [this, Nat.div_one] at h
        exact VM.go [6] ⟨fun _ => h, fun q => absurd (by decide) q⟩
      · have nx : ¬ Nat.gcd x m = e + 1 → VM G (d + 1) iX6_lowest 27 [some (.int (nI x)), some (.int (nI m)), some (.int (nI (e + 1)))] [] σ post := fun q => by
          refine VM.go [6] ?_
          show VM G (d + 1) iX6_lowest 6 _ _ _ _
          rw [nI_m1a, nI_pred]
          exact ih (by omega) (by omega)
        have hz : ¬ nI (e + 1) = 0 := fun q => by
          rw [show (0 : Int32) = nI 0 from rfl, nI_eq (by omega) (by decide)] at q
          omega
        have hr : ∀ y, y ≤ 20 → (nI y - nI y / nI (e + 1) * nI (e + 1) = 0 ↔ y % (e + 1) = 0) := fun y hy => by
          have hlt := Nat.mod_le y (e + 1)
          rw [pk_rem (by omega) (by omega) (by omega), show (0 : Int32) = nI 0 from rfl, nI_eq (by omega) (by decide)]
        refine VM.go [27] ⟨fun q => ?_, fun _ => ⟨hz, fun q => ?_, fun q => ⟨hz, fun q2 => ?_, fun q2 => ⟨hz, ?_⟩⟩⟩⟩
        · exact absurd q (Int32.not_le.mpr (nI_lt (show 1 < e + 1 by omega) (by omega)))
        · refine nx (fun z => q ((hr x hx).mpr ?_))
          rw [← z]; exact Nat.mod_eq_zero_of_dvd (Nat.gcd_dvd_left x m)
        · refine nx (fun z => q2 ((hr m hm).mpr ?_))
          rw [← z]; exact Nat.mod_eq_zero_of_dvd (Nat.gcd_dvd_right x m)
        · have g1 : (e + 1) ∣ x := Nat.dvd_of_mod_eq_zero ((hr x hx).mp q)
          have g2 : (e + 1) ∣ m := Nat.dvd_of_mod_eq_zero ((hr m hm).mp q2)
          have g3 := Nat.le_of_dvd (by omega) (Nat.dvd_gcd g1 g2)
          rw [show Nat.gcd x m = e + 1 by omega, ← pk_div (by omega) (by omega) (by omega)] at h
          exact h
  have hgm : Nat.gcd x m ≤ max x m := by
    rcases h1 with q | q
    · exact Nat.le_trans (Nat.le_of_dvd q (Nat.gcd_dvd_left x m)) (Nat.le_max_left _ _)
    · exact Nat.le_trans (Nat.le_of_dvd q (Nat.gcd_dvd_right x m)) (Nat.le_max_right _ _)
  refine VM.go [6] ?_
  show VM G (d + 1) iX6_lowest 6 _ _ _ _
  rw [nI_max (by omega) (by omega)]
  exact key _ (by omega) hgm
theorem vc_chance {s0 m0 k0 w0 : Int32} (hC : vRC a σ) (hW : vWF a) (h : ∀ σ', vag vBi σ σ' → post (some (.long (sChance a s0 m0 k0 w0))) σ') : VM G (d + 6) iX6_chance 0 [some (.ref 0), some (.int s0), some (.int m0), some (.int k0), some (.int w0), none, none] [] σ post := by
  have bad : sChance a s0 m0 k0 w0 = vNO → post (some (.long vNO)) σ := fun e => by
    have := h σ vag.rf
    rw [e] at this
    exact this
  refine VM.go [] ⟨_, VM.at (vb_between (fun b1 b2 => ?_) (fun hno => ?_)), fun _ _ hh => hh⟩
  · obtain ⟨m, hm1, hm, e1⟩ := vnat1 (m := 20) (by decide) b1 b2
    refine ⟨fun c => absurd c (by decide), fun _ => ⟨_, VM.at (vb_between (fun b1 b2 => ?_) (fun hno => ?_)), fun _ _ hh => hh⟩⟩
    · obtain ⟨K, hK, e2⟩ := vnat (m := 99999) (by decide) b1 b2
      refine ⟨fun c => absurd c (by decide), fun _ => ⟨_, VM.at (vb_between (fun b1 b2 => ?_) (fun hno => ?_)), fun _ _ hh => hh⟩⟩
      · obtain ⟨w, hw, e3⟩ := vnat (m := 1) (by decide) b1 b2
        subst e1; subst e2; subst e3
        unfold sChance at h
        rw [vix_nI (show m < 21 by omega) (by decide), vix_nI (show K < 100000 by omega) (by decide), vix_nI (show w < 2 by omega) (by decide)] at h
        dsimp only at h
        rw [if_neg (by omega)] at h
        have hth := vthose_le (a := a) (seed := s0) (K := K) (n := m)
        have dv : ∀ y, y ≤ 20 → (nI (y / Nat.gcd (vthose a s0 K m) m)).toInt64 = lN (y / Nat.gcd (vthose a s0 K m) m) := fun y hy => by
          have := Nat.div_le_self y (Nat.gcd (vthose a s0 K m) m)
          rw [nI_l (by omega)]
        have key : ∀ i, i ≤ m → ∀ s2, vag vBi σ s2 → VM G (d + 6) iX6_chance 40 [some (.ref 0), some (.int s0), some (.int (nI m)), some (.int (nI K)), some (.int (nI w)), some (.int (nI (vthose a s0 K i))), some (.int (nI i))] [] s2 post := by
          refine vloop _ ?_ ?_
          · intro s2 hs2
            have h2 := h s2 hs2
            refine VM.go [] ⟨fun _ => ⟨fun q => ⟨_, VM.at (vb_lowest hm (by omega) (Or.inl hm1) (by
              rw [if_neg (fun e => q (by rw [e]; rfl)), ← dv m hm, Nat.gcd_comm] at h2
              exact h2)), fun _ _ hh => hh⟩, fun q => ⟨_, VM.at (vb_lowest (by omega) hm (Or.inr hm1) (by
              have e0 : w = 0 := (nI_eq (by omega) (by decide)).mp (show nI w = nI 0 from q)
              rw [if_pos e0, ← dv _ (by omega)] at h2
              exact h2)), fun _ _ hh => hh⟩⟩, fun q => absurd (nI_le (Nat.le_refl _) (by omega)) q⟩
          · intro i hi ih s2 hs2
            refine VM.go [40] ⟨fun q => absurd q (nI_ge hi (by omega)), fun _ => ⟨_, VM.at (vb_cloudsBy ?_), fun _ _ hh => hh⟩⟩
            refine ⟨_, VM.at (vb_allTogether vcb_lt (hC.bi hW hs2) hW (fun s3 hs3 => ?_)), fun _ _ hh => hh⟩
            have htg : vtogA a (vcb (s0 + nI i)) ≤ 5 * 77922 := vsumN_le (fun p _ => vallA_le hW)
            have hs3' := hs2.tr hs3
            have es : vthose a s0 K (i + 1) = if K ≤ vtogA a (vcb (s0 + nI i)) then vthose a s0 K i + 1 else vthose a s0 K i := rfl
            have ih' := ih s3 hs3'
            rw [es] at ih'
            refine ⟨fun q => ?_, fun q => ?_⟩
            · have q' : nI (vtogA a (vcb (s0 + nI i))) < nI K := q
              rw [nIlt (by omega) (by omega)] at q'
              rw [if_neg (by omega), ← nI_1] at ih'
              exact ih'
            · have q' : ¬ nI (vtogA a (vcb (s0 + nI i))) < nI K := q
              rw [nIlt (by omega) (by omega)] at q'
              rw [if_pos (by omega), ← nI_1, ← nI_1] at ih'
              exact ih'
        refine ⟨fun _ => ?_, fun c => absurd c (by decide)⟩
        exact VM.at (VM.go [40] (key 0 (Nat.zero_le _) σ vag.rf))
      · refine ⟨fun c => absurd rfl c, fun _ => bad ?_⟩
        unfold sChance
        rw [vix_btw (x := w0) (m := 1) (by decide) hno]
        cases vix m0 21 <;> cases vix k0 100000 <;> rfl
    · refine ⟨fun _ => bad ?_, fun c => absurd rfl c⟩
      unfold sChance
      rw [vix_btw (x := k0) (m := 99999) (by decide) hno]
      cases vix m0 21 <;> rfl
  · refine ⟨fun _ => bad ?_, fun c => absurd rfl c⟩
    unfold sChance
    cases hv : vix m0 21 with
    | none => rfl
    | some m =>
      cases vix k0 100000 <;> cases vix w0 2
      · rfl
      · rfl
      · rfl
      · dsimp only
        obtain ⟨hm, rfl⟩ := vix_some (by decide) hv
        refine if_pos ?_
        rcases Nat.eq_zero_or_pos m with e | e
        · exact e
        · exact absurd ⟨show nI 1 ≤ nI m from nI_le e (by omega), nI_le (show m ≤ 20 by omega) (by decide)⟩ hno
end DR
/-! ===== image, back ===== -/
/-- how long the sky's arrays are -/
def vsl9 (c : Nat) : Nat := match c with | 2 => 6 | 3 => 6 | 4 => 6 | 5 => 30 | 6 => 5 | 7 => 5 | _ => 4
def vimg (a : vα) : vα := (fun c k => if c = 10 ∧ k ≤ 2 then a.1 1 k else if 11 ≤ c ∧ c ≤ 18 ∧ k < vsl9 (c - 9) then a.1 (c - 9) k else if c = 0 ∧ k = 2 then 1 else a.1 c k, a.2)
def vbck (a : vα) : vα := (fun c k => if c = 1 ∧ k ≤ 2 then a.1 10 k else if 2 ≤ c ∧ c ≤ 9 ∧ k < vsl9 c then a.1 (c + 9) k else a.1 c k, a.2)
def sImage (a : vα) : vR2 := (nI (a.1 1 2), vimg a)
def sBack (a : vα) : vR2 := if a.1 0 2 = 0 then (-3, a) else (nI (a.1 10 2), vbck a)
