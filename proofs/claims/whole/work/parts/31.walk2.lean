/-! ===== walk ===== -/
/-- those of 0 .. n-1 for whom P, as bits -/
def vowb (P : Nat → Bool) : Nat → Nat
  | 0 => 0
  | n + 1 => if P n then vowb P n ||| 2 ^ n else vowb P n
def vown (P : Nat → Bool) : Nat → Nat
  | 0 => 0
  | n + 1 => if P n then vown P n + 1 else vown P n
def vlom (P : Nat → Bool) (m : Nat → Nat) : Nat → Nat
  | 0 => 99
  | n + 1 => if P n then min (vlom P m n) (m n) else vlom P m n
def vhim (P : Nat → Bool) (m : Nat → Nat) : Nat → Nat
  | 0 => 0
  | n + 1 => if P n then max (vhim P m n) (m n) else vhim P m n
/-- the first, from p on, at x -/
def vfat (P : Nat → Bool) (m : Nat → Nat) (x : Nat) : Nat → Nat → Int32
  | 0, _ => -1
  | n + 1, p => if P p = true ∧ m p = x then nI p else vfat P m x n (p + 1)
def vdis (x y : Nat) : Nat := (x - y) + (y - x)
def vowP (a : vα) (K p : Nat) : Bool := decide (K ≤ vallA a (a.1 1 0) p)
def vwalk (P : Nat → Bool) (m : Nat → Nat) (x w : Nat) : Int32 :=
  if w = 2 then nI (vown P 5) else if vown P 5 = 0 then (if w = 0 then 0 else -1)
  else if w = 0 then nI (min (vdis x (vlom P m 5)) (vdis x (vhim P m 5))) + nI (vhim P m 5) - nI (vlom P m 5)
  else vfat P m (if vdis x (vlom P m 5) ≤ vdis x (vhim P m 5) then vlom P m 5 else vhim P m 5) 5 0
def sWalk (a : vα) (mile k what : Int32) : Int32 := match vix mile 100, vix k 100000, vix what 3 with
  | some x, some K, some w => vwalk (vowP a K) (a.1 6) x w
  | _, _, _ => -2
/-- five of them -/
def v5b (b0 b1 b2 b3 b4 : Bool) (k : Nat) : Bool := match k with | 0 => b0 | 1 => b1 | 2 => b2 | 3 => b3 | _ => b4
theorem vowb_5 : ∀ b0 b1 b2 b3 b4 : Bool, vowb (v5b b0 b1 b2 b3 b4) 5 < 32 ∧ vpop (vowb (v5b b0 b1 b2 b3 b4) 5) = vown (v5b b0 b1 b2 b3 b4) 5 ∧ (∀ p, p < 5 → vowb (v5b b0 b1 b2 b3 b4) 5 / 2 ^ p % 2 = if v5b b0 b1 b2 b3 b4 p then 1 else 0) ∧ (vowb (v5b b0 b1 b2 b3 b4) 5 = 0 ↔ vown (v5b b0 b1 b2 b3 b4) 5 = 0) := by decide
theorem v5b_of (P : Nat → Bool) : ∀ p, p < 5 → P p = v5b (P 0) (P 1) (P 2) (P 3) (P 4) p := by
  intro p hp
  rcases (show p = 0 ∨ p = 1 ∨ p = 2 ∨ p = 3 ∨ p = 4 by omega) with rfl | rfl | rfl | rfl | rfl <;> rfl
theorem vowb_cg {P Q : Nat → Bool} {n : Nat} (h : ∀ p, p < n → P p = Q p) : vowb P n = vowb Q n ∧ vown P n = vown Q n := by
  induction n with
  | zero => exact ⟨rfl, rfl⟩
  | succ n ih =>
    obtain ⟨i1, i2⟩ := ih (fun p hp => h p (by omega))
    unfold vowb vown
    rw [h n (by omega), i1, i2]
    exact ⟨rfl, rfl⟩
theorem vowb_f (P : Nat → Bool) : vowb P 5 < 32 ∧ vpop (vowb P 5) = vown P 5 ∧ (∀ p, p < 5 → vowb P 5 / 2 ^ p % 2 = if P p then 1 else 0) ∧ (vowb P 5 = 0 ↔ vown P 5 = 0) := by
  obtain ⟨e1, e2⟩ := vowb_cg (v5b_of P)
  obtain ⟨f1, f2, f3, f4⟩ := vowb_5 (P 0) (P 1) (P 2) (P 3) (P 4)
  rw [e1, e2]
  exact ⟨f1, f2, fun p hp => by rw [f3 p hp, ← v5b_of P p hp], f4⟩
theorem vowb_lt {P : Nat → Bool} {n : Nat} : vowb P n < 2 ^ n := by
  induction n with
  | zero => exact Nat.one_pos
  | succ n ih =>
    unfold vowb
    have h2 : 2 ^ n < 2 ^ (n + 1) := Nat.pow_lt_pow_right (by decide) (Nat.lt_succ_self n)
    split
    · exact Nat.or_lt_two_pow (Nat.lt_trans ih h2) h2
    · exact Nat.lt_trans ih h2
theorem nI_max {p q : Nat} (hp : p < 2 ^ 31) (hq : q < 2 ^ 31) : (if nI p < nI q then nI q else nI p) = nI (max p q) := by
  by_cases h : p < q
  · rw [if_pos ((nIlt hp hq).mpr h), Nat.max_eq_right (Nat.le_of_lt h)]
  · rw [if_neg (fun e => h ((nIlt hp hq).mp e)), Nat.max_eq_left (Nat.le_of_not_lt h)]
theorem nI_abs {x y : Nat} (hx : x < 2 ^ 30) (hy : y < 2 ^ 30) : (if 0 ≤ nI x - nI y then nI x - nI y else 0 - (nI x - nI y)) = nI (vdis x y) := by
  unfold vdis
  by_cases h : x < y
  · rw [if_neg (Int32.not_le.mpr (pk_sneg hy h)), show x - y = 0 by omega, Nat.zero_add, ← pk_sub (Nat.le_of_lt h)]
    rw [Int32.zero_sub, Int32.neg_sub]
  · rw [pk_sub (by omega), if_pos (Int32.not_lt.mp (nI_pos (by omega))), show y - x = 0 by omega, Nat.add_zero]
section WA
variable {G : vG} {d : Nat} {σ : vM} {post : vQ} {a : vα}
theorem vb_whoOwe {K : Nat} (hK : K ≤ 99999) (hC : vRC a σ) (hW : vWF a) (h : ∀ σ', vag vBi σ σ' → post (some (.int (nI (vowb (vowP a K) 5)))) σ') : VM G (d + 5) iX6_whoOwe 0 [some (.ref 0), some (.int (nI K)), none, none] [] σ post := by
  have key : ∀ i, i ≤ 5 → ∀ s2, vag vBi σ s2 → VM G (d + 5) iX6_whoOwe 4 [some (.ref 0), some (.int (nI K)), some (.int (nI (vowb (vowP a K) i))), some (.int (nI i))] [] s2 post := by
    refine vloop _ ?_ ?_
    · intro s2 hs2
      exact VM.go [4] ⟨fun _ => h s2 hs2, fun q => absurd (by decide) q⟩
    · intro i hi ih s2 hs2
      refine VM.go [18] ⟨fun q => absurd q (nI_ge hi (by decide)), fun _ => ?_⟩
      show VM G (d + 5) iX6_whoOwe 18 _ _ _ _
      rw [(hs2.get rfl).trans (hC.num 1 0 rfl)]
      refine VM.go [4] ⟨_, VM.at (vb_allOf hi hW.1.1 (hC.bi hW hs2) hW (fun s3 hs3 => ?_)), fun _ _ hh => hh⟩
      have hb := vallA_le (c := a.1 1 0) (p := i) hW
      have hs3' := hs2.tr hs3
      have hlt := vowb_lt (P := vowP a K) (n := i)
      have hp : 2 ^ i < 2 ^ 32 := Nat.pow_lt_pow_right (by decide) (by omega)
      refine ⟨fun q => ?_, fun q => ?_⟩
      · have q' : nI (vallA a (a.1 1 0) i) < nI K := q
        rw [nIlt (by omega) (by omega)] at q'
        have := ih s3 hs3'
        rw [show vowb (vowP a K) (i + 1) = vowb (vowP a K) i from if_neg (by unfold vowP; rw [decide_eq_true_eq]; omega), ← nI_1 i] at this
        exact this
      · have q' : ¬ nI (vallA a (a.1 1 0) i) < nI K := q
        rw [nIlt (by omega) (by omega)] at q'
        have := ih s3 hs3'
        rw [show vowb (vowP a K) (i + 1) = vowb (vowP a K) i ||| 2 ^ i from if_pos (by unfold vowP; rw [decide_eq_true_eq]; omega), ← nI_or (by omega) hp, ← nI_shl1 i (by omega), ← nI_1 i] at this
        exact this
  exact VM.go [4] (key 0 (Nat.zero_le _) σ vag.rf)
theorem vb_firstAt {P : Nat → Bool} {x : Nat} (hx : x ≤ 99) (hC : vRC a σ) (hW : vWF a) (h : post (some (.int (vfat P (a.1 6) x 5 0))) σ) : VM G d iX6_firstAt 0 [some (.ref 0), some (.int (nI x)), some (.int (nI (vowb P 5))), none] [] σ post := by
  obtain ⟨f1, f2, f3, f4⟩ := vowb_f P
  have key : ∀ i, i ≤ 5 → post (some (.int (vfat P (a.1 6) x (5 - i) i))) σ → VM G d iX6_firstAt 2 [some (.ref 0), some (.int (nI x)), some (.int (nI (vowb P 5))), some (.int (nI i))] [] σ post := by
    refine vloop _ ?_ ?_
    · intro h'
      exact VM.go [2] ⟨fun _ => h', fun q => absurd (by decide) q⟩
    · intro i hi ih h'
      rw [show 5 - i = (5 - (i + 1)) + 1 by omega] at h'
      unfold vfat at h'
      have e6 : σ.1 6 i = nI (a.1 6 i) := hC.num 6 i rfl
      have hm : a.1 6 i ≤ 99 := (hW.2.2.2.2.1 i hi).1
      refine VM.go [12] ⟨fun q => absurd q (nI_ge hi (by decide)), fun _ => ?_⟩
      show VM G d iX6_firstAt 12 _ _ _ _
      rw [nI_night (by omega) (by omega), f3 i hi]
      have nxt : ¬ (P i = true ∧ a.1 6 i = x) → VM G d iX6_firstAt 2 [some (.ref 0), some (.int (nI x)), some (.int (nI (vowb P 5))), some (.int (nI i + 1))] [] σ post := fun q => by
        rw [if_neg q] at h'
        have := ih h'
        rw [← nI_1] at this
        exact this
      by_cases hP : P i = true
      · rw [if_pos hP]
        refine VM.go [2] ⟨fun q => absurd rfl q, fun _ => ⟨i, rfl, hi, fun q => ?_, fun q => ?_⟩⟩
        · refine nxt (fun z => q ?_)
          rw [e6, z.2]
        · have q' : σ.1 6 i = nI x := q
          rw [e6] at q'
          have q2 := congrArg Int32.toNatClampNeg q'
          rw [nI_clamp (by omega), nI_clamp (by omega)] at q2
          rw [if_pos ⟨hP, q2⟩] at h'
          exact h'
      · rw [if_neg hP]
        exact VM.go [2] ⟨fun _ => nxt (fun z => hP z.1), fun q => absurd q (by decide)⟩
  exact VM.go [2] (key 0 (Nat.zero_le _) h)
theorem vlom_le {P : Nat → Bool} {m : Nat → Nat} {n : Nat} : vlom P m n ≤ 99 := by
  induction n with
  | zero => exact Nat.le_refl _
  | succ n ih => unfold vlom; split <;> omega
theorem vhim_le {P : Nat → Bool} {m : Nat → Nat} {n : Nat} (h : ∀ k, k < n → m k ≤ 99) : vhim P m n ≤ 99 := by
  induction n with
  | zero => exact Nat.zero_le _
  | succ n ih =>
    have := ih (fun k hk => h k (by omega))
    have := h n (by omega)
    unfold vhim; split <;> omega
theorem vc_walk {x0 k0 w0 : Int32} (hC : vRC a σ) (hW : vWF a) (h : ∀ σ', vag vBi σ σ' → post (some (.int (sWalk a x0 k0 w0))) σ') : VM G (d + 6) iX6_walk 0 [some (.ref 0), some (.int x0), some (.int k0), some (.int w0), none, none, none, none, none] [] σ post := by
  have bad : sWalk a x0 k0 w0 = -2 → post (some (.int (-2))) σ := fun e => by
    have := h σ vag.rf
    rw [e] at this
    exact this
  refine VM.go [] ⟨_, VM.at (vb_between (fun b1 b2 => ?_) (fun hno => ?_)), fun _ _ hh => hh⟩
  · obtain ⟨x, hx, e1⟩ := vnat (m := 99) (by decide) b1 b2
    refine ⟨fun c => absurd c (by decide), fun _ => ⟨_, VM.at (vb_between (fun b1 b2 => ?_) (fun hno => ?_)), fun _ _ hh => hh⟩⟩
    · obtain ⟨K, hK, e2⟩ := vnat (m := 99999) (by decide) b1 b2
      refine ⟨fun c => absurd c (by decide), fun _ => ⟨_, VM.at (vb_between (fun b1 b2 => ?_) (fun hno => ?_)), fun _ _ hh => hh⟩⟩
      · obtain ⟨w, hw, e3⟩ := vnat (m := 2) (by decide) b1 b2
        subst e1; subst e2; subst e3
        unfold sWalk at h
        rw [vix_nI (show x < 100 by omega) (by decide), vix_nI (show K < 100000 by omega) (by decide), vix_nI (show w < 3 by omega) (by decide)] at h
        dsimp only at h
        obtain ⟨P, hP⟩ : ∃ P, P = vowP a K := ⟨_, rfl⟩
        rw [← hP] at h
        obtain ⟨f1, f2, f3, f4⟩ := vowb_f P
        refine ⟨fun _ => ⟨_, VM.at (vb_whoOwe hK hC hW (fun s2 hs2 => ?_)), fun _ _ hh => hh⟩, fun c => absurd c (by decide)⟩
        rw [← hP]
        have hC2 := hC.bi hW hs2
        have h2 := h s2 hs2
        have hm : ∀ k, k < 5 → a.1 6 k ≤ 99 := fun k hk => (hW.2.2.2.2.1 k hk).1
        refine VM.at (VM.go [50] ⟨fun c1 => ?_, fun c1 => ?_⟩)
        · have hw2 : ¬ w = 2 := fun e => c1 (by rw [e]; rfl)
          unfold vwalk at h2
          rw [if_neg hw2] at h2
          refine VM.go [65] ⟨fun c2 => ?_, fun c2 => ?_⟩
          · have hne : ¬ vown P 5 = 0 := fun e => c2 (by rw [f4.mpr e]; rfl)
            rw [if_neg hne] at h2
            have key : ∀ i, i ≤ 5 → ∀ (y8 : Option Value), VM G (d + 6) iX6_walk 75 [some (.ref 0), some (.int (nI x)), some (.int (nI K)), some (.int (nI w)), some (.int (nI (vowb P 5))), some (.int (nI (vlom P (a.1 6) i))), some (.int (nI (vhim P (a.1 6) i))), some (.int (nI i)), y8] [] s2 post := by
              have hlo := vlom_le (P := P) (m := a.1 6) (n := 5)
              have hhi := vhim_le (P := P) (m := a.1 6) (n := 5) hm
              refine vloop _ ?_ ?_
              · intro y8
                refine VM.go [150] ⟨fun _ => ?_, fun q => absurd (by decide) q⟩
                show VM G (d + 6) iX6_walk 150 _ _ _ _
                rw [nI_abs (by omega) (by omega), nI_abs (by omega) (by omega)]
                have d1 : vdis x (vlom P (a.1 6) 5) ≤ 99 := by unfold vdis; omega
                have d2 : vdis x (vhim P (a.1 6) 5) ≤ 99 := by unfold vdis; omega
                refine VM.go [168] ⟨fun c3 => ?_, fun c3 => ?_⟩
                · rw [if_neg (fun e => c3 (by rw [e]; rfl))] at h2
                  refine VM.go [183] ⟨fun c4 => ?_, fun c4 => ?_⟩
                  · have c4' : ¬ nI (vdis x (vlom P (a.1 6) 5)) ≤ nI (vdis x (vhim P (a.1 6) 5)) := Int32.not_le.mpr c4
                    rw [nIle (by omega) (by omega)] at c4'
                    rw [if_neg c4'] at h2
                    exact VM.go [] ⟨_, VM.at (vb_firstAt hhi hC2 hW (by exact h2)), fun _ _ hh => hh⟩
                  · have c4' : nI (vdis x (vlom P (a.1 6) 5)) ≤ nI (vdis x (vhim P (a.1 6) 5)) := Int32.not_lt.mp c4
                    rw [nIle (by omega) (by omega)] at c4'
                    rw [if_pos c4'] at h2
                    exact VM.go [] ⟨_, VM.at (vb_firstAt hlo hC2 hW (by exact h2)), fun _ _ hh => hh⟩
                · have e0 : w = 0 := by
                    have q := congrArg Int32.toNatClampNeg (show nI w = 0 from c3)
                    rw [nI_clamp (by omega)] at q
                    exact q.trans (by decide)
                  rw [if_pos e0, ← nI_min (by omega) (by omega)] at h2
                  exact h2
              · intro i hi ih y8
                have e6 : s2.1 6 i = nI (a.1 6 i) := hC2.num 6 i rfl
                have hmi := hm i hi
                have hlo := vlom_le (P := P) (m := a.1 6) (n := i)
                have hhi := vhim_le (P := P) (m := a.1 6) (n := i) (fun k hk => hm k (by omega))
                refine VM.go [88] ⟨fun q => absurd q (nI_ge hi (by decide)), fun _ => ?_⟩
                show VM G (d + 6) iX6_walk 88 _ _ _ _
                rw [nI_night (by omega) (by omega), f3 i hi]
                by_cases hPi : P i = true
                · rw [if_pos hPi]
                  have := ih y8
                  rw [show vlom P (a.1 6) (i + 1) = min (vlom P (a.1 6) i) (a.1 6 i) from if_pos hPi, show vhim P (a.1 6) (i + 1) = max (vhim P (a.1 6) i) (a.1 6 i) from if_pos hPi, ← nI_min (by omega) (by omega), ← nI_max (by omega) (by omega), ← e6, ← nI_1] at this
                  exact VM.go [75] ⟨fun q => absurd rfl q, fun _ => ⟨i, rfl, hi, i, rfl, hi, this⟩⟩
                · rw [if_neg hPi]
                  have := ih y8
                  rw [show vlom P (a.1 6) (i + 1) = vlom P (a.1 6) i from if_neg hPi, show vhim P (a.1 6) (i + 1) = vhim P (a.1 6) i from if_neg hPi, ← nI_1] at this
                  exact VM.go [75] ⟨fun _ => this, fun q => absurd q (by decide)⟩
            exact VM.go [75] (key 0 (Nat.zero_le _) none)
          · have e0 : vowb P 5 = 0 := by
              have q := congrArg Int32.toNatClampNeg (show nI (vowb P 5) = 0 from c2)
              rw [nI_clamp (by omega)] at q
              exact q.trans (by decide)
            rw [if_pos (f4.mp e0)] at h2
            refine ⟨fun c3 => ?_, fun c3 => ?_⟩
            · rw [if_neg (fun e => c3 (by rw [e]; rfl))] at h2
              exact h2
            · have e0 : w = 0 := by
                have q := congrArg Int32.toNatClampNeg (show nI w = 0 from c3)
                rw [nI_clamp (by omega)] at q
                exact q.trans (by decide)
              rw [if_pos e0] at h2
              exact h2
        · have e0 : w = 2 := by
            have q := congrArg Int32.toNatClampNeg (show nI w = 2 from c1)
            rw [nI_clamp (by omega)] at q
            exact q.trans (by decide)
          unfold vwalk at h2
          rw [if_pos e0, ← f2, ← vbc (by omega)] at h2
          exact ⟨_, VM.at (vb_bitCount (by exact h2)), fun _ _ hh => hh⟩
      · refine ⟨fun c => absurd rfl c, fun _ => bad ?_⟩
        unfold sWalk
        rw [vix_btw (x := w0) (m := 2) (by decide) hno]
        cases vix x0 100 <;> cases vix k0 100000 <;> rfl
    · refine ⟨fun _ => bad ?_, fun c => absurd rfl c⟩
      unfold sWalk
      rw [vix_btw (x := k0) (m := 99999) (by decide) hno]
      cases vix x0 100 <;> rfl
  · refine ⟨fun _ => bad ?_, fun c => absurd rfl c⟩
    unfold sWalk
    rw [vix_btw (x := x0) (m := 99) (by decide) hno]
end WA
