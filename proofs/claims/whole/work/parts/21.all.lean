/-! ===== ALL of one, of all; who owes most ===== -/
/-- a bill of looker p, as it is laid -/
abbrev vBA (a : vα) (t p c : Nat) (σ : vM) : Prop := vBR (vcomp (a.2.2 t)) c (a.1 1 2) (20 + 3 * t) (a.1 2) (a.1 3) (a.1 4) (fun l => a.1 5 (6 * p + l)) σ
def vallA (a : vα) (c p : Nat) : Nat := vsumA a c (a.1 1 1) p - a.1 7 p
def vtogA (a : vα) (c : Nat) : Nat := vsumN 5 (fun p => vallA a c p)
theorem vWF.bw {a : vα} (hW : vWF a) {c p t : Nat} (hc : c < 4096) (hp : p < 5) (ht : t < 6) : vBw c (a.1 1 2) (20 + 3 * t) (a.1 2) (a.1 3) (a.1 4) (fun l => a.1 5 (6 * p + l)) := by
  obtain ⟨⟨h1, h2, h3⟩, h4, h5, h6, -⟩ := hW
  exact ⟨hc, h3, by omega, fun k hk => (h5 k hk).1, fun k hk => (h5 k hk).2.1, fun k hk => (h5 k hk).2.2, fun k hk => h6 _ (by omega)⟩
theorem vRc_of {t : Nat} (ht : t < 6) : vRc (20 + 3 * t) := by unfold vRc; omega
theorem vRC.bill {a : vα} {σ σ' : vM} (hC : vRC a σ) (hW : vWF a) {t p c : Nat} (ht : t < a.1 0 4) (hp : p < 5) (hc : c < 4096) (hs : vag vBi σ σ') (hB : vBl c (a.1 1 2) (20 + 3 * t) (a.1 2) (a.1 3) (a.1 4) (fun l => a.1 5 (6 * p + l)) σ') : vBA a t p c σ' := by
  have ht6 : t < 6 := by have := hW.2.1.2; omega
  obtain ⟨r1, r2⟩ := hC.2.2.2 t ht
  obtain ⟨w1, w2, -⟩ := hW.2.2.2.2.2.2.2.2.1 t ht
  have hr := vRc_of ht6
  exact ⟨hr, r1.ag (fun k => hs.get (vRc_bi hr 1 k (by decide))) (fun k => hs.get (vRc_bi hr 2 k (by decide))), w1, ⟨vnn (a.2.2 t), by unfold vnn; split <;> omega, w2, (hs.get (vRc_bi hr 0 0 (by decide))).trans r2⟩, hW.bw hc hp ht6, hB⟩
theorem vsumA_le {a : vα} {c t p : Nat} (hn : a.1 1 2 ≤ 6) : vsumA a c t p ≤ 77922 := by
  have h1 := vsumN_le (n := a.1 1 2) (f := fun l => vowA a c t p l) (b := 12987) (fun i _ => vowes_le)
  have h2 : a.1 1 2 * 12987 ≤ 6 * 12987 := Nat.mul_le_mul_right _ hn
  exact Nat.le_trans h1 h2
section AL
variable {G : vG} {d : Nat} {σ : vM} {post : vQ} {a : vα}
theorem vb_openBill {p : Nat} (hp : p < 5) (hC : vRC a σ) (hW : vWF a) (h : ∀ σ', vag vBi σ σ' → vBA a (a.1 1 1) p (a.1 1 0) σ' → post none σ') : VM G (d + 2) iX6_openBill 0 [some (.ref 0), some (.int (nI p))] [] σ post := by
  have hr := hC.num 1 1 rfl
  have ht : a.1 1 1 < a.1 0 4 := hW.1.2.1
  have ht6 : a.1 1 1 < 6 := by have := hW.2.1.2; omega
  have key : ∀ t, t = a.1 1 1 → VM G (d + 2) iX6_openBill 20 [some (.ref 0), some (.int (nI p))] [.ref (20 + 3 * t), .int (nI p), .ref 1, .ref 40] σ post := by
    intro t e
    have h' : ∀ σ', vag vBi σ σ' → vBl (a.1 1 0) (a.1 1 2) (20 + 3 * t) (a.1 2) (a.1 3) (a.1 4) (fun l => a.1 5 (6 * p + l)) σ' → post none σ' := fun σ' hs hB => h σ' hs (hC.bill hW ht hp hW.1.1 hs (by rw [← e]; exact hB))
    rcases (show t = 0 ∨ t = 1 ∨ t = 2 ∨ t = 3 ∨ t = 4 ∨ t = 5 by omega) with rfl | rfl | rfl | rfl | rfl | rfl
    all_goals exact VM.go [] ⟨_, VM.at (vb_open hp (by decide) hC hW (by exact h')), fun _ _ hh => hh⟩
  refine VM.go [17] ?_
  show VM G (d + 2) iX6_openBill 17 _ _ _ _
  rw [hr]
  refine VM.go [20] ⟨_, VM.at (vb_ruleOf ht6 ?_), fun _ _ hh => hh⟩
  exact key _ rfl
theorem vb_sumA {t p c : Nat} (hB : vBA a t p c σ) (h : ∀ σ', vag vSc σ σ' → post (some (.int (nI (vsumA a c t p)))) σ') : VM G (d + 3) iX0_sum 0 [some (.ref 40), none, none] [] σ post := vb_sum hB h
theorem vBA.cl {t p c c' : Nat} (hB : vBA a t p c σ) (hc : c' < 4096) : vBA a t p c' (vput σ 40 0 (nI c')) := by
  obtain ⟨w1, w2, w3, w4, w5, w6, w7⟩ := hB.2.2.2.2.1
  obtain ⟨g1, g2, g3, g4, g5, g6, g7⟩ := hB.2.2.2.2.2
  exact hB.to (vag.rf.put rfl) ⟨hc, w2, w3, w4, w5, w6, w7⟩ ⟨rfl, g2, g3, g4, g5, g6, g7⟩
theorem vb_allOf {p c : Nat} (hp : p < 5) (hc : c < 4096) (hC : vRC a σ) (hW : vWF a) (h : ∀ σ', vag vBi σ σ' → post (some (.int (nI (vallA a c p)))) σ') : VM G (d + 4) iX6_allOf 0 [some (.ref 0), some (.int (nI p)), some (.int (nI c))] [] σ post := by
  have hs := vsumA_le (a := a) (c := c) (t := a.1 1 1) (p := p) hW.1.2.2
  have hpd := (hW.2.2.2.2.1 p hp).2
  refine VM.go [] ⟨_, VM.at (vb_openBill hp hC hW (fun s2 hs2 hB => ?_)), fun _ _ hh => hh⟩
  have hs3 : vag vBi σ (vput s2 40 0 (nI c)) := hs2.put rfl
  refine ⟨_, VM.at (vb_sumA (hB.cl hc) (fun s4 hs4 => ?_)), fun _ _ hh => hh⟩
  have hs5 : vag vBi σ s4 := hs3.tr (hs4.up vSc_Bi)
  refine ⟨p, rfl, hp, ?_⟩
  rw [show s4.1 7 p = nI (a.1 7 p) from (hs5.get rfl).trans (hC.num 7 p rfl)]
  have e := vmax0 (a := vsumA a c (a.1 1 1) p) (b := a.1 7 p) (by omega) (by omega)
  have := h s4 hs5
  unfold vallA at this
  rw [← e] at this
  exact this
theorem vRC.bi {σ' : vM} (hC : vRC a σ) (hW : vWF a) (hs : vag vBi σ σ') : vRC a σ' := hC.ag (hs.up vBi_Cs) hW.2.1.2
theorem vb_allTogether {c : Nat} (hc : c < 4096) (hC : vRC a σ) (hW : vWF a) (h : ∀ σ', vag vBi σ σ' → post (some (.int (nI (vtogA a c)))) σ') : VM G (d + 5) iX6_allTogether 0 [some (.ref 0), some (.int (nI c)), none, none] [] σ post := by
  have key : ∀ i, i ≤ 5 → ∀ s2, vag vBi σ s2 → VM G (d + 5) iX6_allTogether 4 [some (.ref 0), some (.int (nI c)), some (.int (nI (vsumN i (fun p => vallA a c p)))), some (.int (nI i))] [] s2 post := by
    refine vloop _ ?_ ?_
    · intro s2 hs2
      exact VM.go [4] ⟨fun _ => h s2 hs2, fun c1 => absurd (by decide) c1⟩
    · intro i hi ih s2 hs2
      refine VM.go [4] ⟨fun c1 => absurd c1 (nI_ge hi (by decide)), fun _ => ⟨_, VM.at (vb_allOf hi hc (hC.bi hW hs2) hW (fun s3 hs3 => ?_)), fun _ _ hh => hh⟩⟩
      have := ih s3 (hs2.tr hs3)
      rw [show vsumN (i + 1) (fun p => vallA a c p) = vsumN i (fun p => vallA a c p) + vallA a c i from rfl, ← nI_add, ← nI_1] at this
      exact this
  exact VM.go [4] (key 0 (Nat.zero_le _) σ vag.rf)
/-- the first of 0 .. n for whom f is most -/
def vmost (f : Nat → Nat) : Nat → Nat
  | 0 => 0
  | n + 1 => if f (vmost f n) < f (n + 1) then n + 1 else vmost f n
theorem vmost_le (f : Nat → Nat) (n : Nat) : vmost f n ≤ n := by
  induction n with
  | zero => exact Nat.le_refl _
  | succ n ih => unfold vmost; split <;> omega
theorem vallA_le {c p : Nat} (hW : vWF a) : vallA a c p ≤ 77922 := by
  have := vsumA_le (a := a) (c := c) (t := a.1 1 1) (p := p) hW.1.2.2
  unfold vallA; omega
theorem vb_whoOwesMost (hC : vRC a σ) (hW : vWF a) (h : ∀ σ', vag vBi σ σ' → post (some (.int (nI (vmost (vallA a (a.1 1 0)) 4)))) σ') : VM G (d + 5) iX6_whoOwesMost 0 [some (.ref 0), none, none, none, none] [] σ post := by
  have hc := hW.1.1
  have hcl : ∀ {s2}, vag vBi σ s2 → s2.1 1 0 = nI (a.1 1 0) := fun hs => (hs.get rfl).trans (hC.num 1 0 rfl)
  have key : ∀ i, i ≤ 4 → ∀ s2 (y : Option Value), vag vBi σ s2 → VM G (d + 5) iX6_whoOwesMost 17 [some (.ref 0), some (.int (nI (vmost (vallA a (a.1 1 0)) i))), some (.int (nI (vallA a (a.1 1 0) (vmost (vallA a (a.1 1 0)) i)))), some (.int (nI (i + 1))), y] [] s2 post := by
    refine vloop _ ?_ ?_
    · intro s2 y hs2
      exact VM.go [17] ⟨fun _ => h s2 hs2, fun c1 => absurd (by decide) c1⟩
    · intro i hi ih s2 y hs2
      refine VM.go [30] ⟨fun c1 => absurd c1 (nI_ge (show i + 1 < 5 by omega) (by decide)), fun _ => ?_⟩
      refine VM.at (VM.go [31] ?_)
      show VM G (d + 5) iX6_whoOwesMost 31 _ _ _ _
      rw [hcl hs2]
      refine VM.go [17] ⟨_, VM.at (vb_allOf (show i + 1 < 5 by omega) hc (hC.bi hW hs2) hW (fun s3 hs3 => ?_)), fun _ _ hh => hh⟩
      have b1 := vallA_le (c := a.1 1 0) (p := i + 1) hW
      have b2 := vallA_le (c := a.1 1 0) (p := vmost (vallA a (a.1 1 0)) i) hW
      refine ⟨fun c1 => ?_, fun c1 => ?_⟩
      · rw [nIle (by omega) (by omega)] at c1
        have := ih s3 (some (.int (nI (vallA a (a.1 1 0) (i + 1))))) (hs2.tr hs3)
        rw [show vmost (vallA a (a.1 1 0)) (i + 1) = vmost (vallA a (a.1 1 0)) i from if_neg (by omega), ← nI_1 (i + 1)] at this
        exact this
      · rw [nIle (by omega) (by omega)] at c1
        have := ih s3 (some (.int (nI (vallA a (a.1 1 0) (i + 1))))) (hs2.tr hs3)
        rw [show vmost (vallA a (a.1 1 0)) (i + 1) = i + 1 from if_pos (by omega), ← nI_1 (i + 1)] at this
        exact this
  refine VM.go [11] ?_
  show VM G (d + 5) iX6_whoOwesMost 11 _ _ _ _
  rw [hcl vag.rf]
  exact VM.go [17] ⟨_, VM.at (vb_allOf (p := 0) (by decide) hc hC hW (fun s3 hs3 => by exact key 0 (Nat.zero_le _) s3 none hs3)), fun _ _ hh => hh⟩
end AL
