/-! ===== Purse ===== -/
/-- (0: none, else the fewest and one more; how much it falls short; the way) -/
abbrev vQS : Type := Nat × Nat × (Nat → Nat)
def vmp (a : vα) (k x : Nat) : Nat := min (a.1 9 k) (x / a.1 8 k)
def vway (A b c e : Nat) (k : Nat) : Nat := match k with | 0 => A | 1 => b | 2 => c | _ => e
def vpk (st : vQS) (A b c e l : Nat) : vQS := if l = 0 ∧ (st.1 = 0 ∨ A + b + c + e + 1 < st.1) then (A + b + c + e + 1, min st.2.1 l, vway A b c e) else (st.1, min st.2.1 l, st.2.2)
def vskB (a : vα) (c e x : Nat) : Nat → vQS → vQS
  | 0, st => st
  | n + 1, st => vskB a c e x n (vpk st (vmp a 0 (x - n * a.1 8 1)) n c e (x - n * a.1 8 1 - vmp a 0 (x - n * a.1 8 1) * a.1 8 0))
def vskC (a : vα) (e x : Nat) : Nat → vQS → vQS
  | 0, st => st
  | n + 1, st => vskC a e x n (vskB a n e (x - n * a.1 8 2) (vmp a 1 (x - n * a.1 8 2) + 1) st)
def vskD (a : vα) (x : Nat) : Nat → vQS → vQS
  | 0, st => st
  | n + 1, st => vskD a x n (vskC a n (x - n * a.1 8 3) (vmp a 2 (x - n * a.1 8 3) + 1) st)
def vseek (a : vα) (x : Nat) : vQS := vskD a x (vmp a 3 x + 1) (0, x, fun _ => 0)
/-- the purse holds it -/
def vPu (st : vQS) (σ : vM) : Prop := σ.1 47 0 = nI st.1 - 1 ∧ σ.1 47 1 = nI st.2.1 ∧ (1 ≤ st.1 → ∀ k, k < 4 → σ.1 48 k = nI (st.2.2 k)) ∧ st.1 ≤ 81 ∧ st.2.1 ≤ 999
theorem nI_min {p q : Nat} (hp : p < 2 ^ 31) (hq : q < 2 ^ 31) : (if nI q < nI p then nI q else nI p) = nI (min p q) := by
  by_cases h : q < p
  · rw [if_pos ((nIlt hq hp).mpr h), Nat.min_eq_right (Nat.le_of_lt h)]
  · rw [if_neg (fun e => h ((nIlt hq hp).mp e)), Nat.min_eq_left (Nat.le_of_not_lt h)]
theorem nI_m1a (x : Int32) : x + (-1) = x - 1 := by rw [Int32.sub_eq_add_neg]
theorem vmp_mul {a : vα} {k x n : Nat} (h : n ≤ vmp a k x) : n * a.1 8 k ≤ x := by
  unfold vmp at h
  have h2 : n ≤ x / a.1 8 k := Nat.le_trans h (Nat.min_le_right _ _)
  exact Nat.le_trans (Nat.mul_le_mul_right _ h2) (Nat.div_mul_le_self _ _)
section PU
variable {G : vG} {d : Nat} {σ : vM} {post : vQ} {a : vα}
theorem vWF.br (hW : vWF a) {k : Nat} (hk : k < 4) : 1 ≤ a.1 8 k ∧ a.1 8 k ≤ 99 ∧ a.1 9 k ≤ 20 := hW.2.2.2.2.2.1 k hk
theorem vmp_le (hW : vWF a) {k x : Nat} (hk : k < 4) : vmp a k x ≤ 20 := Nat.le_trans (Nat.min_le_left _ _) (hW.br hk).2.2
theorem vb_most {k x : Nat} (hk : k < 4) (hx : x < 2 ^ 31) (hC : vRC a σ) (hW : vWF a) (h : post (some (.int (nI (vmp a k x)))) σ) : VM G (d + 1) iX1_most 0 [some (.int (nI k)), some (.int (nI x)), some (.ref 8), some (.ref 9)] [] σ post := by
  obtain ⟨w1, w2, w3⟩ := hW.br hk
  have e8 : σ.1 8 k = nI (a.1 8 k) := hC.num 8 k rfl
  have e9 : σ.1 9 k = nI (a.1 9 k) := hC.num 9 k rfl
  have hd : x / a.1 8 k ≤ x := Nat.div_le_self _ _
  have e : (if σ.1 8 k = 0 then (0 : Int32) else 0) = 0 := ite_self _
  have fin : post (some (.int (if nI x / σ.1 8 k < σ.1 9 k then nI x / σ.1 8 k else σ.1 9 k))) σ := by
    rw [e8, e9, pk_div hx (by omega) (by omega), nI_min (by omega) (by omega)]
    exact h
  refine VM.go [] ⟨k, rfl, hk, fun _ => ⟨k, rfl, hk, k, rfl, hk, ?_, fin⟩, fun c => absurd ?_ c⟩
  · rw [e8]
    intro q
    have := congrArg Int32.toNatClampNeg q
    rw [nI_clamp (by omega)] at this
    have h0 : (0 : Int32).toNatClampNeg = 0 := by decide
    omega
  · rw [e8]; exact nI_le (show 1 ≤ a.1 8 k from w1) (by omega)
theorem vb_keep {x1 x2 x3 x4 : Int32} (h : post none (vput (vput (vput (vput (vput σ 48 0 x1) 48 1 x2) 48 2 x3) 48 3 x4) 47 0 (x1 + x2 + x3 + x4))) : VM G d iX1_keep 0 [some (.ref 47), some (.int x1), some (.int x2), some (.int x3), some (.int x4)] [] σ post := by
  exact VM.go [] ⟨nofun, 0, rfl, by decide, nofun, 1, rfl, by decide, nofun, 2, rfl, by decide, nofun, 3, rfl, by decide, h⟩
theorem nI_m1e {f : Nat} (hf : f < 2 ^ 31) : nI f - 1 = -1 ↔ f = 0 := by
  constructor
  · intro q
    cases f with
    | zero => rfl
    | succ f =>
      rw [nI_pred f] at q
      exact absurd (show nI f < 0 by rw [q]; decide) (nI_pos (by omega))
  · rintro rfl; decide
theorem vPu.keep {st : vQS} {A b c e : Nat} (hA : A ≤ 20) (hb : b ≤ 20) (hc : c ≤ 20) (he : e ≤ 20) (hP : vPu st σ) (hq : st.1 = 0 ∨ A + b + c + e + 1 < st.1) : vPu (vpk st A b c e 0) (vput (vput (vput (vput (vput (vput σ 47 1 (nI (min st.2.1 0))) 48 0 (nI A)) 48 1 (nI b)) 48 2 (nI c)) 48 3 (nI e)) 47 0 (nI A + nI b + nI c + nI e)) := by
  unfold vpk
  rw [if_pos ⟨rfl, hq⟩]
  refine ⟨?_, rfl, fun _ k hk => ?_, by dsimp only; omega, by dsimp only; omega⟩
  · rw [vput_eq, nI_add, nI_add, nI_add]
    exact (nI_pred _).symm
  · rcases (show k = 0 ∨ k = 1 ∨ k = 2 ∨ k = 3 by omega) with rfl | rfl | rfl | rfl <;> rfl
theorem vPu.skip {st : vQS} {A b c e l : Nat} (hP : vPu st σ) (hq : ¬ (l = 0 ∧ (st.1 = 0 ∨ A + b + c + e + 1 < st.1))) : vPu (vpk st A b c e l) (vput σ 47 1 (nI (min st.2.1 l))) := by
  obtain ⟨p1, p2, p3, p4, p5⟩ := hP
  unfold vpk
  rw [if_neg hq]
  exact ⟨p1, rfl, p3, p4, by dsimp only; omega⟩
theorem vb_seekB {x X e c : Nat} {ya yb : Option Value} (hC : vRC a σ) (hW : vWF a) (hX : X ≤ 999) (hc : c ≤ 20) (he : e ≤ 20) : ∀ n, n ≤ vmp a 1 X + 1 → ∀ (st : vQS) (s2 : vM) (y9 y10 y11 : Option Value), vag vCs σ s2 → vPu st s2 → (∀ (s3 : vM) (y8 y9 y10 y11 : Option Value), vag vCs σ s3 → vPu (vskB a c e X n st) s3 → VM G (d + 2) iX1_seek 182 [some (.ref 47), some (.int (nI x)), some (.ref 8), some (.ref 9), some (.int (nI e)), ya, some (.int (nI c)), yb, y8, y9, y10, y11] [] s3 post) → yb = some (.int (nI X)) → VM G (d + 2) iX1_seek 83 [some (.ref 47), some (.int (nI x)), some (.ref 8), some (.ref 9), some (.int (nI e)), ya, some (.int (nI c)), yb, some (.int (nI n - 1)), y9, y10, y11] [] s2 post := by
  intro n
  induction n with
  | zero =>
    intro hn st s2 y9 y10 y11 hs2 hP h hy
    subst hy
    exact VM.go [83, 182] ⟨fun _ => h s2 _ _ _ _ hs2 hP, fun q => absurd (by decide) q⟩
  | succ n ih =>
    intro hn st s2 y9 y10 y11 hs2 hP h hy
    subst hy
    have hT := hW.2.1.2
    have hC2 := hC.ag hs2 hT
    obtain ⟨w1, w2, w3⟩ := hW.br (k := 1) (by decide)
    obtain ⟨v1, v2, v3⟩ := hW.br (k := 0) (by decide)
    have hm := vmp_mul (show n ≤ vmp a 1 X by omega)
    have hn20 : n ≤ 20 := by have := vmp_le hW (k := 1) (x := X) (by decide); omega
    rw [nI_pred n]
    obtain ⟨Y, hY⟩ : ∃ Y, Y = X - n * a.1 8 1 := ⟨_, rfl⟩
    refine VM.go [99] ⟨fun q => absurd q (nI_pos (by omega)), fun _ => ⟨1, rfl, by decide, ?_⟩⟩
    show VM G (d + 2) iX1_seek 99 _ _ _ _
    rw [hC2.num 8 1 rfl, pk_mul, show nI X - nI (n * a.1 8 1) = nI Y from by rw [hY]; exact pk_sub hm]
    refine VM.go [109] ⟨_, VM.at (vb_most (k := 0) (by decide) (by omega) hC2 hW ?_), fun _ _ hh => hh⟩
    obtain ⟨A, hA⟩ : ∃ A, A = vmp a 0 Y := ⟨_, rfl⟩
    have hA20 : A ≤ 20 := by rw [hA]; exact vmp_le hW (by decide)
    have hmA := vmp_mul (show A ≤ vmp a 0 Y by omega)
    obtain ⟨l, hl⟩ : ∃ l, l = Y - A * a.1 8 0 := ⟨_, rfl⟩
    rw [← hA]
    refine VM.at (VM.go [120] ⟨0, rfl, by decide, ?_⟩)
    show VM G (d + 2) iX1_seek 120 _ _ _ _
    rw [hC2.num 8 0 rfl, pk_mul, show nI Y - nI (A * a.1 8 0) = nI l from by rw [hl]; exact pk_sub hmA]
    obtain ⟨p1, p2, p3, p4, p5⟩ := hP
    refine VM.go [133] ?_
    show VM G (d + 2) iX1_seek 133 _ _ _ _
    rw [p2, nI_min (by omega) (by omega)]
    have cont : ∀ s4, vag vCs σ s4 → vPu (vpk st A n c e l) s4 → VM G (d + 2) iX1_seek 176 [some (.ref 47), some (.int (nI x)), some (.ref 8), some (.ref 9), some (.int (nI e)), ya, some (.int (nI c)), some (.int (nI X)), some (.int (nI n)), some (.int (nI Y)), some (.int (nI A)), some (.int (nI l))] [] s4 post := by
      intro s4 hs4 hP4
      refine VM.go [83] ?_
      show VM G (d + 2) iX1_seek 83 _ _ _ _
      rw [nI_m1a]
      refine ih (by omega) _ s4 _ _ _ hs4 hP4 (fun s5 y8 y9 y10 y11 hs5 hP5 => h s5 y8 y9 y10 y11 hs5 ?_) rfl
      rw [hl, hA, hY] at hP5
      exact hP5
    have hs3 : vag vCs σ (vput s2 47 1 (nI (min st.2.1 l))) := hs2.put rfl
    have skip := fun hq => cont _ hs3 (vPu.skip (A := A) (b := n) (c := c) (e := e) (l := l) ⟨p1, p2, p3, p4, p5⟩ hq)
    by_cases hl0 : l = 0
    · have keep := fun hq => cont _ (((((hs3.put (v := nI A) (show vCs 48 0 = true from rfl)).put (v := nI n) (show vCs 48 1 = true from rfl)).put (v := nI c) (show vCs 48 2 = true from rfl)).put (v := nI e) (show vCs 48 3 = true from rfl)).put (v := nI A + nI n + nI c + nI e) (show vCs 47 0 = true from rfl)) (by rw [hl0]; exact vPu.keep hA20 hn20 hc he ⟨p1, p2, p3, p4, p5⟩ hq)
      subst hl0
      have es : nI A + nI n + nI c + nI e = nI (A + n + c + e) := by rw [nI_add, nI_add, nI_add]
      refine VM.go [176] ⟨fun q => absurd rfl q, fun _ => ⟨fun q => ⟨_, VM.at (vb_keep ?_), fun _ _ hh => hh⟩, fun q => ⟨fun q2 => ?_, fun q2 => ⟨_, VM.at (vb_keep ?_), fun _ _ hh => hh⟩⟩⟩⟩
      · have q' : s2.1 47 0 = -1 := q
        rw [p1, nI_m1e (by omega)] at q'
        exact VM.at (keep (Or.inl q'))
      · have q' : ¬ s2.1 47 0 = -1 := q
        rw [p1, nI_m1e (by omega)] at q'
        have q2' : s2.1 47 0 ≤ nI A + nI n + nI c + nI e := q2
        rw [p1, es, show st.1 = (st.1 - 1) + 1 by omega, nI_pred, nIle (by omega) (by omega)] at q2'
        exact VM.at (skip (fun r => by rcases r.2 with r | r <;> omega))
      · have q' : ¬ s2.1 47 0 = -1 := q
        rw [p1, nI_m1e (by omega)] at q'
        have q2' : ¬ s2.1 47 0 ≤ nI A + nI n + nI c + nI e := q2
        rw [p1, es, show st.1 = (st.1 - 1) + 1 by omega, nI_pred, nIle (by omega) (by omega)] at q2'
        exact VM.at (keep (Or.inr (by omega)))
    · refine VM.go [176] ⟨fun _ => VM.at (skip (fun r => hl0 r.1)), fun q => absurd q ?_⟩
      intro q
      have := congrArg Int32.toNatClampNeg q
      rw [nI_clamp (by omega)] at this
      exact hl0 (this.trans (by decide))
theorem vb_seekC {x X e : Nat} {ya : Option Value} (hC : vRC a σ) (hW : vWF a) (hX : X ≤ 999) (he : e ≤ 20) : ∀ n, n ≤ vmp a 2 X + 1 → ∀ (st : vQS) (s2 : vM) (y7 y8 y9 y10 y11 : Option Value), vag vCs σ s2 → vPu st s2 → (∀ (s3 : vM) (y6 y7 y8 y9 y10 y11 : Option Value), vag vCs σ s3 → vPu (vskC a e X n st) s3 → VM G (d + 2) iX1_seek 188 [some (.ref 47), some (.int (nI x)), some (.ref 8), some (.ref 9), some (.int (nI e)), ya, y6, y7, y8, y9, y10, y11] [] s3 post) → ya = some (.int (nI X)) → VM G (d + 2) iX1_seek 57 [some (.ref 47), some (.int (nI x)), some (.ref 8), some (.ref 9), some (.int (nI e)), ya, some (.int (nI n - 1)), y7, y8, y9, y10, y11] [] s2 post := by
  intro n
  induction n with
  | zero =>
    intro hn st s2 y7 y8 y9 y10 y11 hs2 hP h hy
    subst hy
    exact VM.go [57, 188] ⟨fun _ => h s2 _ _ _ _ _ _ hs2 hP, fun q => absurd (by decide) q⟩
  | succ n ih =>
    intro hn st s2 y7 y8 y9 y10 y11 hs2 hP h hy
    subst hy
    have hT := hW.2.1.2
    have hC2 := hC.ag hs2 hT
    obtain ⟨w1, w2, w3⟩ := hW.br (k := 2) (by decide)
    have hm := vmp_mul (show n ≤ vmp a 2 X by omega)
    have hn20 : n ≤ 20 := by have := vmp_le hW (k := 2) (x := X) (by decide); omega
    rw [nI_pred n]
    obtain ⟨Y, hY⟩ : ∃ Y, Y = X - n * a.1 8 2 := ⟨_, rfl⟩
    refine VM.go [73] ⟨fun q => absurd q (nI_pos (by omega)), fun _ => ⟨2, rfl, by decide, ?_⟩⟩
    show VM G (d + 2) iX1_seek 73 _ _ _ _
    rw [hC2.num 8 2 rfl, pk_mul, show nI X - nI (n * a.1 8 2) = nI Y from by rw [hY]; exact pk_sub hm]
    refine VM.go [83] ⟨_, VM.at (vb_most (k := 1) (by decide) (by omega) hC2 hW ?_), fun _ _ hh => hh⟩
    rw [← nI_pred (vmp a 1 Y)]
    refine VM.at (VM.go [83] ?_)
    show VM G (d + 2) iX1_seek 83 _ _ _ _
    refine vb_seekB hC hW (by omega) hn20 he _ (Nat.le_refl _) st s2 _ _ _ hs2 hP (fun s3 y8 y9 y10 y11 hs3 hP3 => ?_) rfl
    refine VM.go [57] ?_
    show VM G (d + 2) iX1_seek 57 _ _ _ _
    rw [nI_m1a]
    refine ih (by omega) _ s3 _ _ _ _ _ hs3 hP3 (fun s5 y6 y7 y8 y9 y10 y11 hs5 hP5 => h s5 y6 y7 y8 y9 y10 y11 hs5 ?_) rfl
    rw [hY] at hP5
    exact hP5
theorem vb_seekD {x : Nat} (hC : vRC a σ) (hW : vWF a) (hx : x ≤ 999) : ∀ n, n ≤ vmp a 3 x + 1 → ∀ (st : vQS) (s2 : vM) (y5 y6 y7 y8 y9 y10 y11 : Option Value), vag vCs σ s2 → vPu st s2 → (∀ (s3 : vM), vag vCs σ s3 → vPu (vskD a x n st) s3 → post none s3) → VM G (d + 2) iX1_seek 32 [some (.ref 47), some (.int (nI x)), some (.ref 8), some (.ref 9), some (.int (nI n - 1)), y5, y6, y7, y8, y9, y10, y11] [] s2 post := by
  intro n
  induction n with
  | zero =>
    intro hn st s2 y5 y6 y7 y8 y9 y10 y11 hs2 hP h
    exact VM.go [32] ⟨fun _ => h s2 hs2 hP, fun q => absurd (by decide) q⟩
  | succ n ih =>
    intro hn st s2 y5 y6 y7 y8 y9 y10 y11 hs2 hP h
    have hT := hW.2.1.2
    have hC2 := hC.ag hs2 hT
    obtain ⟨w1, w2, w3⟩ := hW.br (k := 3) (by decide)
    have hm := vmp_mul (show n ≤ vmp a 3 x by omega)
    have hn20 : n ≤ 20 := by have := vmp_le hW (k := 3) (x := x) (by decide); omega
    rw [nI_pred n]
    obtain ⟨Y, hY⟩ : ∃ Y, Y = x - n * a.1 8 3 := ⟨_, rfl⟩
    refine VM.go [47] ⟨fun q => absurd q (nI_pos (by omega)), fun _ => ⟨3, rfl, by decide, ?_⟩⟩
    show VM G (d + 2) iX1_seek 47 _ _ _ _
    rw [hC2.num 8 3 rfl, pk_mul, show nI x - nI (n * a.1 8 3) = nI Y from by rw [hY]; exact pk_sub hm]
    refine VM.go [57] ⟨_, VM.at (vb_most (k := 2) (by decide) (by omega) hC2 hW ?_), fun _ _ hh => hh⟩
    rw [← nI_pred (vmp a 2 Y)]
    refine VM.at (VM.go [57] ?_)
    show VM G (d + 2) iX1_seek 57 _ _ _ _
    refine vb_seekC hC hW (by omega) hn20 _ (Nat.le_refl _) st s2 _ _ _ _ _ hs2 hP (fun s3 y6 y7 y8 y9 y10 y11 hs3 hP3 => ?_) rfl
    refine VM.go [32] ?_
    show VM G (d + 2) iX1_seek 32 _ _ _ _
    rw [nI_m1a]
    refine ih (by omega) _ s3 _ _ _ _ _ _ _ hs3 hP3 (fun s5 hs5 hP5 => h s5 hs5 ?_)
    rw [hY] at hP5
    exact hP5
theorem vb_seek {x : Nat} (hx : x ≤ 999) (hC : vRC a σ) (hW : vWF a) (h : ∀ σ', vag vCs σ σ' → vPu (vseek a x) σ' → post none σ') : VM G (d + 2) iX1_seek 0 [some (.ref 47), some (.int (nI x)), some (.ref 8), some (.ref 9), none, none, none, none, none, none, none, none] [] σ post := by
  have hs1 : vag vCs σ (vput (vput σ 47 0 (-1)) 47 1 (nI x)) := (vag.rf.put rfl).put rfl
  refine VM.go [32] ⟨fun q => absurd q (by decide), fun _ => ⟨fun _ => ⟨_, VM.at (vb_most (k := 3) (by decide) (by omega) (hC.ag hs1 hW.2.1.2) hW ?_), fun _ _ hh => hh⟩, fun q => absurd (by decide) q⟩⟩
  rw [← nI_pred (vmp a 3 x)]
  refine VM.at (VM.go [32] ?_)
  show VM G (d + 2) iX1_seek 32 _ _ _ _
  exact vb_seekD hC hW hx _ (Nat.le_refl _) (0, x, fun _ => 0) _ _ _ _ _ _ _ _ hs1 ⟨show (-1 : Int32) = nI 0 - 1 by decide, rfl, fun q => absurd q (Nat.not_succ_le_zero 0), Nat.zero_le _, hx⟩ h
end PU
