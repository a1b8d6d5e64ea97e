/-! ===== tells ===== -/
def vfo (f : Nat → Nat) (it : Nat → Int32) (but : Nat) : Nat → Nat → Int32
  | 0, _ => -1
  | k + 1, l => if ¬ l = but ∧ ¬ nI (f l) = it l then nI l else vfo f it but k (l + 1)
theorem vfo_all {f : Nat → Nat} {it : Nat → Int32} {but : Nat} : ∀ k l, l + k < 2 ^ 31 → (vfo f it but k l = -1 ↔ ∀ j, l ≤ j → j < l + k → j = but ∨ nI (f j) = it j) := by
  intro k
  induction k with
  | zero => intro l _; exact ⟨fun _ j h1 h2 => absurd h2 (by omega), fun _ => rfl⟩
  | succ k ih =>
    intro l hl
    unfold vfo
    by_cases q : ¬ l = but ∧ ¬ nI (f l) = it l
    · rw [if_pos q]
      refine ⟨fun e => absurd (show nI l < 0 by rw [e]; decide) (nI_pos (by omega)), fun z => ?_⟩
      rcases z l (Nat.le_refl _) (by omega) with r | r
      · exact absurd r q.1
      · exact absurd r q.2
    · rw [if_neg q, ih (l + 1) (by omega)]
      constructor
      · intro z j h1 h2
        by_cases e : j = l
        · subst e
          exact Classical.byContradiction (fun r => q ⟨fun r1 => r (Or.inl r1), fun r1 => r (Or.inr r1)⟩)
        · exact z j (by omega) (by omega)
      · exact fun z j h1 h2 => z j (by omega) (by omega)
/-- all of the first n fit -/
def vfit (f : Nat → Nat) (it : Nat → Int32) (n : Nat) : Bool := decide (∀ j, j < n → nI (f j) = it j)
theorem vfo_fit {f : Nat → Nat} {it : Nat → Int32} {n : Nat} (hn : n ≤ 6) : vfo f it 7 n 0 = -1 ↔ vfit f it n = true := by
  rw [vfo_all n 0 (by omega)]
  unfold vfit
  rw [decide_eq_true_eq]
  constructor
  · intro z j hj
    rcases z j (Nat.zero_le _) (by omega) with r | r
    · omega
    · exact r
  · exact fun z j _ hj => Or.inr (z j (by omega))
abbrev vT3 : Type := (Nat → Nat) × (Nat → Nat) × (Nat → Nat)
/-- kinds, numbers, years, one of them changed for the light l -/
def vtrT (tc l v : Nat) (t : vT3) : vT3 := if tc = 41 then (vupd t.1 l v, t.2) else if tc = 42 then (t.1, vupd t.2.1 l v, t.2.2) else (t.1, t.2.1, vupd t.2.2 l v)
theorem vtrT_2 {tc l v w : Nat} {t : vT3} : vtrT tc l w (vtrT tc l v t) = vtrT tc l w t := by
  unfold vtrT
  by_cases h1 : tc = 41
  · simp only [if_pos h1, vupd_2]
  · by_cases h2 : tc = 42
    · simp only [if_neg h1, if_pos h2, vupd_2]
    · simp only [if_neg h1, if_neg h2, vupd_2]
/-- bits, how many, the first and one more -/
def vts (small : Bool) (F : Nat → Bool) (lo : Nat) : Nat → Nat × Nat × Nat
  | 0 => (0, 0, 0)
  | k + 1 => if F (lo + k) then (if small then (vts small F lo k).1 ||| 2 ^ (lo + k) else (vts small F lo k).1, (vts small F lo k).2.1 + 1, if (vts small F lo k).2.1 = 0 then lo + k + 1 else (vts small F lo k).2.2) else vts small F lo k
theorem vts_le {small : Bool} {F : Nat → Bool} {lo : Nat} {k : Nat} (hs : small = true → lo + k ≤ 10) : (vts small F lo k).1 < 1024 ∧ (vts small F lo k).2.1 ≤ k ∧ (vts small F lo k).2.2 ≤ lo + k := by
  induction k with
  | zero => exact ⟨show (0 : Nat) < 1024 by decide, Nat.le_refl _, Nat.zero_le _⟩
  | succ k ih =>
    obtain ⟨i1, i2, i3⟩ := ih (fun h => by have := hs h; omega)
    unfold vts
    by_cases h : F (lo + k) = true
    · rw [if_pos h]
      refine ⟨?_, by dsimp only; omega, by dsimp only; split <;> omega⟩
      dsimp only
      by_cases h2 : small = true
      · rw [if_pos h2]
        have := hs h2
        exact Nat.or_lt_two_pow (n := 10) i1 (Nat.pow_lt_pow_right (by decide) (by omega))
      · rw [if_neg h2]; exact i1
    · rw [if_neg h]
      exact ⟨i1, by omega, by omega⟩
/-- owed by looker p under rule t, clouds c and these traits -/
def vowT (a : vα) (t c p : Nat) (tr : vT3) : Nat → Nat := vowes (vTof (vcomp (a.2.2 t))) c (a.1 1 2) tr.1 tr.2.1 tr.2.2 (vse a p)
abbrev vtr0 (a : vα) : vT3 := (a.1 2, a.1 3, a.1 4)
def vtcO (s : Nat) : Nat := if s = 1 then 41 else if s = 2 then 42 else 43
def vtsO (a : vα) (s p l sort : Nat) : Nat × Nat × Nat := vts (decide (sort ≤ 2)) (fun v => vfit (vowT a (a.1 1 1) (a.1 1 0) p (vtrT (vtcO sort) l v (vtr0 a))) (a.2.1 s) (a.1 1 2)) (if sort ≤ 2 then 0 else 1) (if sort = 1 then 6 else if sort = 2 then 10 else 999)
def sTells (a : vα) (sheet looker what : Int32) : Int32 := match vix sheet 4, vix looker 5, vix what 50 with
  | some s, some p, some w => if 3 ≤ w ∧ w < 10 then -2 else if 10 ≤ w ∧ ¬ w % 10 < a.1 1 2 then -2 else if a.1 (50 + 2 * s) 0 = 0 then -11 else if ¬ a.1 (50 + 2 * s) 1 = a.1 1 2 then -2
    else if w = 0 then vfo (vowA a (a.1 1 0) (a.1 1 1) p) (a.2.1 s) 7 (a.1 1 2) 0
    else if w = 1 then nI (vowb (fun t => vfit (vowA a (a.1 1 0) t p) (a.2.1 s) (a.1 1 2)) (a.1 0 4))
    else if w = 2 then nI (vowb (fun t => vfit (vowA a (if t = 12 then 0 else 2 ^ t) (a.1 1 1) p) (a.2.1 s) (a.1 1 2)) 13)
    else if w / 10 ≤ 2 then nI (vtsO a s p (w % 10) (w / 10)).1 else if w / 10 = 3 then nI (vtsO a s p (w % 10) (w / 10)).2.1 else nI (vtsO a s p (w % 10) (w / 10)).2.2 - 1
  | _, _, _ => -2
section TE
variable {G : vG} {d : Nat} {σ : vM} {post : vQ} {a : vα} {cs : Nat → List Int32} {c n r : Nat} {kd nu ye se : Nat → Nat}
theorem vb_item {ro i sz : Nat} (hr : ro = 50 ∨ ro = 52 ∨ ro = 54 ∨ ro = 56) (hsz : σ.1 ro 1 = nI sz) (hi : i < sz) (hz : sz ≤ 40) (h : post (some (.int (σ.1 (ro + 1) i))) σ) : VM G d iX3_item 0 [some (.ref ro), some (.int (nI i))] [] σ post := by
  have h40 : i < 40 := by omega
  rcases hr with rfl | rfl | rfl | rfl
  all_goals exact VM.go [] ⟨fun q => absurd q (nI_pos (by omega)), fun _ => ⟨fun q => absurd q (by rw [hsz]; exact nI_ge hi (by omega)), fun _ => ⟨fun q => absurd q (nI_ge h40 (by decide)), fun _ => ⟨i, rfl, h40, h⟩⟩⟩⟩
theorem vSc_row {ro i k : Nat} (hr : ro = 50 ∨ ro = 52 ∨ ro = 54 ∨ ro = 56) (hi : i ≤ 1) : vSc (ro + i) k = false ∧ vBi (ro + i) k = false := by
  constructor
  · cases hb : vSc (ro + i) k with
    | false => rfl
    | true => exfalso; simp only [vSc, Bool.or_eq_true, vbq] at hb; omega
  · cases hb : vBi (ro + i) k with
    | false => rfl
    | true => exfalso; simp only [vBi, Bool.and_eq_true, Nat.ble_eq] at hb; omega
theorem vb_firstO {ro but : Nat} {but0 : Int32} {it : Nat → Int32} (hr : ro = 50 ∨ ro = 52 ∨ ro = 54 ∨ ro = 56) (hB : vBR cs c n r kd nu ye se σ) (hsz : σ.1 ro 1 = nI n) (hit : ∀ k, k < n → σ.1 (ro + 1) k = it k) (hbut : ∀ l, l < 6 → (nI l = but0 ↔ l = but)) (h : ∀ σ', vag vSc σ σ' → post (some (.int (vfo (vowes (vTof cs) c n kd nu ye se) it but n 0))) σ') : VM G (d + 3) iX0_firstOtherwise 0 [some (.ref 40), some (.ref ro), some (.int but0), none] [] σ post := by
  have hn6 := hB.2.2.2.2.1.2.1
  have hn := hB.2.2.2.2.2.2.1
  have key : ∀ i, i ≤ n → ∀ s2, vag vSc σ s2 → (∀ σ', vag vSc σ σ' → post (some (.int (vfo (vowes (vTof cs) c n kd nu ye se) it but (n - i) i))) σ') → VM G (d + 3) iX0_firstOtherwise 2 [some (.ref 40), some (.ref ro), some (.int but0), some (.int (nI i))] [] s2 post := by
    refine vloop _ ?_ ?_
    · intro s2 hs2 h'
      rw [Nat.sub_self] at h'
      refine VM.go [2] ⟨fun _ => h' s2 hs2, fun c1 => absurd ?_ c1⟩
      rw [hs2.get rfl, hn]; exact nI_le (Nat.le_refl _) (by omega)
    · intro i hi ih s2 hs2 h'
      rw [show n - i = (n - (i + 1)) + 1 by omega] at h'
      unfold vfo at h'
      have nxt : ∀ s3, vag vSc σ s3 → ¬ (¬ i = but ∧ ¬ nI (vowes (vTof cs) c n kd nu ye se i) = it i) → VM G (d + 3) iX0_firstOtherwise 30 [some (.ref 40), some (.ref ro), some (.int but0), some (.int (nI i))] [] s3 post := fun s3 hs3 q => by
        rw [if_neg q] at h'
        have := ih s3 hs3 h'
        rw [← nI_1] at this
        exact VM.go [2] this
      refine VM.go [30] ⟨fun c1 => absurd c1 (by rw [hs2.get rfl, hn]; exact nI_ge hi (by omega)), fun _ => ⟨fun c2 => ?_, fun c2 => ?_⟩⟩
      · exact nxt s2 hs2 (fun q => q.1 ((hbut i (by omega)).mp c2))
      · have hne : ¬ i = but := fun q => c2 ((hbut i (by omega)).mpr q)
        refine ⟨_, VM.at (vb_owedR (l := i) (by omega) (hB.ag hs2) (fun s3 hs3 => ?_)), fun _ _ hh => hh⟩
        have hs3' := hs2.tr hs3
        have e1 : s3.1 ro 1 = nI n := (hs3'.get (vSc_row (i := 0) hr (by decide)).1).trans hsz
        have e2 : s3.1 (ro + 1) i = it i := (hs3'.get (vSc_row hr (by decide)).1).trans (hit i hi)
        have fin : VM G (d + 3) iX0_firstOtherwise 25 [some (.ref 40), some (.ref ro), some (.int but0), some (.int (nI i))] [.int (it i), .int (nI (vowes (vTof cs) c n kd nu ye se i))] s3 post := by
          refine VM.go [30] ⟨fun c3 => nxt s3 hs3' (fun q => q.2 c3), fun c3 => ?_⟩
          rw [if_pos ⟨hne, c3⟩] at h'
          exact h' s3 hs3'
        rw [← e2] at fin
        rcases hr with rfl | rfl | rfl | rfl
        all_goals
          refine ⟨_, VM.at (vb_item (by decide) e1 hi (by omega) ?_), fun _ _ hh => hh⟩
          exact VM.at fin
  exact VM.go [2] (key 0 (Nat.zero_le _) σ vag.rf h)
theorem nI_shl13 : ∀ t, t < 13 → (1 : Int32) <<< (nI t &&& 31) = nI (2 ^ t) := by decide
theorem vowb_13 {P : Nat → Bool} {n : Nat} (hn : n ≤ 13) : vowb P n < 2 ^ 31 := Nat.lt_of_lt_of_le vowb_lt (Nat.pow_le_pow_right (by decide) (by omega))
theorem vb_textsFit {ro p : Nat} {it : Nat → Int32} (hr : ro = 50 ∨ ro = 52 ∨ ro = 54 ∨ ro = 56) (hp : p < 5) (hC : vRC a σ) (hW : vWF a) {s2 : vM} (hs2 : vag vBi σ s2) (hB : vBA a (a.1 1 1) p (a.1 1 0) s2) (hsz : σ.1 ro 1 = nI (a.1 1 2)) (hit : ∀ k, k < a.1 1 2 → σ.1 (ro + 1) k = it k) (h : ∀ σ', vag vBi σ σ' → post (some (.int (nI (vowb (fun t => vfit (vowA a (a.1 1 0) t p) it (a.1 1 2)) (a.1 0 4))))) σ') : VM G (d + 4) iX6_textsThatFit 0 [some (.ref 0), some (.ref ro), none, none] [] s2 post := by
  have hT := hW.2.1.2
  have hn6 := hW.1.2.2
  obtain ⟨P, hP⟩ : ∃ P, P = (fun t => vfit (vowA a (a.1 1 0) t p) it (a.1 1 2)) := ⟨_, rfl⟩
  rw [← hP] at h
  have key : ∀ i, i ≤ a.1 0 4 → ∀ s3, vag vBi σ s3 → (∃ t, t < a.1 0 4 ∧ vBA a t p (a.1 1 0) s3) → VM G (d + 4) iX6_textsThatFit 4 [some (.ref 0), some (.ref ro), some (.int (nI (vowb P i))), some (.int (nI i))] [] s3 post := by
    refine vloop _ ?_ ?_
    · intro s3 hs3 _
      have e4 : s3.1 0 4 = nI (a.1 0 4) := (hs3.get rfl).trans (hC.num 0 4 rfl)
      refine VM.go [4] ⟨fun _ => h s3 hs3, fun q => absurd ?_ q⟩
      rw [e4]; exact nI_le (Nat.le_refl _) (by omega)
    · intro i hi ih s3 hs3 hB3
      have e4 : s3.1 0 4 = nI (a.1 0 4) := (hs3.get rfl).trans (hC.num 0 4 rfl)
      have hi6 : i < 6 := by omega
      obtain ⟨t0, ht0, hB3⟩ := hB3
      obtain ⟨g1, g2, g3, g4, g5, g6, g7⟩ := hB3.2.2.2.2.2
      have hs4 : vag vBi σ (vput s3 40 1 (nI (20 + 3 * i))) := hs3.put rfl
      have hB4 : vBA a i p (a.1 1 0) (vput s3 40 1 (nI (20 + 3 * i))) := hC.bill hW hi hp hW.1.1 hs4 ⟨g1, g2, rfl, g4, g5, g6, g7⟩
      have hE4 : (vput s3 40 1 (nI (20 + 3 * i))).1 ro 1 = nI (a.1 1 2) := (hs4.get (vSc_row (i := 0) hr (by decide)).2).trans hsz
      have hI4 : ∀ k, k < a.1 1 2 → (vput s3 40 1 (nI (20 + 3 * i))).1 (ro + 1) k = it k := fun k hk => (hs4.get (vSc_row hr (by decide)).2).trans (hit k hk)
      have next : VM G (d + 4) iX6_textsThatFit 24 [some (.ref 0), some (.ref ro), some (.int (nI (vowb P i))), some (.int (nI i))] [] (vput s3 40 1 (nI (20 + 3 * i))) post := by
        have fin : ∀ s5, vag vSc (vput s3 40 1 (nI (20 + 3 * i))) s5 → VM G (d + 4) iX6_textsThatFit 33 [some (.ref 0), some (.ref ro), some (.int (nI (vowb P i))), some (.int (nI i))] [.int (vfo (vowA a (a.1 1 0) i p) it 7 (a.1 1 2) 0)] s5 post := by
          intro s5 hs5
          have hs5' := hs4.tr (hs5.up vSc_Bi)
          have hB5 := hB4.ag hs5
          have hf := vfo_fit (f := vowA a (a.1 1 0) i p) (it := it) hn6
          have hlt := vowb_lt (P := P) (n := i)
          have hpw : 2 ^ i < 2 ^ 32 := Nat.pow_lt_pow_right (by decide) (by omega)
          refine VM.go [4] ⟨fun q => ?_, fun q => ?_⟩
          · have := ih s5 hs5' ⟨i, hi, hB5⟩
            rw [show vowb P (i + 1) = vowb P i from if_neg (fun z => q (by rw [hP] at z; exact hf.mpr z)), ← nI_1 i] at this
            exact this
          · have := ih s5 hs5' ⟨i, hi, hB5⟩
            rw [show vowb P (i + 1) = vowb P i ||| 2 ^ i from if_pos (by rw [hP]; exact hf.mp q), ← nI_or (by omega) hpw, ← nI_shl13 i (by omega), ← nI_1 i] at this
            exact this
        have h7 : ∀ l, l < 6 → (nI l = (-1 : Int32) ↔ l = 7) := fun l hl => ⟨fun e => absurd (show nI l < 0 by rw [e]; decide) (nI_pos (by omega)), fun e => absurd e (by omega)⟩
        rcases hr with rfl | rfl | rfl | rfl
        all_goals exact VM.go [33] ⟨_, VM.at (vb_firstO (but := 7) (by decide) hB4 hE4 hI4 h7 (fun s5 hs5 => by exact VM.at (fin s5 hs5))), fun _ _ hh => hh⟩
      refine VM.go [18] ⟨fun q => absurd q (by rw [e4]; exact nI_ge hi (by omega)), fun _ => ?_⟩
      show VM G (d + 4) iX6_textsThatFit 18 _ _ _ _
      refine VM.go [24] ⟨_, VM.at (vb_ruleOf hi6 ?_), fun _ _ hh => hh⟩
      rcases (show i = 0 ∨ i = 1 ∨ i = 2 ∨ i = 3 ∨ i = 4 ∨ i = 5 by omega) with rfl | rfl | rfl | rfl | rfl | rfl
      all_goals exact VM.at (VM.go [24] next)
  exact VM.go [4] (key 0 (Nat.zero_le _) s2 hs2 ⟨a.1 1 1, hW.1.2.1, hB⟩)
theorem vb_cloudsFit {ro p : Nat} {it : Nat → Int32} (hr : ro = 50 ∨ ro = 52 ∨ ro = 54 ∨ ro = 56) (hp : p < 5) (hC : vRC a σ) (hW : vWF a) {s2 : vM} (hs2 : vag vBi σ s2) (hB : vBA a (a.1 1 1) p (a.1 1 0) s2) (hsz : σ.1 ro 1 = nI (a.1 1 2)) (hit : ∀ k, k < a.1 1 2 → σ.1 (ro + 1) k = it k) (h : ∀ σ', vag vBi σ σ' → post (some (.int (nI (vowb (fun t => vfit (vowA a (if t = 12 then 0 else 2 ^ t) (a.1 1 1) p) it (a.1 1 2)) 13)))) σ') : VM G (d + 4) iX6_cloudsThatFit 0 [some (.ref 0), some (.ref ro), none, none] [] s2 post := by
  have hT := hW.2.1.2
  have hn6 := hW.1.2.2
  obtain ⟨P, hP⟩ : ∃ P, P = (fun t => vfit (vowA a (if t = 12 then 0 else 2 ^ t) (a.1 1 1) p) it (a.1 1 2)) := ⟨_, rfl⟩
  rw [← hP] at h
  have key : ∀ i, i ≤ 13 → ∀ s3 c, vag vBi σ s3 → vBA a (a.1 1 1) p c s3 → VM G (d + 4) iX6_cloudsThatFit 4 [some (.ref 0), some (.ref ro), some (.int (nI (vowb P i))), some (.int (nI i))] [] s3 post := by
    refine vloop _ ?_ ?_
    · intro s3 c hs3 _
      exact VM.go [4] ⟨fun _ => h s3 hs3, fun q => absurd (by decide) q⟩
    · intro i hi ih s3 c hs3 hB3
      obtain ⟨c', hc'⟩ : ∃ c', c' = if i = 12 then 0 else 2 ^ i := ⟨_, rfl⟩
      have hc4 : c' < 4096 := by
        rw [hc']; split
        · decide
        · exact Nat.pow_lt_pow_right (n := 12) (by decide) (by omega)
      have hs4 : vag vBi σ (vput s3 40 0 (nI c')) := hs3.put rfl
      have hB4 := hB3.cl hc4
      have hE4 : (vput s3 40 0 (nI c')).1 ro 1 = nI (a.1 1 2) := (hs4.get (vSc_row (i := 0) hr (by decide)).2).trans hsz
      have hI4 : ∀ k, k < a.1 1 2 → (vput s3 40 0 (nI c')).1 (ro + 1) k = it k := fun k hk => (hs4.get (vSc_row hr (by decide)).2).trans (hit k hk)
      have next : VM G (d + 4) iX6_cloudsThatFit 30 [some (.ref 0), some (.ref ro), some (.int (nI (vowb P i))), some (.int (nI i))] [] (vput s3 40 0 (nI c')) post := by
        have fin : ∀ s5, vag vSc (vput s3 40 0 (nI c')) s5 → VM G (d + 4) iX6_cloudsThatFit 39 [some (.ref 0), some (.ref ro), some (.int (nI (vowb P i))), some (.int (nI i))] [.int (vfo (vowA a c' (a.1 1 1) p) it 7 (a.1 1 2) 0)] s5 post := by
          intro s5 hs5
          have hs5' := hs4.tr (hs5.up vSc_Bi)
          have hB5 := hB4.ag hs5
          have hf := vfo_fit (f := vowA a c' (a.1 1 1) p) (it := it) hn6
          have hlt := vowb_lt (P := P) (n := i)
          have hpw : 2 ^ i < 2 ^ 32 := Nat.pow_lt_pow_right (by decide) (by omega)
          have hPi : P i = vfit (vowA a c' (a.1 1 1) p) it (a.1 1 2) := by rw [hP, hc']
          refine VM.go [4] ⟨fun q => ?_, fun q => ?_⟩
          · have := ih s5 c' hs5' hB5
            rw [show vowb P (i + 1) = vowb P i from if_neg (fun z => q (by rw [hPi] at z; exact hf.mpr z)), ← nI_1 i] at this
            exact this
          · have := ih s5 c' hs5' hB5
            rw [show vowb P (i + 1) = vowb P i ||| 2 ^ i from if_pos (by rw [hPi]; exact hf.mp q), ← nI_or (by omega) hpw, ← nI_shl13 i (by omega), ← nI_1 i] at this
            exact this
        have h7 : ∀ l, l < 6 → (nI l = (-1 : Int32) ↔ l = 7) := fun l hl => ⟨fun e => absurd (show nI l < 0 by rw [e]; decide) (nI_pos (by omega)), fun e => absurd e (by omega)⟩
        rcases hr with rfl | rfl | rfl | rfl
        all_goals exact VM.go [39] ⟨_, VM.at (vb_firstO (but := 7) (by decide) hB4 hE4 hI4 h7 (fun s5 hs5 => by exact VM.at (fin s5 hs5))), fun _ _ hh => hh⟩
      refine VM.go [30] ⟨fun q => absurd q ?_, fun _ => ⟨fun q => ?_, fun q => ?_⟩⟩
      · exact Int32.not_lt.mpr (nI_le (show i ≤ 12 by omega) (by decide))
      · rw [if_neg (fun e => q (by rw [e]; rfl))] at hc'
        rw [hc', ← nI_shl13 i hi] at next
        exact next
      · have e0 : i = 12 := (nI_eq (by omega) (by decide)).mp (show nI i = nI 12 from q)
        rw [if_pos e0] at hc'
        rw [hc'] at next
        exact next
  exact VM.go [4] (key 0 (Nat.zero_le _) s2 _ hs2 hB)
end TE
