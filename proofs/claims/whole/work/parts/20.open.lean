/-! ===== the bill laid open ===== -/
/-- the bill is open, by a rule of the code cs -/
def vBR (cs : Nat → List Int32) (c n r : Nat) (kd nu ye se : Nat → Nat) (σ : vM) : Prop := vRc r ∧ vRu r cs σ ∧ vWf cs ∧ (∃ nn, nn ≤ 1 ∧ vTok (vTof cs) nn ∧ σ.1 r 0 = nI nn) ∧ vBw c n r kd nu ye se ∧ vBl c n r kd nu ye se σ
theorem vRc_sc {r : Nat} (h : vRc r) (i k : Nat) (hi : i ≤ 2) : vSc (r + i) k = false := by
  unfold vRc at h
  cases hb : vSc (r + i) k with
  | false => rfl
  | true => exfalso; simp only [vSc, Bool.or_eq_true, vbq] at hb; omega
theorem vRc_bi {r : Nat} (h : vRc r) (i k : Nat) (hi : i ≤ 2) : vBi (r + i) k = false := by
  unfold vRc at h
  cases hb : vBi (r + i) k with
  | false => rfl
  | true => exfalso; simp only [vBi, Bool.and_eq_true, Nat.ble_eq] at hb; omega
theorem vBR.ag {cs : Nat → List Int32} {c n r : Nat} {kd nu ye se : Nat → Nat} {σ σ' : vM} (h : vBR cs c n r kd nu ye se σ) (hs : vag vSc σ σ') : vBR cs c n r kd nu ye se σ' := by
  obtain ⟨h1, h2, h3, ⟨nn, h4, h5, h6⟩, h7, h8⟩ := h
  exact ⟨h1, h2.ag (fun k => hs.get (vRc_sc h1 1 k (by decide))) (fun k => hs.get (vRc_sc h1 2 k (by decide))), h3, ⟨nn, h4, h5, (hs.get (vRc_sc h1 0 0 (by decide))).trans h6⟩, h7, h8.ag hs⟩
/-- another bill, the same rule -/
theorem vBR.to {cs : Nat → List Int32} {c n r c' n' : Nat} {kd nu ye se kd' nu' ye' se' : Nat → Nat} {σ σ' : vM} (h : vBR cs c n r kd nu ye se σ) (hs : vag vBi σ σ') (hw : vBw c' n' r kd' nu' ye' se') (hb : vBl c' n' r kd' nu' ye' se' σ') : vBR cs c' n' r kd' nu' ye' se' σ' := by
  obtain ⟨h1, h2, h3, ⟨nn, h4, h5, h6⟩, h7, h8⟩ := h
  exact ⟨h1, h2.ag (fun k => hs.get (vRc_bi h1 1 k (by decide))) (fun k => hs.get (vRc_bi h1 2 k (by decide))), h3, ⟨nn, h4, h5, (hs.get (vRc_bi h1 0 0 (by decide))).trans h6⟩, hw, hb⟩
theorem vowes_le {T : Nat → (Nat → Int32) → Int32} {c n : Nat} {kd nu ye se : Nat → Nat} {l : Nat} : vowes T c n kd nu ye se l ≤ 12987 := by
  by_cases hm : vmask (se l) c = 0
  · unfold vowes; dsimp only; rw [if_pos hm]; omega
  · rw [vowes_eq hm]
    have h1 := vdues_le (T := T) (c := c) (n := n) (kd := kd) (nu := nu) (ye := ye) (se := se) (l := l) (t := 12)
    have h2 := vextraS_le (kd l) (vpop (vmask (se l) c)) (vcl (T 2 (vnames c nu ye se n l 0)) 99)
    split <;> omega
section OP
variable {G : vG} {d : Nat} {σ : vM} {post : vQ} {a : vα} {cs : Nat → List Int32} {c n r : Nat} {kd nu ye se : Nat → Nat}
theorem vb_owedR {l : Nat} (hl : l < 6) (hB : vBR cs c n r kd nu ye se σ) (h : ∀ σ', vag vSc σ σ' → post (some (.int (nI (vowes (vTof cs) c n kd nu ye se l)))) σ') : VM G (d + 2) iX0_owed 0 [some (.ref 40), some (.int (nI l)), none, none, none, none, none] [] σ post := by
  obtain ⟨h1, h2, h3, ⟨nn, h4, h5, h6⟩, h7, h8⟩ := hB
  exact vb_owed h5 h4 h6 h1 hl h7 h8 (vb_vTl h1 h2 h3) h
theorem vb_sum (hB : vBR cs c n r kd nu ye se σ) (h : ∀ σ', vag vSc σ σ' → post (some (.int (nI (vsumN n (vowes (vTof cs) c n kd nu ye se))))) σ') : VM G (d + 3) iX0_sum 0 [some (.ref 40), none, none] [] σ post := by
  have hn6 := hB.2.2.2.2.1.2.1
  have hn := hB.2.2.2.2.2.2.1
  have key : ∀ i, i ≤ n → ∀ s2, vag vSc σ s2 → VM G (d + 3) iX0_sum 4 [some (.ref 40), some (.int (nI (vsumN i (vowes (vTof cs) c n kd nu ye se)))), some (.int (nI i))] [] s2 post := by
    refine vloop _ ?_ ?_
    · intro s2 hs2
      refine VM.go [4] ⟨fun _ => h s2 hs2, fun c1 => absurd ?_ c1⟩
      rw [hs2.get rfl, hn]; exact nI_le (Nat.le_refl _) (by omega)
    · intro i hi ih s2 hs2
      refine VM.go [4] ⟨fun c1 => absurd c1 (by rw [hs2.get rfl, hn]; exact nI_ge hi (by omega)), fun _ => ⟨_, VM.at (vb_owedR (l := i) (by omega) (hB.ag hs2) (fun s3 hs3 => ?_)), fun _ _ hh => hh⟩⟩
      have := ih s3 (hs2.tr hs3)
      rw [show vsumN (i + 1) (vowes (vTof cs) c n kd nu ye se) = vsumN i (vowes (vTof cs) c n kd nu ye se) + vowes (vTof cs) c n kd nu ye se i from rfl, ← nI_add, ← nI_1] at this
      exact this
  exact VM.go [4] (key 0 (Nat.zero_le _) σ vag.rf)
/-- Bill.open -/
theorem vb_open {p t : Nat} (hp : p < 5) (ht : t < 6) (hC : vRC a σ) (hW : vWF a) (h : ∀ σ', vag vBi σ σ' → vBl (a.1 1 0) (a.1 1 2) (20 + 3 * t) (a.1 2) (a.1 3) (a.1 4) (fun l => a.1 5 (6 * p + l)) σ' → post none σ') : VM G (d + 1) iX0_open 0 [some (.ref 40), some (.ref 1), some (.int (nI p)), some (.ref (20 + 3 * t)), none, none] [] σ post := by
  have hn6 := hW.1.2.2
  have hnum := fun c k hk => hC.num c k hk
  have key : ∀ i, i ≤ 6 → ∀ (s2 : vM) (y : Option Value), vag vBi σ s2 → s2.1 40 0 = nI (a.1 1 0) → s2.1 40 6 = nI (a.1 1 2) → s2.1 40 1 = nI (20 + 3 * t) → (∀ k, k < i → s2.1 41 k = nI (a.1 2 k) ∧ s2.1 42 k = nI (a.1 3 k) ∧ s2.1 43 k = nI (a.1 4 k) ∧ s2.1 44 k = nI (a.1 5 (6 * p + k))) → VM G (d + 1) iX0_open 29 [some (.ref 40), some (.ref 1), some (.int (nI p)), some (.ref (20 + 3 * t)), some (.int (nI i)), y] [] s2 post := by
    refine vloop _ ?_ ?_
    · intro s2 y hs2 h0 h6 h1 hk
      exact VM.go [29] ⟨fun _ => h s2 hs2 ⟨h0, h6, h1, fun k hk' => (hk k hk').1, fun k hk' => (hk k hk').2.1, fun k hk' => (hk k hk').2.2.1, fun k hk' => (hk k hk').2.2.2⟩, fun c1 => absurd (by decide) c1⟩
    · intro i hi ih s2 y hs2 h0 h6 h1 hk
      have e1 : s2.1 2 i = nI (a.1 2 i) := (hs2.get rfl).trans (hnum 2 i rfl)
      have e2 : s2.1 3 i = nI (a.1 3 i) := (hs2.get rfl).trans (hnum 3 i rfl)
      have e3 : s2.1 4 i = nI (a.1 4 i) := (hs2.get rfl).trans (hnum 4 i rfl)
      have e4 : s2.1 5 (6 * p + i) = nI (a.1 5 (6 * p + i)) := (hs2.get rfl).trans (hnum 5 _ rfl)
      have ix : nI p * 6 + nI i = nI (6 * p + i) := by
        rw [show (6 : Int32) = nI 6 from rfl, pk_mul, nI_add, Nat.mul_comm]
      refine VM.go [29] ⟨fun c1 => absurd c1 (nI_ge hi (by decide)), fun _ => ⟨i, rfl, hi, nofun, i, rfl, hi, i, rfl, hi, nofun, i, rfl, hi, i, rfl, hi, nofun, i, rfl, hi, ?_⟩⟩
      refine ⟨fun c1 => absurd c1 (by rw [ix]; exact nI_pos (by omega)), fun _ => ⟨fun c2 => absurd c2 (by rw [ix]; exact nI_ge (show 6 * p + i < 30 by omega) (by decide)), fun _ => ⟨6 * p + i, ix, by omega, nofun, i, rfl, hi, ?_⟩⟩⟩
      have := ih (vput (vput (vput (vput s2 41 i (s2.1 2 i)) 42 i (s2.1 3 i)) 43 i (s2.1 4 i)) 44 i (s2.1 5 (6 * p + i))) (some (.int (nI p * 6 + nI i))) ((((hs2.put rfl).put rfl).put rfl).put rfl) h0 h6 h1 (fun k hk' => ?_)
      · rw [← nI_1] at this
        exact this
      · by_cases e : k = i
        · subst e
          simp only [vput_get, true_and, and_true, if_true]
          refine ⟨?_, ?_, ?_, ?_⟩ <;> first | exact e1 | exact e2 | exact e3 | exact e4
        · have hk2 := hk k (by omega)
          refine ⟨?_, ?_, ?_, ?_⟩
          · rw [vput_ne (Or.inr e), vput_ne (Or.inr e), vput_ne (Or.inr e), vput_ne (Or.inr e)]; exact hk2.1
          · rw [vput_ne (Or.inr e), vput_ne (Or.inr e), vput_ne (Or.inr e), vput_ne (Or.inr e)]; exact hk2.2.1
          · rw [vput_ne (Or.inr e), vput_ne (Or.inr e), vput_ne (Or.inr e), vput_ne (Or.inr e)]; exact hk2.2.2.1
          · rw [vput_ne (Or.inr e), vput_ne (Or.inr e), vput_ne (Or.inr e), vput_ne (Or.inr e)]; exact hk2.2.2.2
  have g1 := hnum 1 0 rfl
  have g2 := hnum 1 2 rfl
  rcases (show t = 0 ∨ t = 1 ∨ t = 2 ∨ t = 3 ∨ t = 4 ∨ t = 5 by omega) with rfl | rfl | rfl | rfl | rfl | rfl
  all_goals
    refine VM.go [29] (key 0 (by decide) _ none (((vag.rf.put rfl).put rfl).put rfl) ?_ ?_ rfl (fun k hk => absurd hk (Nat.not_lt_zero _)))
    · exact g1
    · show (if (6 : Int32) < σ.1 1 2 then (6 : Int32) else σ.1 1 2) = _
      rw [g2, if_neg (by rw [show (6 : Int32) = nI 6 from rfl, nIlt (by decide) (by omega)]; omega)]
end OP
