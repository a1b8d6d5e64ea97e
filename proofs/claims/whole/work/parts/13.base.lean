/-! ===== pure rows: numbers, memory ===== -/
theorem vput_eq (σ : vM) (a k : Nat) (v : Int32) : (vput σ a k v).1 a k = v := if_pos ⟨rfl, rfl⟩
theorem vput_get (σ : vM) (a k : Nat) (v : Int32) (a' k' : Nat) : (vput σ a k v).1 a' k' = if a' = a ∧ k' = k then v else σ.1 a' k' := rfl
theorem vput_ne {σ : vM} {a k : Nat} {v : Int32} {a' k' : Nat} (h : a' ≠ a ∨ k' ≠ k) : (vput σ a k v).1 a' k' = σ.1 a' k' := if_neg (fun q => h.elim (fun h => h q.1) (fun h => h q.2))
theorem vput_long (σ : vM) (a k : Nat) (v : Int32) : (vput σ a k v).2 = σ.2 := rfl
theorem vcopy_get (σ : vM) (a sp b dp n : Nat) (a' k' : Nat) : (vcopy σ a sp b dp n).1 a' k' = if a' = b ∧ dp ≤ k' ∧ k' < dp + n then σ.1 a (sp + (k' - dp)) else σ.1 a' k' := rfl
/-- memories that agree off the places of S -/
def vag (S : Nat → Nat → Bool) (σ σ' : vM) : Prop := (∀ a k, S a k = false → σ'.1 a k = σ.1 a k) ∧ σ'.2 = σ.2
theorem vag.rf {S : Nat → Nat → Bool} {σ : vM} : vag S σ σ := ⟨fun _ _ _ => rfl, rfl⟩
theorem vag.put {S : Nat → Nat → Bool} {σ σ' : vM} (h : vag S σ σ') {a k : Nat} {v : Int32} (hs : S a k = true) : vag S σ (vput σ' a k v) := by
  refine ⟨fun a' k' h' => ?_, h.2⟩
  rw [vput_ne, h.1 a' k' h']
  by_cases e : a' = a
  · subst e
    exact Or.inr (fun q => by subst q; rw [hs] at h'; cases h')
  · exact Or.inl e
theorem vag.tr {S : Nat → Nat → Bool} {σ σ1 σ2 : vM} (h : vag S σ σ1) (h2 : vag S σ1 σ2) : vag S σ σ2 := ⟨fun a k hs => (h2.1 a k hs).trans (h.1 a k hs), h2.2.trans h.2⟩
theorem vag.up {S S' : Nat → Nat → Bool} {σ σ' : vM} (h : vag S σ σ') (hS : ∀ a k, S' a k = false → S a k = false) : vag S' σ σ' := ⟨fun a k hs => h.1 a k (hS a k hs), h.2⟩
theorem vag.get {S : Nat → Nat → Bool} {σ σ' : vM} (h : vag S σ σ') {a k : Nat} (hs : S a k = false) : σ'.1 a k = σ.1 a k := h.1 a k hs
theorem i32 {x y : Int32} (h : x.toInt = y.toInt) : x = y := Int32.toInt_inj.mp h
theorem nIle {a b : Nat} (ha : a < 2 ^ 31) (hb : b < 2 ^ 31) : nI a ≤ nI b ↔ a ≤ b := nI_leI ha hb
theorem nIlt {a b : Nat} (ha : a < 2 ^ 31) (hb : b < 2 ^ 31) : nI a < nI b ↔ a < b := nI_ltI ha hb
/-- an int between 0 and m is the Nat of that size -/
theorem vnat {x : Int32} {m : Nat} (hm : m < 2 ^ 31) (h0 : 0 ≤ x) (h1 : x ≤ nI m) : ∃ n : Nat, n ≤ m ∧ x = nI n := by
  obtain ⟨j, hj, e⟩ := nI_of (x := x) (by rw [Int32.not_lt]; exact h0)
  subst e
  exact ⟨j, (nIle hj hm).mp h1, rfl⟩
theorem vb_between {G : vG} {d : Nat} {v a b : Int32} {σ : vM} {post : vQ} (h1 : a ≤ v → v ≤ b → post (some (.int 1)) σ) (h0 : ¬ (a ≤ v ∧ v ≤ b) → post (some (.int 0)) σ) : VM G d iX6_between 0 [some (.int v), some (.int a), some (.int b)] [] σ post := by
  refine VM.go [] ⟨fun c1 => ⟨Or.inl rfl, h0 (fun q => ?_)⟩, fun c1 => ⟨fun c2 => ⟨Or.inl rfl, h0 (fun q => ?_)⟩, fun c2 => ⟨Or.inr rfl, h1 ?_ ?_⟩⟩⟩
  · exact absurd c1 (Int32.not_lt.mpr q.1)
  · exact absurd c2 (Int32.not_lt.mpr q.2)
  · exact Int32.not_lt.mp c1
  · exact Int32.not_lt.mp c2
