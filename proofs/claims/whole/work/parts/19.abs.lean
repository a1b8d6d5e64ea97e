theorem vbq {a b : Nat} : (Nat.beq a b = true) = (a = b) := propext ⟨Nat.eq_of_beq_eq_true, fun e => by subst e; exact Nat.beq_refl a⟩
/-! ===== THE ABSTRACT STATE: numbers by the class's own cells, items of sheets, texts as bytes ===== -/
abbrev vα : Type := (Nat → Nat → Nat) × (Nat → Nat → Int32) × (Nat → List Nat)
def vaput (a : vα) (c k v : Nat) : vα := (fun c' k' => if c' = c ∧ k' = k then v else a.1 c' k', a.2)
theorem vaput_get (a : vα) (c k v c' k' : Nat) : (vaput a c k v).1 c' k' = if c' = c ∧ k' = k then v else a.1 c' k' := rfl
theorem vaput_ne {a : vα} {c k v c' k' : Nat} (h : c' ≠ c ∨ k' ≠ k) : (vaput a c k v).1 c' k' = a.1 c' k' := if_neg (fun q => h.elim (fun h => h q.1) (fun h => h q.2))
/-- the places that hold plain numbers: clouds, rule, how many lights; kinds .. many; the same kept; the image's flag; how many texts; the tape; sheets' sizes -/
def vps (c k : Nat) : Bool := (Nat.ble 2 c && Nat.ble c 9) || (Nat.beq c 1 && Nat.ble k 2) || (Nat.ble 11 c && Nat.ble c 18) || (Nat.beq c 10 && Nat.ble k 2) || (Nat.beq c 0 && (Nat.beq k 2 || Nat.beq k 4)) || (Nat.beq c 38 && Nat.beq k 0) || Nat.beq c 39 || (Nat.beq k 1 && (Nat.beq c 50 || (Nat.beq c 52 || (Nat.beq c 54 || Nat.beq c 56))))
/-- the class holds a -/
def vRC (a : vα) (σ : vM) : Prop :=
  (∀ c k, vps c k = true → σ.1 c k = nI (a.1 c k)) ∧ (∀ s, s < 4 → σ.1 (50 + 2 * s) 0 = nI (a.1 (50 + 2 * s) 0) - 1) ∧ (∀ s k, s < 4 → k < a.1 (50 + 2 * s) 1 → σ.1 (51 + 2 * s) k = a.2.1 s k) ∧
  ∀ t, t < a.1 0 4 → vRu (20 + 3 * t) (vcomp (a.2.2 t)) σ ∧ σ.1 (20 + 3 * t) 0 = nI (vnn (a.2.2 t))
/-- in range; paid is bounded apart -/
def vWF (a : vα) : Prop :=
  (a.1 1 0 < 4096 ∧ a.1 1 1 < a.1 0 4 ∧ a.1 1 2 ≤ 6) ∧ (1 ≤ a.1 0 4 ∧ a.1 0 4 ≤ 6) ∧ (∀ k, k < 6 → a.1 2 k < 6 ∧ a.1 3 k ≤ 9 ∧ a.1 4 k ≤ 999) ∧ (∀ k, k < 30 → a.1 5 k < 4096) ∧ (∀ k, k < 5 → a.1 6 k ≤ 99 ∧ a.1 7 k ≤ 900000) ∧ (∀ k, k < 4 → 1 ≤ a.1 8 k ∧ a.1 8 k ≤ 99 ∧ a.1 9 k ≤ 20) ∧
  (a.1 38 0 ≤ 160 ∧ ∀ k, k < 160 → a.1 39 k < 256) ∧ (∀ s, s < 4 → a.1 (50 + 2 * s) 0 ≤ 3 ∧ a.1 (50 + 2 * s) 1 ≤ 40 ∧ (a.1 (50 + 2 * s) 0 = 0 → a.1 (50 + 2 * s) 1 = 0)) ∧
  (∀ t, t < a.1 0 4 → vWf (vcomp (a.2.2 t)) ∧ vTok (vTof (vcomp (a.2.2 t))) (vnn (a.2.2 t)) ∧ (a.2.2 t).length ≤ 160 ∧ ∀ x ∈ a.2.2 t, x < 256) ∧
  (a.1 0 2 ≤ 1 ∧ (a.1 0 2 = 1 → (a.1 10 0 < 4096 ∧ a.1 10 1 < a.1 0 4 ∧ a.1 10 2 ≤ a.1 1 2) ∧ (∀ k, k < 6 → a.1 11 k < 6 ∧ a.1 12 k ≤ 9 ∧ a.1 13 k ≤ 999) ∧ (∀ k, k < 30 → a.1 14 k < 4096) ∧ (∀ k, k < 5 → a.1 15 k ≤ 99 ∧ a.1 16 k ≤ 900000) ∧ (∀ k, k < 4 → 1 ≤ a.1 17 k ∧ a.1 17 k ≤ 99 ∧ a.1 18 k ≤ 20) ∧ ∀ k, k < a.1 10 2 → a.1 11 k = a.1 2 k))
/-- the class's scratch: the bill, the purse, the reader's own -/
def vCs (c k : Nat) : Bool := (Nat.ble 40 c && Nat.ble c 48) || (Nat.beq c 38 && Nat.ble 1 k)
theorem vCs_ps {c k : Nat} (h : vps c k = true) : vCs c k = false := by
  cases hb : vCs c k with
  | false => rfl
  | true =>
    exfalso
    simp only [vCs, vps, Bool.or_eq_true, Bool.and_eq_true, Nat.ble_eq, vbq] at hb h
    omega
theorem vCs_ge {c k : Nat} (h : c < 38 ∨ 49 ≤ c) : vCs c k = false := by
  cases hb : vCs c k with
  | false => rfl
  | true =>
    exfalso
    simp only [vCs, Bool.or_eq_true, Bool.and_eq_true, Nat.ble_eq, vbq] at hb
    omega
theorem vRu.ag {r : Nat} {cs : Nat → List Int32} {σ σ' : vM} (h : vRu r cs σ) (h1 : ∀ k, σ'.1 (r + 1) k = σ.1 (r + 1) k) (h2 : ∀ k, σ'.1 (r + 2) k = σ.1 (r + 2) k) : vRu r cs σ' := ⟨h.1, fun p hp => by rw [h2]; exact h.2.1 p hp, fun p hp k hk => by rw [h1]; exact h.2.2 p hp k hk⟩
theorem vRC.ag {a : vα} {σ σ' : vM} (h : vRC a σ) (hs : vag vCs σ σ') (hWF : a.1 0 4 ≤ 6) : vRC a σ' := by
  obtain ⟨h1, h2, h3, h4⟩ := h
  refine ⟨fun c k hk => by rw [hs.get (vCs_ps hk)]; exact h1 c k hk, fun s hs' => by rw [hs.get (vCs_ge (by omega))]; exact h2 s hs', fun s k hs' hk => by rw [hs.get (vCs_ge (by omega))]; exact h3 s k hs' hk, fun t ht => ?_⟩
  exact ⟨(h4 t ht).1.ag (fun k => hs.get (vCs_ge (by omega))) (fun k => hs.get (vCs_ge (by omega))), by rw [hs.get (vCs_ge (by omega))]; exact (h4 t ht).2⟩
theorem vRC.num {a : vα} {σ : vM} (h : vRC a σ) (c k : Nat) (hk : vps c k = true) : σ.1 c k = nI (a.1 c k) := h.1 c k hk
/-- what one owes for a light, of a, with the clouds c and the rule of text t -/
def vowA (a : vα) (c t p l : Nat) : Nat := vowes (vTof (vcomp (a.2.2 t))) c (a.1 1 2) (a.1 2) (a.1 3) (a.1 4) (fun l => a.1 5 (6 * p + l)) l
/-- together, without what is paid -/
def vsumA (a : vα) (c t p : Nat) : Nat := vsumN (a.1 1 2) (fun l => vowA a c t p l)
/-- the bill's cells -/
def vBi (c _k : Nat) : Bool := Nat.ble 40 c && Nat.ble c 46
theorem vBi_Cs (c k : Nat) (h : vCs c k = false) : vBi c k = false := by
  cases hb : vBi c k with
  | false => rfl
  | true =>
    exfalso
    have e : vCs c k = true := by
      simp only [vCs, vBi, Bool.or_eq_true, Bool.and_eq_true, Nat.ble_eq, vbq] at hb ⊢
      omega
    rw [e] at h
    cases h
theorem vSc_Bi (c k : Nat) (h : vBi c k = false) : vSc c k = false := by
  cases hb : vSc c k with
  | false => rfl
  | true =>
    exfalso
    have e : vBi c k = true := by
      simp only [vSc, vBi, Bool.or_eq_true, Bool.and_eq_true, Nat.ble_eq, vbq] at hb ⊢
      omega
    rw [e] at h
    cases h
section AB
variable {G : vG} {d : Nat} {σ : vM} {post : vQ} {a : vα}
theorem vb_isLooker {v : Int32} (h1 : ∀ p, p < 5 → v = nI p → post (some (.int 1)) σ) (h0 : (∀ p, p < 5 → ¬ v = nI p) → post (some (.int 0)) σ) : VM G d iX6_isLooker 0 [some (.int v)] [] σ post := by
  refine VM.go [] ⟨fun c1 => ⟨Or.inl rfl, h0 (fun p hp e => ?_)⟩, fun c1 => ⟨fun c2 => ⟨Or.inl rfl, h0 (fun p hp e => ?_)⟩, fun c2 => ⟨Or.inr rfl, ?_⟩⟩⟩
  · subst e; exact nI_pos (by omega) c1
  · subst e; exact nI_ge hp (by decide) c2
  · obtain ⟨j, hj, rfl⟩ := nI_of c1
    rw [show (5 : Int32) = nI 5 from rfl, nIle (by decide) hj] at c2
    exact h1 j (by omega) rfl
theorem vb_isSheet {v : Int32} (h1 : ∀ p, p < 4 → v = nI p → post (some (.int 1)) σ) (h0 : (∀ p, p < 4 → ¬ v = nI p) → post (some (.int 0)) σ) : VM G d iX6_isSheet 0 [some (.int v)] [] σ post := by
  refine VM.go [] ⟨fun c1 => ⟨Or.inl rfl, h0 (fun p hp e => ?_)⟩, fun c1 => ⟨fun c2 => ⟨Or.inl rfl, h0 (fun p hp e => ?_)⟩, fun c2 => ⟨Or.inr rfl, ?_⟩⟩⟩
  · subst e; exact nI_pos (by omega) c1
  · subst e; exact nI_ge hp (by decide) c2
  · obtain ⟨j, hj, rfl⟩ := nI_of c1
    rw [show (4 : Int32) = nI 4 from rfl, nIle (by decide) hj] at c2
    exact h1 j (by omega) rfl
theorem vb_isLight {v : Int32} (hC : vRC a σ) (hW : vWF a) (h1 : ∀ p, p < a.1 1 2 → v = nI p → post (some (.int 1)) σ) (h0 : (∀ p, p < a.1 1 2 → ¬ v = nI p) → post (some (.int 0)) σ) : VM G d iX6_isLight 0 [some (.ref 0), some (.int v)] [] σ post := by
  have hn := hC.num 1 2 rfl
  have hn6 := hW.1.2.2
  refine VM.go [] ⟨fun c1 => ⟨Or.inl rfl, h0 (fun p hp e => ?_)⟩, fun c1 => ⟨fun c2 => ⟨Or.inl rfl, h0 (fun p hp e => ?_)⟩, fun c2 => ⟨fun c3 => ⟨Or.inl rfl, h0 (fun p hp e => ?_)⟩, fun c3 => ⟨Or.inr rfl, ?_⟩⟩⟩⟩
  · subst e; exact nI_pos (by omega) c1
  · subst e; rw [hn] at c2; exact nI_ge hp (by omega) c2
  · subst e; exact nI_ge (show p < 6 by omega) (by decide) c3
  · obtain ⟨j, hj, rfl⟩ := nI_of c1
    rw [hn, nIle (by omega) hj] at c2
    exact h1 j (by omega) rfl
theorem vb_ruleOf {t : Nat} (ht : t < 6) (h : post (some (.ref (20 + 3 * t))) σ) : VM G d iX6_ruleOf 0 [some (.ref 0), some (.int (nI t))] [] σ post := by
  refine VM.go [] ⟨fun c1 => absurd c1 (nI_pos (by omega)), fun c1 => ⟨fun c2 => absurd c2 (nI_ge ht (by decide)), fun c2 => ⟨t, rfl, ht, ?_⟩⟩⟩
  rcases (show t = 0 ∨ t = 1 ∨ t = 2 ∨ t = 3 ∨ t = 4 ∨ t = 5 by omega) with rfl | rfl | rfl | rfl | rfl | rfl <;> exact h
end AB
