/-! ===== THE REFERENCE AS IT IS MADE: from the place on where all its cells are there ===== -/
def vIw (c k : Nat) : Bool := Nat.beq c 59 || Nat.beq c 60 || Nat.beq c 68 || (Nat.beq c 58 && Nat.beq k 3)
theorem vIw_n {c k : Nat} (h : ¬ (c = 59 ∨ c = 60 ∨ c = 68 ∨ (c = 58 ∧ k = 3))) : vIw c k = false := by
  cases hb : vIw c k with
  | false => rfl
  | true => exfalso; simp only [vIw, Bool.or_eq_true, Bool.and_eq_true, vbq] at hb; omega
section RI
variable {Gx : Nat × (Nat → Int32)} {d D : Nat} {σ : vM} {post : vQ}
theorem vm_spell {A : Nat} {v0 v1 v2 v3 v4 v5 v6 v7 : Int32} (hA : A + 7 < 960) (h : post none (vput (vput (vput (vput (vput (vput (vput (vput σ 59 A v0) 59 (A + 1) v1) 59 (A + 2) v2) 59 (A + 3) v3) 59 (A + 4) v4) 59 (A + 5) v5) 59 (A + 6) v6) 59 (A + 7) v7)) : VM (true, Gx) d iX7_spell 0 [some (.ref 58), some (.int (nI A)), some (.int v0), some (.int v1), some (.int v2), some (.int v3), some (.int v4), some (.int v5), some (.int v6), some (.int v7)] [] σ post :=
  VM.go [] ⟨nofun, A, rfl, by omega, nofun, A + 1, nI_add A 1, by omega, nofun, A + 2, nI_add A 2, by omega, nofun, A + 3, nI_add A 3, by omega, nofun, A + 4, nI_add A 4, by omega, nofun, A + 5, nI_add A 5, by omega, nofun, A + 6, nI_add A 6, by omega, nofun, A + 7, nI_add A 7, by omega, h⟩
theorem vr_init (hz : ∀ c k, 58 ≤ c → σ.1 c k = if c = 58 ∧ k = 43 then -1 else 0) (hC : vRC va0 σ) (h : ∀ σ', vRC va0 σ' → vRM va0 σ' → post none σ') : VM (true, Gx) (d + 1) iX7_init 194 [some (.ref 58)] [] σ post := by
  obtain ⟨σ', hσ⟩ : ∃ σ', σ' = (vput (vput (vput (vput (vput (vput (vput (vput (vput (vput (vput (vput (vput (vput (vput (vput (vput (vput (vput (vput (vput (vput (vput (vput (vput (vput (vput (vput (vput (vput (vput (vput (vput (vput (vput (vput (vput (vput σ 68 0 1) 68 1 5) 68 2 10) 68 3 50) 59 0 100) 59 1 117) 59 2 101) 59 3 115) 59 4 32) 59 5 121) 59 6 101) 59 7 97) 59 8 114) 59 9 115) 59 10 32) 59 11 59) 59 12 32) 59 13 111) 59 14 102) 59 15 102) 59 16 115) 59 17 32) 59 18 48) 59 19 32) 59 20 59) 59 21 32) 59 22 101) 59 23 120) 59 24 116) 59 25 114) 59 26 97) 59 27 115) 59 28 32) 59 29 51) 59 30 32) 59 31 59) 60 0 32) 58 3 1) := ⟨_, rfl⟩
  have hs : vagI vIw σ σ' := by
    rw [hσ]
    exact ((((((((((((((((((((((((((((((((((((((vagI.rf.put rfl).put rfl).put rfl).put rfl).put rfl).put rfl).put rfl).put rfl).put rfl).put rfl).put rfl).put rfl).put rfl).put rfl).put rfl).put rfl).put rfl).put rfl).put rfl).put rfl).put rfl).put rfl).put rfl).put rfl).put rfl).put rfl).put rfl).put rfl).put rfl).put rfl).put rfl).put rfl).put rfl).put rfl).put rfl).put rfl).put rfl).put rfl)
  have e59 : ∀ k, k < 32 → σ'.1 59 k = nI (vfb.getD k 0) := by
    intro k hk
    rw [hσ]
    rcases (show k = 0 ∨ k = 1 ∨ k = 2 ∨ k = 3 ∨ k = 4 ∨ k = 5 ∨ k = 6 ∨ k = 7 ∨ k = 8 ∨ k = 9 ∨ k = 10 ∨ k = 11 ∨ k = 12 ∨ k = 13 ∨ k = 14 ∨ k = 15 ∨ k = 16 ∨ k = 17 ∨ k = 18 ∨ k = 19 ∨ k = 20 ∨ k = 21 ∨ k = 22 ∨ k = 23 ∨ k = 24 ∨ k = 25 ∨ k = 26 ∨ k = 27 ∨ k = 28 ∨ k = 29 ∨ k = 30 ∨ k = 31 by omega) with e | e | e | e | e | e | e | e | e | e | e | e | e | e | e | e | e | e | e | e | e | e | e | e | e | e | e | e | e | e | e | e
    all_goals rw [e]; rfl
  have e68 : ∀ k, σ'.1 68 k = nI (vbr k) := by
    intro k
    by_cases hk : k < 4
    · rw [hσ]
      rcases (show k = 0 ∨ k = 1 ∨ k = 2 ∨ k = 3 by omega) with e | e | e | e
      all_goals rw [e]; rfl
    · have e1 : σ'.1 68 k = σ.1 68 k := by
        rw [hσ]
        rw [vput_ne (Or.inl (by decide)), vput_ne (Or.inl (by decide)), vput_ne (Or.inl (by decide)), vput_ne (Or.inl (by decide)), vput_ne (Or.inl (by decide)), vput_ne (Or.inl (by decide)), vput_ne (Or.inl (by decide)), vput_ne (Or.inl (by decide)), vput_ne (Or.inl (by decide)), vput_ne (Or.inl (by decide)), vput_ne (Or.inl (by decide)), vput_ne (Or.inl (by decide)), vput_ne (Or.inl (by decide)), vput_ne (Or.inl (by decide)), vput_ne (Or.inl (by decide)), vput_ne (Or.inl (by decide)), vput_ne (Or.inl (by decide)), vput_ne (Or.inl (by decide)), vput_ne (Or.inl (by decide)), vput_ne (Or.inl (by decide)), vput_ne (Or.inl (by decide)), vput_ne (Or.inl (by decide)), vput_ne (Or.inl (by decide)), vput_ne (Or.inl (by decide)), vput_ne (Or.inl (by decide)), vput_ne (Or.inl (by decide)), vput_ne (Or.inl (by decide)), vput_ne (Or.inl (by decide)), vput_ne (Or.inl (by decide)), vput_ne (Or.inl (by decide)), vput_ne (Or.inl (by decide)), vput_ne (Or.inl (by decide)), vput_ne (Or.inl (by decide)), vput_ne (Or.inl (by decide)), vput_ne (Or.inr (by omega)), vput_ne (Or.inr (by omega)), vput_ne (Or.inr (by omega)), vput_ne (Or.inr (by omega))]
      rw [e1, hz _ _ (by decide), if_neg (by omega)]
      unfold vbr
      match k, hk with
      | 0, hk => exact absurd (by decide) hk
      | 1, hk => exact absurd (by decide) hk
      | 2, hk => exact absurd (by decide) hk
      | 3, hk => exact absurd (by decide) hk
      | k + 4, _ => rfl
  have e60 : σ'.1 60 0 = 32 := by rw [hσ]; rfl
  have e3 : σ'.1 58 3 = 1 := by rw [hσ]; rfl
  have z : ∀ c k, 58 ≤ c → ¬ (c = 59 ∨ c = 60 ∨ c = 68 ∨ (c = 58 ∧ (k = 3 ∨ k = 43))) → σ'.1 c k = 0 := fun c k hc hk => by
    rw [hs.get (vIw_n (by omega)), hz c k hc, if_neg (by omega)]
  have hC' : vRC va0 σ' := hC.off va0_inv.1 (fun c k hc => hs.get (vIw_n (by omega)))
  have hR' : vRM va0 σ' := by
    refine ⟨⟨e3, ?_, ?_, ?_, ?_⟩, fun k hk => ?_, fun k => ⟨?_, ?_, ?_, ?_, ?_, e68 k, ?_, fun hk => ?_⟩, fun t ht => ?_, ⟨?_, ?_, ?_, fun k => ⟨?_, ?_, ?_, ?_, ?_, ?_, ?_⟩⟩, fun s hs4 => ?_⟩
    · rw [z _ _ (by decide) (by decide), va0_0 (by decide)]; rfl
    · rw [z _ _ (by decide) (by decide), va0_0 (by decide)]; rfl
    · rw [z _ _ (by decide) (by decide), va0_0 (by decide)]; rfl
    · rw [z _ _ (by decide) (by decide), va0_0 (by decide)]; rfl
    · rw [va0_0 (by decide)] at hk; exact absurd hk (Nat.not_lt_zero _)
    · rw [z _ _ (by decide) (by omega), va0_0 (by omega)]; rfl
    · rw [z _ _ (by decide) (by omega), va0_0 (by omega)]; rfl
    · rw [z _ _ (by decide) (by omega), va0_0 (by omega)]; rfl
    · rw [z _ _ (by decide) (by omega), va0_0 (by omega)]; rfl
    · rw [z _ _ (by decide) (by omega), va0_0 (by omega)]; rfl
    · rw [z _ _ (by decide) (by omega), va0_0 (by omega)]; rfl
    · rw [va0_0 (by decide)] at hk; exact absurd hk (Nat.not_lt_zero _)
    · have ht1 : t < 1 := ht
      have t0 : t = 0 := by omega
      subst t0
      exact ⟨e60, fun k hk => by rw [show 160 * 0 + k = k by omega]; exact e59 k hk⟩
    · rw [hs.get (vIw_n (by decide)), hz _ _ (by decide), if_pos ⟨rfl, rfl⟩, va0_0 (by decide), if_pos rfl]
    · rw [z _ _ (by decide) (by decide), va0_0 (by decide)]; rfl
    · rw [z _ _ (by decide) (by decide), va0_0 (by decide)]; rfl
    · rw [z _ _ (by decide) (by omega), va0_0 (by omega)]; rfl
    · rw [z _ _ (by decide) (by omega), va0_0 (by omega)]; rfl
    · rw [z _ _ (by decide) (by omega), va0_0 (by omega)]; rfl
    · rw [z _ _ (by decide) (by omega), va0_0 (by omega)]; rfl
    · rw [z _ _ (by decide) (by omega), va0_0 (by omega)]; rfl
    · rw [z _ _ (by decide) (by omega), va0_0 (by omega)]; rfl
    · rw [z _ _ (by decide) (by omega), va0_0 (by omega)]; rfl
    · refine ⟨?_, fun q => absurd (va0_0 (by omega)) q⟩
      rw [z _ _ (by decide) (by omega), va0_0 (by omega), if_pos rfl]
  have fin := h σ' hC' hR'
  rw [hσ] at fin
  refine VM.go [] ⟨nofun, 0, rfl, by decide, nofun, 1, rfl, by decide, nofun, 2, rfl, by decide, nofun, 3, rfl, by decide, _, VM.at (vm_spell (A := 0) (by decide) ?_), fun _ _ hh => hh⟩
  refine VM.at (VM.go [] ⟨_, VM.at (vm_spell (A := 8) (by decide) ?_), fun _ _ hh => hh⟩)
  refine VM.at (VM.go [] ⟨_, VM.at (vm_spell (A := 16) (by decide) ?_), fun _ _ hh => hh⟩)
  refine VM.at (VM.go [] ⟨_, VM.at (vm_spell (A := 24) (by decide) ?_), fun _ _ hh => hh⟩)
  exact VM.at (VM.go [] ⟨nofun, 0, rfl, by decide, fin⟩)
end RI
