/-! ===== text ===== -/
def vtape (a : vα) : List Nat := (List.range (a.1 38 0)).map (a.1 39)
def vtxt (a : vα) (b : List Nat) : vα := (fun c k => if c = 38 ∧ k = 0 then 0 else if c = 0 ∧ k = 4 then a.1 0 4 + 1 else a.1 c k, a.2.1, fun t => if t = a.1 0 4 then b else a.2.2 t)
def sText (a : vα) : vR2 := if a.1 0 4 = 6 then (-4, a) else match vfault (vtape a) with
  | some f => (-100 - nI f, vaput a 38 0 0)
  | none => (nI (a.1 0 4), vtxt a (vtape a))
theorem vtape_tp {a : vα} {σ : vM} (hC : vRC a σ) (hW : vWF a) : vTp (vtape a) σ := by
  obtain ⟨w1, w2⟩ := hW.2.2.2.2.2.2.1
  have hl : (vtape a).length = a.1 38 0 := by unfold vtape; rw [List.length_map, List.length_range]
  refine ⟨by rw [hl]; exact w1, fun x hx => ?_, by rw [hl]; exact hC.num 38 0 rfl, fun k hk => ?_⟩
  · unfold vtape at hx
    obtain ⟨k, hk, rfl⟩ := List.mem_map.mp hx
    have := List.mem_range.mp hk
    exact w2 k (by omega)
  · rw [hl] at hk
    rw [hC.num 39 k rfl]
    congr 1
    unfold vtape
    rw [List.getD_eq_getElem?_getD, List.getElem?_map, List.getElem?_range hk]
    rfl
theorem vRd3_ps {t c k : Nat} (ht : t < 6) (h : vps c k = true) : vRd3 (20 + 3 * t) c k = false := by
  cases hb : vRd3 (20 + 3 * t) c k with
  | false => rfl
  | true =>
    exfalso
    simp only [vRd3, vRdS, vps, Bool.or_eq_true, Bool.and_eq_true, Nat.ble_eq, vbq] at hb h
    omega
theorem vRd3_ne {t c k : Nat} (h1 : ¬ c = 38) (h2 : c < 20 + 3 * t ∨ 22 + 3 * t < c) : vRd3 (20 + 3 * t) c k = false := by
  cases hb : vRd3 (20 + 3 * t) c k with
  | false => rfl
  | true =>
    exfalso
    simp only [vRd3, vRdS, Bool.or_eq_true, Bool.and_eq_true, Nat.ble_eq, vbq] at hb
    omega
section TT
variable {G : vG} {D : Nat} {σ : vM} {post : vQ} {a : vα}
theorem vRC.rd {t : Nat} (hC : vRC a σ) (ht : t = a.1 0 4) (ht6 : t < 6) {σ' : vM} (hs : vag (vRd3 (20 + 3 * t)) σ σ') : vRC (vaput a 38 0 0) (vput σ' 38 0 0) := by
  obtain ⟨c1, c2, c3, c4⟩ := hC
  have ne : ∀ c k, ¬ c = 38 → (vaput a 38 0 0).1 c k = a.1 c k := fun c k e => vaput_ne (Or.inl e)
  refine ⟨fun c k hk => ?_, fun s hs' => ?_, fun s k hs' hk => ?_, fun t' ht' => ?_⟩
  · rw [vput_get, vaput_get]
    by_cases e : c = 38 ∧ k = 0
    · rw [if_pos e, if_pos e]; rfl
    · rw [if_neg e, if_neg e, hs.get (vRd3_ps ht6 hk)]; exact c1 c k hk
  · rw [ne _ _ (by omega), vput_ne (Or.inl (by omega)), hs.get (vRd3_ne (by omega) (by omega))]; exact c2 s hs'
  · rw [ne _ _ (by omega)] at hk
    rw [vput_ne (Or.inl (by omega)), hs.get (vRd3_ne (by omega) (by omega))]; exact c3 s k hs' hk
  · rw [ne 0 4 (by decide)] at ht'
    obtain ⟨r1, r2⟩ := c4 t' ht'
    have g : ∀ i k, i ≤ 2 → (vput σ' 38 0 0).1 (20 + 3 * t' + i) k = σ.1 (20 + 3 * t' + i) k := fun i k hi => by
      rw [vput_ne (Or.inl (by omega)), hs.get (vRd3_ne (by omega) (by omega))]
    exact ⟨r1.ag (fun k => g 1 k (by decide)) (fun k => g 2 k (by decide)), (g 0 0 (by decide)).trans r2⟩
theorem vRC.txt {t : Nat} {b : List Nat} (hC : vRC a σ) (ht : t = a.1 0 4) (ht6 : t < 6) {σ' : vM} (hs : vag (vRd3 (20 + 3 * t)) σ σ') (h1 : vRu (20 + 3 * t) (vcomp b) σ') (h2 : σ'.1 (20 + 3 * t) 0 = nI (vnn b)) : vRC (vtxt a b) (vput (vput σ' 38 0 0) 0 4 (nI (t + 1))) := by
  obtain ⟨c1, c2, c3, c4⟩ := hC
  have ne : ∀ c k, ¬ c = 38 → ¬ c = 0 → (vtxt a b).1 c k = a.1 c k := fun c k e e2 => by
    unfold vtxt; dsimp only; rw [if_neg (fun q => e q.1), if_neg (fun q => e2 q.1)]
  have e04 : (vtxt a b).1 0 4 = t + 1 := by rw [ht]; rfl
  refine ⟨fun c k hk => ?_, fun s hs' => ?_, fun s k hs' hk => ?_, fun t' ht' => ?_⟩
  · rw [vput_get, vput_get]
    unfold vtxt
    dsimp only
    by_cases e : c = 0 ∧ k = 4
    · rw [if_pos e, if_neg (by omega), if_pos e, ht]
    · rw [if_neg e, if_neg e]
      by_cases e2 : c = 38 ∧ k = 0
      · rw [if_pos e2, if_pos e2]; rfl
      · rw [if_neg e2, if_neg e2, hs.get (vRd3_ps ht6 hk)]; exact c1 c k hk
  · rw [ne _ _ (by omega) (by omega), vput_ne (Or.inl (by omega)), vput_ne (Or.inl (by omega)), hs.get (vRd3_ne (by omega) (by omega))]; exact c2 s hs'
  · rw [ne _ _ (by omega) (by omega)] at hk
    rw [vput_ne (Or.inl (by omega)), vput_ne (Or.inl (by omega)), hs.get (vRd3_ne (by omega) (by omega))]; exact c3 s k hs' hk
  · rw [e04] at ht'
    by_cases e : t' = t
    · subst e
      have eb : (vtxt a b).2.2 t' = b := if_pos ht
      rw [eb]
      have g : ∀ i k, i ≤ 2 → (vput (vput σ' 38 0 0) 0 4 (nI (t' + 1))).1 (20 + 3 * t' + i) k = σ'.1 (20 + 3 * t' + i) k := fun i k hi => by
        rw [vput_ne (Or.inl (by omega)), vput_ne (Or.inl (by omega))]
      exact ⟨h1.ag (fun k => g 1 k (by decide)) (fun k => g 2 k (by decide)), (g 0 0 (by decide)).trans h2⟩
    · have eb : (vtxt a b).2.2 t' = a.2.2 t' := if_neg (by omega)
      rw [eb]
      obtain ⟨r1, r2⟩ := c4 t' (by omega)
      have g : ∀ i k, i ≤ 2 → (vput (vput σ' 38 0 0) 0 4 (nI (t + 1))).1 (20 + 3 * t' + i) k = σ.1 (20 + 3 * t' + i) k := fun i k hi => by
        rw [vput_ne (Or.inl (by omega)), vput_ne (Or.inl (by omega)), hs.get (vRd3_ne (by omega) (by omega))]
      exact ⟨r1.ag (fun k => g 1 k (by decide)) (fun k => g 2 k (by decide)), (g 0 0 (by decide)).trans r2⟩
theorem vRd3_Kl {t c k : Nat} (ht : t < 6) (h : vKl c k = false) : vRd3 (20 + 3 * t) c k = false := by
  refine vRd3_ne (fun e => ?_) (Or.inr ?_)
  · rw [e] at h; cases h
  · refine Nat.lt_of_not_le (fun q => ?_)
    have : vKl c k = true := by unfold vKl; rw [Nat.ble_eq]; omega
    rw [this] at h; cases h
theorem vc_text (hC : vRC a σ) (hW : vWF a) (h : ∀ σ', vag vKl σ σ' → vRC (sText a).2 σ' → post (some (.int (sText a).1)) σ') : VM G (D + 45) iX6_text 0 [some (.ref 0), none] [] σ post := by
  have e04 := hC.num 0 4 rfl
  have hT6 := hW.2.1.2
  obtain ⟨T, hT⟩ : ∃ T, T = a.1 0 4 := ⟨_, rfl⟩
  rw [← hT] at e04 hT6
  by_cases h6 : T = 6
  · have es : sText a = (-4, a) := by unfold sText; rw [if_pos (by rw [← hT]; exact h6)]
    have := h σ vag.rf (by rw [es]; exact hC)
    rw [es] at this
    refine VM.go [] ⟨fun q => absurd q ?_, fun _ => this⟩
    rw [e04, h6]; decide
  · have hlt : T < 6 := by omega
    have hTp := vtape_tp hC hW
    have esS : ∀ f, vfault (vtape a) = some f → sText a = (-100 - nI f, vaput a 38 0 0) := fun f hf => by
      unfold sText; rw [if_neg (by rw [← hT]; exact h6), hf]
    have esN : vfault (vtape a) = none → sText a = (nI T, vtxt a (vtape a)) := fun hf => by
      unfold sText; rw [if_neg (by rw [← hT]; exact h6), hf, hT]
    have hr := vRc_of hlt
    obtain ⟨b, hb⟩ : ∃ b, b = vtape a := ⟨_, rfl⟩
    rw [← hb] at hTp esS esN
    have read : VM G (D + 44) iX2_read 0 [some (.ref 38), some (.ref (20 + 3 * T)), none] [] σ (fun v s2 => ∃ x, v = some (.int x) ∧ VM G (D + 45) iX6_text 32 [some (.ref 0), some (.int x)] [] s2 post) := by
      refine vd_read hr hTp (fun s2 hs2 hok => ⟨_, rfl, ?_⟩)
      have hK : vag vKl σ (vput s2 38 0 0) := (hs2.up (fun c k => vRd3_Kl hlt)).put rfl
      have f04 : s2.1 0 4 = nI T := (hs2.get (vRd3_ne (by decide) (Or.inl (by omega)))).trans e04
      refine VM.go [] ⟨_, VM.at (VM.go [] ?_), fun _ _ hh => hh⟩
      cases hf : vfault b with
      | some f =>
        have es := esS f hf
        have hf160 : f < 2 ^ 31 := by
          have := vfault_le hTp.1 hf
          omega
        have := h _ hK (by rw [es]; exact hC.rd hT hlt hs2)
        rw [es] at this
        exact ⟨fun q => absurd q (nI_pos hf160), fun _ => this⟩
      | none =>
        have es := esN hf
        obtain ⟨g1, g2⟩ := hok hf
        have := h _ (hK.put (a := 0) (k := 4) (v := nI (T + 1)) rfl) (by rw [es]; exact hC.txt hT hlt hs2 g1 g2)
        rw [es] at this
        dsimp only at this
        rw [← nI_pred T, ← nI_1 T, ← f04] at this
        exact ⟨fun _ => this, fun q => absurd (by decide) q⟩
    have nlt : σ.1 0 4 < 6 := by rw [e04]; exact nI_lt hlt (by decide)
    rcases (show T = 0 ∨ T = 1 ∨ T = 2 ∨ T = 3 ∨ T = 4 ∨ T = 5 by omega) with rfl | rfl | rfl | rfl | rfl | rfl
    · exact VM.go [32] ⟨fun _ => ⟨0, e04, by decide, _, VM.at read, fun _ _ hh => by obtain ⟨x, rfl, hh⟩ := hh; exact VM.at (VM.go [32] hh)⟩, fun q => absurd nlt q⟩
    · exact VM.go [32] ⟨fun _ => ⟨1, e04, by decide, _, VM.at read, fun _ _ hh => by obtain ⟨x, rfl, hh⟩ := hh; exact VM.at (VM.go [32] hh)⟩, fun q => absurd nlt q⟩
    · exact VM.go [32] ⟨fun _ => ⟨2, e04, by decide, _, VM.at read, fun _ _ hh => by obtain ⟨x, rfl, hh⟩ := hh; exact VM.at (VM.go [32] hh)⟩, fun q => absurd nlt q⟩
    · exact VM.go [32] ⟨fun _ => ⟨3, e04, by decide, _, VM.at read, fun _ _ hh => by obtain ⟨x, rfl, hh⟩ := hh; exact VM.at (VM.go [32] hh)⟩, fun q => absurd nlt q⟩
    · exact VM.go [32] ⟨fun _ => ⟨4, e04, by decide, _, VM.at read, fun _ _ hh => by obtain ⟨x, rfl, hh⟩ := hh; exact VM.at (VM.go [32] hh)⟩, fun q => absurd nlt q⟩
    · exact VM.go [32] ⟨fun _ => ⟨5, e04, by decide, _, VM.at read, fun _ _ hh => by obtain ⟨x, rfl, hh⟩ := hh; exact VM.at (VM.go [32] hh)⟩, fun q => absurd nlt q⟩
end TT
