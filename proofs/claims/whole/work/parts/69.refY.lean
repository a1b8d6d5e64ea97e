/-! ===== THE REFERENCE: text ===== -/
/-- what text() changes -/
def vTx (T c k : Nat) : Bool := (Nat.beq c 59 && Nat.ble (160 * T) k) || ((Nat.beq c 60 && Nat.beq k T) || ((Nat.beq c 58 && Nat.beq k 6) || vMs c k))
theorem vTx_no {T c k : Nat} (h1 : c = 59 → k < 160 * T) (h2 : c = 60 → ¬ k = T) (h3 : c = 58 → ¬ k = 6 ∧ (k < 17 ∨ 31 < k)) : vTx T c k = false := by
  cases hb : vTx T c k with
  | false => rfl
  | true =>
    exfalso
    simp only [vTx, vMs, Bool.or_eq_true, Bool.and_eq_true, Nat.ble_eq, vbq] at hb
    rcases hb with q | q | q | q
    · have := h1 q.1; omega
    · exact h2 q.1 q.2
    · exact (h3 q.1).1 q.2
    · have := (h3 q.1).2; omega
theorem vTx_s (T c k : Nat) (h : vTx T c k = false) : vMs c k = false := by
  cases hb : vMs c k with
  | false => rfl
  | true => unfold vTx at h; rw [hb, Bool.or_true, Bool.or_true, Bool.or_true] at h; cases h
theorem vTx_Rf {T : Nat} (c k : Nat) (h : vRf c k = false) : vTx T c k = false := by
  have hn : ¬ (58 ≤ c ∧ c ≤ 82) := fun q => by
    have : vRf c k = true := by simp only [vRf, Bool.and_eq_true, Nat.ble_eq]; exact q
    rw [this] at h; cases h
  exact vTx_no (fun e => absurd ⟨by omega, by omega⟩ hn) (fun e => absurd ⟨by omega, by omega⟩ hn) (fun e => absurd ⟨by omega, by omega⟩ hn)
section RY
variable {Gx : Nat × (Nat → Int32)} {d D : Nat} {σ : vM} {post : vQ} {a : vα}
theorem vRM.tx {T : Nat} (hT : T = a.1 0 4) (hlen : ∀ t, t < a.1 0 4 → (a.2.2 t).length ≤ 160) (h : vRM a σ) {σ' : vM} (hs : vagI (vTx T) σ σ') (h6' : σ'.1 58 6 = 0) : vRM (vaput a 38 0 0) σ' := by
  obtain ⟨⟨p1, p2, p3, p4, p5⟩, h2, h3, h4, ⟨k1, k2, k3, k4⟩, h6⟩ := h
  have na : ∀ c' k', ¬ c' = 38 → (vaput a 38 0 0).1 c' k' = a.1 c' k' := fun c' k' e => vaput_ne (Or.inl e)
  have g : ∀ {c k : Nat}, ¬ c = 59 → ¬ c = 60 → ¬ c = 58 → σ'.1 c k = σ.1 c k := fun e1 e2 e3 => hs.get (vTx_no (fun q => absurd q e1) (fun q => absurd q e2) (fun q => absurd q e3))
  have gf : ∀ {k : Nat}, ¬ k = 6 → (k < 17 ∨ 31 < k) → σ'.1 58 k = σ.1 58 k := fun e1 e2 => hs.get (vTx_no (fun q => absurd q (by decide)) (fun q => absurd q (by decide)) (fun _ => ⟨e1, e2⟩))
  refine ⟨⟨?_, ?_, ?_, ?_, ?_⟩, fun k' hk => ?_, fun k' => ?_, fun t ht => ?_, ⟨?_, ?_, ?_, fun k' => ?_⟩, fun s hs4 => ?_⟩
  · rw [gf (by decide) (by decide), na _ _ (by decide)]; exact p1
  · rw [gf (by decide) (by decide), na _ _ (by decide)]; exact p2
  · rw [h6', vaput_get, if_pos ⟨rfl, rfl⟩]; rfl
  · rw [gf (by decide) (by decide), na _ _ (by decide)]; exact p4
  · rw [gf (by decide) (by decide), na _ _ (by decide)]; exact p5
  · rw [na 1 2 (by decide)] at hk
    rw [g (by decide) (by decide) (by decide), na _ _ (by decide)]; exact h2 k' hk
  · obtain ⟨q1, q2, q3, q4, q5, q6, q7, q8⟩ := h3 k'
    exact ⟨by rw [g (by decide) (by decide) (by decide), na _ _ (by decide)]; exact q1, by rw [g (by decide) (by decide) (by decide), na _ _ (by decide)]; exact q2, by rw [g (by decide) (by decide) (by decide), na _ _ (by decide)]; exact q3, by rw [g (by decide) (by decide) (by decide), na _ _ (by decide)]; exact q4, by rw [g (by decide) (by decide) (by decide), na _ _ (by decide)]; exact q5, by rw [g (by decide) (by decide) (by decide), na _ _ (by decide)]; exact q6, by rw [g (by decide) (by decide) (by decide), na _ _ (by decide)]; exact q7, fun z => absurd (show k' < 0 from z) (Nat.not_lt_zero _)⟩
  · rw [na 0 4 (by decide)] at ht
    have hl := hlen t ht
    refine ⟨(hs.get (vTx_no (fun q => absurd q (by decide)) (fun _ => by omega) (fun q => absurd q (by decide)))).trans (h4 t ht).1, fun k' hk => ?_⟩
    have hk' : k' < (a.2.2 t).length := hk
    exact (hs.get (vTx_no (fun _ => by omega) (fun q => absurd q (by decide)) (fun q => absurd q (by decide)))).trans ((h4 t ht).2 k' hk)
  · rw [gf (by decide) (by decide), na _ _ (by decide), na _ _ (by decide)]; exact k1
  · rw [gf (by decide) (by decide), na _ _ (by decide)]; exact k2
  · rw [gf (by decide) (by decide), na _ _ (by decide)]; exact k3
  · rw [g (by decide) (by decide) (by decide), g (by decide) (by decide) (by decide), g (by decide) (by decide) (by decide), g (by decide) (by decide) (by decide), g (by decide) (by decide) (by decide), g (by decide) (by decide) (by decide), g (by decide) (by decide) (by decide), na _ _ (by decide), na _ _ (by decide), na _ _ (by decide), na _ _ (by decide), na _ _ (by decide), na _ _ (by decide), na _ _ (by decide)]
    exact k4 k'
  · rw [g (by decide) (by decide) (by decide), g (by decide) (by decide) (by decide), g (by decide) (by decide) (by decide), na _ _ (by omega), na _ _ (by omega)]
    obtain ⟨q1, q2⟩ := h6 s hs4
    refine ⟨q1, fun z => ?_⟩
    obtain ⟨r1, r2, r3⟩ := q2 z
    exact ⟨r1, r2, fun k' hk => (g (by decide) (by decide) (by decide)).trans (r3 k' hk)⟩
end RY
