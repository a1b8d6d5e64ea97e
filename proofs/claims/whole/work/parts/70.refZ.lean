theorem vtape_len (a : vα) : (vtape a).length = a.1 38 0 := by unfold vtape; rw [List.length_map, List.length_range]
theorem vtape_at {a : vα} {k : Nat} (hk : k < a.1 38 0) : (vtape a).getD k 0 = a.1 39 k := by
  unfold vtape
  rw [List.getD_eq_getElem?_getD, List.getElem?_map, List.getElem?_range hk]
  rfl
section RZ
variable {Gx : Nat × (Nat → Int32)} {d D : Nat} {σ : vM} {post : vQ} {a : vα}
theorem vRM.nt {b : List Nat} {T : Nat} (hT : T = a.1 0 4) (h : vRM (vaput a 38 0 0) σ) (h60 : σ.1 60 T = nI b.length) (h59 : ∀ k, k < b.length → σ.1 59 (160 * T + k) = nI (b.getD k 0)) : vRM (vtxt a b) (vput σ 58 3 (nI (T + 1))) := by
  obtain ⟨⟨p1, p2, p3, p4, p5⟩, h2, h3, h4, ⟨k1, k2, k3, k4⟩, h6⟩ := h
  have nc : ∀ c' k', ¬ c' = 58 → (vput σ 58 3 (nI (T + 1))).1 c' k' = σ.1 c' k' := fun c' k' e => vput_ne (Or.inl e)
  have nf : ∀ k', ¬ k' = 3 → (vput σ 58 3 (nI (T + 1))).1 58 k' = σ.1 58 k' := fun k' e => vput_ne (Or.inr e)
  have na : ∀ c' k', ¬ (c' = 0 ∧ k' = 4) → (vtxt a b).1 c' k' = (vaput a 38 0 0).1 c' k' := fun c' k' e => by
    unfold vtxt; rw [vaput_get]; dsimp only; rw [if_neg e]
  have e04 : (vtxt a b).1 0 4 = T + 1 := by rw [hT]; rfl
  refine ⟨⟨?_, ?_, ?_, ?_, ?_⟩, fun k' hk => ?_, fun k' => ?_, fun t ht => ?_, ⟨?_, ?_, ?_, fun k' => ?_⟩, fun s hs => ?_⟩
  · rw [e04, vput_eq]
  · rw [nf _ (by decide), na _ _ (by decide)]; exact p2
  · rw [nf _ (by decide), na _ _ (by decide)]; exact p3
  · rw [nf _ (by decide), na _ _ (by decide)]; exact p4
  · rw [nf _ (by decide), na _ _ (by decide)]; exact p5
  · rw [na 1 2 (by decide)] at hk
    rw [nc _ _ (by decide), na _ _ (by omega)]; exact h2 k' hk
  · obtain ⟨q1, q2, q3, q4, q5, q6, q7, q8⟩ := h3 k'
    exact ⟨by rw [nc _ _ (by decide), na _ _ (by omega)]; exact q1, by rw [nc _ _ (by decide), na _ _ (by omega)]; exact q2, by rw [nc _ _ (by decide), na _ _ (by omega)]; exact q3, by rw [nc _ _ (by decide), na _ _ (by omega)]; exact q4, by rw [nc _ _ (by decide), na _ _ (by omega)]; exact q5, by rw [nc _ _ (by decide), na _ _ (by omega)]; exact q6, by rw [nc _ _ (by decide), na _ _ (by omega)]; exact q7, fun z => absurd (show k' < 0 from z) (Nat.not_lt_zero _)⟩
  · rw [e04] at ht
    rw [nc _ _ (by decide)]
    by_cases e : t = T
    · subst e
      rw [show (vtxt a b).2.2 t = b from if_pos hT]
      exact ⟨h60, fun k' hk => (nc _ _ (by decide)).trans (h59 k' hk)⟩
    · rw [show (vtxt a b).2.2 t = a.2.2 t from if_neg (by omega)]
      have q := h4 t (by rw [vaput_ne (Or.inl (by decide))]; omega)
      exact ⟨q.1, fun k' hk => (nc _ _ (by decide)).trans (q.2 k' hk)⟩
  · rw [nf _ (by decide), na _ _ (by decide), na _ _ (by decide)]; exact k1
  · rw [nf _ (by decide), na _ _ (by decide)]; exact k2
  · rw [nf _ (by decide), na _ _ (by decide)]; exact k3
  · rw [nc _ _ (by decide), nc _ _ (by decide), nc _ _ (by decide), nc _ _ (by decide), nc _ _ (by decide), nc _ _ (by decide), nc _ _ (by decide), na _ _ (by omega), na _ _ (by omega), na _ _ (by omega), na _ _ (by omega), na _ _ (by omega), na _ _ (by omega), na _ _ (by omega)]
    exact k4 k'
  · rw [nc _ _ (by decide), nc _ _ (by decide), nc _ _ (by decide), na _ _ (by omega), na _ _ (by omega)]
    obtain ⟨q1, q2⟩ := h6 s hs
    refine ⟨q1, fun z => ?_⟩
    obtain ⟨r1, r2, r3⟩ := q2 z
    exact ⟨r1, r2, fun k' hk => (nc _ _ (by decide)).trans (r3 k' hk)⟩
theorem vTx_59 {T k : Nat} (h : 160 * T ≤ k) : vTx T 59 k = true := by
  unfold vTx; rw [show Nat.ble (160 * T) k = true from Nat.ble_eq.mpr h]; rfl
theorem vTx_60 {T : Nat} : vTx T 60 T = true := by
  unfold vTx; rw [Nat.beq_refl 60, Nat.beq_refl T, Bool.true_and, Bool.true_or, Bool.or_true]
theorem vTx_6 {T : Nat} : vTx T 58 6 = true := rfl
theorem vr_text (hR : vRM a σ) (hW : vWF a) (h : ∀ σ', vagI vRf σ σ' → vRM (sText a).2 σ' → post (some (.int (sText a).1)) σ') : VM (true, Gx) (D + 42) iX7_text 0 [some (.ref 58), none] [] σ post := by
  have e04 := hR.1.1
  have hT6 := hW.2.1.2
  have hs := hW.2.2.2.2.2.2.1.1
  have hb256 := hW.2.2.2.2.2.2.1.2
  have hlen : ∀ t, t < a.1 0 4 → (a.2.2 t).length ≤ 160 := fun t ht => (hW.2.2.2.2.2.2.2.2.1 t ht).2.2.1
  have p3 := hR.1.2.2.1
  obtain ⟨T, hT⟩ : ∃ T, T = a.1 0 4 := ⟨_, rfl⟩
  rw [← hT] at e04 hT6
  by_cases h6 : T = 6
  · have es : sText a = (-4, a) := by unfold sText; rw [if_pos (by rw [← hT]; exact h6)]
    have := h σ vagI.rf (by rw [es]; exact hR)
    rw [es] at this
    refine VM.go [] ⟨fun q => absurd (show σ.1 58 3 = 6 by rw [e04, h6]; rfl) q, fun _ => this⟩
  · have hlt : T < 6 := by omega
    have bl := vtape_len a
    have esS : ∀ f, vfault (vtape a) = some f → sText a = (-100 - nI f, vaput a 38 0 0) := fun f hf => by
      unfold sText; rw [if_neg (by rw [← hT]; exact h6), hf]
    have esN : vfault (vtape a) = none → sText a = (nI T, vtxt a (vtape a)) := fun hf => by
      unfold sText; rw [if_neg (by rw [← hT]; exact h6), hf, hT]
    have bat : ∀ k, k < a.1 38 0 → (vtape a).getD k 0 = a.1 39 k := fun k hk => vtape_at hk
    have bm : ∀ x ∈ vtape a, x < 256 := fun x hx => by
      unfold vtape at hx
      obtain ⟨k, hk, rfl⟩ := List.mem_map.mp hx
      have := List.mem_range.mp hk
      exact hb256 k (by omega)
    obtain ⟨b, hb⟩ : ∃ b, b = vtape a := ⟨_, rfl⟩
    rw [← hb] at bl esS esN bat bm
    obtain ⟨n, hn⟩ : ∃ n, n = a.1 38 0 := ⟨_, rfl⟩
    rw [← hn] at bl bat hs p3
    have fin : ∀ s2, vagI (vTx T) σ s2 → s2.1 58 6 = nI n → (∀ k, k < n → s2.1 59 (160 * T + k) = nI (a.1 39 k)) → ∀ y, VM (true, Gx) (D + 42) iX7_text 49 [some (.ref 58), y] [] s2 post := by
      intro s2 hs2 f6 hk2 y
      have f3 : s2.1 58 3 = nI T := (hs2.get (vTx_no (fun q => absurd q (by decide)) (fun q => absurd q (by decide)) (fun _ => by decide))).trans e04
      obtain ⟨A, hA⟩ : ∃ A, A = vput (vput s2 60 T (nI n)) 58 6 0 := ⟨_, rfl⟩
      have hsA : vagI (vTx T) σ A := by rw [hA]; exact (hs2.put vTx_60).put vTx_6
      have a60 : A.1 60 T = nI b.length := by rw [hA, bl, vput_ne (Or.inl (by decide)), vput_eq]
      have a59 : ∀ k, k < b.length → A.1 59 (160 * T + k) = nI (b.getD k 0) := fun k hk => by
        rw [bl] at hk
        rw [hA, vput_ne (Or.inl (by decide)), vput_ne (Or.inl (by decide)), bat k (by omega)]
        exact hk2 k hk
      have a6 : A.1 58 6 = 0 := by rw [hA, vput_eq]
      have a3 : A.1 58 3 = nI T := by rw [hA, vput_ne (Or.inr (by decide)), vput_ne (Or.inl (by decide))]; exact f3
      have read : VM (true, Gx) (D + 41) iX7_read 0 [some (.ref 58), some (.int (nI T)), some (.int 0), none, none, none] [] A (fun v s3 => ∃ x, v = some (.int x) ∧ VM (true, Gx) (D + 42) iX7_text 77 [some (.ref 58), some (.int x)] [] s3 post) := by
        refine vm_read (w := 0) (b := b) (nm := fun i => A.1 58 (17 + i)) (by omega) bm hlt (by decide) (fun i _ => rfl) a60 a59 (fun s3 v hs3 g0 g1 => ⟨v, rfl, ?_⟩)
        have hs4 : vagI (vTx T) σ s3 := hsA.tr (hs3.up (vTx_s T))
        have s6 : s3.1 58 6 = 0 := (hs3.get rfl).trans a6
        have s3' : s3.1 58 3 = nI T := (hs3.get rfl).trans a3
        have hX := hR.tx hT hlen hs4 s6
        have hK : vagI vRf σ s3 := hs4.up vTx_Rf
        cases hf : vfault b with
        | some f =>
          have es := esS f hf
          obtain ⟨q1, q2⟩ := g1 f hf
          have := h s3 hK (by rw [es]; exact hX)
          rw [es, ← q2] at this
          exact VM.go [] ⟨fun q => absurd q q1, fun _ => this⟩
        | none =>
          have es := esN hf
          obtain ⟨q1, q2⟩ := g0 hf
          have h60 : s3.1 60 T = nI b.length := (hs3.get rfl).trans a60
          have h59 : ∀ k, k < b.length → s3.1 59 (160 * T + k) = nI (b.getD k 0) := fun k hk => (hs3.get rfl).trans (a59 k hk)
          have := h _ (hK.put (a := 58) (k := 3) (v := nI (T + 1)) rfl) (by rw [es]; exact hX.nt hT h60 h59)
          rw [es] at this
          dsimp only at this
          rw [← nI_pred T, ← nI_1 T, ← s3'] at this
          exact VM.go [] ⟨fun _ => this, fun q => absurd q1 q⟩
      refine VM.go [68] ⟨nofun, T, f3, hlt, ?_⟩
      show VM (true, Gx) (D + 42) iX7_text 68 _ _ _ _
      have eA : vput (vput s2 60 T (s2.1 58 6)) 58 6 0 = A := by rw [hA, f6]
      rw [eA]
      refine VM.go [73] ?_
      show VM (true, Gx) (D + 42) iX7_text 73 _ _ _ _
      rw [a3]
      exact VM.go [77] ⟨_, VM.at read, fun _ _ hh => by obtain ⟨x, rfl, hh⟩ := hh; exact VM.at (VM.go [77] hh)⟩
    have key : ∀ i, i ≤ n → ∀ s2, vagI (vTx T) σ s2 → s2.1 58 6 = nI n → (∀ k, k < i → s2.1 59 (160 * T + k) = nI (a.1 39 k)) → VM (true, Gx) (D + 42) iX7_text 14 [some (.ref 58), some (.int (nI i))] [] s2 post := by
      refine vloop _ ?_ ?_
      · intro s2 hs2 f6 hk2
        exact VM.go [49] ⟨fun _ => fin s2 hs2 f6 hk2 _, fun q => absurd (by rw [f6]; exact nI_le (Nat.le_refl _) (by omega)) q⟩
      · intro i hi ih s2 hs2 f6 hk2
        have f3 : s2.1 58 3 = nI T := (hs2.get (vTx_no (fun q => absurd q (by decide)) (fun q => absurd q (by decide)) (fun _ => by decide))).trans e04
        have ix : (160 : Int32) * s2.1 58 3 + nI i = nI (160 * T + i) := by rw [f3, show (160 : Int32) = nI 160 from rfl, pk_mul, nI_add]
        have e61 : s2.1 61 i = nI (a.1 39 i) := (hs2.get (vTx_no (fun q => absurd q (by decide)) (fun q => absurd q (by decide)) (fun q => absurd q (by decide)))).trans ((hR.2.2.1 i).2.2.2.2.2.2.2 (by omega))
        have := ih (vput s2 59 (160 * T + i) (s2.1 61 i)) (hs2.put (vTx_59 (by omega))) (by rw [vput_ne (Or.inl (by decide))]; exact f6) (fun k hk => by
          rw [vput_get]
          by_cases e : k = i
          · rw [if_pos ⟨rfl, by omega⟩, e]; exact e61
          · rw [if_neg (by omega)]; exact hk2 k (by omega))
        rw [← nI_1] at this
        exact VM.go [14] ⟨fun q => absurd q (by rw [f6]; exact nI_ge hi (by omega)), fun _ => ⟨i, rfl, by omega, nofun, 160 * T + i, ix, by omega, this⟩⟩
    have k0 := key 0 (Nat.zero_le _) σ vagI.rf p3 (fun k hk => absurd hk (by omega))
    exact VM.go [14] ⟨fun _ => k0, fun q => absurd (show σ.1 58 3 = nI 6 from q) (fun q => h6 ((nI_eq (b := 6) (by omega) (by decide)).mp (by rw [← e04]; exact q)))⟩
end RZ
