/-! ===== Reader: numbers, words ===== -/
def vS57 (c k : Nat) : Bool := Nat.beq c 38 && (Nat.ble 5 k && Nat.ble k 7)
def vwst (j : Nat) : Nat := [0, 6, 13, 20, 26, 33, 40, 45, 50, 57, 60, 64, 68].getD j 0
def vwrd (j : Nat) : List Nat := vwords.getD j []
theorem vwrd_f : ∀ j, j < 12 → vwst (j + 1) = vwst j + (vwrd j).length + 1 ∧ vwst j + (vwrd j).length < 68 ∧ vWords.getD (vwst j + (vwrd j).length) 0 = 32 ∧ (∀ k, k < (vwrd j).length → ¬ vWords.getD (vwst j + k) 0 = 32) ∧ (∀ k, k < (vwrd j).length → vWords.getD (vwst j + k) 0 = nI ((vwrd j).getD k 0)) ∧ (∀ x ∈ vwrd j, x < 256) := by decide
theorem vwix_eq {w : List Nat} {j : Nat} (hj : j < 12) (h1 : vwrd j = w) (h2 : ∀ j', j' < j → ¬ vwrd j' = w) : vwordIx w = j := by
  unfold vwordIx
  have hl : vwords.length = 12 := rfl
  have ge : ∀ i (h : i < vwords.length), vwords[i] = vwrd i := fun i h => by
    unfold vwrd; rw [List.getD_eq_getElem?_getD, List.getElem?_eq_getElem h]; rfl
  rw [List.findIdx_eq (by omega)]
  refine ⟨?_, fun j' hj' => ?_⟩
  · rw [ge]; exact decide_eq_true h1
  · rw [ge]; exact decide_eq_false (h2 j' hj')
theorem vwix_no {w : List Nat} (h2 : ∀ j', j' < 12 → ¬ vwrd j' = w) : vwordIx w = 12 := by
  unfold vwordIx
  refine (List.findIdx_eq_length (xs := vwords)).mpr (fun x hx => ?_)
  obtain ⟨i, hi, rfl⟩ := List.mem_iff_getElem.mp hx
  have : vwords[i] = vwrd i := by unfold vwrd; rw [List.getD_eq_getElem?_getD, List.getElem?_eq_getElem hi]; rfl
  rw [this]
  exact decide_eq_false (h2 i hi)
theorem vspan_le {P : Nat → Bool} {b : List Nat} : ∀ n i, i ≤ b.length → i ≤ vspan P b n i ∧ vspan P b n i ≤ b.length := by
  intro n
  induction n with
  | zero => exact fun i hi => ⟨Nat.le_refl _, hi⟩
  | succ n ih =>
    intro i hi
    unfold vspan
    by_cases h : i < b.length
    · rw [List.getElem?_eq_getElem h]
      dsimp only
      split
      · have := ih (i + 1) (by omega)
        exact ⟨by omega, this.2⟩
      · exact ⟨Nat.le_refl _, hi⟩
    · rw [List.getElem?_eq_none (by omega)]
      exact ⟨Nat.le_refl _, hi⟩
theorem vnumV_app (l : List Nat) (c : Nat) : vnumV (l ++ [c]) = 10 * vnumV l + (c - 48) := by
  unfold vnumV; rw [List.foldl_append]; rfl
theorem vtk_succ {b : List Nat} {p i c : Nat} (hp : p ≤ i) (hc : b[i]? = some c) : (b.drop p).take (i + 1 - p) = (b.drop p).take (i - p) ++ [c] := by
  rw [show i + 1 - p = (i - p) + 1 by omega, List.take_add_one, List.getElem?_drop, show p + (i - p) = i by omega, hc]
  rfl
section RN
variable {G : vG} {d : Nat} {σ : vM} {post : vQ} {b : List Nat}
theorem vTp.ag {σ' : vM} (h : vTp b σ) (h0 : σ'.1 38 0 = σ.1 38 0) (h1 : ∀ k, σ'.1 39 k = σ.1 39 k) : vTp b σ' := ⟨h.1, h.2.1, h0.trans h.2.2.1, fun k hk => (h1 k).trans (h.2.2.2 k hk)⟩
theorem vTp.s57 {σ' : vM} (h : vTp b σ) (hs : vag vS57 σ σ') : vTp b σ' := h.ag (hs.get rfl) (fun k => hs.get rfl)
theorem vTp.lt {i c : Nat} (h : vTp b σ) (hc : b[i]? = some c) : c < 256 := h.2.1 c (List.mem_of_getElem? hc)
theorem vb_readNumber {p : Nat} (hT : vTp b σ) (hp : p ≤ b.length) (h4 : σ.1 38 4 = nI p) (h5 : σ.1 38 5 = nI p) (h : ∀ σ', vag vS57 σ σ' → σ'.1 38 5 = nI (vspan vdigit b b.length p) → σ'.1 38 6 = (if 4 < vspan vdigit b b.length p - p then -1 else 1) → σ'.1 38 7 = nI (vnumV ((b.drop p).take (vspan vdigit b b.length p - p))) → post none σ') : VM G (d + 1) iX2_readNumber 0 [some (.ref 38)] [] σ post := by
  have h160 := hT.1
  obtain ⟨N, hN⟩ : ∃ N, N = vspan vdigit b b.length p := ⟨_, rfl⟩
  rw [← hN] at h
  have key : ∀ n i s2, vag vS57 σ s2 → s2.1 38 5 = nI i → s2.1 38 7 = nI (vnumV ((b.drop p).take (i - p))) → p ≤ i → i ≤ b.length → b.length ≤ i + n → vspan vdigit b n i = N → VM G (d + 1) iX2_readNumber 5 [some (.ref 38)] [] s2 post := by
    intro n
    have fin : ∀ s2, vag vS57 σ s2 → s2.1 38 5 = nI N → s2.1 38 7 = nI (vnumV ((b.drop p).take (N - p))) → p ≤ N → N ≤ b.length → VM G (d + 1) iX2_readNumber 66 [some (.ref 38)] [] s2 post := by
      intro s2 hs2 e5 e7 hpN hNb
      have e4 : s2.1 38 4 = nI p := (hs2.get rfl).trans h4
      have es : s2.1 38 5 - s2.1 38 4 = nI (N - p) := by rw [e5, e4]; exact pk_sub hpN
      refine VM.go [] ⟨fun q => ?_, fun q => ?_⟩
      · have q' : s2.1 38 5 - s2.1 38 4 ≤ nI 4 := q
        rw [es, nIle (by omega) (by decide)] at q'
        refine h (vput s2 38 6 1) (hs2.put rfl) e5 ?_ e7
        rw [if_neg (by omega)]; rfl
      · have q' : ¬ s2.1 38 5 - s2.1 38 4 ≤ nI 4 := q
        rw [es, nIle (by omega) (by decide)] at q'
        refine h (vput s2 38 6 (-1)) (hs2.put rfl) e5 ?_ e7
        rw [if_pos (by omega)]; rfl
    induction n with
    | zero =>
      intro i s2 hs2 e5 e7 hpi hib hin hv
      have e0 : s2.1 38 0 = nI b.length := (hs2.get rfl).trans hT.2.2.1
      have : i = N := hv
      subst this
      refine VM.go [66] ⟨fun _ => fin s2 hs2 e5 e7 hpi hib, fun q => absurd ?_ q⟩
      rw [e5, e0]; exact nI_le (by omega) (by omega)
    | succ n ih =>
      intro i s2 hs2 e5 e7 hpi hib hin hv
      have e0 : s2.1 38 0 = nI b.length := (hs2.get rfl).trans hT.2.2.1
      have hT2 := hT.s57 hs2
      unfold vspan at hv
      cases hc : b[i]? with
      | none =>
        rw [hc] at hv
        have : i = N := hv
        have hge : b.length ≤ i := List.getElem?_eq_none_iff.mp hc
        subst this
        refine VM.go [66] ⟨fun _ => fin s2 hs2 e5 e7 hpi hib, fun q => absurd ?_ q⟩
        rw [e5, e0]; exact nI_le hge (by omega)
      | some c =>
        rw [hc] at hv
        dsimp only at hv
        have hlt : i < b.length := (List.getElem?_eq_some_iff.mp hc).1
        have hc256 := hT.lt hc
        have hnl : ¬ s2.1 38 0 ≤ s2.1 38 5 := by rw [e5, e0]; exact nI_ge hlt (by omega)
        have call : ∀ (post' : vQ), post' (some (.int (nI c))) s2 → VM G d iX2_byteAt 0 [some (.ref 38), some (.int (s2.1 38 5))] [] s2 post' := fun post' hh => by
          rw [e5]
          exact vb_byteAt (by omega) hT2 (by rw [hc]; exact hh)
        refine VM.go [5, 66] ⟨fun q => absurd q hnl, fun _ => ⟨_, VM.at (call _ ?_), fun _ _ hh => hh⟩⟩
        refine ⟨_, VM.at (vb_isDigit hc256 (fun q => ?_) (fun q => ?_)), fun _ _ hh => hh⟩
        · refine ⟨fun z => absurd z (by decide), fun _ => ⟨_, VM.at (call _ ?_), fun _ _ hh => hh⟩⟩
          rw [if_pos q] at hv
          have hc48 : 48 ≤ c ∧ c ≤ 57 := by simpa only [vdigit, Bool.and_eq_true, Nat.ble_eq] using q
          have := ih (i + 1) (vput (vput s2 38 7 (nI (vnumV ((b.drop p).take (i + 1 - p))))) 38 5 (nI (i + 1))) ((hs2.put rfl).put rfl) rfl rfl (by omega) (by omega) (by omega) hv
          rw [vtk_succ hpi hc, vnumV_app, Nat.mul_comm 10, show vnumV ((b.drop p).take (i - p)) * 10 + (c - 48) = vnumV ((b.drop p).take (i - p)) * 10 + c - 48 by omega, ← pk_sub (show 48 ≤ vnumV ((b.drop p).take (i - p)) * 10 + c by omega), ← nI_add, ← pk_mul, ← e7, ← nI_1 i, ← e5] at this
          exact this
        · rw [if_neg (by rw [q]; decide)] at hv
          have : i = N := hv
          subst this
          exact ⟨fun _ => VM.at (fin s2 hs2 e5 e7 hpi hib), fun z => absurd rfl z⟩
  refine VM.go [5] (key b.length p _ (vag.rf.put rfl) h5 ?_ (Nat.le_refl _) hp (by omega) hN.symm)
  rw [Nat.sub_self]; rfl
/-- is it the word j of the words -/
theorem vb_isWord {p nx j : Nat} (hT : vTp b σ) (hj : j < 12) (hp : p ≤ nx) (hnx : nx ≤ b.length) (h4 : σ.1 38 4 = nI p) (h5 : σ.1 38 5 = nI nx) (h1 : vwrd j = (b.drop p).take (nx - p) → post (some (.int 1)) σ) (h0 : ¬ vwrd j = (b.drop p).take (nx - p) → post (some (.int 0)) σ) : VM G (d + 4) iX2_isWord 0 [some (.ref 38), some (.int (nI (vwst j))), some (.int (nI (vwst j + (vwrd j).length))), none] [] σ post := by
  obtain ⟨f1, f2, f3, f4, f5, f6⟩ := vwrd_f j hj
  have h160 := hT.1
  obtain ⟨L, hL⟩ : ∃ L, L = (vwrd j).length := ⟨_, rfl⟩
  rw [← hL] at f1 f2 f3 f4 f5
  rw [← hL]
  have hwl : ((b.drop p).take (nx - p)).length = nx - p := by rw [List.length_take, List.length_drop]; omega
  have el : nI (vwst j + L) - nI (vwst j) = nI L := by rw [pk_sub (by omega)]; congr 1; omega
  have ex : σ.1 38 5 - σ.1 38 4 = nI (nx - p) := by rw [h4, h5]; exact pk_sub hp
  have el2 : nI (vwst j + L) - nI (vwst j) = σ.1 38 5 - σ.1 38 4 ↔ L = nx - p := by rw [el, ex, nI_eq (by omega) (by omega)]
  by_cases hlen : L = nx - p
  · have key : ∀ k, k ≤ L → (∀ k', k' < k → (vwrd j).getD k' 0 = b.getD (p + k') 0) → VM G (d + 4) iX2_isWord 19 [some (.ref 38), some (.int (nI (vwst j))), some (.int (nI (vwst j + L))), some (.int (nI (vwst j + k)))] [] σ post := by
      refine vloop _ ?_ ?_
      · intro hall
        refine VM.go [19] ⟨fun _ => ⟨Or.inr rfl, h1 ?_⟩, fun q => absurd (nI_le (Nat.le_refl _) (by omega)) q⟩
        refine List.ext_getElem (by rw [hwl, ← hL, hlen]) (fun k h1 h2 => ?_)
        have hk : k < L := by rw [hL]; exact h1
        have := hall k hk
        rw [List.getD_eq_getElem?_getD, List.getElem?_eq_getElem h1, List.getD_eq_getElem?_getD, List.getElem?_eq_getElem (show p + k < b.length by omega)] at this
        rw [List.getElem_take, List.getElem_drop]
        exact this
      · intro k hk ih hall
        have hpk : p + k < b.length := by omega
        have ec : b[p + k]? = some (b.getD (p + k) 0) := by rw [List.getD_eq_getElem?_getD, List.getElem?_eq_getElem hpk]; rfl
        have c1 := hT.lt ec
        have c2 : (vwrd j).getD k 0 < 256 := by
          have hkl : k < (vwrd j).length := by rw [← hL]; exact hk
          rw [List.getD_eq_getElem?_getD, List.getElem?_eq_getElem hkl]
          exact f6 _ (List.getElem_mem hkl)
        have ei : σ.1 38 4 + nI (vwst j + k) - nI (vwst j) = nI (p + k) := by
          rw [h4, nI_add, pk_sub (by omega)]; congr 1; omega
        have call : ∀ (post' : vQ), post' (some (.int (nI (b.getD (p + k) 0)))) σ → VM G (d + 3) iX2_byteAt 0 [some (.ref 38), some (.int (σ.1 38 4 + nI (vwst j + k) - nI (vwst j)))] [] σ post' := fun post' hh => by
          rw [ei]
          exact vb_byteAt (by omega) hT (by rw [ec]; exact hh)
        have clen : ∀ (post' : vQ), post' (some (.int 68)) σ → VM G (d + 3) iJ0_length_8abf5 0 [some (.ref 1001)] [] σ post' := fun post' hh => vb_wlen (d := d + 2) hh
        refine VM.go [19] ⟨fun q => absurd q (nI_ge (show vwst j + k < vwst j + L by omega) (by omega)), fun _ => ⟨_, VM.at (clen _ ?_), fun _ _ hh => hh⟩⟩
        refine ⟨fun q => absurd q (nI_ge (show vwst j + k < 68 by omega) (by decide)), fun _ => ⟨_, VM.at (vb_wchar (show vwst j + k < 68 by omega) ?_), fun _ _ hh => hh⟩⟩
        refine ⟨_, VM.at (call _ ?_), fun _ _ hh => hh⟩
        have ev : vWords.getD (vwst j + k) 0 = nI (b.getD (p + k) 0) ↔ (vwrd j).getD k 0 = b.getD (p + k) 0 := by rw [f5 k hk, nI_eq (by omega) (by omega)]
        refine ⟨fun q => ?_, fun q => ?_⟩
        · have := ih (fun k' hk' => by
            by_cases e : k' = k
            · rw [e]; exact ev.mp q
            · exact hall k' (by omega))
          rw [← Nat.add_assoc, ← nI_1] at this
          exact this
        · refine ⟨Or.inl rfl, h0 (fun e => q (ev.mpr ?_))⟩
          rw [e, List.getD_eq_getElem?_getD, List.getElem?_take, if_pos (by omega), List.getElem?_drop, ← List.getD_eq_getElem?_getD]
    exact VM.go [19] ⟨fun _ => key 0 (Nat.zero_le _) (fun k' hk' => absurd hk' (Nat.not_lt_zero _)), fun q => absurd (el2.mpr hlen) q⟩
  · refine VM.go [] ⟨fun q => absurd (el2.mp q) hlen, fun _ => ⟨Or.inl rfl, h0 (fun e => hlen ?_)⟩⟩
    rw [hL, e, hwl]
end RN
