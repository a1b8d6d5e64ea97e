/-! ===== Reader: words, the next token ===== -/
section RW
variable {G : vG} {d : Nat} {σ : vM} {post : vQ} {b : List Nat}
def vwtk (i : Nat) : Int32 := if i < 6 then 2 else if i < 12 then nI i else -1
theorem vb_readWordL {p nx : Nat} {w : List Nat} (hT : vTp b σ) (hp : p ≤ nx) (hnx : nx ≤ b.length) (h4 : σ.1 38 4 = nI p) (hw : w = (b.drop p).take (nx - p)) (h : ∀ σ', vag vS57 σ σ' → σ'.1 38 5 = nI nx → σ'.1 38 6 = vwtk (vwordIx w) → σ'.1 38 7 = nI (vwordIx w) → post none σ') : ∀ j, j ≤ 12 → ∀ s2, vag vS57 σ s2 → s2.1 38 5 = nI nx → s2.1 38 6 = -1 → s2.1 38 7 = nI j → (∀ j', j' < j → ¬ vwrd j' = w) → VM G (d + 5) iX2_readWord 52 [some (.ref 38), some (.int (nI (vwst j))), some (.int (nI (vwst j)))] [] s2 post := by
  have h160 := hT.1
  have clen : ∀ (s2 : vM) (post' : vQ), post' (some (.int 68)) s2 → VM G (d + 4) iJ0_length_8abf5 0 [some (.ref 1001)] [] s2 post' := fun s2 post' hh => vb_wlen (d := d + 3) hh
  have cchr : ∀ (s2 : vM) (post' : vQ) (i : Nat), i < 68 → post' (some (.int (vWords.getD i 0))) s2 → VM G (d + 4) iJ0_charAt_5068e 0 [some (.ref 1001), some (.int (nI i))] [] s2 post' := fun s2 post' i hi hh => vb_wchar (d := d + 1) hi hh
  refine vloop _ ?_ ?_
  · intro s2 hs2 e5 e6 e7 hno
    have ix := vwix_no hno
    have := h s2 hs2 e5 (by rw [e6, ix]; rfl) (by rw [e7, ix])
    exact VM.go [] ⟨_, VM.at (clen _ _ (by exact ⟨fun _ => this, fun q => absurd (by decide) q⟩)), fun _ _ hh => hh⟩
  · intro j hj ih s2 hs2 e5 e6 e7 hno
    obtain ⟨f1, f2, f3, f4, f5, f6⟩ := vwrd_f j hj
    obtain ⟨L, hL⟩ : ∃ L, L = (vwrd j).length := ⟨_, rfl⟩
    rw [← hL] at f1 f2 f3 f4 f5
    have e4 : s2.1 38 4 = nI p := (hs2.get rfl).trans h4
    have hT2 := hT.s57 hs2
    have key : ∀ k, k ≤ L → VM G (d + 5) iX2_readWord 52 [some (.ref 38), some (.int (nI (vwst j))), some (.int (nI (vwst j + k)))] [] s2 post := by
      refine vloop _ ?_ ?_
      · have cis : ∀ (post' : vQ), (vwrd j = w → post' (some (.int 1)) s2) → (¬ vwrd j = w → post' (some (.int 0)) s2) → VM G (d + 4) iX2_isWord 0 [some (.ref 38), some (.int (nI (vwst j))), some (.int (nI (vwst j + L))), none] [] s2 post' := fun post' g1 g0 => by
          rw [hL]
          rw [hw] at g1 g0
          exact vb_isWord hT2 hj hp hnx e4 e5 g1 g0
        refine VM.go [52, 113] ⟨_, VM.at (clen _ _ ?_), fun _ _ hh => hh⟩
        refine ⟨fun q => absurd q (nI_ge (show vwst j + L < 68 by omega) (by decide)), fun _ => ⟨fun q => absurd e6 q, fun _ => ⟨_, VM.at (cchr _ _ _ (show vwst j + L < 68 by omega) ?_), fun _ _ hh => hh⟩⟩⟩
        refine ⟨fun q => absurd f3 q, fun _ => ⟨_, VM.at (cis _ (fun hy => ?_) (fun hn => ?_)), fun _ _ hh => hh⟩⟩
        · have ix := vwix_eq hj hy hno
          have hne : ¬ vwtk j = -1 := by
            unfold vwtk
            by_cases c : j < 6
            · rw [if_pos c]; decide
            · rw [if_neg c, if_pos hj]
              intro q
              exact absurd (show nI j < 0 by rw [q]; decide) (nI_pos (by omega))
          have last : VM G (d + 5) iX2_readWord 52 [some (.ref 38), some (.int (nI (vwst j))), some (.int (nI (vwst j + L) + 1))] [] (vput s2 38 6 (vwtk j)) post := by
            have := h (vput s2 38 6 (vwtk j)) (hs2.put rfl) e5 (by rw [ix]; rfl) (by rw [ix]; exact e7)
            exact VM.go [] ⟨_, VM.at (clen _ _ (by exact ⟨fun _ => this, fun _ => ⟨fun _ => this, fun q => absurd q hne⟩⟩)), fun _ _ hh => hh⟩
          refine ⟨fun q => absurd q (by decide), fun _ => ⟨fun q => ?_, fun q => ?_⟩⟩
          · have q' : nI 6 ≤ s2.1 38 7 := q
            rw [e7, nIle (by decide) (by omega)] at q'
            rw [show vwtk j = s2.1 38 7 from by unfold vwtk; rw [if_neg (by omega), if_pos hj, e7]] at last
            exact VM.at (VM.go [52] last)
          · have q' : ¬ nI 6 ≤ s2.1 38 7 := q
            rw [e7, nIle (by decide) (by omega)] at q'
            rw [show vwtk j = 2 from by unfold vwtk; rw [if_pos (by omega)]] at last
            exact VM.at (VM.go [52] last)
        · have := ih (vput s2 38 7 (nI (j + 1))) (hs2.put rfl) e5 e6 rfl (fun j' hj' => by
            by_cases e : j' = j
            · rw [e]; exact hn
            · exact hno j' (by omega))
          rw [f1, ← nI_1 j, ← nI_1 (vwst j + L), ← e7] at this
          exact ⟨fun _ => VM.at (VM.go [52] this), fun q => absurd rfl q⟩
      · intro k hk ihk
        refine VM.go [52] ⟨_, VM.at (clen _ _ ?_), fun _ _ hh => hh⟩
        refine ⟨fun q => absurd q (nI_ge (show vwst j + k < 68 by omega) (by decide)), fun _ => ⟨fun q => absurd e6 q, fun _ => ⟨_, VM.at (cchr _ _ _ (show vwst j + k < 68 by omega) ?_), fun _ _ hh => hh⟩⟩⟩
        rw [← Nat.add_assoc, ← nI_1] at ihk
        exact ⟨fun _ => ihk, fun q => absurd q (f4 k hk)⟩
    exact key 0 (Nat.zero_le _)
theorem vb_readWord {p : Nat} (hT : vTp b σ) (hp : p ≤ b.length) (h4 : σ.1 38 4 = nI p) (h5 : σ.1 38 5 = nI p) (h : ∀ σ', vag vS57 σ σ' → σ'.1 38 5 = nI (vspan vletter b b.length p) → σ'.1 38 6 = vwtk (vwordIx ((b.drop p).take (vspan vletter b b.length p - p))) → σ'.1 38 7 = nI (vwordIx ((b.drop p).take (vspan vletter b b.length p - p))) → post none σ') : VM G (d + 5) iX2_readWord 0 [some (.ref 38), none, none] [] σ post := by
  have h160 := hT.1
  obtain ⟨N, hN⟩ : ∃ N, N = vspan vletter b b.length p := ⟨_, rfl⟩
  obtain ⟨hpN, hNb⟩ := vspan_le (P := vletter) b.length p hp
  rw [← hN] at h hpN hNb
  have fin : ∀ s2, vag vS57 σ s2 → s2.1 38 5 = nI N → VM G (d + 5) iX2_readWord 38 [some (.ref 38), none, none] [] s2 post := by
    intro s2 hs2 e5
    refine VM.go [52] ?_
    exact vb_readWordL hT hpN hNb h4 rfl h 0 (Nat.zero_le _) (vput (vput s2 38 7 0) 38 6 (-1)) ((hs2.put rfl).put rfl) e5 rfl rfl (fun j' hj' => absurd hj' (Nat.not_lt_zero _))
  have key : ∀ n i s2, vag vS57 σ s2 → s2.1 38 5 = nI i → i ≤ b.length → b.length ≤ i + n → vspan vletter b n i = N → VM G (d + 5) iX2_readWord 0 [some (.ref 38), none, none] [] s2 post := by
    intro n
    induction n with
    | zero =>
      intro i s2 hs2 e5 hib hin hv
      have e0 : s2.1 38 0 = nI b.length := (hs2.get rfl).trans hT.2.2.1
      have : i = N := hv
      subst this
      refine VM.go [38] ⟨fun _ => fin s2 hs2 e5, fun q => absurd ?_ q⟩
      rw [e5, e0]; exact nI_le (by omega) (by omega)
    | succ n ih =>
      intro i s2 hs2 e5 hib hin hv
      have e0 : s2.1 38 0 = nI b.length := (hs2.get rfl).trans hT.2.2.1
      have hT2 := hT.s57 hs2
      unfold vspan at hv
      cases hc : b[i]? with
      | none =>
        rw [hc] at hv
        have : i = N := hv
        have hge : b.length ≤ i := List.getElem?_eq_none_iff.mp hc
        subst this
        refine VM.go [38] ⟨fun _ => fin s2 hs2 e5, fun q => absurd ?_ q⟩
        rw [e5, e0]; exact nI_le hge (by omega)
      | some c =>
        rw [hc] at hv
        dsimp only at hv
        have hlt : i < b.length := (List.getElem?_eq_some_iff.mp hc).1
        have hc256 := hT.lt hc
        have hnl : ¬ s2.1 38 0 ≤ s2.1 38 5 := by rw [e5, e0]; exact nI_ge hlt (by omega)
        have call : ∀ (post' : vQ), post' (some (.int (nI c))) s2 → VM G (d + 4) iX2_byteAt 0 [some (.ref 38), some (.int (s2.1 38 5))] [] s2 post' := fun post' hh => by
          rw [e5]
          exact vb_byteAt (by omega) hT2 (by rw [hc]; exact hh)
        refine VM.go [0, 38] ⟨fun q => absurd q hnl, fun _ => ⟨_, VM.at (call _ ?_), fun _ _ hh => hh⟩⟩
        refine ⟨_, VM.at (vb_isLetter hc256 (fun q => ?_) (fun q => ?_)), fun _ _ hh => hh⟩
        · rw [if_pos q] at hv
          have := ih (i + 1) (vput s2 38 5 (nI (i + 1))) (hs2.put rfl) rfl (by omega) (by omega) hv
          rw [← nI_1, ← e5] at this
          exact ⟨fun z => absurd z (by decide), fun _ => VM.at (VM.go [0] this)⟩
        · rw [if_neg (by rw [q]; decide)] at hv
          have : i = N := hv
          subst this
          exact ⟨fun _ => VM.at (fin s2 hs2 e5), fun z => absurd rfl z⟩
  exact key b.length p σ vag.rf h5 hp (by omega) hN.symm
theorem vS57_RdS {r c k : Nat} (h : vRdS r c k = false) : vS57 c k = false := by
  cases hb : vS57 c k with
  | false => rfl
  | true =>
    exfalso
    have : vRdS r c k = true := by
      simp only [vS57, vRdS, Bool.or_eq_true, Bool.and_eq_true, Nat.ble_eq, vbq] at hb ⊢
      omega
    rw [this] at h; cases h
theorem vRdS_38 {r k : Nat} (h : 1 ≤ k) : vRdS r 38 k = true := by
  unfold vRdS
  rw [show Nat.ble 1 k = true from by rw [Nat.ble_eq]; exact h]
  rfl
/-- the reader's tokens change, the rule does not -/
theorem vRdA.adv {r : Nat} {s' : vPS} {σ' : vM} (hR : vRdA b r (vpC s') σ) (hr : vRc r) (h0 : ∀ c k, ¬ c = 38 → σ'.1 c k = σ.1 c k) (h1 : ∀ k, k < 3 → σ'.1 38 k = σ.1 38 k) (h3 : σ'.1 38 3 = vpFi (vpF s')) (h4 : σ'.1 38 4 = nI (vpP s')) (h5 : σ'.1 38 5 = nI (vpN s')) (h6 : σ'.1 38 6 = vpT s') (h7 : vpT s' = 1 ∨ vpT s' = 2 → σ'.1 38 7 = nI (vpV s')) (hN : vpN s' ≤ b.length) (hP : vpP s' ≤ b.length) (hF : ∀ f, vpF s' = some f → f ≤ b.length) : vRd b r s' σ' := by
  obtain ⟨a1, a2, a8, a9, a10, a11⟩ := hR
  unfold vRc at hr
  exact ⟨a1.ag (h1 0 (by decide)) (fun k => h0 39 k (by decide)), (h1 2 (by decide)).trans a2, h3, h4, h5, h6, h7, a8, fun k hk => (h0 _ _ (by omega)).trans (a9 k hk), (h0 _ _ (by omega)).trans a10, ⟨fun z => (h0 _ _ (by omega)).trans (a11.1 z), by rw [h0 _ _ (by omega)]; exact a11.2⟩, hN, hP, hF⟩
theorem vRd.adv {r : Nat} {s s' : vPS} {σ' : vM} (hR : vRd b r s σ) (hr : vRc r) (hC : vpC s' = vpC s) (h0 : ∀ c k, ¬ c = 38 → σ'.1 c k = σ.1 c k) (h1 : ∀ k, k < 3 → σ'.1 38 k = σ.1 38 k) (h3 : σ'.1 38 3 = vpFi (vpF s')) (h4 : σ'.1 38 4 = nI (vpP s')) (h5 : σ'.1 38 5 = nI (vpN s')) (h6 : σ'.1 38 6 = vpT s') (h7 : vpT s' = 1 ∨ vpT s' = 2 → σ'.1 38 7 = nI (vpV s')) (hN : vpN s' ≤ b.length) (hP : vpP s' ≤ b.length) (hF : ∀ f, vpF s' = some f → f ≤ b.length) : vRd b r s' σ' := by
  have hA := hR.A
  rw [← hC] at hA
  exact hA.adv hr h0 h1 h3 h4 h5 h6 h7 hN hP hF
theorem vb_fail {r : Nat} {s : vPS} (hr : vRc r) (hR : vRd b r s σ) (h : ∀ σ', vag (vRdS r) σ σ' → vRd b r (vpFail s) σ' → post none σ') : VM G d iX2_fail 0 [some (.ref 38)] [] σ post := by
  have a3 := hR.2.2.1
  have a4 := hR.2.2.2.1
  have a5 := hR.2.2.2.2.1
  obtain ⟨a12, a13, a14⟩ := hR.2.2.2.2.2.2.2.2.2.2.2
  cases hf : vpF s with
  | none =>
    rw [hf] at a3
    have es : vpFail s = (vpN s, -1, vpV s, vpP s, some (vpP s), vpC s) := by unfold vpFail; rw [hf]
    refine VM.go [] ⟨fun q => absurd a3 q, fun _ => ?_⟩
    refine h (vput (vput σ 38 3 (σ.1 38 4)) 38 6 (-1)) ((vag.rf.put (vRdS_38 (by decide))).put (vRdS_38 (by decide))) ?_
    rw [es]
    refine hR.adv hr rfl (fun c k hc => by rw [vput_ne (Or.inl hc), vput_ne (Or.inl hc)]) (fun k hk => by rw [vput_ne (Or.inr (by omega)), vput_ne (Or.inr (by omega))]) a4 a4 a5 rfl ?_ a12 a13 ?_
    · exact fun q => q.elim (fun q => absurd (show (-1 : Int32) = 1 from q) (by decide)) (fun q => absurd (show (-1 : Int32) = 2 from q) (by decide))
    · intro f e; cases e; exact a13
  | some f =>
    rw [hf] at a3
    have es : vpFail s = (vpN s, -1, vpV s, vpP s, some f, vpC s) := by unfold vpFail; rw [hf]
    have hf160 := a14 f hf
    refine VM.go [] ⟨fun _ => ?_, fun q => ?_⟩
    · refine h (vput σ 38 6 (-1)) (vag.rf.put (vRdS_38 (by decide))) ?_
      rw [es]
      refine hR.adv hr rfl (fun c k hc => by rw [vput_ne (Or.inl hc)]) (fun k hk => by rw [vput_ne (Or.inr (by omega))]) a3 a4 a5 rfl ?_ a12 a13 ?_
      · exact fun q => q.elim (fun q => absurd (show (-1 : Int32) = 1 from q) (by decide)) (fun q => absurd (show (-1 : Int32) = 2 from q) (by decide))
      · intro f' e; cases e; exact hf160
    · have q' : σ.1 38 3 = -1 := q
      rw [a3] at q'
      exact absurd (show nI f < 0 by rw [show nI f = -1 from q']; decide) (nI_pos (by have := hR.1.1; omega))
end RW
