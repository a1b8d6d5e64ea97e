/-! ===== Reader: advance, expect, opens; Rule: add ===== -/
theorem vlex_none {b : List Nat} {i p : Nat} (hp : p = vspan vblank b b.length i) (hc : b[p]? = none) : vlex b i = (0, 0, p, p) := by
  unfold vlex
  dsimp only
  rw [← hp, hc]
theorem vlex_let {b : List Nat} {i p c : Nat} (hp : p = vspan vblank b b.length i) (hc : b[p]? = some c) (hl : vletter c = true) : vlex b i = (vwtk (vwordIx ((b.drop p).take (vspan vletter b b.length p - p))), vwordIx ((b.drop p).take (vspan vletter b b.length p - p)), p, vspan vletter b b.length p) := by
  unfold vlex
  dsimp only
  rw [← hp, hc]
  dsimp only
  rw [if_pos hl]
  rfl
theorem vlex_num {b : List Nat} {i p c : Nat} (hp : p = vspan vblank b b.length i) (hc : b[p]? = some c) (hl : vletter c = false) (hd : vdigit c = true) : vlex b i = (if 4 < vspan vdigit b b.length p - p then -1 else 1, vnumV ((b.drop p).take (vspan vdigit b b.length p - p)), p, vspan vdigit b b.length p) := by
  unfold vlex
  dsimp only
  rw [← hp, hc]
  dsimp only
  rw [if_neg (by rw [hl]; decide), if_pos hd]
theorem vlex_sign {b : List Nat} {i p c : Nat} (hp : p = vspan vblank b b.length i) (hc : b[p]? = some c) (hl : vletter c = false) (hd : vdigit c = false) : vlex b i = (if vsign c then nI c else -1, 0, p, p + 1) := by
  unfold vlex
  dsimp only
  rw [← hp, hc]
  dsimp only
  rw [if_neg (by rw [hl]; decide), if_neg (by rw [hd]; decide)]
def vS47 (c k : Nat) : Bool := Nat.beq c 38 && (Nat.ble 4 k && Nat.ble k 7)
theorem vS47_no {c k : Nat} (h : ¬ c = 38 ∨ k < 4) : vS47 c k = false := by
  cases hb : vS47 c k with
  | false => rfl
  | true => exfalso; simp only [vS47, Bool.and_eq_true, Nat.ble_eq, vbq] at hb; omega
theorem vS57_47 {c k : Nat} (h : vS47 c k = false) : vS57 c k = false := by
  cases hb : vS57 c k with
  | false => rfl
  | true =>
    exfalso
    have : vS47 c k = true := by
      simp only [vS57, vS47, Bool.and_eq_true, Nat.ble_eq, vbq] at hb ⊢
      omega
    rw [this] at h; cases h
theorem vS47_RdS {r c k : Nat} (h : vRdS r c k = false) : vS47 c k = false := by
  cases hb : vS47 c k with
  | false => rfl
  | true =>
    exfalso
    have : vRdS r c k = true := by
      simp only [vS47, vRdS, Bool.or_eq_true, Bool.and_eq_true, Nat.ble_eq, vbq] at hb ⊢
      omega
    rw [this] at h; cases h
theorem vwtk_12 {i : Nat} (h : vwtk i = 1 ∨ vwtk i = 2) : True := trivial
section RA
variable {G : vG} {d : Nat} {σ : vM} {post : vQ} {b : List Nat}
theorem vb_advN {r : Nat} {s : vPS} (hr : vRc r) (hf : vpF s = none) (hA : vRdA b r (vpC s) σ) (a3 : σ.1 38 3 = -1) (a5 : σ.1 38 5 = nI (vpN s)) (a12 : vpN s ≤ b.length) (h : ∀ σ', vag (vRdS r) σ σ' → vRd b r (vpAdv b s) σ' → post none σ') : VM G (d + 6) iX2_advance 0 [some (.ref 38), none] [] σ post := by
  have hT := hA.1
  have h160 := hT.1
  obtain ⟨p, hp⟩ : ∃ p, p = vspan vblank b b.length (vpN s) := ⟨_, rfl⟩
  obtain ⟨hp1, hp2⟩ := vspan_le (P := vblank) b.length (vpN s) a12
  rw [← hp] at hp1 hp2
  have es : vpAdv b s = ((vlex b (vpN s)).2.2.2, (vlex b (vpN s)).1, (vlex b (vpN s)).2.1, (vlex b (vpN s)).2.2.1, none, vpC s) := by unfold vpAdv; rw [hf]
  have done : ∀ σ' t v pl nx, vlex b (vpN s) = (t, v, pl, nx) → vag vS47 σ σ' → σ'.1 38 4 = nI pl → σ'.1 38 5 = nI nx → σ'.1 38 6 = t → (t = 1 ∨ t = 2 → σ'.1 38 7 = nI v) → nx ≤ b.length → pl ≤ b.length → post none σ' := by
    intro σ' t v pl nx ev hs g4 g5 g6 g7 b1 b2
    refine h σ' (hs.up (fun c k => vS47_RdS)) ?_
    rw [es, ev]
    exact vRdA.adv (s' := (nx, t, v, pl, none, vpC s)) hA hr (fun c k hc => hs.get (vS47_no (Or.inl hc))) (fun k hk => hs.get (vS47_no (Or.inr (by omega)))) ((hs.get (vS47_no (Or.inr (by decide)))).trans a3) g4 g5 g6 g7 b1 b2 (fun f e => by cases e)
  have at64 : ∀ s2, vag vS57 σ s2 → s2.1 38 5 = nI p → VM G (d + 6) iX2_advance 64 [some (.ref 38), none] [] s2 post := by
    intro s2 hs2 e5
    have hT2 := hT.s57 hs2
    have hs3 : vag vS47 σ (vput s2 38 4 (s2.1 38 5)) := (hs2.up (fun c k => vS57_47)).put rfl
    have hT3 : vTp b (vput s2 38 4 (s2.1 38 5)) := hT2.ag rfl (fun k => rfl)
    have e4 : (vput s2 38 4 (s2.1 38 5)).1 38 4 = nI p := e5
    have e5' : (vput s2 38 4 (s2.1 38 5)).1 38 5 = nI p := e5
    have call : ∀ (post' : vQ), post' (some (.int (match b[p]? with | some c => nI c | none => -1))) (vput s2 38 4 (s2.1 38 5)) → VM G (d + 5) iX2_byteAt 0 [some (.ref 38), some (.int (s2.1 38 5))] [] (vput s2 38 4 (s2.1 38 5)) post' := fun post' hh => by
      rw [show VM G (d + 5) iX2_byteAt 0 [some (.ref 38), some (.int (s2.1 38 5))] [] (vput s2 38 4 (s2.1 38 5)) post' = VM G (d + 5) iX2_byteAt 0 [some (.ref 38), some (.int (nI p))] [] (vput s2 38 4 (s2.1 38 5)) post' from by rw [e5]]
      exact vb_byteAt (by omega) hT3 hh
    refine VM.go [] ⟨_, VM.at (call _ ?_), fun _ _ hh => hh⟩
    cases hc : b[p]? with
    | none =>
      dsimp only
      refine ⟨fun q => absurd rfl q, fun _ => ?_⟩
      exact done _ 0 0 p p (vlex_none hp hc) (hs3.put rfl) e4 e5' rfl (fun q => q.elim (fun q => absurd q (by decide)) (fun q => absurd q (by decide))) hp2 hp2
    | some c =>
      dsimp only
      have hplt : p < b.length := (List.getElem?_eq_some_iff.mp hc).1
      have hc256 := hT.lt hc
      refine ⟨fun _ => ⟨_, VM.at (vb_isLetter hc256 (fun hl => ?_) (fun hl => ?_)), fun _ _ hh => hh⟩, fun q => absurd (show nI c < 0 by rw [show nI c = -1 from q]; decide) (nI_pos (by omega))⟩
      · refine ⟨fun q => absurd q (by decide), fun _ => ⟨_, VM.at (vb_readWord hT3 hp2 e4 e5' (fun s5 hs5 g5 g6 g7 => ?_)), fun _ _ hh => hh⟩⟩
        have hj := vspan_le (P := vletter) b.length p hp2
        exact done s5 _ _ p _ (vlex_let hp hc hl) (hs3.tr (hs5.up (fun c k => vS57_47))) ((hs5.get rfl).trans e4) g5 g6 (fun _ => g7) hj.2 hp2
      · refine ⟨fun _ => ⟨_, VM.at (vb_isDigit hc256 (fun hd => ?_) (fun hd => ?_)), fun _ _ hh => hh⟩, fun q => absurd rfl q⟩
        · refine ⟨fun q => absurd q (by decide), fun _ => ⟨_, VM.at (vb_readNumber hT3 hp2 e4 e5' (fun s5 hs5 g5 g6 g7 => ?_)), fun _ _ hh => hh⟩⟩
          have hj := vspan_le (P := vdigit) b.length p hp2
          exact done s5 _ _ p _ (vlex_num hp hc hl hd) (hs3.tr (hs5.up (fun c k => vS57_47))) ((hs5.get rfl).trans e4) g5 g6 (fun _ => g7) hj.2 hp2
        · have hlx := vlex_sign hp hc hl hd
          have n12 : ¬ (nI c = 1 ∨ nI c = 2) ∨ ¬ vsign c = true := by
            by_cases z : vsign c = true
            · refine Or.inl (fun q => ?_)
              have e : c = 40 ∨ c = 41 ∨ c = 59 ∨ c = 43 ∨ c = 45 ∨ c = 42 ∨ c = 60 ∨ c = 61 := by simpa only [vsign, Bool.or_eq_true, vbq] using z
              rcases q with q | q
              · have := (nI_eq (b := 1) (by omega) (by decide)).mp q; omega
              · have := (nI_eq (b := 2) (by omega) (by decide)).mp q; omega
            · exact Or.inr z
          have e51 : nI p + 1 = nI (p + 1) := nI_1 p
          refine ⟨fun _ => ⟨_, VM.at (vb_isSign hc256 (fun hg => ?_) (fun hg => ?_)), fun _ _ hh => hh⟩, fun q => absurd rfl q⟩
          · rw [if_pos hg] at hlx
            refine ⟨fun q => absurd q (by decide), fun _ => ?_⟩
            refine done _ _ _ p _ hlx ((hs3.put (a := 38) (k := 5) rfl).put (a := 38) (k := 6) rfl) e4 ?_ rfl (fun q => absurd hg (n12.elim (fun z => absurd q z) id)) (by omega) hp2
            rw [← e51, ← e5]; rfl
          · rw [if_neg (by rw [hg]; decide)] at hlx
            refine ⟨fun _ => ?_, fun q => absurd rfl q⟩
            refine done _ _ _ p _ hlx ((hs3.put (a := 38) (k := 5) rfl).put (a := 38) (k := 6) rfl) e4 ?_ rfl (fun q => q.elim (fun q => absurd q (by decide)) (fun q => absurd q (by decide))) (by omega) hp2
            rw [← e51, ← e5]; rfl
  have key : ∀ n i s2, vag vS57 σ s2 → s2.1 38 5 = nI i → i ≤ b.length → b.length ≤ i + n → vspan vblank b n i = p → VM G (d + 6) iX2_advance 14 [some (.ref 38), none] [] s2 post := by
    intro n
    induction n with
    | zero =>
      intro i s2 hs2 e5 hib hin hv
      have e0 : s2.1 38 0 = nI b.length := (hs2.get rfl).trans hT.2.2.1
      have : i = p := hv
      subst this
      refine VM.go [64] ⟨fun _ => at64 s2 hs2 e5, fun q => absurd ?_ q⟩
      rw [e5, e0]; exact nI_le (by omega) (by omega)
    | succ n ih =>
      intro i s2 hs2 e5 hib hin hv
      have e0 : s2.1 38 0 = nI b.length := (hs2.get rfl).trans hT.2.2.1
      have hT2 := hT.s57 hs2
      unfold vspan at hv
      cases hc : b[i]? with
      | none =>
        rw [hc] at hv
        have : i = p := hv
        have hge : b.length ≤ i := List.getElem?_eq_none_iff.mp hc
        rw [this] at e5 hge
        refine VM.go [64] ⟨fun _ => at64 s2 hs2 e5, fun q => absurd ?_ q⟩
        rw [e5, e0]; exact nI_le hge (by omega)
      | some c =>
        rw [hc] at hv
        dsimp only at hv
        have hlt : i < b.length := (List.getElem?_eq_some_iff.mp hc).1
        have hc256 := hT.lt hc
        have hnl : ¬ s2.1 38 0 ≤ s2.1 38 5 := by rw [e5, e0]; exact nI_ge hlt (by omega)
        have call : ∀ (post' : vQ), post' (some (.int (nI c))) s2 → VM G (d + 5) iX2_byteAt 0 [some (.ref 38), some (.int (s2.1 38 5))] [] s2 post' := fun post' hh => by
          rw [e5]
          exact vb_byteAt (by omega) hT2 (by rw [hc]; exact hh)
        have yes : vblank c = true → VM G (d + 6) iX2_advance 51 [some (.ref 38), none] [] s2 post := fun q => by
          rw [if_pos q] at hv
          have := ih (i + 1) (vput s2 38 5 (nI (i + 1))) (hs2.put rfl) rfl (by omega) (by omega) hv
          rw [← nI_1, ← e5] at this
          exact VM.go [14] this
        have eb : vblank c = true ↔ c = 32 ∨ c = 10 := by simp only [vblank, Bool.or_eq_true, vbq]
        refine VM.go [51, 64] ⟨fun q => absurd q hnl, fun _ => ⟨_, VM.at (call _ ?_), fun _ _ hh => hh⟩⟩
        refine ⟨fun q => VM.at (yes (eb.mpr (Or.inl ((nI_eq (by omega) (by decide)).mp q)))), fun q => ⟨_, VM.at (call _ ?_), fun _ _ hh => hh⟩⟩
        refine ⟨fun q2 => ?_, fun q2 => VM.at (yes (eb.mpr (Or.inr ((nI_eq (by omega) (by decide)).mp q2))))⟩
        have hno : ¬ vblank c = true := fun z => by
          rcases eb.mp z with z | z
          · exact q (by rw [z]; rfl)
          · exact q2 (by rw [z]; rfl)
        rw [if_neg hno] at hv
        have : i = p := hv
        rw [this] at e5
        exact VM.at (at64 s2 hs2 e5)
  exact VM.go [14] ⟨fun _ => key b.length (vpN s) σ vag.rf a5 a12 (by omega) hp.symm, fun q => absurd a3 q⟩
theorem vb_advance {r : Nat} {s : vPS} (hr : vRc r) (hR : vRd b r s σ) (h : ∀ σ', vag (vRdS r) σ σ' → vRd b r (vpAdv b s) σ' → post none σ') : VM G (d + 6) iX2_advance 0 [some (.ref 38), none] [] σ post := by
  have a3 := hR.2.2.1
  have a4 := hR.2.2.2.1
  have a5 := hR.2.2.2.2.1
  obtain ⟨a12, a13, a14⟩ := hR.2.2.2.2.2.2.2.2.2.2.2
  have hT := hR.1
  have h160 := hT.1
  cases hf : vpF s with
  | some f =>
    rw [hf] at a3
    have es : vpAdv b s = (vpN s, -1, vpV s, vpP s, some f, vpC s) := by unfold vpAdv; rw [hf]
    have hf160 := a14 f hf
    refine VM.go [] ⟨fun q => ?_, fun _ => ?_⟩
    · have q' : σ.1 38 3 = -1 := q
      rw [a3] at q'
      exact absurd (show nI f < 0 by rw [show nI f = -1 from q']; decide) (nI_pos (by omega))
    · refine h (vput σ 38 6 (-1)) (vag.rf.put (vRdS_38 (by decide))) ?_
      rw [es]
      refine hR.adv hr rfl (fun c k hc => by rw [vput_ne (Or.inl hc)]) (fun k hk => by rw [vput_ne (Or.inr (by omega))]) a3 a4 a5 rfl ?_ a12 a13 ?_
      · exact fun q => q.elim (fun q => absurd (show (-1 : Int32) = 1 from q) (by decide)) (fun q => absurd (show (-1 : Int32) = 2 from q) (by decide))
      · intro f' e; cases e; exact hf160
  | none =>
    rw [hf] at a3
    exact vb_advN hr hf hR.A a3 a5 a12 h
end RA
