/-! ===== THE REFERENCE: what token is at hand ===== -/
def vbad (s : vPS) : Int32 := match vpF s with
  | none => 0
  | some _ => 1
/-- the reference reads the text t, b, at s; op open, the names nm -/
def vMd (b : List Nat) (t op : Nat) (nm : Nat → Int32) (s : vPS) (σ : vM) : Prop := vMx b t σ ∧ (∀ i, i < 6 → σ.1 58 (17 + i) = nm i) ∧ σ.1 58 29 = nI op ∧ σ.1 58 30 = vbad s ∧ (vpF s = none → σ.1 58 27 = nI (vpP s) ∧ vMk b (vpT s) (vpV s) (vpP s) (vpN s) σ) ∧ (∀ f, vpF s = some f → σ.1 58 31 = nI f) ∧ vFT s ∧ vpl b s
/-- the word j is at hand -/
def vkt (j : Nat) (s : vPS) : Prop := if j < 6 then vpT s = 2 ∧ vpV s = j else vpT s = nI j
def vwl (j i : Nat) : Nat := (vwrd j).getD i 0
theorem lgc_eq {a b : Int64} : lg_cmp a b = 0 ↔ a = b := by
  unfold lg_cmp
  by_cases h : a > b
  · rw [if_pos h]
    exact ⟨fun q => absurd q (by decide), fun q => absurd h (by rw [q]; exact Int64.lt_irrefl)⟩
  · rw [if_neg h]
    by_cases e : a = b
    · rw [if_pos e]; exact ⟨fun _ => e, fun _ => rfl⟩
    · rw [if_neg e]; exact ⟨fun q => absurd q (by decide), fun q => absurd q e⟩
theorem vwrd_ix : ∀ j, j < 12 → vwordIx (vwrd j) = j ∧ (vwrd j).length ≤ 7 ∧ (∀ x ∈ vwrd j, vletter x = true) ∧ ∀ i, i < 8 → vwl j i < 256 := by decide
theorem vwix_iff {w : List Nat} {j : Nat} (hj : j < 12) : vwordIx w = j ↔ w = vwrd j := by
  constructor
  · intro h
    refine Classical.byContradiction (fun q => ?_)
    have hl : vwords.length = 12 := rfl
    have hi : vwords.findIdx (fun v => decide (v = w)) = j := h
    have := (List.findIdx_eq (xs := vwords) (p := fun v => decide (v = w)) (i := j) (by omega)).mp hi
    have ge : vwords[j]'(by omega) = vwrd j := by
      unfold vwrd; rw [List.getD_eq_getElem?_getD, List.getElem?_eq_getElem (by omega)]; rfl
    rw [ge] at this
    exact q (of_decide_eq_true this.1).symm
  · rintro rfl; exact (vwrd_ix j hj).1
theorem vword_of {w : List Nat} {j : Nat} (hj : j < 12) (hw : ∀ x ∈ w, vletter x = true) (hl : w.length ≤ 8) : (∀ i, i < 8 → w.getD i 0 = vwl j i) ↔ w = vwrd j := by
  obtain ⟨g1, g2, g3, g4⟩ := vwrd_ix j hj
  have nz : ∀ {l : List Nat} {i : Nat}, (∀ x ∈ l, vletter x = true) → i < l.length → ¬ l.getD i 0 = 0 := fun {l i} hl hi q => by
    rw [List.getD_eq_getElem?_getD, List.getElem?_eq_getElem hi] at q
    have := (vletter_iff _).mp (hl _ (List.getElem_mem hi))
    have q' : l[i] = 0 := q
    omega
  have oz : ∀ {l : List Nat} {i : Nat}, l.length ≤ i → l.getD i 0 = 0 := fun {l i} hi => by
    rw [List.getD_eq_getElem?_getD, List.getElem?_eq_none hi]; rfl
  constructor
  · intro h
    have hlen : w.length = (vwrd j).length := by
      rcases Nat.lt_trichotomy w.length (vwrd j).length with q | q | q
      · exact absurd ((h w.length (by omega)).symm.trans (oz (Nat.le_refl _))) (nz g3 q)
      · exact q
      · exact absurd ((h (vwrd j).length (by omega)).trans (oz (Nat.le_refl _))) (nz hw q)
    refine List.ext_getElem hlen (fun i h1 h2 => ?_)
    have := h i (by omega)
    unfold vwl at this
    rw [List.getD_eq_getElem?_getD, List.getElem?_eq_getElem h1, List.getD_eq_getElem?_getD, List.getElem?_eq_getElem h2] at this
    exact this
  · rintro rfl i _; rfl
theorem vkt_ix {s : vPS} {i j : Nat} (hj : j < 12) (h1 : vpT s = vwtk i) (h2 : vpV s = i) : vkt j s ↔ i = j := by
  unfold vkt
  rw [h1, h2]
  unfold vwtk
  by_cases h6 : j < 6
  · rw [if_pos h6]
    constructor
    · exact fun q => q.2
    · rintro rfl; rw [if_pos h6]; exact ⟨rfl, rfl⟩
  · rw [if_neg h6]
    by_cases i6 : i < 6
    · rw [if_pos i6]
      constructor
      · intro q
        have := (nI_eq (a := 2) (by decide) (by omega)).mp (show nI 2 = nI j from q)
        omega
      · intro q; omega
    · rw [if_neg i6]
      by_cases i12 : i < 12
      · rw [if_pos i12, nI_eq (by omega) (by omega)]
      · rw [if_neg i12]
        constructor
        · intro q; exact absurd (show nI j < 0 by rw [← q]; decide) (nI_pos (by omega))
        · intro q; omega
section RK
variable {Gx : Nat × (Nat → Int32)} {d : Nat} {σ : vM} {post : vQ} {b : List Nat} {t op : Nat} {nm : Nat → Int32} {s : vPS}
theorem vbad_0 (h : vpF s = none) : vbad s = 0 := by unfold vbad; rw [h]
theorem vbad_1 {f : Nat} (h : vpF s = some f) : vbad s = 1 := by unfold vbad; rw [h]
theorem vbad_i : vbad s = 0 ↔ vpF s = none := by
  unfold vbad
  cases vpF s with
  | none => exact ⟨fun _ => rfl, fun _ => rfl⟩
  | some f => exact ⟨fun q => absurd (show (1 : Int32) = 0 from q) (by decide), fun q => by cases q⟩
theorem vm_fail (hM : vMd b t op nm s σ) (h : ∀ σ', vagI vMp σ σ' → vMd b t op nm (vpFail s) σ' → post none σ') : VM (true, Gx) d iX7_fail 0 [some (.ref 58)] [] σ post := by
  obtain ⟨m1, m2, m3, m4, m5, m6, m7, m8⟩ := hM
  cases hf : vpF s with
  | none =>
    obtain ⟨g1, g2⟩ := m5 hf
    have e30 : σ.1 58 30 = 0 := m4.trans (vbad_0 hf)
    have ef : vpF (vpFail s) = some (vpP s) := by rw [vpFail_F, hf]
    refine VM.go [] ⟨fun q => absurd e30 q, fun _ => ⟨Or.inr rfl, ?_⟩⟩
    have hs : vagI vMp σ (vput (vput σ 58 30 1) 58 31 (σ.1 58 27)) := (vagI.rf.put rfl).put rfl
    refine h _ hs ⟨m1.ag hs, fun i hi => ?_, ?_, ?_, fun q => ?_, fun f q => ?_, vFT_fail s, vpl_fail m8⟩
    · rw [vput_ne (Or.inr (by omega)), vput_ne (Or.inr (by omega))]; exact m2 i hi
    · exact m3
    · rw [vbad_1 ef]; rfl
    · rw [ef] at q; cases q
    · rw [ef] at q; cases q
      exact g1
  | some f =>
    have e30 : σ.1 58 30 = 1 := m4.trans (vbad_1 hf)
    have ef : vpF (vpFail s) = some f := by rw [vpFail_F, hf]
    refine VM.go [] ⟨fun _ => ?_, fun q => absurd (show σ.1 58 30 = 0 from q) (by rw [e30]; decide)⟩
    exact h σ vagI.rf ⟨m1, m2, m3, by rw [vbad_1 ef]; exact e30, fun q => (by rw [ef] at q; cases q), fun g q => (by rw [ef] at q; cases q; exact m6 f hf), vFT_fail s, vpl_fail m8⟩
theorem vm_nextD (hl : vlive s) (hM : vMd b t op nm s σ) (h : ∀ σ', vagI vMp σ σ' → vMd b t op nm (vpAdv b s) σ' → post none σ') : VM (true, Gx) (d + 1) iX7_next 0 [some (.ref 58), none, none] [] σ post := by
  obtain ⟨m1, m2, m3, m4, m5, m6, m7, m8⟩ := hM
  have hf := vFT_none m7 hl
  obtain ⟨g1, g2⟩ := m5 hf
  have e25 : σ.1 58 25 = nI (vpN s) := by
    rcases g2 with q | q | q | ⟨c, q⟩ | q
    · exact absurd q.1 hl.1
    · exact q.2.2.2.2
    · exact q.2.2.2.2.2.2
    · exact q.2.2.2.2.2
    · exact absurd q.1 hl.2
  have efN : vpF (vpAdv b s) = none := by unfold vpAdv; rw [hf]
  refine vm_next hf m1 m8.1 e25 (fun s2 hs2 k27 kk kf => h s2 hs2 ⟨m1.ag hs2, fun i hi => (kf _ (by omega)).trans (m2 i hi), (kf 29 (by decide)).trans m3, ?_, fun _ => ⟨k27, kk⟩, fun f q => (by rw [efN] at q; cases q), vFT_adv b s, vpl_adv m8⟩)
  rw [kf 30 (by decide), m4, vbad_0 hf, vbad_0 efN]
theorem vsign_c {c : Nat} (h : vsign c = true) : c = 40 ∨ c = 41 ∨ c = 59 ∨ c = 43 ∨ c = 45 ∨ c = 42 ∨ c = 60 ∨ c = 61 := by simpa only [vsign, Bool.or_eq_true, vbq] using h
theorem vwtk_sm (i : Nat) : vwtk i = 2 ∨ (6 ≤ i ∧ i < 12 ∧ vwtk i = nI i) ∨ vwtk i = -1 := by
  unfold vwtk
  by_cases h : i < 6
  · rw [if_pos h]; exact Or.inl rfl
  · rw [if_neg h]
    by_cases h2 : i < 12
    · rw [if_pos h2]; exact Or.inr (Or.inl ⟨by omega, h2, rfl⟩)
    · rw [if_neg h2]; exact Or.inr (Or.inr rfl)
theorem vm_isSign {c : Nat} (hc : vsign c = true) (hM : vMd b t op nm s σ) (h1 : vpF s = none → vpT s = nI c → post (some (.int 1)) σ) (h0 : ¬ (vpF s = none ∧ vpT s = nI c) → post (some (.int 0)) σ) : VM (true, Gx) d iX7_isSign 0 [some (.ref 58), some (.int (nI c))] [] σ post := by
  obtain ⟨m1, m2, m3, m4, m5, m6, m7, m8⟩ := hM
  have hc8 := vsign_c hc
  have hc256 : c < 256 := by omega
  have big : 40 ≤ c := by omega
  cases hf : vpF s with
  | some f =>
    have e30 : σ.1 58 30 = 1 := m4.trans (vbad_1 hf)
    exact VM.go [] ⟨fun _ => ⟨Or.inl rfl, h0 (fun q => by rw [hf] at q; cases q.1)⟩, fun q => absurd (show σ.1 58 30 = 0 from q) (by rw [e30]; decide)⟩
  | none =>
    have e30 : σ.1 58 30 = 0 := m4.trans (vbad_0 hf)
    obtain ⟨g1, g2⟩ := m5 hf
    have no : ¬ vpT s = nI c → post (some (.int 0)) σ := fun q => h0 (fun z => q z.2)
    refine VM.go [] ⟨fun q => absurd e30 q, fun _ => ⟨fun q => ⟨Or.inl rfl, no (fun z => ?_)⟩, fun q => ⟨fun q2 => ⟨Or.inl rfl, no (fun z => ?_)⟩, fun q2 => ⟨Or.inr rfl, ?_⟩⟩⟩⟩
    · have q' : ¬ σ.1 58 26 = 3 := q
      rcases g2 with k | k | k | ⟨c', k⟩ | k
      · rw [k.1] at z
        have := (nI_eq (a := 0) (by decide) (by omega)).mp z; omega
      · rw [k.1] at z
        have := (nI_eq (a := 1) (by decide) (by omega)).mp z; omega
      · rw [k.2.2.2.1] at z
        rcases vwtk_sm (vwordIx ((b.drop (vpP s)).take (vpN s - vpP s))) with w | ⟨w1, w2, w⟩ | w
        · rw [w] at z
          have := (nI_eq (a := 2) (by decide) (by omega)).mp z; omega
        · rw [w] at z
          have := (nI_eq (by omega) (by omega)).mp z; omega
        · rw [w] at z
          exact absurd (show nI c < 0 by rw [← z]; decide) (nI_pos (by omega))
      · exact q' k.2.2.2.1
      · rw [k.1] at z
        exact absurd (show nI c < 0 by rw [← z]; decide) (nI_pos (by omega))
    · have q' : σ.1 58 26 = 3 := q
      rcases g2 with k | k | k | ⟨c', k1, k2, k3, k4, k5, k6⟩ | k
      · rw [k.2] at q'; exact absurd q' (by decide)
      · rw [k.2.2.1] at q'; exact absurd q' (by decide)
      · rw [k.2.2.2.2.2.1] at q'; exact absurd q' (by decide)
      · refine q2 (lgc_eq.mpr ?_)
        rw [k3, nI_eq (by omega) (by omega)] at z
        rw [k5, z, nI_l8 hc256]
      · rw [k.2] at q'; exact absurd q' (by decide)
    · have q' : σ.1 58 26 = 3 := q
      rcases g2 with k | k | k | ⟨c', k1, k2, k3, k4, k5, k6⟩ | k
      · rw [k.2] at q'; exact absurd q' (by decide)
      · rw [k.2.2.1] at q'; exact absurd q' (by decide)
      · rw [k.2.2.2.2.2.1] at q'; exact absurd q' (by decide)
      · have e := lgc_eq.mp q2
        rw [k5, nI_l8 hc256, pk_lEQ (by omega) (by omega)] at e
        exact h1 hf (by rw [k3, e])
      · rw [k.2] at q'; exact absurd q' (by decide)
/-- the letter i of the word at hand -/
theorem vm_isLetter {p n i a : Nat} (hi : i < 8) (ha : a < 256) (hX : vMx b t σ) (e27 : σ.1 58 27 = nI p) (e25 : σ.1 58 25 = nI n) (hn : n ≤ b.length) (h1 : ((b.drop p).take (n - p)).getD i 0 = a → post (some (.int 1)) σ) (h0 : ¬ ((b.drop p).take (n - p)).getD i 0 = a → post (some (.int 0)) σ) (hp : p ≤ n) : VM (true, Gx) (d + 1) iX7_isLetter 0 [some (.ref 58), some (.int (nI i)), some (.int (nI a))] [] σ post := by
  have h160 := hX.1
  have es : σ.1 58 27 + nI i = nI (p + i) := by rw [e27, nI_add]
  have hl : ((b.drop p).take (n - p)).length = n - p := by rw [List.length_take, List.length_drop]; omega
  by_cases hlt : p + i < n
  · have eb : b[p + i]? = some (b.getD (p + i) 0) := by rw [List.getD_eq_getElem?_getD, List.getElem?_eq_getElem (show p + i < b.length by omega)]; rfl
    have ew : ((b.drop p).take (n - p)).getD i 0 = b.getD (p + i) 0 := by
      rw [List.getD_eq_getElem?_getD, List.getElem?_take, if_pos (by omega), List.getElem?_drop, ← List.getD_eq_getElem?_getD]
    rw [ew] at h1 h0
    have hc256 := hX.lt eb
    have call : ∀ (post' : vQ), post' (some (.int (nI (b.getD (p + i) 0)))) σ → VM (true, Gx) d iX7_byteAt 0 [some (.ref 58), some (.int (σ.1 58 27 + nI i))] [] σ post' := fun post' hh => by
      rw [es]
      exact vm_byteAt (by omega) hX (by rw [eb]; exact hh)
    refine VM.go [] ⟨fun q => absurd q ?_, fun _ => ⟨_, VM.at (call _ ?_), fun _ _ hh => hh⟩⟩
    · rw [es, e25]; exact nI_ge hlt (by omega)
    · refine ⟨fun q => ⟨Or.inl rfl, h0 (fun z => q (by rw [z]))⟩, fun q => ⟨Or.inr rfl, h1 ((nI_eq (by omega) (by omega)).mp q)⟩⟩
  · have ew : ((b.drop p).take (n - p)).getD i 0 = 0 := by
      rw [List.getD_eq_getElem?_getD, List.getElem?_eq_none (by rw [hl]; omega)]; rfl
    rw [ew] at h1 h0
    refine VM.go [] ⟨fun _ => ⟨fun q => ⟨Or.inl rfl, h0 (fun z => q (by rw [← z]; rfl))⟩, fun q => ⟨Or.inr rfl, h1 ((nI_eq (a := 0) (by decide) (by omega)).mp (show nI 0 = nI a from Eq.symm q))⟩⟩, fun q => absurd ?_ q⟩
    rw [es, e25]; exact nI_le (by omega) (by omega)
theorem vm_isWord {j : Nat} (hj : j < 12) (hM : vMd b t op nm s σ) (h1 : vpF s = none → vkt j s → post (some (.int 1)) σ) (h0 : ¬ (vpF s = none ∧ vkt j s) → post (some (.int 0)) σ) : VM (true, Gx) (d + 2) iX7_isWord 0 [some (.ref 58), some (.int (nI (vwl j 0))), some (.int (nI (vwl j 1))), some (.int (nI (vwl j 2))), some (.int (nI (vwl j 3))), some (.int (nI (vwl j 4))), some (.int (nI (vwl j 5))), some (.int (nI (vwl j 6))), some (.int (nI (vwl j 7)))] [] σ post := by
  obtain ⟨m1, m2, m3, m4, m5, m6, m7, m8⟩ := hM
  have h160 := m1.1
  obtain ⟨j1, j2, j3, j4⟩ := vwrd_ix j hj
  cases hf : vpF s with
  | some f =>
    have e30 : σ.1 58 30 = 1 := m4.trans (vbad_1 hf)
    exact VM.go [] ⟨fun _ => ⟨Or.inl rfl, h0 (fun q => by rw [hf] at q; cases q.1)⟩, fun q => absurd (show σ.1 58 30 = 0 from q) (by rw [e30]; decide)⟩
  | none =>
    have e30 : σ.1 58 30 = 0 := m4.trans (vbad_0 hf)
    obtain ⟨g1, g2⟩ := m5 hf
    have no : ¬ vkt j s → post (some (.int 0)) σ := fun q => h0 (fun z => q z.2)
    have tk : ∀ x : Int32, vpT s = x → (x = 0 ∨ x = 1 ∨ x = -1 ∨ ∃ c : Nat, 40 ≤ c ∧ c < 256 ∧ x = nI c) → ¬ vkt j s := fun x e hx z => by
      unfold vkt at z
      rw [e] at z
      have big : ∀ c : Nat, c < 256 → x = nI c → (c = 0 ∨ c = 1 ∨ 40 ≤ c) → False := fun c hc ec h => by
        rw [ec] at z
        by_cases h6 : j < 6
        · rw [if_pos h6] at z
          have := (nI_eq (b := 2) (by omega) (by decide)).mp z.1; omega
        · rw [if_neg h6] at z
          have := (nI_eq (by omega) (by omega)).mp z; omega
      rcases hx with q | q | q | ⟨c, q1, q2, q3⟩
      · exact big 0 (by decide) q (Or.inl rfl)
      · exact big 1 (by decide) q (Or.inr (Or.inl rfl))
      · by_cases h6 : j < 6
        · rw [if_pos h6, q] at z; exact absurd z.1 (by decide)
        · rw [if_neg h6, q] at z
          exact absurd (show nI j < 0 by rw [← z]; decide) (nI_pos (by omega))
      · exact big c q2 q3 (Or.inr (Or.inr q1))
    by_cases hw : σ.1 58 26 = 1
    · obtain ⟨k1, k2, k3, k4, k5, k6, k7⟩ : vpP s < vpN s ∧ vpN s ≤ b.length ∧ (∀ x ∈ (b.drop (vpP s)).take (vpN s - vpP s), vletter x = true) ∧ vpT s = vwtk (vwordIx ((b.drop (vpP s)).take (vpN s - vpP s))) ∧ vpV s = vwordIx ((b.drop (vpP s)).take (vpN s - vpP s)) ∧ σ.1 58 26 = 1 ∧ σ.1 58 25 = nI (vpN s) := by
        rcases g2 with k | k | k | ⟨c', k⟩ | k
        · rw [k.2] at hw; exact absurd hw (by decide)
        · rw [k.2.2.1] at hw; exact absurd hw (by decide)
        · exact k
        · rw [k.2.2.2.1] at hw; exact absurd hw (by decide)
        · rw [k.2] at hw; exact absurd hw (by decide)
      obtain ⟨w, hwd⟩ : ∃ w, w = (b.drop (vpP s)).take (vpN s - vpP s) := ⟨_, rfl⟩
      rw [← hwd] at k3 k4 k5
      have hwl : w.length = vpN s - vpP s := by rw [hwd, List.length_take, List.length_drop]; omega
      have iff0 : vkt j s ↔ w = vwrd j := (vkt_ix hj k4 k5).trans (vwix_iff hj)
      have esum : σ.1 58 27 + 8 = nI (vpP s + 8) := by rw [g1]; exact nI_add _ 8
      by_cases h8 : vpN s ≤ vpP s + 8
      · have iff1 : (∀ i, i < 8 → w.getD i 0 = vwl j i) ↔ vkt j s := (vword_of hj k3 (by omega)).trans iff0.symm
        have L : ∀ i, i < 8 → ∀ (post' : vQ), (w.getD i 0 = vwl j i → post' (some (.int 1)) σ) → (¬ w.getD i 0 = vwl j i → post' (some (.int 0)) σ) → VM (true, Gx) (d + 1) iX7_isLetter 0 [some (.ref 58), some (.int (nI i)), some (.int (nI (vwl j i)))] [] σ post' := fun i hi post' q1 q0 => by
          rw [hwd] at q1 q0
          exact vm_isLetter hi (j4 i hi) m1 g1 k7 k2 q1 q0 (by omega)
        have nog : ∀ i, i < 8 → ¬ w.getD i 0 = vwl j i → post (some (.int 0)) σ := fun i hi q => no (fun z => q (iff1.mpr z i hi))
        refine VM.go [] ⟨fun q => absurd e30 q, fun _ => ⟨fun q => absurd hw q, fun _ => ⟨fun q => absurd q ?_, fun _ => ?_⟩⟩⟩
        · rw [k7, esum]
          exact Int32.not_lt.mpr (nI_le h8 (by omega))
        refine ⟨_, VM.at (L 0 (by decide) _ (fun z0 => ?_) (fun z => ?_)), fun _ _ hh => hh⟩
        · refine ⟨fun q => absurd q (by decide), fun _ => ⟨_, VM.at (L 1 (by decide) _ (fun z1 => ?_) (fun z => ?_)), fun _ _ hh => hh⟩⟩
          · refine ⟨fun q => absurd q (by decide), fun _ => ⟨_, VM.at (L 2 (by decide) _ (fun z2 => ?_) (fun z => ?_)), fun _ _ hh => hh⟩⟩
            · refine ⟨fun q => absurd q (by decide), fun _ => ⟨_, VM.at (L 3 (by decide) _ (fun z3 => ?_) (fun z => ?_)), fun _ _ hh => hh⟩⟩
              · refine ⟨fun q => absurd q (by decide), fun _ => ⟨_, VM.at (L 4 (by decide) _ (fun z4 => ?_) (fun z => ?_)), fun _ _ hh => hh⟩⟩
                · refine ⟨fun q => absurd q (by decide), fun _ => ⟨_, VM.at (L 5 (by decide) _ (fun z5 => ?_) (fun z => ?_)), fun _ _ hh => hh⟩⟩
                  · refine ⟨fun q => absurd q (by decide), fun _ => ⟨_, VM.at (L 6 (by decide) _ (fun z6 => ?_) (fun z => ?_)), fun _ _ hh => hh⟩⟩
                    · refine ⟨fun q => absurd q (by decide), fun _ => ⟨_, VM.at (L 7 (by decide) _ (fun z7 => ?_) (fun z => ?_)), fun _ _ hh => hh⟩⟩
                      · refine ⟨fun q => absurd q (by decide), fun _ => ⟨Or.inr rfl, h1 hf (iff1.mp (fun i hi => ?_))⟩⟩
                        rcases (show i = 0 ∨ i = 1 ∨ i = 2 ∨ i = 3 ∨ i = 4 ∨ i = 5 ∨ i = 6 ∨ i = 7 by omega) with rfl | rfl | rfl | rfl | rfl | rfl | rfl | rfl
                        · exact z0
                        · exact z1
                        · exact z2
                        · exact z3
                        · exact z4
                        · exact z5
                        · exact z6
                        · exact z7
                      · exact ⟨fun _ => ⟨Or.inl rfl, nog 7 (by decide) z⟩, fun q => absurd rfl q⟩
                    · exact ⟨fun _ => ⟨Or.inl rfl, nog 6 (by decide) z⟩, fun q => absurd rfl q⟩
                  · exact ⟨fun _ => ⟨Or.inl rfl, nog 5 (by decide) z⟩, fun q => absurd rfl q⟩
                · exact ⟨fun _ => ⟨Or.inl rfl, nog 4 (by decide) z⟩, fun q => absurd rfl q⟩
              · exact ⟨fun _ => ⟨Or.inl rfl, nog 3 (by decide) z⟩, fun q => absurd rfl q⟩
            · exact ⟨fun _ => ⟨Or.inl rfl, nog 2 (by decide) z⟩, fun q => absurd rfl q⟩
          · exact ⟨fun _ => ⟨Or.inl rfl, nog 1 (by decide) z⟩, fun q => absurd rfl q⟩
        · exact ⟨fun _ => ⟨Or.inl rfl, nog 0 (by decide) z⟩, fun q => absurd rfl q⟩
      · have hno : ¬ vkt j s := fun z => by
          have := iff0.mp z
          rw [this] at hwl
          omega
        refine VM.go [] ⟨fun q => absurd e30 q, fun _ => ⟨fun q => absurd hw q, fun _ => ⟨fun _ => ⟨Or.inl rfl, no hno⟩, fun q => absurd ?_ q⟩⟩⟩
        rw [k7, esum]
        exact nI_lt (by omega) (by have := m8.1; omega)
    · refine VM.go [] ⟨fun q => absurd e30 q, fun _ => ⟨fun _ => ⟨Or.inl rfl, no ?_⟩, fun q => absurd q hw⟩⟩
      rcases g2 with k | k | k | ⟨c', k⟩ | k
      · exact tk _ k.1 (Or.inl rfl)
      · exact tk _ k.1 (Or.inr (Or.inl rfl))
      · exact absurd k.2.2.2.2.2.1 hw
      · have := vsign_c k.2.1
        exact tk _ k.2.2.1 (Or.inr (Or.inr (Or.inr ⟨c', by omega, k.1, rfl⟩)))
      · exact tk _ k.1 (Or.inr (Or.inr (Or.inl rfl)))
end RK
