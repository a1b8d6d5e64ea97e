/-! ===== the class's Bill: what one owes for a light ===== -/
/-- T tells by its names' values alone; the night is none of them, if nn is 0 -/
def vTok (T : Nat → (Nat → Int32) → Int32) (nn : Nat) : Prop := ∀ (p : Nat) (nm nm' : Nat → Int32), (∀ i, i < 6 → (nn = 0 → i ≠ 3) → nm i = nm' i) → T p nm = T p nm'
def vStk (a _k : Nat) : Bool := Nat.beq a 46
/-- the rule at cell r tells T -/
def vTl (G : vG) (d r : Nat) (T : Nat → (Nat → Int32) → Int32) (σ : vM) : Prop := ∀ (σ' : vM) (p : Nat) (post : vQ), p < 3 → vag vSc σ σ' → (∀ σ'', vag vStk σ' σ'' → post (some (.int (T p (σ'.1 45)))) σ'') → VM G d iX4_tell 0 [some (.ref r), some (.int (nI p)), some (.ref 45), some (.ref 46), none, none, none] [] σ' post
theorem vStk_Sc (a k : Nat) (h : vSc a k = false) : vStk a k = false := by
  unfold vSc at h
  unfold vStk
  cases hb : Nat.beq a 46 with
  | false => rfl
  | true => rw [hb, Bool.or_true] at h; cases h
theorem vmax0 {a b : Nat} (ha : a < 2 ^ 30) (hb : b < 2 ^ 30) : (if nI a - nI b < 0 then (0 : Int32) else nI a - nI b) = nI (a - b) := by
  by_cases h : a < b
  · rw [if_pos (pk_sneg hb h), show a - b = 0 by omega]; rfl
  · rw [pk_sub (by omega), if_neg (nI_pos (by omega))]
section BM
variable {G : vG} {d : Nat} {σ : vM} {post : vQ} {c n r : Nat} {kd nu ye se : Nat → Nat}
theorem vb_giveNames {l : Nat} (hl : l < 6) (hw : vBw c n r kd nu ye se) (hB : vBl c n r kd nu ye se σ) (h : ∀ σ', vag vSc σ σ' → (∀ i, i < 6 → σ'.1 45 i = vnames c nu ye se n l 0 i) → post (some (.int (nI (vpop (vmask (se l) c))))) σ') : VM G (d + 1) iX0_giveNames 0 [some (.ref 40), some (.int (nI l)), none] [] σ post := by
  obtain ⟨h1, h2, h3, h4, h5, h6, h7⟩ := id hB
  obtain ⟨w1, w2, w3, w4, w5, w6, w7⟩ := id hw
  refine VM.go [] ⟨l, rfl, hl, _, VM.at (vb_bitCount ?_), fun _ _ hh => hh⟩
  rw [h7 l hl, h1, nI_mask (w7 l hl) w1, vbc (vmask_lt (w7 l hl))]
  refine ⟨l, rfl, hl, nofun, 0, rfl, by decide, nofun, 1, rfl, by decide, l, rfl, hl, nofun, 2, rfl, by decide, nofun, 3, rfl, by decide, _, VM.at (vb_bitCount ?_), fun _ _ hh => hh⟩
  refine ⟨nofun, 4, rfl, by decide, _, VM.at (vb_lightsSeen hw (hB.ag ?_) ?_), fun _ _ hh => hh⟩
  · exact ((((vag.rf.put rfl).put rfl).put rfl).put rfl).put rfl
  · refine ⟨nofun, 5, rfl, by decide, ?_⟩
    refine h _ ((((((vag.rf.put rfl).put rfl).put rfl).put rfl).put rfl).put rfl) (fun i hi => ?_)
    rcases (show i = 0 ∨ i = 1 ∨ i = 2 ∨ i = 3 ∨ i = 4 ∨ i = 5 by omega) with rfl | rfl | rfl | rfl | rfl | rfl
    · exact h6 l hl
    · rfl
    · exact h5 l hl
    · rfl
    · show vbcF (σ.1 40 0) = nI (vpop c)
      rw [h1, vbc w1]
    · rfl
theorem vnames_3 {σ1 : vM} {l t : Nat} (hn : ∀ i, i < 6 → i ≠ 3 → σ1.1 45 i = vnames c nu ye se n l 0 i) (i : Nat) (hi : i < 6) : (vput σ1 45 3 (nI t)).1 45 i = vnames c nu ye se n l t i := by
  rcases (show i = 0 ∨ i = 1 ∨ i = 2 ∨ i = 3 ∨ i = 4 ∨ i = 5 by omega) with rfl | rfl | rfl | rfl | rfl | rfl
  · exact hn 0 hi (by decide)
  · exact hn 1 hi (by decide)
  · exact hn 2 hi (by decide)
  · rfl
  · exact hn 4 hi (by decide)
  · exact hn 5 hi (by decide)
def vRc (r : Nat) : Prop := r = 20 ∨ r = 23 ∨ r = 26 ∨ r = 29 ∨ r = 32 ∨ r = 35
theorem vb_dueFor {l t : Nat} {nn : Nat} {T : Nat → (Nat → Int32) → Int32} (hT : vTok T nn) (hr : vRc r) (hl : l < 6) (ht : t < 12) (hw : vBw c n r kd nu ye se) (hB : vBl c n r kd nu ye se σ) (hrule : vTl G (d + 1) r T σ)
    (h : ∀ σ', vag vSc σ σ' → post (some (.int (nI (vdueS (kd l) (nu l) (ye l) (vpop (vmask (se l) c)) (vcl (T 0 (vnames c nu ye se n l t)) 99))))) σ') : VM G (d + 2) iX0_dueFor 0 [some (.ref 40), some (.int (nI l)), some (.int (nI t)), none] [] σ post := by
  refine VM.go [] ⟨fun c1 => absurd c1 (nI_pos (by omega)), fun _ => ⟨fun _ => ?_, fun c2 => absurd ?_ c2⟩⟩
  · refine ⟨_, VM.at (vb_giveNames hl hw hB (fun σ1 hs1 hn1 => ?_)), fun _ _ hh => hh⟩
    have e3 : (vput σ1 45 3 (nI t)).1 40 1 = nI r := by rw [vput_ne (Or.inl (by decide))]; exact (hB.ag hs1).2.2.1
    rcases hr with rfl | rfl | rfl | rfl | rfl | rfl
    all_goals
      refine ⟨nofun, 3, rfl, by decide, _, e3, by decide, _, VM.at (hrule _ 0 _ (by decide) (hs1.put rfl) (fun σ2 hs2 => ?_)), fun _ _ hh => hh⟩
      have hs3 := (hs1.put (a := 45) (k := 3) (v := nI t) rfl).tr (hs2.up vStk_Sc)
      refine ⟨_, VM.at (vb_due hl (vpop_le _) hw (hB.ag hs3) (by
        rw [show T 0 ((vput σ1 45 3 (nI t)).1 45) = T 0 (vnames c nu ye se n l t) from hT 0 _ _ (fun i hi _ => vnames_3 (fun i hi _ => hn1 i hi) i hi)]
        exact h σ2 hs3)), fun _ _ hh => hh⟩
  · rw [show (6 : Int32) = nI 6 from rfl, nIlt (by omega) (by decide)]; exact hl
/-- the due for night t -/
def vdt (T : Nat → (Nat → Int32) → Int32) (c n : Nat) (kd nu ye se : Nat → Nat) (l t : Nat) : Nat := vdueS (kd l) (nu l) (ye l) (vpop (vmask (se l) c)) (vcl (T 0 (vnames c nu ye se n l t)) 99)
/-- the sum of the dues for the nights ahead of t -/
def vdues (T : Nat → (Nat → Int32) → Int32) (c n : Nat) (kd nu ye se : Nat → Nat) (l t : Nat) : Nat := vsumN t (fun t => if vnight (vmask (se l) c) t then vdt T c n kd nu ye se l t else 0)
theorem vdueS_le (a b c e f : Nat) : vdueS a b c e f ≤ 999 := by
  unfold vdueS
  split <;> first | omega | (split <;> omega)
theorem vdues_le {T : Nat → (Nat → Int32) → Int32} {l t : Nat} : vdues T c n kd nu ye se l t ≤ t * 999 := vsumN_le (fun i _ => by split; exact vdueS_le _ _ _ _ _; omega)
theorem voffS_le (a b c : Nat) : voffS a b c ≤ 999 := by unfold voffS; split <;> omega
theorem vextraS_le (a b c : Nat) : vextraS a b c ≤ 999 := by unfold vextraS; split <;> omega
theorem vdt_same {T : Nat → (Nat → Int32) → Int32} {l t t' : Nat} (hT : vTok T 0) : vdt T c n kd nu ye se l t = vdt T c n kd nu ye se l t' := by
  unfold vdt
  rw [hT 0 (vnames c nu ye se n l t) (vnames c nu ye se n l t') (fun i hi hne => by
    have := hne rfl
    rcases (show i = 0 ∨ i = 1 ∨ i = 2 ∨ i = 4 ∨ i = 5 by omega) with rfl | rfl | rfl | rfl | rfl <;> rfl)]
theorem vowes_eq {T : Nat → (Nat → Int32) → Int32} {l : Nat} (hm : ¬ vmask (se l) c = 0) : vowes T c n kd nu ye se l = vdues T c n kd nu ye se l 12 + (if 2 < vpop (vmask (se l) c) then vextraS (kd l) (vpop (vmask (se l) c)) (vcl (T 2 (vnames c nu ye se n l 0)) 99) else 0) - voffS (kd l) (nu l) (vcl (T 1 (vnames c nu ye se n l 0)) 99) := by
  unfold vowes
  dsimp only
  rw [if_neg hm]
  rfl
/-- a told value of the rule, the names laid out -/
theorem vTl_at {l p t nn : Nat} {T : Nat → (Nat → Int32) → Int32} (hT : vTok T nn) {d' : Nat} (hrule : vTl G d' r T σ) {s2 : vM} {post : vQ} (hp : p < 3) (hs2 : vag vSc σ s2) (hn2 : ∀ i, i < 6 → s2.1 45 i = vnames c nu ye se n l t i) (h : ∀ σ'', vag vSc σ σ'' → (∀ i, i < 6 → σ''.1 45 i = vnames c nu ye se n l t i) → post (some (.int (T p (vnames c nu ye se n l t)))) σ'') : VM G d' iX4_tell 0 [some (.ref r), some (.int (nI p)), some (.ref 45), some (.ref 46), none, none, none] [] s2 post := by
  refine hrule s2 p post hp hs2 (fun s3 hs3 => ?_)
  rw [hT p (s2.1 45) (vnames c nu ye se n l t) (fun i hi _ => hn2 i hi)]
  exact h s3 (hs2.tr (hs3.up vStk_Sc)) (fun i hi => by rw [hs3.get rfl]; exact hn2 i hi)
set_option maxHeartbeats 4000000 in
theorem vb_owed {l : Nat} {nn : Nat} {T : Nat → (Nat → Int32) → Int32} (hT : vTok T nn) (hnn : nn ≤ 1) (hnr : σ.1 r 0 = nI nn) (hr : vRc r) (hl : l < 6) (hw : vBw c n r kd nu ye se) (hB : vBl c n r kd nu ye se σ) (hrule : vTl G (d + 1) r T σ)
    (h : ∀ σ', vag vSc σ σ' → post (some (.int (nI (vowes T c n kd nu ye se l)))) σ') : VM G (d + 2) iX0_owed 0 [some (.ref 40), some (.int (nI l)), none, none, none, none, none] [] σ post := by
  obtain ⟨h1, h2, h3, h4, h5, h6, h7⟩ := id hB
  obtain ⟨w1, w2, w3, w4, w5, w6, w7⟩ := id hw
  have hm := vmask_lt (c := c) (w7 l hl)
  refine VM.go [26] ⟨fun c1 => absurd c1 (nI_pos (by omega)), fun _ => ⟨fun _ => ⟨l, rfl, hl, ?_⟩, fun c2 => absurd ?_ c2⟩⟩
  · show VM G (d + 2) iX0_owed 26 _ _ _ _
    rw [h7 l hl, h1, nI_mask (w7 l hl) w1]
    generalize hme : vmask (se l) c = m at hm
    have hpop := vpop_le m
    have hoff := voffS_le (kd l) (nu l) (vcl (T 1 (vnames c nu ye se n l 0)) 99)
    have hext := vextraS_le (kd l) (vpop m) (vcl (T 2 (vnames c nu ye se n l 0)) 99)
    have hdues := vdues_le (T := T) (c := c) (n := n) (kd := kd) (nu := nu) (ye := ye) (se := se) (l := l) (t := 12)
    refine VM.go [47] ⟨fun c2 => ?_, fun c2 => ?_⟩
    · have hm0 : ¬ m = 0 := fun e => c2 (by rw [e]; rfl)
      refine ⟨_, VM.at (vb_giveNames hl hw hB (fun σ1 hs1 hn1 => ?_)), fun _ _ hh => hh⟩
      show VM G (d + 2) iX0_owed 47 [some (.ref 40), some (.int (nI l)), some (.int (nI m)), some (.int (nI (vpop (vmask (se l) c)))), some (.int 0), some (.int (-1)), some (.int 0)] [] σ1 post
      rw [hme]
      have e3 : ∀ {s2 : vM}, vag vSc σ s2 → s2.1 40 1 = nI r := fun hs2 => (hB.ag hs2).2.2.1
      -- the last part
      have last : ∀ (s2 : vM) (x : Int32) (b : Nat), b < 2 ^ 20 → vag vSc σ s2 → (∀ i, i < 6 → s2.1 45 i = vnames c nu ye se n l 0 i) → b - voffS (kd l) (nu l) (vcl (T 1 (vnames c nu ye se n l 0)) 99) = vowes T c n kd nu ye se l → VM G (d + 2) iX0_owed 164 [some (.ref 40), some (.int (nI l)), some (.int (nI m)), some (.int (nI (vpop m))), some (.int (nI b)), some (.int x), some (.int 12)] [] s2 post := by
        intro s2 x b hb hs2 hn2 he
        rcases hr with rfl | rfl | rfl | rfl | rfl | rfl
        all_goals
          refine VM.go [] ⟨_, e3 hs2, by decide, _, VM.at (vTl_at (p := 1) hT hrule (by decide) hs2 hn2 (fun s3 hs3 _ => ?_)), fun _ _ hh => hh⟩
          refine ⟨_, VM.at (vb_off hl hw (hB.ag hs3) ?_), fun _ _ hh => hh⟩
          have e := vmax0 (a := b) (b := voffS (kd l) (nu l) (vcl (T 1 (vnames c nu ye se n l 0)) 99)) (by omega) (by omega)
          rw [he] at e
          have := h s3 hs3
          rw [← e] at this
          exact this
      -- behind the loop
      have tail : ∀ (s2 : vM) (dv : Int32), vag vSc σ s2 → (∀ i, i < 6 → i ≠ 3 → s2.1 45 i = vnames c nu ye se n l 0 i) → VM G (d + 2) iX0_owed 47 [some (.ref 40), some (.int (nI l)), some (.int (nI m)), some (.int (nI (vpop m))), some (.int (nI (vdues T c n kd nu ye se l 12))), some (.int dv), some (.int 12)] [] s2 post := by
        intro s2 dv hs2 hn2
        have hs3 : vag vSc σ (vput s2 45 3 0) := hs2.put rfl
        have hn3 := vnames_3 (t := 0) hn2
        have hq := vowes_eq (T := T) (c := c) (n := n) (kd := kd) (nu := nu) (ye := ye) (se := se) (l := l) (by rw [hme]; exact hm0)
        rw [hme] at hq
        refine VM.go [137, 164] ⟨fun _ => ⟨nofun, 3, rfl, by decide, fun c4 => ?_, fun c4 => ?_⟩, fun c3 => absurd (by decide) c3⟩
        · show VM G (d + 2) iX0_owed 164 _ _ _ _
          rw [show (2 : Int32) = nI 2 from rfl, nIle (by omega) (by decide)] at c4
          rw [if_neg (by omega)] at hq
          exact last _ _ _ (by omega) hs3 hn3 hq.symm
        · rw [show (2 : Int32) = nI 2 from rfl, nIle (by omega) (by decide)] at c4
          rw [if_pos (by omega)] at hq
          show VM G (d + 2) iX0_owed 137 _ _ _ _
          have last' := last
          rcases hr with rfl | rfl | rfl | rfl | rfl | rfl
          all_goals
            refine VM.go [164] ⟨_, e3 hs3, by decide, _, VM.at (vTl_at (p := 2) hT hrule (by decide) hs3 hn3 (fun s4 hs4 hn4 => ?_)), fun _ _ hh => hh⟩
            refine ⟨_, VM.at (vb_extra hl hpop hw (hB.ag hs4) ?_), fun _ _ hh => hh⟩
            show VM G (d + 2) iX0_owed 164 [some (.ref 40), some (.int (nI l)), some (.int (nI m)), some (.int (nI (vpop m))), some (.int (nI (vdues T c n kd nu ye se l 12) + nI (vextraS (kd l) (vpop m) (vcl (T 2 (vnames c nu ye se n l 0)) 99)))), some (.int dv), some (.int 12)] [] s4 post
            rw [nI_add]
            exact last' _ _ _ (by omega) hs4 hn4 hq.symm
      have key : ∀ t, t ≤ 12 → ∀ (s2 : vM) (dv : Int32), vag vSc σ s2 → (∀ i, i < 6 → i ≠ 3 → s2.1 45 i = vnames c nu ye se n l 0 i) → (dv = -1 ∨ (nn = 0 → ∀ t, dv = nI (vdt T c n kd nu ye se l t))) →
          VM G (d + 2) iX0_owed 47 [some (.ref 40), some (.int (nI l)), some (.int (nI m)), some (.int (nI (vpop m))), some (.int (nI (vdues T c n kd nu ye se l t))), some (.int dv), some (.int (nI t))] [] s2 post := by
        refine vloop _ (fun s2 dv a b _ => tail s2 dv a b) ?_
        intro t ht ih s2 dv hs2 hn2 hdv
        have hnight := nI_night (m := m) (t := t) hm (by omega)
        have step : ∀ (s3 : vM), vag vSc σ s3 → (∀ i, i < 6 → i ≠ 3 → s3.1 45 i = vnames c nu ye se n l 0 i) → vnight m t → VM G (d + 2) iX0_owed 112 [some (.ref 40), some (.int (nI l)), some (.int (nI m)), some (.int (nI (vpop m))), some (.int (nI (vdues T c n kd nu ye se l t))), some (.int (nI (vdt T c n kd nu ye se l t))), some (.int (nI t))] [] s3 post := by
          intro s3 hs3 hn3 hnt
          refine VM.go [47] ?_
          have := ih s3 (nI (vdt T c n kd nu ye se l t)) hs3 hn3 (Or.inr (fun h0 t' => by subst h0; rw [vdt_same hT]))
          rw [show vdues T c n kd nu ye se l (t + 1) = vdues T c n kd nu ye se l t + vdt T c n kd nu ye se l t from by
            show vdues T c n kd nu ye se l t + (if vnight (vmask (se l) c) t then _ else 0) = _
            rw [if_pos (by rw [hme]; exact hnt)], ← nI_add, ← nI_1] at this
          exact this
        have due : ∀ (s3 : vM) (dv : Int32), vag vSc σ s3 → (∀ i, i < 6 → i ≠ 3 → s3.1 45 i = vnames c nu ye se n l 0 i) → vnight m t → VM G (d + 2) iX0_owed 80 [some (.ref 40), some (.int (nI l)), some (.int (nI m)), some (.int (nI (vpop m))), some (.int (nI (vdues T c n kd nu ye se l t))), some (.int dv), some (.int (nI t))] [] s3 post := by
          intro s3 dv hs3 hn3 hnt
          have hs4 : vag vSc σ (vput s3 45 3 (nI t)) := hs3.put rfl
          have hn4 := vnames_3 (t := t) hn3
          have step' := step
          rcases hr with rfl | rfl | rfl | rfl | rfl | rfl
          all_goals
            refine VM.go [112] ⟨nofun, 3, rfl, by decide, _, e3 hs4, by decide, _, VM.at (vTl_at (p := 0) hT hrule (by decide) hs4 hn4 (fun s5 hs5 hn5 => ?_)), fun _ _ hh => hh⟩
            refine ⟨_, VM.at (vb_due hl hpop hw (hB.ag hs5) ?_), fun _ _ hh => hh⟩
            have := step' s5 hs5 (fun i hi h3 => by
              rw [hn5 i hi]
              rcases (show i = 0 ∨ i = 1 ∨ i = 2 ∨ i = 4 ∨ i = 5 by omega) with rfl | rfl | rfl | rfl | rfl <;> rfl) hnt
            unfold vdt at this
            rw [hme] at this
            exact this
        refine VM.go [47, 64] ⟨fun c3 => absurd c3 (by rw [show (12 : Int32) = nI 12 from rfl, nIle (by omega) (by omega)]; omega), fun _ => ⟨fun c4 => ?_, fun c4 => ?_⟩⟩
        · rw [hnight] at c4
          have hnt : ¬ vnight m t := fun q => c4 (by rw [show m / 2 ^ t % 2 = 1 from q]; rfl)
          have := ih s2 dv hs2 hn2 hdv
          rw [show vdues T c n kd nu ye se l (t + 1) = vdues T c n kd nu ye se l t from by
            show vdues T c n kd nu ye se l t + (if vnight (vmask (se l) c) t then _ else 0) = _
            rw [if_neg (by rw [hme]; exact hnt)]; rfl, ← nI_1] at this
          exact this
        · rw [hnight, show (1 : Int32) = nI 1 from rfl, nI_eq (by omega) (by decide)] at c4
          show VM G (d + 2) iX0_owed 64 _ _ _ _
          have due' := due
          have step' := step
          rcases hr with rfl | rfl | rfl | rfl | rfl | rfl
          all_goals
            refine VM.go [80, 112] ⟨fun c5 => due' s2 dv hs2 hn2 c4, fun c5 => ⟨_, e3 hs2, by decide, fun c6 => ?_, fun c6 => due' s2 dv hs2 hn2 c4⟩⟩
            have hn0 : nn = 0 := by
              have e6 : σ.1 _ 0 = 0 := (hs2.get rfl).symm.trans c6
              rw [hnr, show (0 : Int32) = nI 0 from rfl, nI_eq (by omega) (by decide)] at e6
              exact e6
            rcases hdv with e | e
            · exact absurd e c5
            · have := step' s2 hs2 hn2 c4
              rw [← e hn0 t] at this
              exact this
      exact key 0 (Nat.zero_le _) σ1 (-1) hs1 (fun i hi _ => hn1 i hi) (Or.inl rfl)
    · have hm0 : m = 0 := by
        rw [show (0 : Int32) = nI 0 from rfl, nI_eq (by omega) (by decide)] at c2
        exact c2
      have hh := h σ vag.rf
      have e : vowes T c n kd nu ye se l = 0 := by unfold vowes; dsimp only; rw [hme, if_pos hm0]
      rw [e] at hh
      exact hh
  · rw [show (6 : Int32) = nI 6 from rfl, nIlt (by omega) (by decide)]; exact hl
end BM
