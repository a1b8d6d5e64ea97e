/-! ===== the class's Rule: its code run on a stack ===== -/
def vjoin (t a b : Int32) : Int32 :=
  if t = 9 then (if a = 0 ∧ b = 0 then 0 else 1) else if t = 10 then (if a = 0 ∨ b = 0 then 0 else 1) else if t = 60 then (if a < b then 1 else 0) else if t = 61 then (if a = b then 1 else 0) else if t = 43 then a + b else if t = 45 then a - b else a * b
def vstep1 (nm : Nat → Int32) (c : Int32) (st : List Int32) : Option (List Int32) :=
  if -6 ≤ c then (if st.length < 40 then some ((if c < 0 then nm (-1 - c).toNatClampNeg else c) :: st) else none)
  else if c = -11 ∨ c = -12 then (match st with
    | x :: r => some ((if c = -12 then -x else if x = 0 then 1 else 0) :: r)
    | [] => none)
  else (match st with
    | y :: x :: r => some (vjoin (-c) x y :: r)
    | _ => none)
def vrunC (nm : Nat → Int32) : List Int32 → List Int32 → Option (List Int32)
  | [], st => some st
  | c :: l, st => match vstep1 nm c st with
    | some st' => vrunC nm l st'
    | none => none
def vTof (cs : Nat → List Int32) (p : Nat) (nm : Nat → Int32) : Int32 := match vrunC nm (cs p) [] with
  | some (x :: _) => x
  | _ => 0
/-- where part p of the code ends -/
def vend (cs : Nat → List Int32) : Nat → Nat
  | 0 => (cs 0).length
  | p + 1 => vend cs p + (cs (p + 1)).length
def vbeg (cs : Nat → List Int32) (p : Nat) : Nat := match p with
  | 0 => 0
  | p + 1 => vend cs p
/-- the rule at cell r holds the code cs -/
def vRu (r : Nat) (cs : Nat → List Int32) (σ : vM) : Prop := vend cs 2 ≤ 160 ∧ (∀ p, p < 3 → σ.1 (r + 2) p = nI (vend cs p)) ∧ ∀ p, p < 3 → ∀ k, k < (cs p).length → σ.1 (r + 1) (vbeg cs p + k) = (cs p).getD k 0
/-- every part tells a number -/
def vWf (cs : Nat → List Int32) : Prop := ∀ p, p < 3 → ∀ nm, ∃ x, vrunC nm (cs p) [] = some [x]
section TL
variable {G : vG} {d : Nat} {σ : vM} {post : vQ}
theorem vb_joined {t a b : Int32} (h : post (some (.int (vjoin t a b))) σ) : VM G d iX4_joined 0 [some (.int t), some (.int a), some (.int b)] [] σ post := by
  unfold vjoin at h
  refine VM.go [60, 74, 88, 99, 110, 114, 118] ⟨fun e => ?_, fun e => ⟨fun e1 => ?_, fun e1 => ⟨fun e2 => ?_, fun e2 => ⟨fun e3 => ?_, fun e3 => ⟨fun e4 => ?_, fun e4 => ⟨fun e5 => ?_, fun e5 => ?_⟩⟩⟩⟩⟩⟩
  · dsimp only at e
    subst e
    rw [if_pos rfl] at h
    refine VM.at (VM.go [] ⟨fun c1 => ?_, fun c1 => ⟨fun c2 => ?_, fun c2 => ?_⟩⟩)
    · rw [if_neg (fun q => c1 q.1)] at h; exact h
    · rw [if_pos ⟨c1, c2⟩] at h; exact h
    · rw [if_neg (fun q => c2 q.2)] at h; exact h
  · dsimp only at e1
    subst e1
    rw [if_neg (by decide), if_pos rfl] at h
    refine VM.at (VM.go [] ⟨fun c1 => ?_, fun c1 => ⟨fun c2 => ?_, fun c2 => ?_⟩⟩)
    · rw [if_pos (Or.inl c1)] at h; exact h
    · rw [if_pos (Or.inr c2)] at h; exact h
    · rw [if_neg (fun q => q.elim c1 c2)] at h; exact h
  · dsimp only at e2
    subst e2
    rw [if_neg (by decide), if_neg (by decide), if_neg (by decide), if_neg (by decide), if_pos rfl] at h
    exact VM.at (VM.go [] h)
  · dsimp only at e3
    subst e3
    rw [if_neg (by decide), if_neg (by decide), if_neg (by decide), if_neg (by decide), if_neg (by decide), if_pos rfl] at h
    exact VM.at (VM.go [] h)
  · dsimp only at e4
    subst e4
    rw [if_neg (by decide), if_neg (by decide), if_pos rfl] at h
    refine VM.at (VM.go [] ⟨fun c1 => ?_, fun c1 => ?_⟩)
    · rw [if_neg (Int32.not_lt.mpr c1)] at h; exact h
    · rw [if_pos (Int32.not_le.mp c1)] at h; exact h
  · dsimp only at e5
    subst e5
    rw [if_neg (by decide), if_neg (by decide), if_neg (by decide), if_pos rfl] at h
    refine VM.at (VM.go [] ⟨fun c1 => ?_, fun c1 => ?_⟩)
    · rw [if_neg c1] at h; exact h
    · rw [if_pos c1] at h; exact h
  · rw [if_neg e, if_neg e1, if_neg e4, if_neg e5, if_neg e2, if_neg e3] at h
    exact VM.at (VM.go [] h)
/-- a list laid in the stack's cell, its top first -/
def vstL' (s : vM) (st : List Int32) : Prop := ∀ k, k < st.length → s.1 46 (st.length - 1 - k) = st.getD k 0
theorem vstL'.push {s : vM} {st : List Int32} {x : Int32} (h : vstL' s st) : vstL' (vput s 46 st.length x) (x :: st) := by
  intro k hk
  cases k with
  | zero => rw [vput_get, if_pos ⟨rfl, by simp⟩]; rfl
  | succ k =>
    simp only [List.length_cons] at hk ⊢
    rw [vput_ne (Or.inr (by omega)), show st.length + 1 - 1 - (k + 1) = st.length - 1 - k by omega, h k (by omega)]
    rfl
theorem vstL'.top {s : vM} {st : List Int32} {x y : Int32} (h : vstL' s (y :: st)) : vstL' (vput s 46 st.length x) (x :: st) := by
  intro k hk
  cases k with
  | zero => rw [vput_get, if_pos ⟨rfl, by simp⟩]; rfl
  | succ k =>
    have := h (k + 1) (by simpa using hk)
    simp only [List.length_cons] at hk this ⊢
    rw [vput_ne (Or.inr (by omega)), this]
    rfl
theorem vstL'.at0 {s : vM} {st : List Int32} {x : Int32} (h : vstL' s (x :: st)) : s.1 46 st.length = x := by
  have := h 0 (by simp)
  simpa using this
theorem vstL'.at1 {s : vM} {st : List Int32} {x y : Int32} (h : vstL' s (y :: x :: st)) : s.1 46 st.length = x := by
  have := h 1 (by simp)
  simpa using this
theorem vstL'.pop {s : vM} {st : List Int32} {y : Int32} (h : vstL' s (y :: st)) : vstL' s st := by
  intro k hk
  have := h (k + 1) (by simpa using hk)
  simp only [List.length_cons] at this
  rw [show st.length - 1 - k = st.length + 1 - 1 - (k + 1) by omega, this]
  rfl
theorem nI_m1' (n : Nat) : nI (n + 1) - 1 = nI n := nI_pred n
theorem vname_ix {c : Int32} (h0 : c < 0) (h1 : -6 ≤ c) : ∃ j, j < 6 ∧ -1 - c = nI j ∧ (-1 - c).toNatClampNeg = j := by
  have e0 := Int32.lt_iff_toInt_lt.mp h0
  have e1 := Int32.le_iff_toInt_le.mp h1
  have e2 : (-6 : Int32).toInt = -6 := by decide
  have e3 : (0 : Int32).toInt = 0 := by decide
  have e4 : (-1 : Int32).toInt = -1 := by decide
  rw [e2] at e1
  rw [e3] at e0
  have e5 : (-1 - c).toInt = -1 - c.toInt := by
    rw [Int32.toInt_sub, e4]
    apply Int.bmod_eq_of_le <;> omega
  refine ⟨(-1 - c.toInt).toNat, by omega, ?_, ?_⟩
  · apply Int32.toInt_inj.mp
    rw [e5, nI_toInt (by omega)]
    omega
  · rw [Int32.toNatClampNeg, e5]
theorem vrunC_drop {nm : Nat → Int32} {l : List Int32} {i : Nat} {st : List Int32} (hi : i < l.length) : vrunC nm (l.drop i) st = match vstep1 nm (l.getD i 0) st with | some st' => vrunC nm (l.drop (i + 1)) st' | none => none := by
  rw [List.drop_eq_getElem_cons hi]
  rw [show l.getD i 0 = l[i] by simp [hi]]
  rfl
set_option maxHeartbeats 4000000 in
theorem vb_tell {r p : Nat} {cs : Nat → List Int32} (hr : vRc r) (hp : p < 3) (hR : vRu r cs σ) (hwf : vWf cs) (h : ∀ σ', vag vStk σ σ' → post (some (.int (vTof cs p (σ.1 45)))) σ') : VM G (d + 1) iX4_tell 0 [some (.ref r), some (.int (nI p)), some (.ref 45), some (.ref 46), none, none, none] [] σ post := by
  obtain ⟨hE, hends, hcode⟩ := hR
  have hle : ∀ q, q < 3 → vend cs q ≤ 160 := by
    intro q hq
    have e1 : vend cs 1 = vend cs 0 + (cs 1).length := rfl
    have e2 : vend cs 2 = vend cs 1 + (cs 2).length := rfl
    rcases (show q = 0 ∨ q = 1 ∨ q = 2 by omega) with rfl | rfl | rfl <;> omega
  have hbe : vend cs p = vbeg cs p + (cs p).length := by
    rcases (show p = 0 ∨ p = 1 ∨ p = 2 by omega) with rfl | rfl | rfl
    · exact (Nat.zero_add _).symm
    · rfl
    · rfl
  have hlp := hle p hp
  obtain ⟨x, hx⟩ := hwf p hp (σ.1 45)
  have hT : vTof cs p (σ.1 45) = x := by unfold vTof; rw [hx]
  rw [hT] at h
  obtain ⟨V, hV⟩ : ∃ V : Option Value, V = some (.ref r) := ⟨_, rfl⟩
  rcases hr with rfl | rfl | rfl | rfl | rfl | rfl
  all_goals
    simp only [Nat.reduceAdd] at hends hcode
    -- the loop: i codes are done, the stack holds st
    have key : ∀ i, i ≤ (cs p).length → ∀ (s2 : vM) (st : List Int32) (y : Option Value), vag vStk σ s2 → vstL' s2 st → st.length ≤ 40 → vrunC (σ.1 45) ((cs p).drop i) st = some [x] → VM G (d + 1) iX4_tell 36 [V, some (.int (nI p)), some (.ref 45), some (.ref 46), some (.int (nI st.length)), some (.int (nI (vbeg cs p + i))), y] [] s2 post := by
      refine vloop _ ?_ ?_
      · subst hV
        intro s2 st y hs2 hst hl40 hrun
        rw [List.drop_length] at hrun
        have hst1 : st = [x] := Option.some.inj hrun
        subst hst1
        refine VM.go [210] ⟨p, rfl, hp, fun _ => ?_, fun c1 => absurd ?_ c1⟩
        · refine VM.at (VM.go [] ⟨fun c2 => absurd c2 (show ¬ nI 1 ≤ 0 by decide), fun _ => ⟨0, show nI 1 - 1 = nI 0 by decide, by decide, ?_⟩⟩)
          have := h s2 hs2
          rw [← hst.at0] at this
          exact this
        · rw [hs2.get rfl, hends p hp, hbe]
          exact nI_le (Nat.le_refl _) (by omega)
      · intro i hi ih s2 st y hs2 hst hl40 hrun
        rw [vrunC_drop hi] at hrun
        have hlt : ¬ nI (vend cs p) ≤ nI (vbeg cs p + i) := by rw [nIle (by omega) (by omega)]; omega
        have hcv : s2.1 _ (vbeg cs p + i) = (cs p).getD i 0 := (hs2.get rfl).trans (hcode p hp i hi)
        have next : ∀ (s3 : vM) (st3 : List Int32) (y : Option Value), vag vStk σ s3 → vstL' s3 st3 → st3.length ≤ 40 → vrunC (σ.1 45) ((cs p).drop (i + 1)) st3 = some [x] → VM G (d + 1) iX4_tell 204 [V, some (.int (nI p)), some (.ref 45), some (.ref 46), some (.int (nI st3.length)), some (.int (nI (vbeg cs p + i))), y] [] s3 post := by
          intro s3 st3 y a b c' e
          have := ih s3 st3 y a b c' e
          rw [← Nat.add_assoc, ← nI_1] at this
          subst hV
          exact VM.go [36] this
        obtain ⟨V2, hV2⟩ : ∃ V2 : Option Value, V2 = V := ⟨V, rfl⟩
        subst hV
        refine VM.go [57] ⟨p, rfl, hp, fun c1 => absurd c1 ?_, fun _ => ⟨fun c2 => absurd c2 ?_, fun _ => ?_⟩⟩
        · rw [hs2.get rfl, hends p hp]; exact hlt
        · rw [nIle (by decide) (by omega)]; omega
        · show VM G (d + 1) iX4_tell 57 _ _ _ _
          refine VM.go [66] ⟨vbeg cs p + i, rfl, by omega, ?_⟩
          rw [hcv]
          generalize (cs p).getD i 0 = c at hrun ⊢
          refine VM.at (VM.go [74, 109] ⟨fun c3 => ?_, fun c3 => ?_⟩)
          · -- a sign
            have c4 : ¬ -6 ≤ c := Int32.not_le.mpr c3
            unfold vstep1 at hrun
            rw [if_neg c4] at hrun
            have one : (c = -11 ∨ c = -12) → VM G (d + 1) iX4_tell 123 [V2, some (.int (nI p)), some (.ref 45), some (.ref 46), some (.int (nI st.length)), some (.int (nI (vbeg cs p + i))), some (.int c)] [] s2 post := by
              intro hc
              subst hV2
              rw [if_pos hc] at hrun
              match st, hrun, hl40, hst with
              | [], hrun, _, _ => cases hrun
              | x1 :: st, hrun, hl40, hst =>
                simp only [List.length_cons] at hl40 ⊢
                have ix : nI (st.length + 1) - 1 = nI st.length := nI_pred _
                refine VM.go [204] ⟨fun _ => ⟨fun c7 => ⟨st.length, ix, by omega, ?_⟩, fun c7 => ⟨st.length, ix, by omega, ?_⟩⟩, fun c7 => absurd (show nI 1 ≤ _ from nI_le (by omega) (by omega)) c7⟩
                · dsimp only at hrun
                  rw [if_neg c7] at hrun
                  rw [hst.at0]
                  refine ⟨fun c8 => ⟨nofun, st.length, ix, by omega, ?_⟩, fun c8 => ⟨nofun, st.length, ix, by omega, ?_⟩⟩
                  · rw [if_neg c8] at hrun
                    have := next (vput s2 46 st.length 0) (0 :: st) (some (.int c)) (hs2.put rfl) hst.top (by simp; omega) hrun
                    exact this
                  · rw [if_pos c8] at hrun
                    have := next (vput s2 46 st.length 1) (1 :: st) (some (.int c)) (hs2.put rfl) hst.top (by simp; omega) hrun
                    exact this
                · dsimp only at hrun
                  rw [if_pos c7] at hrun
                  rw [hst.at0]
                  refine ⟨nofun, st.length, ix, by omega, ?_⟩
                  have := next (vput s2 46 st.length (-x1)) (-x1 :: st) (some (.int c)) (hs2.put rfl) hst.top (by simp; omega) hrun
                  exact this
            subst hV2
            refine VM.at (VM.go [123, 171] ⟨fun c5 => one (Or.inl c5), fun c5 => ⟨fun c6 => ?_, fun c6 => one (Or.inr c6)⟩⟩)
            rw [if_neg (fun q => q.elim c5 c6)] at hrun
            show VM G (d + 1) iX4_tell 171 _ _ _ _
            match st, hrun, hl40, hst with
            | [], hrun, _, _ => cases hrun
            | [_], hrun, _, _ => cases hrun
            | y1 :: x1 :: st, hrun, hl40, hst =>
              simp only [List.length_cons] at hl40 ⊢
              have ix1 : nI (st.length + 1 + 1) + -1 = nI (st.length + 1) := pk_m1 _
              have ix : nI (st.length + 1 + 1) + -1 - 1 = nI st.length := by rw [ix1]; exact nI_pred _
              refine VM.go [204] ⟨fun _ => ⟨st.length, ix, by omega, st.length + 1, ix1, by omega, _, VM.at (vb_joined ?_), fun _ _ hh => hh⟩, fun c7 => absurd (show nI 2 ≤ _ from nI_le (by omega) (by omega)) c7⟩
              rw [hst.at1, show s2.1 46 (st.length + 1) = y1 from hst.at0]
              refine ⟨nofun, st.length, ix, by omega, ?_⟩
              have := next (vput s2 46 st.length (vjoin (-c) x1 y1)) (vjoin (-c) x1 y1 :: st) (some (.int c)) (hs2.put rfl) hst.pop.top (by simp; omega) hrun
              rw [List.length_cons, ← ix1] at this
              exact this
          · -- a number or a name
            have c4 : -6 ≤ c := Int32.not_lt.mp c3
            unfold vstep1 at hrun
            rw [if_pos c4] at hrun
            by_cases h40 : st.length < 40
            · rw [if_pos h40] at hrun
              refine VM.at (VM.go [204] ⟨fun _ => ⟨fun c5 => ?_, fun c5 => ?_⟩, fun c5 => absurd ?_ c5⟩)
              · obtain ⟨j, hj, e1, e2⟩ := vname_ix c5 c4
                rw [if_pos c5, e2] at hrun
                refine ⟨j, e1, hj, nofun, st.length, rfl, h40, ?_⟩
                have := next (vput s2 46 st.length (s2.1 45 j)) (s2.1 45 j :: st) (some (.int c)) (hs2.put rfl) hst.push (by simp; omega) (by rw [hs2.get rfl]; exact hrun)
                rw [List.length_cons, ← nI_1] at this
                exact this
              · rw [if_neg c5] at hrun
                refine ⟨nofun, st.length, rfl, h40, ?_⟩
                have := next (vput s2 46 st.length c) (c :: st) (some (.int c)) (hs2.put rfl) hst.push (by simp; omega) hrun
                rw [List.length_cons, ← nI_1] at this
                exact this
              · exact nI_lt h40 (by omega)
            · rw [if_neg h40] at hrun
              cases hrun
    subst hV
    refine VM.go [36] ⟨fun c1 => absurd c1 (nI_pos (by omega)), fun _ => ⟨fun _ => ⟨fun c2 => ?_, fun c2 => ?_⟩, fun c2 => absurd ?_ c2⟩⟩
    · have hp0 : ¬ p = 0 := fun e => c2 (by rw [e]; rfl)
      obtain ⟨q, rfl⟩ : ∃ q, p = q + 1 := ⟨p - 1, by omega⟩
      refine ⟨q, nI_pred q, by omega, ?_⟩
      rw [hends q (by omega)]
      exact key 0 (Nat.zero_le _) σ [] none vag.rf (fun k hk => absurd hk (Nat.not_lt_zero _)) (by decide) (by rw [List.drop_zero]; exact hx)
    · have hp0 : p = 0 := by
        rw [show (0 : Int32) = nI 0 from rfl, nI_eq (by omega) (by decide)] at c2
        exact c2
      subst hp0
      exact key 0 (Nat.zero_le _) σ [] none vag.rf (fun k hk => absurd hk (Nat.not_lt_zero _)) (by decide) (by rw [List.drop_zero]; exact hx)
    · exact nI_lt hp (by decide)
theorem vb_vTl {r : Nat} {cs : Nat → List Int32} (hr : vRc r) (hR : vRu r cs σ) (hwf : vWf cs) : vTl G (d + 1) r (vTof cs) σ := by
  intro σ' p post hp hs h
  have hR' : vRu r cs σ' := by
    obtain ⟨h1, h2, h3⟩ := hR
    refine ⟨h1, fun p hp => ?_, fun p hp k hk => ?_⟩
    · rw [hs.get (by rcases hr with rfl | rfl | rfl | rfl | rfl | rfl <;> rfl)]; exact h2 p hp
    · rw [hs.get (by rcases hr with rfl | rfl | rfl | rfl | rfl | rfl <;> rfl)]; exact h3 p hp k hk
  exact vb_tell hr hp hR' hwf h
end TL
