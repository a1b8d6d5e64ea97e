/-! ===== WHAT IS OWED, in plain numbers ===== -/
/-- an int held between 0 and m -/
def vcl (x : Int32) (m : Nat) : Nat := if x < 0 then 0 else if nI m < x then m else x.toNatClampNeg
theorem vcl_le {x : Int32} {m : Nat} (hm : m < 2 ^ 31) : vcl x m ≤ m := by
  unfold vcl
  split
  · exact Nat.zero_le _
  · split
    · exact Nat.le_refl _
    · next h1 h2 =>
      obtain ⟨j, hj, rfl⟩ := nI_of h1
      rw [nI_clamp hj]
      rw [nIlt hm hj] at h2
      omega
theorem vcl_nI {n m : Nat} (hn : n < 2 ^ 31) (hm : m < 2 ^ 31) : vcl (nI n) m = min n m := by
  unfold vcl
  rw [if_neg (nI_pos hn), nI_clamp hn]
  by_cases h : m < n
  · rw [if_pos (nI_lt h hn)]; omega
  · rw [if_neg (by rw [nIlt hm hn]; exact h)]; omega
def vsumN : Nat → (Nat → Nat) → Nat
  | 0, _ => 0
  | n + 1, f => vsumN n f + f n
/-- kinds: 0 LIGHT, 1 TWIN, 2 RED, 3 COMET, 4 GIANT, 5 LAMP -/
def vdueS (kind number years k v : Nat) : Nat := match kind with
  | 1 => min (2 * v) 999
  | 2 => min (v / 2) 999
  | 3 => if number ≤ k then 0 else min (2 * v) 999
  | 4 => min (v / 2 + years / 100) 999
  | 5 => 1
  | _ => min v 999
def voffS (kind number v : Nat) : Nat := match kind with
  | 2 => min (v + number) 999
  | 4 => min (v + number) 999
  | 3 => 0
  | _ => min v 999
def vextraS (kind k v : Nat) : Nat := match kind with
  | 1 => min (v + k) 999
  | 3 => min (v + k) 999
  | 4 => min (2 * v) 999
  | 5 => 0
  | _ => min v 999
/-- lights of the first n on which one looked in nights that count -/
def vlitS (c : Nat) (se : Nat → Nat) (n : Nat) : Nat := vsumN n (fun l => if vmask (se l) c = 0 then 0 else 1)
theorem vsumN_le {n : Nat} {f : Nat → Nat} {b : Nat} (h : ∀ i, i < n → f i ≤ b) : vsumN n f ≤ n * b := by
  induction n with
  | zero => exact Nat.zero_le _
  | succ n ih =>
    have h1 := ih (fun i hi => h i (by omega))
    have h2 := h n (by omega)
    show vsumN n f + f n ≤ (n + 1) * b
    rw [Nat.add_mul]; omega
theorem vlitS_le {c : Nat} {se : Nat → Nat} {n : Nat} : vlitS c se n ≤ n := by
  have := vsumN_le (n := n) (f := fun l => if vmask (se l) c = 0 then 0 else 1) (b := 1) (fun i _ => by split <;> omega)
  unfold vlitS; omega
/-- the names' values: years nights number night cloudy lights -/
def vnames (c : Nat) (nu ye se : Nat → Nat) (n l t : Nat) : Nat → Int32 := fun i => nI (match i with
  | 0 => ye l
  | 1 => vpop (vmask (se l) c)
  | 2 => nu l
  | 3 => t
  | 4 => vpop c
  | _ => vlitS c se n)
/-- what one owes for a light, T telling dues (0), offs (1), extras (2) of the names -/
def vowes (T : Nat → (Nat → Int32) → Int32) (c n : Nat) (kd nu ye se : Nat → Nat) (l : Nat) : Nat :=
  let m := vmask (se l) c
  let k := vpop m
  if m = 0 then 0 else
    vsumN 12 (fun t => if vnight m t then vdueS (kd l) (nu l) (ye l) k (vcl (T 0 (vnames c nu ye se n l t)) 99) else 0)
      + (if 2 < k then vextraS (kd l) k (vcl (T 2 (vnames c nu ye se n l 0)) 99) else 0)
      - voffS (kd l) (nu l) (vcl (T 1 (vnames c nu ye se n l 0)) 99)
/-- the bill lies open: clouds, lights, the rule's cell, the lights' kinds, numbers, years, nights -/
def vBl (c n r : Nat) (kd nu ye se : Nat → Nat) (σ : vM) : Prop := σ.1 40 0 = nI c ∧ σ.1 40 6 = nI n ∧ σ.1 40 1 = nI r ∧ (∀ k, k < 6 → σ.1 41 k = nI (kd k)) ∧ (∀ k, k < 6 → σ.1 42 k = nI (nu k)) ∧ (∀ k, k < 6 → σ.1 43 k = nI (ye k)) ∧ (∀ k, k < 6 → σ.1 44 k = nI (se k))
/-- in range -/
def vBw (c n r : Nat) (kd nu ye se : Nat → Nat) : Prop := c < 4096 ∧ n ≤ 6 ∧ r < 83 ∧ (∀ k, k < 6 → kd k < 6) ∧ (∀ k, k < 6 → nu k ≤ 9) ∧ (∀ k, k < 6 → ye k ≤ 999) ∧ (∀ k, k < 6 → se k < 4096)
/-- the bill's scratch: names and stack -/
def vSc (a _k : Nat) : Bool := Nat.beq a 45 || Nat.beq a 46
theorem vBl.ag {c n r : Nat} {kd nu ye se : Nat → Nat} {σ σ' : vM} (h : vBl c n r kd nu ye se σ) (hs : vag vSc σ σ') : vBl c n r kd nu ye se σ' := by
  obtain ⟨h1, h2, h3, h4, h5, h6, h7⟩ := h
  exact ⟨by rw [hs.get rfl]; exact h1, by rw [hs.get rfl]; exact h2, by rw [hs.get rfl]; exact h3, fun k hk => by rw [hs.get rfl]; exact h4 k hk, fun k hk => by rw [hs.get rfl]; exact h5 k hk, fun k hk => by rw [hs.get rfl]; exact h6 k hk, fun k hk => by rw [hs.get rfl]; exact h7 k hk⟩
section BL
variable {G : vG} {d : Nat} {σ : vM} {post : vQ} {c n r : Nat} {kd nu ye se : Nat → Nat}
theorem vb_bounded {v : Int32} {m : Nat} (hm : m < 2 ^ 31) (h : post (some (.int (nI (vcl v m)))) σ) : VM G d iX0_bounded 0 [some (.int v), some (.int (nI m))] [] σ post := by
  refine VM.go [] ⟨fun c1 => ⟨fun c2 => ?_, fun c2 => ?_⟩, fun c1 => ?_⟩
  · have e : nI (vcl v m) = v := by
      obtain ⟨j, hj, rfl⟩ := nI_of (x := v) (by rw [Int32.not_lt]; exact c1)
      rw [vcl_nI hj hm]
      rw [nIle hj hm] at c2
      rw [Nat.min_eq_left c2]
    rw [e] at h
    exact h
  · have e : nI (vcl v m) = nI m := by
      unfold vcl
      rw [if_neg (by rw [Int32.not_lt]; exact c1), if_pos (Int32.not_le.mp c2)]
    rw [e] at h
    exact h
  · have e : nI (vcl v m) = 0 := by
      unfold vcl
      rw [if_pos (Int32.not_le.mp c1)]
      rfl
    rw [e] at h
    exact h
theorem vb_boundN {x m : Nat} (hx : x < 2 ^ 31) (hm : m < 2 ^ 31) (h : post (some (.int (nI (min x m)))) σ) : VM G d iX0_bounded 0 [some (.int (nI x)), some (.int (nI m))] [] σ post := vb_bounded hm (by rw [vcl_nI hx hm]; exact h)
/-- where a switch goes -/
def vswT (x : Int32) (df : Nat) : List (Int32 × Nat) → Nat
  | [] => df
  | q :: l => if x = q.1 then q.2 else vswT x df l
theorem vsw_go {P : Nat → Prop} {x : Int32} {df : Nat} {l : List (Int32 × Nat)} (t : Nat) (h : vswT x df l = t) (hP : P t) : vswF P x df l := by
  subst h
  induction l with
  | nil => exact hP
  | cons q l ih =>
    refine ⟨fun e => ?_, fun e => ih ?_⟩
    · unfold vswT at hP
      rw [if_pos e] at hP
      exact hP
    · unfold vswT at hP
      rw [if_neg e] at hP
      exact hP
theorem nI_d2 {x : Nat} (h : x < 2 ^ 31) : nI x / 2 = nI (x / 2) := pk_div (d := 2) h (by decide) (by decide)
theorem nI_d100 {x : Nat} (h : x < 2 ^ 31) : nI x / 100 = nI (x / 100) := pk_div (d := 100) h (by decide) (by decide)
theorem nI_2 (v : Nat) : (2 : Int32) * nI v = nI (2 * v) := pk_mul 2 v
theorem vb_due {l k : Nat} {v : Int32} (hl : l < 6) (hk : k ≤ 12) (hw : vBw c n r kd nu ye se) (hB : vBl c n r kd nu ye se σ) (h : post (some (.int (nI (vdueS (kd l) (nu l) (ye l) k (vcl v 99))))) σ) : VM G (d + 1) iX0_due 0 [some (.ref 40), some (.int (nI l)), some (.int (nI k)), some (.int v), none] [] σ post := by
  obtain ⟨h1, h2, h3, h4, h5, h6, h7⟩ := hB
  obtain ⟨w1, w2, w3, w4, w5, w6, w7⟩ := hw
  have hv : vcl v 99 ≤ 99 := vcl_le (by decide)
  refine VM.go [] ⟨_, VM.at (vb_bounded (m := 99) (by decide) ⟨l, rfl, hl, ?_⟩), fun _ _ hh => hh⟩
  generalize vcl v 99 = x at hv h ⊢
  rw [h4 l hl]
  have hkd := w4 l hl
  generalize kd l = q at h hkd ⊢
  rcases (show q = 0 ∨ q = 1 ∨ q = 2 ∨ q = 3 ∨ q = 4 ∨ q = 5 by omega) with rfl | rfl | rfl | rfl | rfl | rfl
  · exact vsw_go 118 (by decide) ⟨_, VM.at (vb_boundN (x := x) (m := 999) (by omega) (by decide) (by exact h)), fun _ _ hh => hh⟩
  · exact vsw_go 48 (by decide) ⟨_, VM.at (vb_bounded (m := 999) (by decide) (by rw [nI_2, vcl_nI (by omega) (by decide)]; exact h)), fun _ _ hh => hh⟩
  · exact vsw_go 59 (by decide) ⟨by decide, _, VM.at (vb_bounded (m := 999) (by decide) (by rw [nI_d2 (by omega), vcl_nI (by omega) (by decide)]; exact h)), fun _ _ hh => hh⟩
  · refine vsw_go 70 (by decide) ⟨l, rfl, hl, fun c1 => ?_, fun c1 => ?_⟩
    · rw [h5 l hl, nIlt (by omega) (by have := w5 l hl; omega)] at c1
      have e : vdueS 3 (nu l) (ye l) k x = min (2 * x) 999 := if_neg (by omega)
      rw [e] at h
      exact ⟨_, VM.at (vb_bounded (m := 999) (by decide) (by rw [nI_2, vcl_nI (by omega) (by decide)]; exact h)), fun _ _ hh => hh⟩
    · rw [h5 l hl, nIlt (by omega) (by have := w5 l hl; omega)] at c1
      have e : vdueS 3 (nu l) (ye l) k x = 0 := if_pos (by omega)
      rw [e] at h
      exact h
  · refine vsw_go 95 (by decide) ⟨by decide, l, rfl, hl, by decide, _, VM.at (vb_bounded (m := 999) (by decide) ?_), fun _ _ hh => hh⟩
    have w := w6 l hl
    rw [h6 l hl, nI_d2 (by omega), nI_d100 (by omega), nI_add, vcl_nI (by omega) (by decide)]
    exact h
  · exact vsw_go 116 (by decide) h
theorem vb_off {l : Nat} {v : Int32} (hl : l < 6) (hw : vBw c n r kd nu ye se) (hB : vBl c n r kd nu ye se σ) (h : post (some (.int (nI (voffS (kd l) (nu l) (vcl v 99))))) σ) : VM G (d + 1) iX0_off 0 [some (.ref 40), some (.int (nI l)), some (.int v), none] [] σ post := by
  obtain ⟨h1, h2, h3, h4, h5, h6, h7⟩ := hB
  obtain ⟨w1, w2, w3, w4, w5, w6, w7⟩ := hw
  have hv : vcl v 99 ≤ 99 := vcl_le (by decide)
  refine VM.go [] ⟨_, VM.at (vb_bounded (m := 99) (by decide) ⟨l, rfl, hl, ?_⟩), fun _ _ hh => hh⟩
  generalize vcl v 99 = x at hv h ⊢
  rw [h4 l hl]
  have hkd := w4 l hl
  generalize kd l = q at h hkd ⊢
  have w := w5 l hl
  rcases (show q = 0 ∨ q = 1 ∨ q = 2 ∨ q = 3 ∨ q = 4 ∨ q = 5 by omega) with rfl | rfl | rfl | rfl | rfl | rfl
  · exact vsw_go 57 (by decide) ⟨_, VM.at (vb_boundN (x := x) (m := 999) (by omega) (by decide) (by exact h)), fun _ _ hh => hh⟩
  · exact vsw_go 57 (by decide) ⟨_, VM.at (vb_boundN (x := x) (m := 999) (by omega) (by decide) (by exact h)), fun _ _ hh => hh⟩
  · exact vsw_go 40 (by decide) ⟨l, rfl, hl, _, VM.at (vb_bounded (m := 999) (by decide) (by rw [h5 l hl, nI_add, vcl_nI (by omega) (by decide)]; exact h)), fun _ _ hh => hh⟩
  · exact vsw_go 55 (by decide) h
  · exact vsw_go 40 (by decide) ⟨l, rfl, hl, _, VM.at (vb_bounded (m := 999) (by decide) (by rw [h5 l hl, nI_add, vcl_nI (by omega) (by decide)]; exact h)), fun _ _ hh => hh⟩
  · exact vsw_go 57 (by decide) ⟨_, VM.at (vb_boundN (x := x) (m := 999) (by omega) (by decide) (by exact h)), fun _ _ hh => hh⟩
theorem vb_extra {l k : Nat} {v : Int32} (hl : l < 6) (hk : k ≤ 12) (hw : vBw c n r kd nu ye se) (hB : vBl c n r kd nu ye se σ) (h : post (some (.int (nI (vextraS (kd l) k (vcl v 99))))) σ) : VM G (d + 1) iX0_extra 0 [some (.ref 40), some (.int (nI l)), some (.int (nI k)), some (.int v), none] [] σ post := by
  obtain ⟨h1, h2, h3, h4, h5, h6, h7⟩ := hB
  obtain ⟨w1, w2, w3, w4, w5, w6, w7⟩ := hw
  have hv : vcl v 99 ≤ 99 := vcl_le (by decide)
  refine VM.go [] ⟨_, VM.at (vb_bounded (m := 99) (by decide) ⟨l, rfl, hl, ?_⟩), fun _ _ hh => hh⟩
  generalize vcl v 99 = x at hv h ⊢
  rw [h4 l hl]
  have hkd := w4 l hl
  generalize kd l = q at h hkd ⊢
  rcases (show q = 0 ∨ q = 1 ∨ q = 2 ∨ q = 3 ∨ q = 4 ∨ q = 5 by omega) with rfl | rfl | rfl | rfl | rfl | rfl
  · exact vsw_go 72 (by decide) ⟨_, VM.at (vb_boundN (x := x) (m := 999) (by omega) (by decide) (by exact h)), fun _ _ hh => hh⟩
  · exact vsw_go 48 (by decide) ⟨_, VM.at (vb_bounded (m := 999) (by decide) (by rw [nI_add, vcl_nI (by omega) (by decide)]; exact h)), fun _ _ hh => hh⟩
  · exact vsw_go 72 (by decide) ⟨_, VM.at (vb_boundN (x := x) (m := 999) (by omega) (by decide) (by exact h)), fun _ _ hh => hh⟩
  · exact vsw_go 48 (by decide) ⟨_, VM.at (vb_bounded (m := 999) (by decide) (by rw [nI_add, vcl_nI (by omega) (by decide)]; exact h)), fun _ _ hh => hh⟩
  · exact vsw_go 59 (by decide) ⟨_, VM.at (vb_bounded (m := 999) (by decide) (by rw [nI_2, vcl_nI (by omega) (by decide)]; exact h)), fun _ _ hh => hh⟩
  · exact vsw_go 70 (by decide) h
theorem vb_nightsOf {l : Nat} (hl : l < 6) (hw : vBw c n r kd nu ye se) (hB : vBl c n r kd nu ye se σ) (h : post (some (.int (nI (vpop (vmask (se l) c))))) σ) : VM G (d + 1) iX0_nightsOf 0 [some (.ref 40), some (.int (nI l))] [] σ post := by
  obtain ⟨h1, h2, h3, h4, h5, h6, h7⟩ := hB
  obtain ⟨w1, w2, w3, w4, w5, w6, w7⟩ := hw
  refine VM.go [] ⟨fun c1 => absurd c1 (nI_pos (by omega)), fun _ => ⟨fun c2 => absurd c2 (by rw [show (6 : Int32) = nI 6 from rfl, nIle (by decide) (by omega)]; omega), fun _ => ⟨l, rfl, hl, _, VM.at (vb_bitCount ?_), fun _ _ hh => hh⟩⟩⟩
  rw [h7 l hl, h1, nI_mask (w7 l hl) w1, vbc (vmask_lt (w7 l hl))]
  exact h
theorem vb_lightsSeen (hw : vBw c n r kd nu ye se) (hB : vBl c n r kd nu ye se σ) (h : post (some (.int (nI (vlitS c se n)))) σ) : VM G d iX0_lightsSeen 0 [some (.ref 40), none, none] [] σ post := by
  obtain ⟨h1, h2, h3, h4, h5, h6, h7⟩ := hB
  obtain ⟨w1, w2, w3, w4, w5, w6, w7⟩ := hw
  have key : ∀ i, i ≤ n → VM G d iX0_lightsSeen 4 [some (.ref 40), some (.int (nI (vlitS c se i))), some (.int (nI i))] [] σ post := by
    refine vloop _ ?_ ?_
    · refine VM.go [4] ⟨fun _ => h, fun c1 => absurd ?_ c1⟩
      rw [h2]; exact nI_le (Nat.le_refl _) (by omega)
    · intro i hi ih
      refine VM.go [4] ⟨fun c1 => absurd c1 (by rw [h2, nIle (by omega) (by omega)]; omega), fun _ => ⟨i, rfl, by omega, fun c2 => ?_, fun c2 => ?_⟩⟩
      · rw [h7 i (by omega), h1, vmask_0 (w7 i (by omega)) w1] at c2
        have e : vlitS c se (i + 1) = vlitS c se i := by
          show vlitS c se i + (if vmask (se i) c = 0 then 0 else 1) = _
          rw [if_pos c2]; rfl
        rw [e, ← nI_1] at ih
        exact ih
      · rw [h7 i (by omega), h1, vmask_0 (w7 i (by omega)) w1] at c2
        have e : vlitS c se (i + 1) = vlitS c se i + 1 := by
          show vlitS c se i + (if vmask (se i) c = 0 then 0 else 1) = _
          rw [if_neg c2]
        rw [e, ← nI_1, ← nI_1] at ih
        exact ih
  exact VM.go [4] (key 0 (Nat.zero_le _))
end BL
