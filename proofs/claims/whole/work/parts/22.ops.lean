/-! ===== WHAT A CALL ANSWERS AND LEAVES: functions of the abstract state ===== -/
/-- an int as a number below m -/
def vix (x : Int32) (m : Nat) : Option Nat := if 0 ≤ x ∧ x < nI m then some x.toNatClampNeg else none
theorem vix_nI {j m : Nat} (h : j < m) (hm : m < 2 ^ 31) : vix (nI j) m = some j := by
  unfold vix
  rw [if_pos ⟨Int32.not_lt.mp (nI_pos (by omega)), nI_lt h hm⟩, nI_clamp (by omega)]
theorem vix_some {x : Int32} {m j : Nat} (hm : m < 2 ^ 31) (h : vix x m = some j) : j < m ∧ x = nI j := by
  unfold vix at h
  split at h
  next hc =>
    obtain ⟨k, hk, rfl⟩ := nI_of (x := x) (Int32.not_lt.mpr hc.1)
    rw [nI_clamp hk] at h
    cases h
    exact ⟨(nIlt hk hm).mp hc.2, rfl⟩
  next => cases h
theorem vix_none {x : Int32} {m : Nat} (hm : m < 2 ^ 31) (h : vix x m = none) : ∀ j, j < m → ¬ x = nI j := by
  rintro j hj rfl
  rw [vix_nI hj hm] at h
  cases h
theorem vix_no {x : Int32} {m : Nat} (hm : m < 2 ^ 31) (h : ∀ j, j < m → ¬ x = nI j) : vix x m = none := by
  cases hv : vix x m with
  | none => rfl
  | some j => obtain ⟨h1, h2⟩ := vix_some hm hv; exact absurd h2 (h j h1)
/-- below m and not below lo -/
theorem vix_le {x : Int32} {m : Nat} (hm : m < 2 ^ 30) (h : vix x (m + 1) = none) : ¬ (0 ≤ x ∧ x ≤ nI m) := by
  rintro ⟨h1, h2⟩
  obtain ⟨j, hj, rfl⟩ := vnat (by omega) h1 h2
  exact vix_none (by omega) h j (by omega) rfl
abbrev vR2 : Type := Int32 × vα
/-- set(): cell, how many places, least, most -/
def vsetT (a : vα) (w : Nat) : Nat × Nat × Nat × Nat := match w with
  | 1 => (3, a.1 1 2, 0, 9)
  | 2 => (4, a.1 1 2, 1, 999)
  | 3 => (6, 5, 0, 99)
  | 4 => (8, 4, 1, 99)
  | _ => (9, 4, 0, 20)
def sSet (a : vα) (what i v : Int32) : vR2 := match vix what 6 with
  | none => (-2, a)
  | some 0 => (match vix v 4096 with
    | some x => (nI (a.1 1 0), vaput a 1 0 x)
    | none => (-2, a))
  | some w => (match vix i (vsetT a w).2.1, vix v ((vsetT a w).2.2.2 + 1) with
    | some k, some x => if (vsetT a w).2.2.1 ≤ x then (nI (a.1 (vsetT a w).1 k), vaput a (vsetT a w).1 k x) else (-2, a)
    | _, _ => (-2, a))
def vseen0 (a : vα) (n : Nat) : Nat → vα
  | 0 => a
  | i + 1 => vaput (vseen0 a n i) 5 (6 * i + n) 0
theorem vseen0_ne {a : vα} {n i c k : Nat} (h : c ≠ 5) : (vseen0 a n i).1 c k = a.1 c k := by
  induction i with
  | zero => rfl
  | succ i ih => exact (vaput_ne (Or.inl h)).trans ih
theorem vseen0_2 {a : vα} {n i : Nat} : (vseen0 a n i).2 = a.2 := by
  induction i with
  | zero => rfl
  | succ i ih => exact ih
def vlight (a : vα) (k m y : Nat) : vα := vaput (vseen0 (vaput (vaput (vaput a 2 (a.1 1 2) k) 3 (a.1 1 2) m) 4 (a.1 1 2) y) (a.1 1 2) 5) 1 2 (a.1 1 2 + 1)
def sLight (a : vα) (kind number years : Int32) : vR2 := match vix kind 6, vix number 10, vix years 1000 with
  | some k, some m, some y => if y = 0 then (-2, a) else if a.1 1 2 = 6 then (-4, a) else (nI (a.1 1 2), vlight a k m y)
  | _, _, _ => (-2, a)
def sLook (a : vα) (looker light nights : Int32) : vR2 := match vix looker 5, vix light (a.1 1 2), vix nights 4096 with
  | some p, some l, some x => (nI (a.1 5 (6 * p + l)), vaput a 5 (6 * p + l) x)
  | _, _, _ => (-2, a)
def sTold (a : vα) (i what : Int32) : Int32 := match vix what 10 with
  | none => -2
  | some w => match w with
    | 0 => nI (a.1 1 0)
    | 1 => (match vix i (a.1 1 2) with | some l => nI (a.1 3 l) | none => -2)
    | 2 => (match vix i (a.1 1 2) with | some l => nI (a.1 4 l) | none => -2)
    | 3 => (match vix i 5 with | some l => nI (a.1 6 l) | none => -2)
    | 4 => (match vix i 4 with | some l => nI (a.1 8 l) | none => -2)
    | 5 => (match vix i 4 with | some l => nI (a.1 9 l) | none => -2)
    | 6 => (match vix i (a.1 1 2) with | some l => nI (a.1 2 l) | none => -2)
    | 7 => (match vix i 5 with | some p => nI (a.1 7 p) | none => -2)
    | 8 => (match vix i 5 with | some p => nI (vallA a (a.1 1 0) p) | none => -2)
    | _ => (match vix i 5 with | some p => nI (vlitS (a.1 1 0) (fun l => a.1 5 (6 * p + l)) (a.1 1 2)) | none => -2)
def sFeed (a : vα) (letter : Int32) : vR2 := match vix letter 256 with
  | none => (-2, a)
  | some x => if a.1 38 0 = 160 then (-4, a) else (nI (a.1 38 0 + 1), vaput (vaput a 39 (a.1 38 0) x) 38 0 (a.1 38 0 + 1))
def sForce (a : vα) (t : Int32) : vR2 := match vix t (a.1 0 4) with
  | none => (-2, a)
  | some t => (nI (a.1 1 1), vaput a 1 1 t)
def sOwes (a : vα) (looker light what : Int32) : Int32 := match vix looker 5, vix light (a.1 1 2), vix what 22 with
  | some p, some l, some w => if w = 0 then nI (vowA a (a.1 1 0) (a.1 1 1) p l) else if w = 1 then nI (vpop (vmask (a.1 5 (6 * p + l)) (a.1 1 0))) else if 10 ≤ w then nI (vdt (vTof (vcomp (a.2.2 (a.1 1 1)))) (a.1 1 0) (a.1 1 2) (a.1 2) (a.1 3) (a.1 4) (fun l => a.1 5 (6 * p + l)) l (w - 10)) else -2
  | _, _, _ => -2
def vworth (a : vα) : Nat := vsumN 4 (fun k => a.1 8 k * a.1 9 k)
def vpcs (a : vα) : Nat := vsumN 4 (fun k => a.1 9 k)
def sAll (a : vα) (what : Int32) : Int32 := match vix what 3 with
  | some 0 => nI (vtogA a (a.1 1 0))
  | some 1 => nI (vmost (vallA a (a.1 1 0)) 4)
  | some _ => nI (vworth a)
  | none => -2
def sCount (a : vα) (what : Int32) : Int32 := match vix what 6 with
  | some 0 => nI (a.1 1 2)
  | some 1 => nI (vpop (a.1 1 0))
  | some 2 => nI (vpcs a)
  | some 3 => nI (a.1 0 4)
  | some 4 => nI (a.1 38 0)
  | some _ => nI (a.1 1 1)
  | none => -2
/-- a place that holds a number is written on both sides -/
theorem vRC.put {a : vα} {σ : vM} (h : vRC a σ) {c k v : Nat} (hk : vps c k = true) (hc : (c ≤ 18 ∧ 1 ≤ c) ∨ c = 38 ∨ c = 39 ∨ (c = 0 ∧ k = 2)) (hT : a.1 0 4 ≤ 6) : vRC (vaput a c k v) (vput σ c k (nI v)) := by
  obtain ⟨h1, h2, h3, h4⟩ := h
  refine ⟨fun c' k' hk' => ?_, fun s hs => ?_, fun s k' hs hk' => ?_, fun t ht => ?_⟩
  · rw [vput_get, vaput_get]
    by_cases e : c' = c ∧ k' = k
    · rw [if_pos e, if_pos e]
    · rw [if_neg e, if_neg e]; exact h1 c' k' hk'
  · rw [vput_ne (Or.inl (by omega)), vaput_ne (Or.inl (by omega))]; exact h2 s hs
  · rw [vaput_ne (Or.inl (by omega))] at hk'
    rw [vput_ne (Or.inl (by omega))]; exact h3 s k' hs hk'
  · rw [vaput_ne (by omega)] at ht
    obtain ⟨r1, r2⟩ := h4 t ht
    exact ⟨r1.ag (fun k' => vput_ne (Or.inl (by omega))) (fun k' => vput_ne (Or.inl (by omega))), by rw [vput_ne (Or.inl (by omega))]; exact r2⟩
