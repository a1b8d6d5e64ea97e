/-! ===== set, light ===== -/
def vlo (w : Nat) : Nat := match w with | 2 => 1 | 4 => 1 | _ => 0
def vhi (w : Nat) : Nat := match w with | 0 => 4095 | 1 => 9 | 2 => 999 | 3 => 99 | 4 => 99 | _ => 20
theorem vLeast_at {w : Nat} (hw : w < 6) : vLeast.getD w 0 = nI (vlo w) := by
  rcases (show w = 0 ∨ w = 1 ∨ w = 2 ∨ w = 3 ∨ w = 4 ∨ w = 5 by omega) with rfl | rfl | rfl | rfl | rfl | rfl <;> decide
theorem vMost_at {w : Nat} (hw : w < 6) : vMost.getD w 0 = nI (vhi w) := by
  rcases (show w = 0 ∨ w = 1 ∨ w = 2 ∨ w = 3 ∨ w = 4 ∨ w = 5 by omega) with rfl | rfl | rfl | rfl | rfl | rfl <;> decide
section C3
variable {G : vG} {d : Nat} {σ : vM} {post : vQ} {a : vα}
theorem sSet_0 {i0 v0 : Int32} : sSet a (nI 0) i0 v0 = match vix v0 4096 with | some x => (nI (a.1 1 0), vaput a 1 0 x) | none => (-2, a) := by
  unfold sSet
  rw [vix_nI (by decide) (by decide)]
  rfl
theorem sSet_w {w : Nat} {i0 v0 : Int32} (hw : w < 6) (h1 : 1 ≤ w) : sSet a (nI w) i0 v0 = match vix i0 (vpln a w) with | none => (-2, a) | some k => match vix v0 (vhi w + 1) with | none => (-2, a) | some x => if vlo w ≤ x then (nI (a.1 (vplc w) k), vaput a (vplc w) k x) else (-2, a) := by
  have key : ∀ (o1 o2 : Option Nat) (c lo : Nat), (match o1, o2 with | some k, some x => if lo ≤ x then (nI (a.1 c k), vaput a c k x) else ((-2 : Int32), a) | _, _ => ((-2 : Int32), a)) = match o1 with | none => ((-2 : Int32), a) | some k => match o2 with | none => (-2, a) | some x => if lo ≤ x then (nI (a.1 c k), vaput a c k x) else (-2, a) := by
    intro o1 o2 c lo
    cases o1 <;> cases o2 <;> rfl
  unfold sSet
  rw [vix_nI hw (by decide)]
  rcases (show w = 1 ∨ w = 2 ∨ w = 3 ∨ w = 4 ∨ w = 5 by omega) with rfl | rfl | rfl | rfl | rfl <;> exact key _ _ _ _
theorem sSet_no {w : Nat} {i0 v0 : Int32} (hw : w < 6) (hb : ¬ (nI (vlo w) ≤ v0 ∧ v0 ≤ nI (vhi w))) : sSet a (nI w) i0 v0 = (-2, a) := by
  have hhi : vhi w < 2 ^ 30 := by unfold vhi; split <;> decide
  rcases Nat.eq_zero_or_pos w with rfl | h1
  · rw [sSet_0, vix_btw (m := 4095) (by decide) hb]
  · rw [sSet_w hw h1]
    cases vix i0 (vpln a w) with
    | none => rfl
    | some k =>
      cases hx : vix v0 (vhi w + 1) with
      | none => rfl
      | some x =>
        obtain ⟨q1, q2⟩ := vix_some (by omega) hx
        exact if_neg (fun q => hb ⟨by rw [q2]; exact nI_le q (by omega), by rw [q2]; exact nI_le (Nat.le_of_lt_succ q1) (by omega)⟩)
theorem sSet_noI {w : Nat} {i0 v0 : Int32} (hW : vWF a) (hw : w < 6) (h1 : 1 ≤ w) (hn : ∀ j, j < vpln a w → ¬ i0 = nI j) : sSet a (nI w) i0 v0 = (-2, a) := by
  have hq := vpln_le hW w
  rw [sSet_w hw h1, vix_no (x := i0) (by omega) hn]
theorem sSet_yes {w j x : Nat} (hW : vWF a) (hw : w < 6) (h1 : 1 ≤ w) (hj : j < vpln a w) (hl : vlo w ≤ x) (hh : x ≤ vhi w) : sSet a (nI w) (nI j) (nI x) = (nI (a.1 (vplc w) j), vaput a (vplc w) j x) := by
  have hq := vpln_le hW w
  have hhi : vhi w < 2 ^ 30 := by unfold vhi; split <;> decide
  rw [sSet_w hw h1, vix_nI hj (by omega), vix_nI (Nat.lt_succ_of_le hh) (by omega)]
  exact if_pos hl
theorem vc_setB {w x : Nat} {i0 : Int32} (hw : w < 6) (hl : vlo w ≤ x) (hh : x ≤ vhi w) (hC : vRC a σ) (hW : vWF a) (h : ∀ σ', vag vKl σ σ' → vRC (sSet a (nI w) i0 (nI x)).2 σ' → post (some (.int (sSet a (nI w) i0 (nI x)).1)) σ') : VM G (d + 1) iX6_set 44 [some (.ref 0), some (.int (nI w)), some (.int i0), some (.int (nI x)), none, none] [] σ post := by
  have hT := hW.2.1.2
  refine VM.go [] ⟨fun c => ⟨_, VM.at (vb_placesOf (by omega) (Nat.pos_of_ne_zero (fun e => c (by rw [e]; rfl))) ?_), fun _ _ hh => hh⟩, fun c => ?_⟩
  · have h1 : 1 ≤ w := Nat.pos_of_ne_zero (fun e => c (by rw [e]; rfl))
    have hq := vpln_le hW w
    have bad : (∀ j, j < vpln a w → ¬ i0 = nI j) → post (some (.int (-2))) σ := fun hn => by
      have e := sSet_noI (v0 := nI x) hW hw h1 hn
      have := h σ vag.rf (by rw [e]; exact hC)
      rw [e] at this
      exact this
    have fin : i0 < 0 → post (some (.int (-2))) σ := fun c => bad (fun j hj e => absurd c (by rw [e]; exact nI_pos (by omega)))
    have fin2 : ¬ i0 < 0 → nI (vpln a w) ≤ i0 → post (some (.int (-2))) σ := fun _ c => bad (fun j hj e => by
      rw [e, nIle (by omega) (by omega)] at c
      omega)
    have mid : ∀ {P : Prop}, ¬ i0 < 0 → ¬ nI (vpln a w) ≤ i0 → (∀ j, j < vpln a w → i0 = nI j → P) → P := fun c1 c2 k => by
      obtain ⟨j, hj, rfl⟩ := nI_of c1
      rw [nIle (by omega) (by omega)] at c2
      exact k j (by omega) rfl
    have good : ∀ j, j < vpln a w → i0 = nI j → post (some (.int (σ.1 (vplc w) j))) (vput σ (vplc w) j (nI x)) := fun j hj e => by
      have es := sSet_yes hW hw h1 hj hl hh
      subst e
      have hp : vps (vplc w) j = true ∧ 2 ≤ vplc w ∧ vplc w ≤ 9 := by
        rcases (show w = 1 ∨ w = 2 ∨ w = 3 ∨ w = 4 ∨ w = 5 by omega) with rfl | rfl | rfl | rfl | rfl <;> exact ⟨rfl, by decide, by decide⟩
      have hk : vKl (vplc w) j = true := by
        unfold vKl
        rw [Nat.ble_eq]
        omega
      have := h (vput σ (vplc w) j (nI x)) (vag.rf.put hk) (by rw [es]; exact hC.put hp.1 (Or.inl ⟨by omega, by omega⟩) hT)
      rw [es, ← hC.num _ j hp.1] at this
      exact this
    rcases (show w = 1 ∨ w = 2 ∨ w = 3 ∨ w = 4 ∨ w = 5 by omega) with rfl | rfl | rfl | rfl | rfl
    all_goals refine ⟨fun c => fin c, fun c => ⟨_, VM.at (vb_placeCount (by decide) (by decide) hC ?_), fun _ _ hh => hh⟩⟩
    all_goals refine ⟨fun c2 => fin2 c c2, fun c2 => mid c c2 (fun j hj e => ?_)⟩
    all_goals have hg := good j hj e
    all_goals simp only [vpln] at hj hq
    · exact ⟨fun _ => ⟨j, e, by omega, nofun, j, e, by omega, hg⟩, fun c3 => absurd (show i0 < nI 6 by rw [e]; exact nI_lt (by omega) (by decide)) c3⟩
    · exact ⟨fun _ => ⟨j, e, by omega, nofun, j, e, by omega, hg⟩, fun c3 => absurd (show i0 < nI 6 by rw [e]; exact nI_lt (by omega) (by decide)) c3⟩
    · exact ⟨fun _ => ⟨j, e, by omega, nofun, j, e, by omega, hg⟩, fun c3 => absurd (show i0 < nI 5 by rw [e]; exact nI_lt (by omega) (by decide)) c3⟩
    · exact ⟨fun _ => ⟨j, e, by omega, nofun, j, e, by omega, hg⟩, fun c3 => absurd (show i0 < nI 4 by rw [e]; exact nI_lt (by omega) (by decide)) c3⟩
    · exact ⟨fun _ => ⟨j, e, by omega, nofun, j, e, by omega, hg⟩, fun c3 => absurd (show i0 < nI 4 by rw [e]; exact nI_lt (by omega) (by decide)) c3⟩
  · have e0 : w = 0 := by
      have q := congrArg Int32.toNatClampNeg c
      rw [nI_clamp (by omega)] at q
      exact q.trans (by decide)
    subst e0
    have es : sSet a (nI 0) i0 (nI x) = (nI (a.1 1 0), vaput a 1 0 x) := by
      have hh' : x ≤ 4095 := by simpa [vhi] using hh
      rw [sSet_0, vix_nI (show x < 4096 by omega) (by decide)]
    have := h (vput σ 1 0 (nI x)) (vag.rf.put rfl) (by rw [es]; exact hC.put rfl (Or.inl ⟨by decide, by decide⟩) hT)
    rw [es, ← hC.num 1 0 rfl] at this
    exact this
theorem vc_set {w0 i0 v0 : Int32} (hC : vRC a σ) (hW : vWF a) (h : ∀ σ', vag vKl σ σ' → vRC (sSet a w0 i0 v0).2 σ' → post (some (.int (sSet a w0 i0 v0).1)) σ') : VM G (d + 1) iX6_set 0 [some (.ref 0), some (.int w0), some (.int i0), some (.int v0), none, none] [] σ post := by
  have bad : sSet a w0 i0 v0 = (-2, a) → post (some (.int (-2))) σ := fun e => by
    have := h σ vag.rf (by rw [e]; exact hC)
    rw [e] at this
    exact this
  cases hv : vix w0 6 with
  | none =>
    have es : sSet a w0 i0 v0 = (-2, a) := by unfold sSet; rw [hv]
    refine VM.go [] ⟨fun _ => bad es, fun c => ⟨fun _ => bad es, fun c2 => ?_⟩⟩
    obtain ⟨j, hj, rfl⟩ := nI_of c
    have c2' : ¬ nI 6 ≤ nI j := c2
    rw [nIle (by decide) (by omega)] at c2'
    rw [vix_nI (by omega) (by decide)] at hv
    cases hv
  | some w =>
    obtain ⟨hw, rfl⟩ := vix_some (by decide) hv
    refine VM.go [23] ⟨fun c => absurd c (nI_pos (by omega)), fun _ => ⟨fun c => absurd c (nI_ge hw (by decide)), fun _ => ⟨fun _ => ?_, fun c => absurd (show nI w < nI 6 from nI_lt hw (by decide)) c⟩⟩⟩
    show VM G (d + 1) iX6_set 23 _ _ _ _
    refine VM.go [44] ⟨w, rfl, hw, fun c => ?_, fun c => ⟨w, rfl, hw, fun c2 => ?_, fun c2 => ?_⟩⟩
    · have c : v0 < vLeast.getD w 0 := c
      rw [vLeast_at hw] at c
      exact bad (sSet_no hw (fun q => absurd c (Int32.not_lt.mpr q.1)))
    · have c : ¬ v0 < vLeast.getD w 0 := c
      have c2 : v0 ≤ vMost.getD w 0 := c2
      rw [vLeast_at hw] at c
      rw [vMost_at hw] at c2
      have hlo : vlo w < 2 ^ 31 := by unfold vlo; split <;> decide
      have hhi : vhi w < 2 ^ 31 := by unfold vhi; split <;> decide
      obtain ⟨x, hx, rfl⟩ := vnat hhi (by
        rw [Int32.le_iff_toInt_le]
        have c3 := Int32.le_iff_toInt_le.mp (Int32.not_lt.mp c)
        have c4 := Int32.le_iff_toInt_le.mp (Int32.not_lt.mp (nI_pos hlo))
        omega) c2
      rw [nIlt (by omega) hlo] at c
      show VM G (d + 1) iX6_set 44 _ _ _ _
      exact vc_setB hw (by omega) hx hC hW h
    · have c2 : ¬ v0 ≤ vMost.getD w 0 := c2
      rw [vMost_at hw] at c2
      exact bad (sSet_no hw (fun q => c2 q.2))
end C3
