/-! ===== told, set, light, feed ===== -/
/-- the class's own cells -/
def vKl (c _k : Nat) : Bool := Nat.ble c 57
/-- set() and told(): which cell, how many places -/
def vplc (w : Nat) : Nat := match w with | 1 => 3 | 2 => 4 | 3 => 6 | 4 => 8 | 5 => 9 | _ => 2
def vpln (a : vα) (w : Nat) : Nat := match w with | 3 => 5 | 4 => 4 | 5 => 4 | _ => a.1 1 2
section C2
variable {G : vG} {d : Nat} {σ : vM} {post : vQ} {a : vα}
theorem vb_placesOf {w : Nat} (hw : w < 7) (h1 : 1 ≤ w) (h : post (some (.ref (vplc w))) σ) : VM G d iX6_placesOf 0 [some (.ref 0), some (.int (nI w))] [] σ post := by
  rcases (show w = 1 ∨ w = 2 ∨ w = 3 ∨ w = 4 ∨ w = 5 ∨ w = 6 by omega) with rfl | rfl | rfl | rfl | rfl | rfl
  · exact VM.go [] (vsw_go 40 (by decide) h)
  · exact VM.go [] (vsw_go 48 (by decide) h)
  · exact VM.go [] (vsw_go 56 (by decide) h)
  · exact VM.go [] (vsw_go 64 (by decide) h)
  · exact VM.go [] (vsw_go 72 (by decide) h)
  · exact VM.go [] (vsw_go 80 (by decide) h)
theorem vb_placeCount {w : Nat} (hw : w < 7) (h1 : 1 ≤ w) (hC : vRC a σ) (h : post (some (.int (nI (vpln a w)))) σ) : VM G d iX6_placeCount 0 [some (.ref 0), some (.int (nI w))] [] σ post := by
  have e := hC.num 1 2 rfl
  rcases (show w = 1 ∨ w = 2 ∨ w = 3 ∨ w = 4 ∨ w = 5 ∨ w = 6 by omega) with rfl | rfl | rfl | rfl | rfl | rfl
  · refine VM.go [] (vsw_go 32 (by decide) ?_)
    rw [show vpln a 1 = a.1 1 2 from rfl, ← e] at h; exact h
  · refine VM.go [] (vsw_go 32 (by decide) ?_)
    rw [show vpln a 2 = a.1 1 2 from rfl, ← e] at h; exact h
  · exact VM.go [] (vsw_go 28 (by decide) h)
  · exact VM.go [] (vsw_go 30 (by decide) h)
  · exact VM.go [] (vsw_go 30 (by decide) h)
  · refine VM.go [] (vsw_go 32 (by decide) ?_)
    rw [show vpln a 6 = a.1 1 2 from rfl, ← e] at h; exact h
theorem vpln_le (hW : vWF a) (w : Nat) : vpln a w ≤ 6 := by
  have := hW.1.2.2
  unfold vpln; split <;> omega
theorem vb_toldPl {w : Nat} {i0 : Int32} (hw : w < 7) (h1 : 1 ≤ w) (hC : vRC a σ) (hW : vWF a) (hy : ∀ j, j < vpln a w → i0 = nI j → post (some (.int (nI (a.1 (vplc w) j)))) σ) (hn : (∀ j, j < vpln a w → ¬ i0 = nI j) → post (some (.int (-2))) σ) : VM G (d + 1) iX6_told 25 [some (.ref 0), some (.int i0), some (.int (nI w)), none] [] σ post := by
  refine VM.go [] ⟨_, VM.at (vb_placesOf hw h1 ?_), fun _ _ hh => hh⟩
  have hq := vpln_le hW w
  have fin : i0 < 0 → post (some (.int (-2))) σ := fun c => hn (fun j hj e => absurd c (by rw [e]; exact nI_pos (by omega)))
  have fin2 : ¬ i0 < 0 → nI (vpln a w) ≤ i0 → post (some (.int (-2))) σ := fun _ c => hn (fun j hj e => by
    rw [e, nIle (by omega) (by omega)] at c
    omega)
  have mid : ∀ {P : Prop}, ¬ i0 < 0 → ¬ nI (vpln a w) ≤ i0 → (∀ j, j < vpln a w → i0 = nI j → P) → P := fun c1 c2 k => by
    obtain ⟨j, hj, rfl⟩ := nI_of c1
    rw [nIle (by omega) (by omega)] at c2
    exact k j (by omega) rfl
  rcases (show w = 1 ∨ w = 2 ∨ w = 3 ∨ w = 4 ∨ w = 5 ∨ w = 6 by omega) with rfl | rfl | rfl | rfl | rfl | rfl
  all_goals refine ⟨fun c => fin c, fun c => ⟨_, VM.at (vb_placeCount (by decide) (by decide) hC ?_), fun _ _ hh => hh⟩⟩
  all_goals refine ⟨fun c2 => fin2 c c2, fun c2 => mid c c2 (fun j hj e => ?_)⟩
  all_goals have hy' := hy j hj e
  all_goals simp only [vpln] at hj hq
  · rw [show vplc 1 = 3 from rfl, ← hC.num 3 j rfl] at hy'
    exact ⟨fun _ => ⟨j, e, by omega, hy'⟩, fun c3 => absurd (show i0 < nI 6 by rw [e]; exact nI_lt (by omega) (by decide)) c3⟩
  · rw [show vplc 2 = 4 from rfl, ← hC.num 4 j rfl] at hy'
    exact ⟨fun _ => ⟨j, e, by omega, hy'⟩, fun c3 => absurd (show i0 < nI 6 by rw [e]; exact nI_lt (by omega) (by decide)) c3⟩
  · rw [show vplc 3 = 6 from rfl, ← hC.num 6 j rfl] at hy'
    exact ⟨fun _ => ⟨j, e, by omega, hy'⟩, fun c3 => absurd (show i0 < nI 5 by rw [e]; exact nI_lt (by omega) (by decide)) c3⟩
  · rw [show vplc 4 = 8 from rfl, ← hC.num 8 j rfl] at hy'
    exact ⟨fun _ => ⟨j, e, by omega, hy'⟩, fun c3 => absurd (show i0 < nI 4 by rw [e]; exact nI_lt (by omega) (by decide)) c3⟩
  · rw [show vplc 5 = 9 from rfl, ← hC.num 9 j rfl] at hy'
    exact ⟨fun _ => ⟨j, e, by omega, hy'⟩, fun c3 => absurd (show i0 < nI 4 by rw [e]; exact nI_lt (by omega) (by decide)) c3⟩
  · rw [show vplc 6 = 2 from rfl, ← hC.num 2 j rfl] at hy'
    exact ⟨fun _ => ⟨j, e, by omega, hy'⟩, fun c3 => absurd (show i0 < nI 6 by rw [e]; exact nI_lt (by omega) (by decide)) c3⟩
theorem vc_feed {x0 : Int32} (hC : vRC a σ) (hW : vWF a) (h : ∀ σ', vag vKl σ σ' → vRC (sFeed a x0).2 σ' → post (some (.int (sFeed a x0).1)) σ') : VM G (d + 1) iX6_feed 0 [some (.ref 0), some (.int x0)] [] σ post := by
  have hT := hW.2.1.2
  have hs := hW.2.2.2.2.2.2.1.1
  have bad : ∀ v, sFeed a x0 = (v, a) → post (some (.int v)) σ := fun v e => by
    have := h σ vag.rf (by rw [e]; exact hC)
    rw [e] at this
    exact this
  refine VM.go [] ⟨_, VM.at (vb_between (fun b1 b2 => ?_) (fun hno => ?_)), fun _ _ hh => hh⟩
  · obtain ⟨x, hx, e⟩ := vnat (m := 255) (by decide) b1 b2
    have es : sFeed a x0 = if a.1 38 0 = 160 then (-4, a) else (nI (a.1 38 0 + 1), vaput (vaput a 39 (a.1 38 0) x) 38 0 (a.1 38 0 + 1)) := by
      unfold sFeed; rw [e, vix_nI (show x < 256 by omega) (by decide)]
    refine ⟨fun _ => ?_, fun c => absurd c (by decide)⟩
    have en := hC.num 38 0 rfl
    refine ⟨fun c => ?_, fun c => ?_⟩
    · have hlt : a.1 38 0 < 160 := by
        have c' : σ.1 38 0 < nI 160 := c
        rw [en, nIlt (by omega) (by decide)] at c'
        exact c'
      rw [if_neg (by omega)] at es
      refine ⟨_, VM.at (VM.go [] ⟨fun c2 => absurd c2 ?_, fun _ => ⟨fun c3 => absurd c3 ?_, fun _ => ⟨nofun, a.1 38 0, en, hlt, ?_⟩⟩⟩), fun _ _ hh => hh⟩
      · rw [en]; exact nI_pos (by omega)
      · rw [en]; exact nI_ge hlt (by decide)
      · have := h (vput (vput σ 39 (a.1 38 0) x0) 38 0 (nI (a.1 38 0 + 1))) ((vag.rf.put rfl).put rfl) (by
          rw [es, e]
          exact (hC.put (c := 39) rfl (Or.inr (Or.inr (Or.inl rfl))) hT).put (c := 38) rfl (Or.inr (Or.inl rfl)) hT)
        rw [es, ← nI_1, ← en] at this
        exact this
    · have hge : a.1 38 0 = 160 := by
        have c' : ¬ σ.1 38 0 < nI 160 := c
        rw [en, nIlt (by omega) (by decide)] at c'
        omega
      rw [if_pos hge] at es
      exact bad _ es
  · refine ⟨fun c => absurd rfl c, fun _ => bad (-2) ?_⟩
    unfold sFeed
    rw [vix_btw (m := 255) (by decide) hno]
theorem vb_toldOf {p0 w0 : Int32} (hC : vRC a σ) (hW : vWF a) (h7 : ¬ w0 < 7) (h : ∀ σ', vag vBi σ σ' → post (some (.int (sTold a p0 w0))) σ') : VM G (d + 5) iX6_toldOfLooker 0 [some (.ref 0), some (.int p0), some (.int w0)] [] σ post := by
  have hbig : ∀ j, j < 7 → ¬ w0 = nI j := fun j hj e => h7 (by rw [e]; exact nI_lt hj (by decide))
  refine VM.go [] ⟨_, VM.at (vb_isLooker (fun p hp e1 => ?_) (fun hno => ?_)), fun _ _ hh => hh⟩
  · refine ⟨fun _ => ?_, fun c => absurd c (by decide)⟩
    cases hv : vix w0 10 with
    | none =>
      refine vsw_go 72 (vsw_outN (m := 10) (by decide) hv (by decide)) ?_
      have := h σ vag.rf
      unfold sTold at this
      rw [hv] at this
      exact this
    | some w =>
      obtain ⟨hw, rfl⟩ := vix_some (by decide) hv
      have hw7 : 7 ≤ w := Nat.le_of_not_lt (fun q => hbig w q rfl)
      unfold sTold at h
      rw [hv, e1] at h
      subst e1
      rcases (show w = 7 ∨ w = 8 ∨ w = 9 by omega) with rfl | rfl | rfl
      all_goals dsimp only at h
      all_goals rw [vix_nI hp (by decide)] at h
      · refine vsw_go 36 (by decide) ⟨p, rfl, hp, ?_⟩
        have := h σ vag.rf
        dsimp only at this
        rw [← hC.num 7 p rfl] at this
        exact this
      · refine vsw_go 46 (by decide) (VM.at (VM.go [55] ?_))
        show VM G (d + 5) iX6_toldOfLooker 55 _ _ _ _
        rw [hC.num 1 0 rfl]
        exact VM.go [] ⟨_, VM.at (vb_allOf hp hW.1.1 hC hW (by exact h)), fun _ _ hh => hh⟩
      · refine vsw_go 59 (by decide) ⟨_, VM.at (vb_openBill hp hC hW (fun s2 hs2 hB => ?_)), fun _ _ hh => hh⟩
        exact ⟨_, VM.at (vb_lightsSeen hB.2.2.2.2.1 hB.2.2.2.2.2 (by exact h s2 hs2)), fun _ _ hh => hh⟩
  · refine ⟨fun c => absurd rfl c, fun _ => ?_⟩
    have := h σ vag.rf
    unfold sTold at this
    rw [vix_no (x := p0) (by decide) hno] at this
    cases hv : vix w0 10 with
    | none => rw [hv] at this; exact this
    | some w =>
      rw [hv] at this
      obtain ⟨hw, rfl⟩ := vix_some (by decide) hv
      have hw7 : 7 ≤ w := Nat.le_of_not_lt (fun q => hbig w q rfl)
      rcases (show w = 7 ∨ w = 8 ∨ w = 9 by omega) with rfl | rfl | rfl <;> exact this
theorem vc_told {i0 w0 : Int32} (hC : vRC a σ) (hW : vWF a) (h : ∀ σ', vag vBi σ σ' → post (some (.int (sTold a i0 w0))) σ') : VM G (d + 6) iX6_told 0 [some (.ref 0), some (.int i0), some (.int w0), none] [] σ post := by
  refine VM.go [25] ⟨fun c1 => ⟨fun c2 => ?_, fun c2 => ⟨_, VM.at (vb_toldOf hC hW c2 (by exact h)), fun _ _ hh => hh⟩⟩, fun c1 => ?_⟩
  · show VM G (d + 6) iX6_told 25 _ _ _ _
    cases hv : vix w0 7 with
    | none =>
      refine VM.go [] ⟨_, VM.at (VM.go [] (vsw_go 88 (vsw_outN (m := 7) (by decide) hv (by decide)) ?_)), fun _ _ hh => hh⟩
      have := h σ vag.rf
      unfold sTold at this
      rw [vix_no (x := w0) (m := 10) (by decide) (fun j hj e => ?_)] at this
      · exact this
      · subst e
        have c2' : nI j < nI 7 := c2
        rw [nIlt (by omega) (by decide)] at c2'
        exact vix_none (by decide) hv j c2' rfl
    | some w =>
      obtain ⟨hw, rfl⟩ := vix_some (by decide) hv
      have h1 : 1 ≤ w := by
        rcases Nat.eq_zero_or_pos w with rfl | q
        · exact absurd rfl c1
        · exact q
      have h' := h σ vag.rf
      unfold sTold at h'
      rw [vix_nI (show w < 10 by omega) (by decide)] at h'
      have hn6 := hW.1.2.2
      refine vb_toldPl hw h1 hC hW (fun j hj e => ?_) (fun hno => ?_)
      · rcases (show w = 1 ∨ w = 2 ∨ w = 3 ∨ w = 4 ∨ w = 5 ∨ w = 6 by omega) with rfl | rfl | rfl | rfl | rfl | rfl
        all_goals dsimp only at h'
        all_goals simp only [vpln] at hj
        all_goals rw [e, vix_nI hj (by omega)] at h'
        all_goals exact h'
      · rcases (show w = 1 ∨ w = 2 ∨ w = 3 ∨ w = 4 ∨ w = 5 ∨ w = 6 by omega) with rfl | rfl | rfl | rfl | rfl | rfl
        all_goals dsimp only at h'
        all_goals simp only [vpln] at hno
        all_goals rw [vix_no (by omega) hno] at h'
        all_goals exact h'
  · have c' : w0 = nI 0 := c1
    have := h σ vag.rf
    rw [c'] at this
    unfold sTold at this
    rw [vix_nI (by decide) (by decide), ← hC.num 1 0 rfl] at this
    exact this
end C2
