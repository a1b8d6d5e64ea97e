/-! ===== sheets ===== -/
def vbec (a : vα) (s so n : Nat) : vα := (fun c k => if c = 50 + 2 * s ∧ k = 0 then so else if c = 50 + 2 * s ∧ k = 1 then n else a.1 c k, fun s' k => if s' = s then 0 else a.2.1 s' k, a.2.2)
def vitm (a : vα) (s i : Nat) (v : Int32) : vα := (a.1, fun s' k => if s' = s ∧ k = i then v else a.2.1 s' k, a.2.2)
def vcnv (so : Nat) (v : Int32) : Int32 := if so = 1 then v.toInt8.toInt32 else if so = 2 then v.toInt16.toInt32 else v
def sSheet (a : vα) (sheet sort n : Int32) : vR2 := match vix sheet 4 with
  | none => (-2, a)
  | some s => if sort = -1 then (1, vbec a s 0 0) else match vix sort 3 with
    | none => (-2, a)
    | some so => if 40 < n then (-2, a) else match vix n 41 with
      | none => (-14, a)
      | some n => (1, vbec a s (so + 1) n)
def sCell (a : vα) (sheet i v : Int32) : vR2 := match vix sheet 4 with
  | none => (-2, a)
  | some s => if a.1 (50 + 2 * s) 0 = 0 then (-11, a) else match vix i (a.1 (50 + 2 * s) 1) with
    | none => (-12, a)
    | some i => (1, vitm a s i (vcnv (a.1 (50 + 2 * s) 0) v))
def vflm (a : vα) (s p : Nat) : Nat → vα
  | 0 => vbec a s 3 (a.1 1 2)
  | i + 1 => vitm (vflm a s p i) s i (nI (vowA a (a.1 1 0) (a.1 1 1) p i))
def sFilm (a : vα) (sheet looker : Int32) : vR2 := match vix sheet 4, vix looker 5 with
  | some s, some p => (nI (a.1 1 2), vflm a s p (a.1 1 2))
  | _, _ => (-2, a)
def vhas (sz : Nat) (i n : Int32) : Option (Nat × Nat) := match vix i (sz + 1), vix n (sz + 1) with
  | some i, some n => if i + n ≤ sz then some (i, n) else none
  | _, _ => none
def vcpA (a : vα) (s i o j n : Nat) : vα := (a.1, fun s' k => if s' = o ∧ j ≤ k ∧ k < j + n then a.2.1 s (i + (k - j)) else a.2.1 s' k, a.2.2)
def sCopy (a : vα) (sheet i other j n : Int32) : vR2 := match vix sheet 4, vix other 4 with
  | some s, some o => if a.1 (50 + 2 * s) 0 = 0 ∨ a.1 (50 + 2 * o) 0 = 0 then (-11, a) else if ¬ a.1 (50 + 2 * s) 0 = a.1 (50 + 2 * o) 0 then (-13, a) else match vhas (a.1 (50 + 2 * s) 1) i n, vhas (a.1 (50 + 2 * o) 1) j n with
    | some (i, m), some (j, _) => (nI m, vcpA a s i o j m)
    | _, _ => (-12, a)
  | _, _ => (-2, a)
/-- a row's cells -/
def vRw (ro c _k : Nat) : Bool := Nat.beq c ro || Nat.beq c (ro + 1)
theorem vRw_no {ro c k : Nat} (h1 : ¬ c = ro) (h2 : ¬ c = ro + 1) : vRw ro c k = false := by
  cases hb : vRw ro c k with
  | false => rfl
  | true => exfalso; simp only [vRw, Bool.or_eq_true, vbq] at hb; omega
theorem vRw_Kl {ro : Nat} (hr : ro = 50 ∨ ro = 52 ∨ ro = 54 ∨ ro = 56) (c k : Nat) (h : vKl c k = false) : vRw ro c k = false := by
  refine vRw_no (fun e => ?_) (fun e => ?_)
  · have : vKl c k = true := by unfold vKl; rw [Nat.ble_eq]; omega
    rw [this] at h; cases h
  · have : vKl c k = true := by unfold vKl; rw [Nat.ble_eq]; omega
    rw [this] at h; cases h
theorem vRC.bec {a : vα} {σ σ' : vM} {s so n : Nat} (hs : s < 4) (hC : vRC a σ) (h : vag (vRw (50 + 2 * s)) σ σ') (h0 : σ'.1 (50 + 2 * s) 0 = nI so - 1) (h1 : σ'.1 (50 + 2 * s) 1 = nI n) (h2 : ∀ k, k < 40 → σ'.1 (51 + 2 * s) k = 0) (hn : n ≤ 40) (hT : a.1 0 4 ≤ 6) : vRC (vbec a s so n) σ' := by
  obtain ⟨c1, c2, c3, c4⟩ := hC
  have he : ∀ c k, ¬ c = 50 + 2 * s → (vbec a s so n).1 c k = a.1 c k := fun c k e => by
    unfold vbec
    dsimp only
    rw [if_neg (fun q => e q.1), if_neg (fun q => e q.1)]
  have e1 : (vbec a s so n).1 (50 + 2 * s) 1 = n := by
    unfold vbec
    dsimp only
    rw [if_neg (fun q => absurd q.2 (by decide)), if_pos ⟨rfl, rfl⟩]
  have e0 : (vbec a s so n).1 (50 + 2 * s) 0 = so := by
    unfold vbec
    exact if_pos ⟨rfl, rfl⟩
  refine ⟨fun c k hk => ?_, fun s' hs' => ?_, fun s' k hs' hk => ?_, fun t ht => ?_⟩
  · by_cases e : c = 50 + 2 * s
    · have hk1 : k = 1 := by
        subst e
        simp only [vps, Bool.or_eq_true, Bool.and_eq_true, Nat.ble_eq, vbq] at hk
        omega
      rw [e, hk1, h1, e1]
    · have hne : ¬ c = 50 + 2 * s + 1 := fun e2 => by
        subst e2
        simp only [vps, Bool.or_eq_true, Bool.and_eq_true, Nat.ble_eq, vbq] at hk
        omega
      rw [he c k e, h.get (vRw_no e hne)]
      exact c1 c k hk
  · by_cases e : s' = s
    · rw [e, h0, e0]
    · rw [he _ _ (by omega), h.get (vRw_no (by omega) (by omega))]
      exact c2 s' hs'
  · by_cases e : s' = s
    · rw [e] at hk ⊢
      rw [e1] at hk
      rw [h2 k (by omega)]
      show (0 : Int32) = if s = s then 0 else a.2.1 s k
      rw [if_pos rfl]
    · rw [he _ _ (by omega)] at hk
      rw [h.get (vRw_no (by omega) (by omega))]
      show _ = if s' = s then 0 else a.2.1 s' k
      rw [if_neg e]
      exact c3 s' k hs' hk
  · rw [he _ _ (by omega)] at ht
    obtain ⟨r1, r2⟩ := c4 t ht
    exact ⟨r1.ag (fun k => h.get (vRw_no (by omega) (by omega))) (fun k => h.get (vRw_no (by omega) (by omega))), by rw [h.get (vRw_no (by omega) (by omega))]; exact r2⟩
theorem vRC.itm {a : vα} {σ : vM} {s i : Nat} {v : Int32} (hs : s < 4) (hC : vRC a σ) (hT : a.1 0 4 ≤ 6) : vRC (vitm a s i v) (vput σ (51 + 2 * s) i v) := by
  obtain ⟨c1, c2, c3, c4⟩ := hC
  refine ⟨fun c k hk => ?_, fun s' hs' => ?_, fun s' k hs' hk => ?_, fun t ht => ?_⟩
  · rw [vput_ne (Or.inl (fun e => by
      subst e
      simp only [vps, Bool.or_eq_true, Bool.and_eq_true, Nat.ble_eq, vbq] at hk
      omega))]
    exact c1 c k hk
  · rw [vput_ne (Or.inl (by omega))]; exact c2 s' hs'
  · rw [vput_get]
    show _ = if s' = s ∧ k = i then v else a.2.1 s' k
    by_cases e : s' = s ∧ k = i
    · rw [if_pos ⟨by omega, e.2⟩, if_pos e]
    · rw [if_neg (fun q => e ⟨by omega, q.2⟩), if_neg e]; exact c3 s' k hs' hk
  · obtain ⟨r1, r2⟩ := c4 t ht
    have ht' : t < a.1 0 4 := ht
    exact ⟨r1.ag (fun k => vput_ne (Or.inl (by omega))) (fun k => vput_ne (Or.inl (by omega))), by rw [vput_ne (Or.inl (by omega))]; exact r2⟩
section SH
variable {G : vG} {d : Nat} {σ : vM} {post : vQ} {a : vα}
theorem vb_become {ro n : Nat} {so0 n0 : Int32} (hr : ro = 50 ∨ ro = 52 ∨ ro = 54 ∨ ro = 56) (hn : n ≤ 40) (hn0 : n0 = nI n) (h : ∀ σ', vag (vRw ro) σ σ' → σ'.1 ro 0 = so0 → σ'.1 ro 1 = nI n → (∀ k, k < 40 → σ'.1 (ro + 1) k = 0) → post none σ') : VM G (d + 1) iX3_become 0 [some (.ref ro), some (.int so0), some (.int n0), none] [] σ post := by
  subst hn0
  have key : ∀ i, i ≤ 40 → ∀ s2, vag (vRw ro) σ s2 → s2.1 ro 0 = so0 → s2.1 ro 1 = nI n → (∀ k, k < i → s2.1 (ro + 1) k = 0) → VM G (d + 1) iX3_become 21 [some (.ref ro), some (.int so0), some (.int (nI n)), some (.int (nI i))] [] s2 post := by
    refine vloop _ ?_ ?_
    · intro s2 hs2 h0 h1 h2
      exact VM.go [21] ⟨fun _ => h s2 hs2 h0 h1 h2, fun q => absurd (by decide) q⟩
    · intro i hi ih s2 hs2 h0 h1 h2
      have hs3 : vag (vRw ro) σ (vput s2 (ro + 1) i (nI 0)) := hs2.put (by unfold vRw; simp)
      have := ih (vput s2 (ro + 1) i (nI 0)) hs3 (by rw [vput_ne (Or.inl (by omega))]; exact h0) (by rw [vput_ne (Or.inl (by omega))]; exact h1) (fun k hk => by
        rw [vput_get]
        by_cases e : k = i
        · rw [if_pos ⟨rfl, e⟩]; decide
        · rw [if_neg (fun q => e q.2)]; exact h2 k (by omega))
      rw [← nI_1] at this
      rcases hr with rfl | rfl | rfl | rfl
      all_goals exact VM.go [21] ⟨fun q => absurd q (nI_ge hi (by decide)), fun _ => ⟨nofun, i, rfl, hi, this⟩⟩
  have hm : (if (if (40 : Int32) < nI n then (40 : Int32) else nI n) < 0 then (0 : Int32) else (if (40 : Int32) < nI n then (40 : Int32) else nI n)) = nI n := by
    rw [show (if (40 : Int32) < nI n then (40 : Int32) else nI n) = nI n from if_neg (by rw [show (40 : Int32) = nI 40 from rfl, nIlt (by decide) (by omega)]; omega), if_neg (nI_pos (by omega))]
  have g := key 0 (Nat.zero_le _) (vput (vput σ ro 0 so0) ro 1 (nI n)) ((vag.rf.put (by unfold vRw; simp)).put (by unfold vRw; simp)) (by rw [vput_ne (Or.inr (by decide)), vput_eq]) (by rw [vput_eq]) (fun k hk => absurd hk (Nat.not_lt_zero _))
  rw [← hm] at g
  rcases hr with rfl | rfl | rfl | rfl
  all_goals
    refine VM.go [19] ?_
    show VM G (d + 1) iX3_become 19 _ _ _ _
    rw [hm] at g ⊢
    exact VM.go [21] g
theorem vb_put {s i so sz : Nat} {v : Int32} (hs : s < 4) (h0 : σ.1 (50 + 2 * s) 0 = nI so - 1) (h1 : σ.1 (50 + 2 * s) 1 = nI sz) (hso : 1 ≤ so ∧ so ≤ 3) (hi : i < sz) (hz : sz ≤ 40) (h : post none (vput σ (51 + 2 * s) i (vcnv so v))) : VM G d iX3_put 0 [some (.ref (50 + 2 * s)), some (.int (nI i)), some (.int v)] [] σ post := by
  have h40 : i < 40 := by omega
  have e0 : nI so - 1 = 0 ↔ so = 1 := by
    rw [show so = (so - 1) + 1 by omega, nI_pred, show (0 : Int32) = nI 0 from rfl, nI_eq (by omega) (by decide)]; omega
  have e1 : nI so - 1 = 1 ↔ so = 2 := by
    rw [show so = (so - 1) + 1 by omega, nI_pred, show (1 : Int32) = nI 1 from rfl, nI_eq (by omega) (by decide)]; omega
  rw [← h0] at e0 e1
  unfold vcnv at h
  have p1 : σ.1 (50 + 2 * s) 0 = 0 → post none (vput σ (51 + 2 * s) i v.toInt8.toInt32) := fun q => by
    rw [if_pos (e0.mp q)] at h; exact h
  have p2 : ¬ σ.1 (50 + 2 * s) 0 = 0 → σ.1 (50 + 2 * s) 0 = 1 → post none (vput σ (51 + 2 * s) i v.toInt16.toInt32) := fun q q2 => by
    rw [if_neg (fun z => q (e0.mpr z)), if_pos (e1.mp q2)] at h; exact h
  have p3 : ¬ σ.1 (50 + 2 * s) 0 = 0 → ¬ σ.1 (50 + 2 * s) 0 = 1 → post none (vput σ (51 + 2 * s) i v) := fun q q2 => by
    rw [if_neg (fun z => q (e0.mpr z)), if_neg (fun z => q2 (e1.mpr z))] at h; exact h
  rcases (show s = 0 ∨ s = 1 ∨ s = 2 ∨ s = 3 by omega) with rfl | rfl | rfl | rfl
  all_goals exact VM.go [] ⟨fun q => absurd q (nI_pos (by omega)), fun _ => ⟨fun q => absurd q (by rw [h1]; exact nI_ge hi (by omega)), fun _ => ⟨fun _ => ⟨fun q => ⟨fun q2 => ⟨nofun, i, rfl, h40, p3 q q2⟩, fun q2 => ⟨nofun, i, rfl, h40, p2 q q2⟩⟩, fun q => ⟨nofun, i, rfl, h40, p1 q⟩⟩, fun q => absurd (nI_lt h40 (by decide)) q⟩⟩⟩
theorem vrow_of {s : Nat} (hs : s < 4) : 50 + 2 * s = 50 ∨ 50 + 2 * s = 52 ∨ 50 + 2 * s = 54 ∨ 50 + 2 * s = 56 := by omega
theorem vRC.sz {s : Nat} (hs : s < 4) (hC : vRC a σ) : σ.1 (50 + 2 * s) 1 = nI (a.1 (50 + 2 * s) 1) := hC.num _ 1 (by rcases (show s = 0 ∨ s = 1 ∨ s = 2 ∨ s = 3 by omega) with rfl | rfl | rfl | rfl <;> rfl)
theorem vc_sheet {s0 o0 n0 : Int32} (hC : vRC a σ) (hW : vWF a) (h : ∀ σ', vag vKl σ σ' → vRC (sSheet a s0 o0 n0).2 σ' → post (some (.int (sSheet a s0 o0 n0).1)) σ') : VM G (d + 2) iX6_sheet 0 [some (.ref 0), some (.int s0), some (.int o0), some (.int n0)] [] σ post := by
  have hT := hW.2.1.2
  have bad : ∀ v, sSheet a s0 o0 n0 = (v, a) → post (some (.int v)) σ := fun v e => by
    have := h σ vag.rf (by rw [e]; exact hC)
    rw [e] at this
    exact this
  refine VM.go [19] ⟨_, VM.at (vb_isSheet (fun s hs e1 => ?_) (fun hno => ?_)), fun _ _ hh => hh⟩
  · refine ⟨fun c => absurd c (by decide), fun _ => ⟨_, VM.at (vb_between (fun b1 b2 => ?_) (fun hno => ?_)), fun _ _ hh => hh⟩⟩
    · refine ⟨fun _ => ?_, fun c => absurd c (by decide)⟩
      subst e1
      have es : sSheet a (nI s) o0 n0 = if o0 = -1 then ((1 : Int32), vbec a s 0 0) else match vix o0 3 with
        | none => (-2, a)
        | some so => if 40 < n0 then (-2, a) else match vix n0 41 with
          | none => (-14, a)
          | some n => (1, vbec a s (so + 1) n) := by
        unfold sSheet; rw [vix_nI hs (by decide)]
      have hr := vrow_of hs
      refine VM.go [] ⟨fun c1 => ?_, fun c1 => ?_⟩
      · rw [if_neg c1] at es
        obtain ⟨so, hso, e2⟩ : ∃ so, so < 3 ∧ o0 = nI so := by
          have b1' : 0 ≤ o0 := by
            rw [Int32.le_iff_toInt_le] at b1 ⊢
            have : o0.toInt ≠ (-1 : Int32).toInt := fun e => c1 (i32 e)
            rw [show (-1 : Int32).toInt = -1 from by decide] at b1 this
            rw [show (0 : Int32).toInt = 0 from by decide]
            omega
          obtain ⟨so, h1, h2⟩ := vnat (m := 2) (by decide) b1' b2
          exact ⟨so, by omega, h2⟩
        rw [e2, vix_nI hso (by decide)] at es
        dsimp only at es
        rw [← e2] at es
        refine ⟨fun c2 => ⟨fun c3 => ?_, fun c3 => ?_⟩, fun c2 => ?_⟩
        · obtain ⟨n, hn, e3⟩ := vnat (m := 40) (by decide) c3 c2
          have c2' : ¬ (40 : Int32) < n0 := Int32.not_lt.mpr c2
          have ev : vix n0 41 = some n := by rw [e3]; exact vix_nI (by omega) (by decide)
          rw [if_neg c2', ev] at es
          dsimp only at es
          rw [es] at h
          have g : ∀ σ', vag (vRw (50 + 2 * s)) σ σ' → σ'.1 (50 + 2 * s) 0 = o0 → σ'.1 (50 + 2 * s) 1 = nI n → (∀ k, k < 40 → σ'.1 (50 + 2 * s + 1) k = 0) → post (some (.int 1)) σ' := fun s2 g1 g2 g3 g4 => by
            refine h s2 (g1.up (vRw_Kl hr)) (hC.bec hs g1 ?_ g3 (fun k hk => ?_) hn hT)
            · rw [g2, e2, nI_pred]
            · have := g4 k hk
              rw [show 50 + 2 * s + 1 = 51 + 2 * s by omega] at this
              exact this
          rcases (show s = 0 ∨ s = 1 ∨ s = 2 ∨ s = 3 by omega) with rfl | rfl | rfl | rfl
          · exact ⟨0, rfl, by decide, _, VM.at (vb_become (by decide) hn e3 (by exact g)), fun _ _ hh => hh⟩
          · exact ⟨1, rfl, by decide, _, VM.at (vb_become (by decide) hn e3 (by exact g)), fun _ _ hh => hh⟩
          · exact ⟨2, rfl, by decide, _, VM.at (vb_become (by decide) hn e3 (by exact g)), fun _ _ hh => hh⟩
          · exact ⟨3, rfl, by decide, _, VM.at (vb_become (by decide) hn e3 (by exact g)), fun _ _ hh => hh⟩
        · refine bad (-14) ?_
          have c2' : ¬ (40 : Int32) < n0 := Int32.not_lt.mpr c2
          have ev : vix n0 41 = none := vix_btw (m := 40) (by decide) (fun q => c3 q.1)
          rw [if_neg c2', ev] at es
          exact es
        · refine bad (-2) ?_
          rw [if_pos (Int32.not_le.mp c2)] at es
          exact es
      · have c1' : o0 = -1 := c1
        rw [if_pos c1'] at es
        rw [es] at h
        have g : ∀ σ', vag (vRw (50 + 2 * s)) σ σ' → σ'.1 (50 + 2 * s) 0 = -1 → σ'.1 (50 + 2 * s) 1 = nI 0 → (∀ k, k < 40 → σ'.1 (50 + 2 * s + 1) k = 0) → post (some (.int 1)) σ' := fun s2 g1 g2 g3 g4 => by
          refine h s2 (g1.up (vRw_Kl hr)) (hC.bec hs g1 (by rw [g2]; decide) g3 (fun k hk => ?_) (by decide) hT)
          have := g4 k hk
          rw [show 50 + 2 * s + 1 = 51 + 2 * s by omega] at this
          exact this
        rcases (show s = 0 ∨ s = 1 ∨ s = 2 ∨ s = 3 by omega) with rfl | rfl | rfl | rfl
        · exact ⟨0, rfl, by decide, _, VM.at (vb_become (n := 0) (by decide) (by decide) rfl (by exact g)), fun _ _ hh => hh⟩
        · exact ⟨1, rfl, by decide, _, VM.at (vb_become (n := 0) (by decide) (by decide) rfl (by exact g)), fun _ _ hh => hh⟩
        · exact ⟨2, rfl, by decide, _, VM.at (vb_become (n := 0) (by decide) (by decide) rfl (by exact g)), fun _ _ hh => hh⟩
        · exact ⟨3, rfl, by decide, _, VM.at (vb_become (n := 0) (by decide) (by decide) rfl (by exact g)), fun _ _ hh => hh⟩
    · refine ⟨fun c => absurd rfl c, fun _ => bad (-2) ?_⟩
      unfold sSheet
      rw [e1, vix_nI hs (by decide)]
      dsimp only
      rw [if_neg (fun e => hno ⟨by rw [e]; decide, by rw [e]; decide⟩)]
      rw [vix_btw (x := o0) (m := 2) (by decide) (fun q => hno ⟨Int32.le_trans (by decide) q.1, q.2⟩)]
  · refine ⟨fun _ => bad (-2) ?_, fun c => absurd rfl c⟩
    unfold sSheet
    rw [vix_no (x := s0) (by decide) hno]
theorem vbec_lo {a : vα} {s so n c : Nat} (hc : c < 50) : (vbec a s so n).1 c = a.1 c := by
  funext k
  show (if c = 50 + 2 * s ∧ k = 0 then so else if c = 50 + 2 * s ∧ k = 1 then n else a.1 c k) = a.1 c k
  rw [if_neg (by omega), if_neg (by omega)]
theorem vWF.bec {a : vα} {s so n : Nat} (hW : vWF a) (hs : s < 4) (hso : so ≤ 3) (hn : n ≤ 40) (hz : so = 0 → n = 0) : vWF (vbec a s so n) := by
  obtain ⟨w1, w2, w3, w4, w5, w6, w7, w8, w9, w10⟩ := hW
  unfold vWF
  rw [vbec_lo (c := 0) (by decide), vbec_lo (c := 1) (by decide), vbec_lo (c := 2) (by decide), vbec_lo (c := 3) (by decide), vbec_lo (c := 4) (by decide), vbec_lo (c := 5) (by decide), vbec_lo (c := 6) (by decide), vbec_lo (c := 7) (by decide), vbec_lo (c := 8) (by decide), vbec_lo (c := 9) (by decide), vbec_lo (c := 10) (by decide), vbec_lo (c := 11) (by decide), vbec_lo (c := 12) (by decide), vbec_lo (c := 13) (by decide), vbec_lo (c := 14) (by decide), vbec_lo (c := 15) (by decide), vbec_lo (c := 16) (by decide), vbec_lo (c := 17) (by decide), vbec_lo (c := 18) (by decide), vbec_lo (c := 38) (by decide), vbec_lo (c := 39) (by decide)]
  refine ⟨w1, w2, w3, w4, w5, w6, w7, fun s' hs' => ?_, w9, w10⟩
  by_cases e : s' = s
  · subst e
    show (if 50 + 2 * s' = 50 + 2 * s' ∧ 0 = 0 then so else _) ≤ 3 ∧ (if 50 + 2 * s' = 50 + 2 * s' ∧ 1 = 0 then so else if 50 + 2 * s' = 50 + 2 * s' ∧ 1 = 1 then n else _) ≤ 40 ∧ ((if 50 + 2 * s' = 50 + 2 * s' ∧ 0 = 0 then so else _) = 0 → (if 50 + 2 * s' = 50 + 2 * s' ∧ 1 = 0 then so else if 50 + 2 * s' = 50 + 2 * s' ∧ 1 = 1 then n else _) = 0)
    rw [if_pos ⟨rfl, rfl⟩, if_neg (fun q => absurd q.2 (by decide)), if_pos ⟨rfl, rfl⟩]
    exact ⟨hso, hn, hz⟩
  · have e0 : ∀ k, (vbec a s so n).1 (50 + 2 * s') k = a.1 (50 + 2 * s') k := fun k => by
      show (if 50 + 2 * s' = 50 + 2 * s ∧ k = 0 then so else if 50 + 2 * s' = 50 + 2 * s ∧ k = 1 then n else a.1 (50 + 2 * s') k) = _
      rw [if_neg (by omega), if_neg (by omega)]
    rw [e0, e0]
    exact w8 s' hs'
theorem vWF.itm {a : vα} {s i : Nat} {v : Int32} (hW : vWF a) : vWF (vitm a s i v) := hW
theorem vKl_row {s i : Nat} (hs : s < 4) : vKl (51 + 2 * s) i = true := by unfold vKl; rw [Nat.ble_eq]; omega
theorem vc_cell {s0 i0 v0 : Int32} (hC : vRC a σ) (hW : vWF a) (h : ∀ σ', vag vKl σ σ' → vRC (sCell a s0 i0 v0).2 σ' → post (some (.int (sCell a s0 i0 v0).1)) σ') : VM G (d + 1) iX6_cell 0 [some (.ref 0), some (.int s0), some (.int i0), some (.int v0), none] [] σ post := by
  have hT := hW.2.1.2
  have bad : ∀ v, sCell a s0 i0 v0 = (v, a) → post (some (.int v)) σ := fun v e => by
    have := h σ vag.rf (by rw [e]; exact hC)
    rw [e] at this
    exact this
  refine VM.go [] ⟨_, VM.at (vb_isSheet (fun s hs e1 => ?_) (fun hno => ?_)), fun _ _ hh => hh⟩
  · refine ⟨fun _ => ?_, fun c => absurd c (by decide)⟩
    subst e1
    have es : sCell a (nI s) i0 v0 = if a.1 (50 + 2 * s) 0 = 0 then ((-11 : Int32), a) else match vix i0 (a.1 (50 + 2 * s) 1) with
      | none => (-12, a)
      | some i => (1, vitm a s i (vcnv (a.1 (50 + 2 * s) 0) v0)) := by
      unfold sCell; rw [vix_nI hs (by decide)]
    have hso := hC.2.1 s hs
    have hsz := hC.sz hs
    obtain ⟨r1, r2, r3⟩ := hW.2.2.2.2.2.2.2.1 s hs
    have k1 : σ.1 (50 + 2 * s) 0 = -1 → post (some (.int (-11))) σ := fun e => by
      rw [hso, nI_m1e (by omega)] at e
      rw [if_pos e] at es
      exact bad _ es
    have k2 : ¬ σ.1 (50 + 2 * s) 0 = -1 → i0 < 0 → post (some (.int (-12))) σ := fun e q => by
      rw [hso, nI_m1e (by omega)] at e
      rw [if_neg e, vix_no (x := i0) (by omega) (fun j hj z => nI_pos (show j < 2 ^ 31 by omega) (by rw [← z]; exact q))] at es
      exact bad _ es
    have k3 : ¬ σ.1 (50 + 2 * s) 0 = -1 → ¬ i0 < σ.1 (50 + 2 * s) 1 → post (some (.int (-12))) σ := fun e q => by
      rw [hso, nI_m1e (by omega)] at e
      rw [hsz] at q
      rw [if_neg e, vix_no (x := i0) (by omega) (fun j hj z => q (by rw [z]; exact nI_lt hj (by omega)))] at es
      exact bad _ es
    have k4 : ¬ σ.1 (50 + 2 * s) 0 = -1 → ¬ i0 < 0 → i0 < σ.1 (50 + 2 * s) 1 → VM G d iX3_put 0 [some (.ref (50 + 2 * s)), some (.int i0), some (.int v0)] [] σ (fun v σ' => v = none ∧ post (some (.int 1)) σ') := fun e q1 q2 => by
      rw [hso, nI_m1e (by omega)] at e
      obtain ⟨i, hi, rfl⟩ := nI_of q1
      rw [hsz, nIlt (by omega) (by omega)] at q2
      rw [if_neg e, vix_nI q2 (by omega)] at es
      dsimp only at es
      rw [es] at h
      refine vb_put hs hso hsz (by omega) q2 r2 ?_
      exact ⟨rfl, h _ (vag.rf.put (vKl_row hs)) (hC.itm hs hT)⟩
    rcases (show s = 0 ∨ s = 1 ∨ s = 2 ∨ s = 3 by omega) with rfl | rfl | rfl | rfl
    · exact ⟨0, rfl, by decide, fun e => ⟨fun q => k2 e q, fun q => ⟨fun q2 => ⟨_, VM.at (k4 e q q2), fun _ _ hh => by rcases hh with ⟨rfl, hh⟩; exact hh⟩, fun q2 => k3 e q2⟩⟩, fun e => k1 e⟩
    · exact ⟨1, rfl, by decide, fun e => ⟨fun q => k2 e q, fun q => ⟨fun q2 => ⟨_, VM.at (k4 e q q2), fun _ _ hh => by rcases hh with ⟨rfl, hh⟩; exact hh⟩, fun q2 => k3 e q2⟩⟩, fun e => k1 e⟩
    · exact ⟨2, rfl, by decide, fun e => ⟨fun q => k2 e q, fun q => ⟨fun q2 => ⟨_, VM.at (k4 e q q2), fun _ _ hh => by rcases hh with ⟨rfl, hh⟩; exact hh⟩, fun q2 => k3 e q2⟩⟩, fun e => k1 e⟩
    · exact ⟨3, rfl, by decide, fun e => ⟨fun q => k2 e q, fun q => ⟨fun q2 => ⟨_, VM.at (k4 e q q2), fun _ _ hh => by rcases hh with ⟨rfl, hh⟩; exact hh⟩, fun q2 => k3 e q2⟩⟩, fun e => k1 e⟩
  · refine ⟨fun c => absurd rfl c, fun _ => bad (-2) ?_⟩
    unfold sCell
    rw [vix_no (x := s0) (by decide) hno]
theorem vflm_ne {s p i : Nat} : (vflm a s p i).1 = (vbec a s 3 (a.1 1 2)).1 := by
  induction i with
  | zero => rfl
  | succ i ih => exact ih
theorem vBR.lo {cs : Nat → List Int32} {c n r : Nat} {kd nu ye se : Nat → Nat} {σ' : vM} (h : vBR cs c n r kd nu ye se σ) (hs : ∀ c k, c < 47 → σ'.1 c k = σ.1 c k) : vBR cs c n r kd nu ye se σ' := by
  obtain ⟨h1, h2, h3, ⟨nn, h4, h5, h6⟩, h7, ⟨g1, g2, g3, g4, g5, g6, g7⟩⟩ := h
  have hr : r ≤ 35 := by unfold vRc at h1; omega
  exact ⟨h1, h2.ag (fun k => hs _ _ (by omega)) (fun k => hs _ _ (by omega)), h3, ⟨nn, h4, h5, (hs _ _ (by omega)).trans h6⟩, h7, ⟨(hs _ _ (by decide)).trans g1, (hs _ _ (by decide)).trans g2, (hs _ _ (by decide)).trans g3, fun k hk => (hs _ _ (by decide)).trans (g4 k hk), fun k hk => (hs _ _ (by decide)).trans (g5 k hk), fun k hk => (hs _ _ (by decide)).trans (g6 k hk), fun k hk => (hs _ _ (by decide)).trans (g7 k hk)⟩⟩
theorem vBi_Kl (c k : Nat) (h : vKl c k = false) : vBi c k = false := vBi_Cs c k (vKl_Cs c k h)
theorem vc_film {s0 p0 : Int32} (hC : vRC a σ) (hW : vWF a) (h : ∀ σ', vag vKl σ σ' → vRC (sFilm a s0 p0).2 σ' → post (some (.int (sFilm a s0 p0).1)) σ') : VM G (d + 3) iX6_film 0 [some (.ref 0), some (.int s0), some (.int p0), none, none] [] σ post := by
  have hT := hW.2.1.2
  have hn6 := hW.1.2.2
  have bad : ∀ v, sFilm a s0 p0 = (v, a) → post (some (.int v)) σ := fun v e => by
    have := h σ vag.rf (by rw [e]; exact hC)
    rw [e] at this
    exact this
  refine VM.go [17] ⟨_, VM.at (vb_isSheet (fun s hs e1 => ?_) (fun hno => ?_)), fun _ _ hh => hh⟩
  · refine ⟨fun c => absurd c (by decide), fun _ => ⟨_, VM.at (vb_isLooker (fun p hp e2 => ?_) (fun hno => ?_)), fun _ _ hh => hh⟩⟩
    · refine ⟨fun _ => ?_, fun c => absurd c (by decide)⟩
      subst e1; subst e2
      have es : sFilm a (nI s) (nI p) = (nI (a.1 1 2), vflm a s p (a.1 1 2)) := by
        unfold sFilm; rw [vix_nI hs (by decide), vix_nI hp (by decide)]
      rw [es] at h
      have hr := vrow_of hs
      have en := hC.num 1 2 rfl
      have hT2 : ∀ i, (vflm a s p i).1 0 4 ≤ 6 := fun i => by
        rw [vflm_ne]
        show (if 0 = 50 + 2 * s ∧ 4 = 0 then _ else if 0 = 50 + 2 * s ∧ 4 = 1 then _ else a.1 0 4) ≤ 6
        rw [if_neg (by omega), if_neg (by omega)]
        exact hT
      have z0 : ∀ i, (vflm a s p i).1 (50 + 2 * s) 0 = 3 := fun i => by
        rw [vflm_ne]
        show (if 50 + 2 * s = 50 + 2 * s ∧ 0 = 0 then 3 else _) = 3
        rw [if_pos ⟨rfl, rfl⟩]
      have z1 : ∀ i, (vflm a s p i).1 (50 + 2 * s) 1 = a.1 1 2 := fun i => by
        rw [vflm_ne]
        show (if 50 + 2 * s = 50 + 2 * s ∧ 1 = 0 then 3 else if 50 + 2 * s = 50 + 2 * s ∧ 1 = 1 then _ else _) = a.1 1 2
        rw [if_neg (fun q => absurd q.2 (by decide)), if_pos ⟨rfl, rfl⟩]
      have key : ∀ i, i ≤ a.1 1 2 → ∀ s2, vag vKl σ s2 → s2.1 1 2 = σ.1 1 2 → vRC (vflm a s p i) s2 → vBA a (a.1 1 1) p (a.1 1 0) s2 → VM G (d + 3) iX6_film 44 [some (.ref 0), some (.int (nI s)), some (.int (nI p)), some (.ref (50 + 2 * s)), some (.int (nI i))] [] s2 post := by
        refine vloop _ ?_ ?_
        · intro s2 hs2 hn2 hC2 hB2
          refine VM.go [44] ⟨fun _ => ?_, fun q => absurd ?_ q⟩
          · have := h s2 hs2 hC2
            rw [← en, ← hn2] at this
            exact this
          · rw [hn2, en]; exact nI_le (Nat.le_refl _) (by omega)
        · intro i hi ih s2 hs2 hn2 hC2 hB2
          have hi6 : i < 6 := by omega
          have nx2 : ∀ s3, vag vSc s2 s3 → VM G (d + 2) iX3_put 0 [some (.ref (50 + 2 * s)), some (.int (nI i)), some (.int (nI (vowA a (a.1 1 0) (a.1 1 1) p i)))] [] s3 (fun v σ' => v = none ∧ VM G (d + 3) iX6_film 71 [some (.ref 0), some (.int (nI s)), some (.int (nI p)), some (.ref (50 + 2 * s)), some (.int (nI i))] [] σ' post) := by
            intro s3 hs3
            have hC3 : vRC (vflm a s p i) s3 := hC2.ag ((hs3.up vSc_Bi).up vBi_Cs) (hT2 i)
            have g0 := hC3.2.1 s hs
            have g1 := hC3.sz hs
            rw [z0] at g0
            rw [z1] at g1
            refine vb_put (so := 3) (sz := a.1 1 2) hs g0 g1 (by decide) hi (by omega) ?_
            refine ⟨rfl, VM.go [44] ?_⟩
            show VM G (d + 3) iX6_film 44 _ _ _ _
            rw [nI_1]
            refine ih _ ((hs2.tr ((hs3.up vSc_Bi).up vBi_Kl)).put (vKl_row hs)) ?_ (hC3.itm hs (hT2 i)) ?_
            · rw [vput_ne (Or.inl (by omega)), hs3.get rfl]; exact hn2
            · exact (hB2.ag hs3).lo (fun c k hc => vput_ne (Or.inl (by omega)))
          have lt : ¬ (s2.1 1 2 ≤ nI i) := by rw [hn2, en]; exact nI_ge hi (by omega)
          rcases (show s = 0 ∨ s = 1 ∨ s = 2 ∨ s = 3 by omega) with rfl | rfl | rfl | rfl
          all_goals exact VM.go [71] ⟨fun q => absurd q lt, fun _ => ⟨_, VM.at (vb_owedR hi6 hB2 (fun s3 hs3 => by exact ⟨_, VM.at (nx2 s3 hs3), fun _ _ hh => by rcases hh with ⟨rfl, hh⟩; exact VM.at hh⟩)), fun _ _ hh => hh⟩⟩
      have g : ∀ σ', vag (vRw (50 + 2 * s)) σ σ' → σ'.1 (50 + 2 * s) 0 = 2 → σ'.1 (50 + 2 * s) 1 = nI (a.1 1 2) → (∀ k, k < 40 → σ'.1 (50 + 2 * s + 1) k = 0) → VM G (d + 2) iX6_openBill 0 [some (.ref 0), some (.int (nI p))] [] σ' (fun v s2 => v = none ∧ VM G (d + 3) iX6_film 44 [some (.ref 0), some (.int (nI s)), some (.int (nI p)), some (.ref (50 + 2 * s)), some (.int (nI 0))] [] s2 post) := by
        intro s2 g1 g2 g3 g4
        have hC2 : vRC (vflm a s p 0) s2 := hC.bec hs g1 (by rw [g2]; decide) g3 (fun k hk => by rw [show 51 + 2 * s = 50 + 2 * s + 1 by omega]; exact g4 k hk) (by omega) hT
        have lo : ∀ c k, c < 50 → s2.1 c k = σ.1 c k := fun c k hc => g1.get (vRw_no (by omega) (by omega))
        have hW2 : vWF (vbec a s 3 (a.1 1 2)) := hW.bec hs (by decide) (by omega) (fun q => absurd q (by decide))
        refine vb_openBill hp hC2 hW2 (fun s3 hs3 hB3 => ⟨rfl, ?_⟩)
        have hB4 : vBA a (a.1 1 1) p (a.1 1 0) s3 := by
          have := hB3
          unfold vBA at this
          rw [show vflm a s p 0 = vbec a s 3 (a.1 1 2) from rfl, vbec_lo (by decide), vbec_lo (by decide), vbec_lo (by decide), vbec_lo (by decide), vbec_lo (by decide)] at this
          exact this
        refine key 0 (Nat.zero_le _) s3 ((g1.up (vRw_Kl hr)).tr (hs3.up vBi_Kl)) ?_ (hC2.ag (hs3.up vBi_Cs) (hT2 0)) hB4
        rw [hs3.get rfl]
        exact lo 1 2 (by decide)
      rcases (show s = 0 ∨ s = 1 ∨ s = 2 ∨ s = 3 by omega) with rfl | rfl | rfl | rfl
      · exact VM.at (VM.go [44] ⟨0, rfl, by decide, _, VM.at (vb_become (n := a.1 1 2) (by decide) (by omega) en (fun s2 g1 g2 g3 g4 => by exact ⟨_, VM.at (g s2 g1 g2 g3 g4), fun _ _ hh => by rcases hh with ⟨rfl, hh⟩; exact VM.at (VM.go [44] hh)⟩)), fun _ _ hh => hh⟩)
      · exact VM.at (VM.go [44] ⟨1, rfl, by decide, _, VM.at (vb_become (n := a.1 1 2) (by decide) (by omega) en (fun s2 g1 g2 g3 g4 => by exact ⟨_, VM.at (g s2 g1 g2 g3 g4), fun _ _ hh => by rcases hh with ⟨rfl, hh⟩; exact VM.at (VM.go [44] hh)⟩)), fun _ _ hh => hh⟩)
      · exact VM.at (VM.go [44] ⟨2, rfl, by decide, _, VM.at (vb_become (n := a.1 1 2) (by decide) (by omega) en (fun s2 g1 g2 g3 g4 => by exact ⟨_, VM.at (g s2 g1 g2 g3 g4), fun _ _ hh => by rcases hh with ⟨rfl, hh⟩; exact VM.at (VM.go [44] hh)⟩)), fun _ _ hh => hh⟩)
      · exact VM.at (VM.go [44] ⟨3, rfl, by decide, _, VM.at (vb_become (n := a.1 1 2) (by decide) (by omega) en (fun s2 g1 g2 g3 g4 => by exact ⟨_, VM.at (g s2 g1 g2 g3 g4), fun _ _ hh => by rcases hh with ⟨rfl, hh⟩; exact VM.at (VM.go [44] hh)⟩)), fun _ _ hh => hh⟩)
    · refine ⟨fun c => absurd rfl c, fun _ => bad (-2) ?_⟩
      unfold sFilm
      rw [e1, vix_nI hs (by decide), vix_no (x := p0) (by decide) hno]
  · refine ⟨fun _ => bad (-2) ?_, fun c => absurd rfl c⟩
    unfold sFilm
    rw [vix_no (x := s0) (by decide) hno]
end SH
