/-! ===== THE REFERENCE: sheet, cell, film ===== -/
def vSh (b : vα) (σ : vM) (s : Nat) : Prop := σ.1 79 s = (if b.1 (50 + 2 * s) 0 = 0 then 0 else 1) ∧ (¬ b.1 (50 + 2 * s) 0 = 0 → σ.1 80 s = nI (b.1 (50 + 2 * s) 0) - 1 ∧ σ.1 81 s = nI (b.1 (50 + 2 * s) 1) ∧ ∀ k, k < b.1 (50 + 2 * s) 1 → σ.1 82 (40 * s + k) = b.2.1 s k)
/-- a sheet's places in the reference -/
def vSf (s c k : Nat) : Bool := (Nat.ble 79 c && Nat.ble c 81 && Nat.beq k s) || (Nat.beq c 82 && Nat.ble (40 * s) k && Nat.ble (k + 1) (40 * s + 40))
theorem vSf_p {s c k : Nat} (h : (79 ≤ c ∧ c ≤ 81 ∧ k = s) ∨ (c = 82 ∧ 40 * s ≤ k ∧ k < 40 * s + 40)) : vSf s c k = true := by
  simp only [vSf, Bool.or_eq_true, Bool.and_eq_true, Nat.ble_eq, vbq]; omega
theorem vSf_n {s c k : Nat} (h : ¬ ((79 ≤ c ∧ c ≤ 81 ∧ k = s) ∨ (c = 82 ∧ 40 * s ≤ k ∧ k < 40 * s + 40))) : vSf s c k = false := by
  cases hb : vSf s c k with
  | false => rfl
  | true => exfalso; simp only [vSf, Bool.or_eq_true, Bool.and_eq_true, Nat.ble_eq, vbq] at hb; omega
theorem vRf_Sf {s : Nat} (c k : Nat) (h : vRf c k = false) : vSf s c k = false := by
  refine vSf_n (fun q => ?_)
  have : vRf c k = true := by
    simp only [vRf, Bool.and_eq_true, Nat.ble_eq]; omega
  rw [this] at h; cases h
theorem vRM.she {a b : vα} {σ σ' : vM} (h : vRM a σ) (hne : ∀ c k, c < 50 → b.1 c k = a.1 c k) (h2 : b.2.2 = a.2.2) (hf : ∀ c k, c < 79 → σ'.1 c k = σ.1 c k) (h6 : ∀ s, s < 4 → vSh b σ' s) : vRM b σ' := by
  obtain ⟨⟨p1, p2, p3, p4, p5⟩, g2, g3, g4, ⟨k1, k2, k3, k4⟩, -⟩ := h
  refine ⟨⟨?_, ?_, ?_, ?_, ?_⟩, fun k hk => ?_, fun k => ?_, fun t ht => ?_, ⟨?_, ?_, ?_, fun k => ?_⟩, h6⟩
  · rw [hf _ _ (by decide), hne _ _ (by decide)]; exact p1
  · rw [hf _ _ (by decide), hne _ _ (by decide)]; exact p2
  · rw [hf _ _ (by decide), hne _ _ (by decide)]; exact p3
  · rw [hf _ _ (by decide), hne _ _ (by decide)]; exact p4
  · rw [hf _ _ (by decide), hne _ _ (by decide)]; exact p5
  · rw [hne 1 2 (by decide)] at hk
    rw [hf _ _ (by decide), hne _ _ (by decide)]; exact g2 k hk
  · rw [hf _ _ (by decide), hf _ _ (by decide), hf _ _ (by decide), hf _ _ (by decide), hf _ _ (by decide), hf _ _ (by decide), hf _ _ (by decide), hf _ _ (by decide), hne _ _ (by decide), hne _ _ (by decide), hne _ _ (by decide), hne _ _ (by decide), hne _ _ (by decide), hne _ _ (by decide), hne _ _ (by decide), hne _ _ (by decide), hne _ _ (by decide)]
    exact g3 k
  · rw [hne 0 4 (by decide)] at ht
    rw [hf _ _ (by decide), h2]
    exact ⟨(g4 t ht).1, fun k hk => (hf _ _ (by decide)).trans ((g4 t ht).2 k hk)⟩
  · rw [hf _ _ (by decide), hne _ _ (by decide), hne _ _ (by decide)]; exact k1
  · rw [hf _ _ (by decide), hne _ _ (by decide)]; exact k2
  · rw [hf _ _ (by decide), hne _ _ (by decide)]; exact k3
  · rw [hf _ _ (by decide), hf _ _ (by decide), hf _ _ (by decide), hf _ _ (by decide), hf _ _ (by decide), hf _ _ (by decide), hf _ _ (by decide), hne _ _ (by decide), hne _ _ (by decide), hne _ _ (by decide), hne _ _ (by decide), hne _ _ (by decide), hne _ _ (by decide), hne _ _ (by decide)]
    exact k4 k
theorem vRM.one {a b : vα} {σ σ' : vM} {s : Nat} (h : vRM a σ) (hW : vWF a) (hs : s < 4) (hne : ∀ c k, ¬ c = 50 + 2 * s → b.1 c k = a.1 c k) (hi : ∀ s' k, ¬ s' = s → b.2.1 s' k = a.2.1 s' k) (h2 : b.2.2 = a.2.2) (hf : vagI (vSf s) σ σ') (h6 : vSh b σ' s) : vRM b σ' := by
  refine h.she (fun c k hc => hne c k (by omega)) h2 (fun c k hc => hf.get (vSf_n (by omega))) (fun s' hs' => ?_)
  by_cases e : s' = s
  · rw [e]; exact h6
  · obtain ⟨q1, q2⟩ := h.2.2.2.2.2 s' hs'
    have z := (hW.2.2.2.2.2.2.2.1 s' hs').2.1
    unfold vSh
    rw [hne (50 + 2 * s') 0 (by omega), hne (50 + 2 * s') 1 (by omega)]
    refine ⟨(hf.get (vSf_n (by omega))).trans q1, fun q => ?_⟩
    obtain ⟨r1, r2, r3⟩ := q2 q
    refine ⟨(hf.get (vSf_n (by omega))).trans r1, (hf.get (vSf_n (by omega))).trans r2, fun k hk => ?_⟩
    rw [hi s' k e, ← r3 k hk]
    exact hf.get (vSf_n (by omega))
theorem vRM.itm {a : vα} {σ : vM} {s i : Nat} {v : Int32} (h : vRM a σ) (hW : vWF a) (hs : s < 4) (hi : i < a.1 (50 + 2 * s) 1) : vRM (vitm a s i v) (vput σ 82 (40 * s + i) v) := by
  have z := (hW.2.2.2.2.2.2.2.1 s hs).2.1
  have q := h.2.2.2.2.2 s hs
  refine h.one hW hs (fun _ _ _ => rfl) (fun s' k e => if_neg (fun q => e q.1)) rfl (vagI.rf.put (vSf_p (by omega))) ?_
  refine ⟨q.1, fun n0 => ?_⟩
  obtain ⟨r1, r2, r3⟩ := q.2 n0
  refine ⟨r1, r2, fun k hk => ?_⟩
  rw [vput_get]
  show _ = if s = s ∧ k = i then v else a.2.1 s k
  by_cases e : k = i
  · rw [if_pos ⟨rfl, by omega⟩, if_pos ⟨rfl, e⟩]
  · rw [if_neg (by omega), if_neg (by omega)]; exact r3 k hk
section RT2
variable {Gx : Nat × (Nat → Int32)} {d D : Nat} {σ : vM} {post : vQ} {a : vα}
theorem vm1_ge {o : Int32} (h1 : -1 ≤ o) (h2 : ¬ o = -1) : 0 ≤ o := by
  rw [Int32.le_iff_toInt_le] at h1 ⊢
  have e1 : ((-1 : Int32)).toInt = -1 := by decide
  have e0 : (0 : Int32).toInt = 0 := by decide
  have : ¬ o.toInt = -1 := fun q => h2 (Int32.toInt_inj.mp (q.trans e1.symm))
  omega
theorem vr_sheet {s0 o0 n0 : Int32} (hR : vRM a σ) (hW : vWF a) (h : ∀ σ', vagI vRf σ σ' → vRM (sSheet a s0 o0 n0).2 σ' → post (some (.int (sSheet a s0 o0 n0).1)) σ') : VM (true, Gx) (d + 2) iX7_sheet 0 [some (.ref 58), some (.int s0), some (.int o0), some (.int n0), none] [] σ post := by
  have bad : ∀ v, sSheet a s0 o0 n0 = (v, a) → post (some (.int v)) σ := fun v e => by
    have := h σ vagI.rf (by rw [e]; exact hR)
    rw [e] at this
    exact this
  refine VM.go [34] ⟨_, VM.at (vm_isSheet (d := d) (fun s es hs e1 => ?_) (fun es => ?_)), fun _ _ hh => hh⟩
  · refine ⟨fun c => absurd c (by decide), fun _ => ⟨_, VM.at (vm_inI (a := -1) (b := 2) (by decide) (by decide) (fun b1 b2 => ?_) (fun hno => ?_)), fun _ _ hh => hh⟩⟩
    · refine ⟨fun c => absurd c (by decide), fun _ => ?_⟩
      subst e1
      by_cases hm : o0 = -1
      · subst hm
        have er : sSheet a (nI s) (-1) n0 = (1, vbec a s 0 0) := by
          unfold sSheet
          rw [es]
          exact if_pos rfl
        have fin := h (vput (vput (vput σ 79 s 0) 80 s (-1)) 81 s n0) (((vagI.rf.put rfl).put rfl).put rfl) (by
          rw [er]
          refine hR.one hW hs (fun c k e => ?_) (fun s' k e => if_neg e) rfl (((vagI.rf.put (vSf_p (by omega))).put (vSf_p (by omega))).put (vSf_p (by omega))) ?_
          · show (if c = 50 + 2 * s ∧ k = 0 then 0 else if c = 50 + 2 * s ∧ k = 1 then 0 else a.1 c k) = a.1 c k
            rw [if_neg (by omega), if_neg (by omega)]
          · have e0 : (vbec a s 0 0).1 (50 + 2 * s) 0 = 0 := if_pos ⟨rfl, rfl⟩
            unfold vSh
            rw [e0]
            exact ⟨by rw [vput_ne (Or.inl (by decide)), vput_ne (Or.inl (by decide)), vput_eq]; rfl, fun q => absurd rfl q⟩)
        rw [er] at fin
        exact ⟨fun _ => VM.at (VM.go [] ⟨fun _ => ⟨fun _ => ⟨fun _ => Or.inl rfl, s, rfl, hs, nofun, s, rfl, hs, nofun, s, rfl, hs, fun _ => fin, fun _ => ⟨fun _ => fin, fun q => absurd (by decide) q⟩⟩, fun q => absurd (by decide) q⟩, fun q => absurd (by decide) q⟩), fun q => absurd (by decide) q⟩
      · obtain ⟨so, hso, e2⟩ := vnat (m := 2) (by decide) (vm1_ge b1 hm) b2
        subst e2
        have vso : vix (nI so) 3 = some so := vix_nI (by omega) (by decide)
        have er : sSheet a (nI s) (nI so) n0 = if 40 < n0 then ((-2 : Int32), a) else match vix n0 41 with
            | none => ((-14 : Int32), a)
            | some n => (1, vbec a s (so + 1) n) := by
          unfold sSheet
          rw [es]
          show (if nI so = -1 then _ else _) = _
          rw [if_neg hm, vso]
          cases vix n0 41 <;> rfl
        refine ⟨fun q => absurd q (nI_pos (by omega)), fun _ => ⟨fun c => ?_, fun c => ?_⟩⟩
        · have c' : n0 ≤ 40 := c
          rw [if_neg (Int32.not_lt.mpr c')] at er
          cases hv : vix n0 41 with
          | none =>
            rw [hv] at er
            refine VM.at (VM.go [] ⟨fun q => absurd q (nI_pos (by omega)), fun _ => ⟨fun q => absurd ⟨q, c'⟩ (vix_le (m := 40) (by decide) hv), fun _ => bad _ er⟩⟩)
          | some n =>
            obtain ⟨hn, e3⟩ := vix_some (by decide) hv
            rw [hv] at er
            subst e3
            have key : ∀ i, i ≤ n → ∀ s2, vagI (vSf s) σ s2 → s2.1 79 s = 1 → s2.1 80 s = nI so → s2.1 81 s = nI n → (∀ k, k < i → s2.1 82 (40 * s + k) = 0) → VM (true, Gx) (d + 2) iX7_sheet 77 [some (.ref 58), some (.int (nI s)), some (.int (nI so)), some (.int (nI n)), some (.int (nI i))] [] s2 post := by
              refine vloop _ ?_ ?_
              · intro s2 hs2 q1 q2 q3 q4
                have fin := h s2 (hs2.up vRf_Sf) (by
                  rw [er]
                  refine hR.one hW hs (fun c k e => ?_) (fun s' k e => if_neg e) rfl hs2 ?_
                  · show (if c = 50 + 2 * s ∧ k = 0 then so + 1 else if c = 50 + 2 * s ∧ k = 1 then n else a.1 c k) = a.1 c k
                    rw [if_neg (by omega), if_neg (by omega)]
                  · have e0 : (vbec a s (so + 1) n).1 (50 + 2 * s) 0 = so + 1 := if_pos ⟨rfl, rfl⟩
                    have e1 : (vbec a s (so + 1) n).1 (50 + 2 * s) 1 = n := (if_neg (by omega)).trans (if_pos ⟨rfl, rfl⟩)
                    unfold vSh
                    rw [e0, e1, if_neg (by omega), nI_pred]
                    exact ⟨q1, fun _ => ⟨q2, q3, fun k hk => (q4 k hk).trans (if_pos rfl).symm⟩⟩)
                rw [er] at fin
                exact VM.go [] ⟨fun _ => fin, fun q => absurd (nI_le (Nat.le_refl _) (by omega)) q⟩
              · intro i hi ih s2 hs2 q1 q2 q3 q4
                have ix : (40 : Int32) * nI s + nI i = nI (40 * s + i) := by rw [show (40 : Int32) = nI 40 from rfl, pk_mul, nI_add]
                have := ih (vput s2 82 (40 * s + i) 0) (hs2.put (vSf_p (by omega))) q1 q2 q3 (fun k hk => by
                  rw [vput_get]
                  by_cases e : k = i
                  · rw [if_pos ⟨rfl, by omega⟩]
                  · rw [if_neg (by omega)]; exact q4 k (by omega))
                rw [← nI_1] at this
                exact VM.go [77] ⟨fun q => absurd q (nI_ge hi (by omega)), fun _ => ⟨fun q => absurd q (nI_pos (by omega)), fun _ => ⟨nofun, 40 * s + i, ix, by omega, this⟩⟩⟩
            have k0 := key 0 (Nat.zero_le _) (vput (vput (vput σ 79 s 1) 80 s (nI so)) 81 s (nI n)) (((vagI.rf.put (vSf_p (by omega))).put (vSf_p (by omega))).put (vSf_p (by omega))) (by rw [vput_ne (Or.inl (by decide)), vput_ne (Or.inl (by decide)), vput_eq]) (by rw [vput_ne (Or.inl (by decide)), vput_eq]) (by rw [vput_eq]) (fun k hk => absurd hk (Nat.not_lt_zero _))
            exact VM.at (VM.go [77] ⟨fun q => absurd q (nI_pos (by omega)), fun _ => ⟨fun _ => ⟨fun q => absurd q (nI_pos (by omega)), fun _ => ⟨fun _ => Or.inr rfl, s, rfl, hs, nofun, s, rfl, hs, nofun, s, rfl, hs, k0⟩⟩, fun q => absurd (Int32.not_lt.mp (nI_pos (by omega))) q⟩⟩)
        · have c' : ¬ n0 ≤ 40 := c
          rw [if_pos (Int32.not_le.mp c')] at er
          exact bad _ er
    · refine ⟨fun _ => bad (-2) ?_, fun c => absurd rfl c⟩
      unfold sSheet
      rw [es]
      show (if o0 = -1 then _ else _) = _
      rw [if_neg (fun q => hno (by rw [q]; decide))]
      cases hv : vix o0 3 with
      | none => rfl
      | some so =>
        obtain ⟨h1, h2⟩ := vix_some (by decide) hv
        exact absurd ⟨Int32.le_trans (show (-1 : Int32) ≤ 0 by decide) (Int32.not_lt.mp (by rw [h2]; exact nI_pos (by omega))), by rw [h2]; exact nI_le (show so ≤ 2 by omega) (by decide)⟩ hno
  · refine ⟨fun _ => bad (-2) ?_, fun c => absurd rfl c⟩
    unfold sSheet
    rw [es]
end RT2
