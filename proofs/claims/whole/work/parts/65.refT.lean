/-! ===== THE REFERENCE: all, told ===== -/
section RT
variable {Gx : Nat × (Nat → Int32)} {d D : Nat} {σ : vM} {post : vQ} {a : vα}
theorem vr_all {w0 : Int32} (hR : vRM a σ) (hW : vWF a) (hA : vAc a) (h : ∀ σ', vagI vMs σ σ' → post (some (.int (sAll a w0))) σ') : VM (true, Gx) (D + 48) iX7_all 0 [some (.ref 58), some (.int w0), none, none, none, none] [] σ post := by
  have up : ∀ {s2 : vM}, vagI vMs σ s2 → vRM a s2 := fun hs => hR.ag (hs.up vMo_s)
  refine VM.go [15] ⟨_, VM.at (vm_in0 (m := 2) (by decide) (by decide) (fun w ew hw e => ?_) (fun ew => ?_)), fun _ _ hh => hh⟩
  · refine ⟨fun _ => ?_, fun c => absurd c (by decide)⟩
    subst e
    by_cases h0 : w = 0
    · subst h0
      have h' : ∀ σ', vagI vMs σ σ' → post (some (.int (nI (vtogA a (a.1 1 0))))) σ' := fun s2 hs2 => by
        have := h s2 hs2
        unfold sAll at this
        rw [ew] at this
        exact this
      exact VM.at (VM.go [] ⟨fun q => absurd rfl q, fun _ => ⟨_, VM.at (vr_allSum hR hW hA (by exact h')), fun _ _ hh => hh⟩⟩)
    · have n0 : ¬ nI w = 0 := fun q => h0 ((nI_eq (b := 0) (by omega) (by decide)).mp q)
      have h' : ∀ σ', vagI vMs σ σ' → post (some (.int (if w = 1 then nI (vmost (vallA a (a.1 1 0)) 4) else nI (vworth a)))) σ' := fun s2 hs2 => by
        have := h s2 hs2
        unfold sAll at this
        rw [ew] at this
        rcases (show w = 1 ∨ w = 2 by omega) with rfl | rfl
        · exact this
        · exact this
      have worth : ∀ s2 (m x : Nat) (y : Option Value), vagI vMs σ s2 → m = vmost (vallA a (a.1 1 0)) 4 → VM (true, Gx) (D + 48) iX7_all 67 [some (.ref 58), some (.int (nI w)), some (.int (nI m)), some (.int (nI x)), some (.int (nI 5)), y] [] s2 post := fun s2 m x y hs2 em => by
        have hR2 := up hs2
        have key : ∀ i, i ≤ 4 → VM (true, Gx) (D + 48) iX7_all 73 [some (.ref 58), some (.int (nI w)), some (.int (nI m)), some (.int (nI x)), some (.int (nI (vsumN i (fun k => a.1 8 k * a.1 9 k)))), some (.int (nI i))] [] s2 post := by
          refine vloop _ ?_ ?_
          · have h2 := h' s2 hs2
            refine VM.go [] ⟨fun _ => ⟨fun q => ?_, fun q => ?_⟩, fun q => absurd (by decide) q⟩
            · rw [if_neg (fun e => q (by rw [e]; rfl))] at h2
              exact h2
            · have e1 : w = 1 := (nI_eq (b := 1) (by omega) (by decide)).mp q
              rw [if_pos e1, ← em] at h2
              exact h2
          · intro i hi ih
            refine VM.go [73] ⟨fun c1 => absurd c1 (nI_ge hi (by decide)), fun _ => ⟨i, rfl, hi, i, rfl, hi, ?_⟩⟩
            rw [show vsumN (i + 1) (fun k => a.1 8 k * a.1 9 k) = vsumN i (fun k => a.1 8 k * a.1 9 k) + a.1 8 i * a.1 9 i from rfl, ← nI_add, ← nI_1, ← pk_mul, ← (hR2.2.2.1 i).2.2.2.2.2.1, ← (hR2.2.2.1 i).2.2.2.2.2.2.1] at ih
            exact ih
        exact VM.go [73] (key 0 (Nat.zero_le _))
      have key : ∀ i, i ≤ 4 → ∀ s2 (y : Option Value), vagI vMs σ s2 → VM (true, Gx) (D + 48) iX7_all 35 [some (.ref 58), some (.int (nI w)), some (.int (nI (vmost (vallA a (a.1 1 0)) i))), some (.int (nI (vallA a (a.1 1 0) (vmost (vallA a (a.1 1 0)) i)))), some (.int (nI (i + 1))), y] [] s2 post := by
        refine vloop _ ?_ ?_
        · intro s2 y hs2
          exact VM.go [67] ⟨fun _ => worth s2 _ _ y hs2 rfl, fun q => absurd (by decide) q⟩
        · intro i hi ih s2 y hs2
          refine VM.go [35] ⟨fun c1 => absurd c1 (nI_ge (show i + 1 < 5 by omega) (by decide)), fun _ => ⟨_, VM.at (vr_allOf (D := D + 1) (up hs2) hW hA (show i + 1 < 5 by omega) (fun s3 hs3 => ?_)), fun _ _ hh => hh⟩⟩
          have b1 := vallA_le (c := a.1 1 0) (p := i + 1) hW
          have b2 := vallA_le (c := a.1 1 0) (p := vmost (vallA a (a.1 1 0)) i) hW
          refine ⟨fun c1 => ?_, fun c1 => ?_⟩
          · rw [nIle (by omega) (by omega)] at c1
            have := ih s3 (some (.int (nI (vallA a (a.1 1 0) (i + 1))))) (hs2.tr hs3)
            rw [show vmost (vallA a (a.1 1 0)) (i + 1) = vmost (vallA a (a.1 1 0)) i from if_neg (by omega), ← nI_1 (i + 1)] at this
            exact this
          · rw [nIle (by omega) (by omega)] at c1
            have := ih s3 (some (.int (nI (vallA a (a.1 1 0) (i + 1))))) (hs2.tr hs3)
            rw [show vmost (vallA a (a.1 1 0)) (i + 1) = i + 1 from if_pos (by omega), ← nI_1 (i + 1)] at this
            exact this
      refine VM.at (VM.go [35] ⟨fun _ => ⟨_, VM.at (vr_allOf (D := D + 1) (p := 0) hR hW hA (by decide) (fun s3 hs3 => by exact VM.at (VM.go [35] (key 0 (Nat.zero_le _) s3 none hs3)))), fun _ _ hh => hh⟩, fun q => absurd q n0⟩)
  · refine ⟨fun c => absurd rfl c, fun _ => ?_⟩
    have := h σ vagI.rf
    unfold sAll at this
    rw [ew] at this
    exact this
theorem vm_over {j : Nat} (hj : j < 6) (h : post (some (.int (vUnder.getD j 0))) σ) : VM (true, Gx) d iX7_over 0 [some (.int (nI j))] [] σ post := by
  rcases (show j = 0 ∨ j = 1 ∨ j = 2 ∨ j = 3 ∨ j = 4 ∨ j = 5 by omega) with rfl | rfl | rfl | rfl | rfl | rfl
  · exact VM.go [] ⟨fun q => absurd rfl q, fun _ => h⟩
  · exact VM.go [] ⟨fun _ => ⟨fun _ => ⟨fun _ => h, fun q => absurd q (by decide)⟩, fun q => absurd q (by decide)⟩, fun q => absurd q (by decide)⟩
  · exact VM.go [] ⟨fun _ => ⟨fun _ => ⟨fun _ => h, fun q => absurd q (by decide)⟩, fun q => absurd q (by decide)⟩, fun q => absurd q (by decide)⟩
  · exact VM.go [] ⟨fun _ => ⟨fun q => absurd rfl q, fun _ => h⟩, fun q => absurd q (by decide)⟩
  · exact VM.go [] ⟨fun _ => ⟨fun _ => ⟨fun q => absurd rfl q, fun _ => h⟩, fun q => absurd q (by decide)⟩, fun q => absurd q (by decide)⟩
  · exact VM.go [] ⟨fun _ => ⟨fun _ => ⟨fun _ => h, fun q => absurd q (by decide)⟩, fun q => absurd q (by decide)⟩, fun q => absurd q (by decide)⟩
theorem vr_taken {l0 k0 : Int32} (hR : vRM a σ) (hW : vWF a) (h : post (some (.int (sTaken a l0 k0))) σ) : VM (true, Gx) (d + 2) iX7_taken 0 [some (.ref 58), some (.int l0), some (.int k0), none] [] σ post := by
  have hn6 := hW.1.2.2
  refine VM.go [15] ⟨_, VM.at (vm_in0 (m := 5) (by decide) (by decide) (fun k ek hk e => ?_) (fun ek => ?_)), fun _ _ hh => hh⟩
  · refine ⟨fun _ => ?_, fun c => absurd c (by decide)⟩
    refine VM.at (VM.go [33] ⟨_, VM.at (vm_isLight (d := d) hR.1.2.2.2.2 hn6 (fun l el hl e2 => ?_) (fun el => ?_)), fun _ _ hh => hh⟩)
    · refine ⟨fun _ => ?_, fun c => absurd c (by decide)⟩
      subst e; subst e2
      unfold sTaken at h
      rw [ek, el] at h
      dsimp only at h
      have hl6 : l < 6 := by omega
      have e2 : σ.1 62 l = nI (a.1 2 l) := hR.2.1 l hl
      have e3 : σ.1 63 l = nI (a.1 3 l) := (hR.2.2.1 l).1
      have hkd := (hW.2.2.1 l hl6).1
      rw [← e3] at h
      have yes : ∀ x, k = x → vundr (a.1 2 l) k = true → VM (true, Gx) (d + 2) iX7_taken 33 [some (.ref 58), some (.int (nI l)), some (.int (nI k)), some (.int (nI x))] [] σ post := fun x e hu => by
        rw [if_pos hu] at h
        subst e
        exact VM.go [] ⟨fun q => absurd (show nI k < 0 by rw [show nI k = -1 from q]; decide) (nI_pos (by omega)), fun _ => ⟨fun _ => ⟨fun q => absurd rfl q, fun _ => ⟨l, rfl, hl6, h⟩⟩, fun q => absurd rfl q⟩⟩
      have step : ∀ x, ¬ k = x → x < 6 → VM (true, Gx) (d + 2) iX7_taken 33 [some (.ref 58), some (.int (nI l)), some (.int (nI k)), some (.int (vUnder.getD x 0))] [] σ post → VM (true, Gx) (d + 2) iX7_taken 33 [some (.ref 58), some (.int (nI l)), some (.int (nI k)), some (.int (nI x))] [] σ post := fun x e hx g => by
        exact VM.go [33] ⟨fun q => absurd (show nI x < 0 by rw [show nI x = -1 from q]; decide) (nI_pos (by omega)), fun _ => ⟨fun q => absurd ((nI_eq (by omega) (by omega)).mp q).symm e, fun _ => ⟨_, VM.at (vm_over hx (by exact VM.at (VM.go [33] g))), fun _ _ hh => hh⟩⟩⟩
      have last : vundr (a.1 2 l) k = false → VM (true, Gx) (d + 2) iX7_taken 33 [some (.ref 58), some (.int (nI l)), some (.int (nI k)), some (.int (-1))] [] σ post := fun hu => by
        rw [if_neg (by rw [hu]; decide)] at h
        exact VM.go [] ⟨fun _ => ⟨fun _ => h, fun q => absurd (show nI k < 0 by rw [← show (-1 : Int32) = nI k from q]; decide) (nI_pos (by omega))⟩, fun q => absurd rfl q⟩
      have bne : ∀ x, ¬ k = x → Nat.beq k x = false := fun x e => by
        cases hb : Nat.beq k x with
        | false => rfl
        | true => exact absurd (Nat.eq_of_beq_eq_true hb) e
      have t0 : (vundr (a.1 2 l) k = Nat.beq k 0) → VM (true, Gx) (d + 2) iX7_taken 33 [some (.ref 58), some (.int (nI l)), some (.int (nI k)), some (.int (nI 0))] [] σ post := fun hu => by
        by_cases e : k = 0
        · exact yes 0 e (by rw [hu, e]; rfl)
        · exact step 0 e (by decide) (last (by rw [hu]; exact bne 0 e))
      refine VM.at (VM.go [33] ⟨l, rfl, hl6, ?_⟩)
      show VM (true, Gx) (d + 2) iX7_taken 33 _ _ _ _
      rw [e2]
      rcases (show a.1 2 l = 0 ∨ a.1 2 l = 1 ∨ a.1 2 l = 2 ∨ a.1 2 l = 3 ∨ a.1 2 l = 4 ∨ a.1 2 l = 5 by omega) with ek | ek | ek | ek | ek | ek
      all_goals rw [ek] at yes last t0 ⊢
      · exact t0 rfl
      · by_cases e : k = 1
        · exact yes 1 e (by rw [e]; rfl)
        · exact step 1 e (by decide) (t0 (by show (Nat.beq k 1 || Nat.beq k 0) = _; rw [bne 1 e]; rfl))
      · by_cases e : k = 2
        · exact yes 2 e (by rw [e]; rfl)
        · exact step 2 e (by decide) (t0 (by show (Nat.beq k 2 || Nat.beq k 0) = _; rw [bne 2 e]; rfl))
      · by_cases e : k = 3
        · exact yes 3 e (by rw [e]; rfl)
        · refine step 3 e (by decide) ?_
          by_cases e' : k = 1
          · exact yes 1 e' (by rw [e']; rfl)
          · exact step 1 e' (by decide) (t0 (by show (Nat.beq k 3 || (Nat.beq k 1 || Nat.beq k 0)) = _; rw [bne 3 e, bne 1 e']; rfl))
      · by_cases e : k = 4
        · exact yes 4 e (by rw [e]; rfl)
        · refine step 4 e (by decide) ?_
          by_cases e' : k = 2
          · exact yes 2 e' (by rw [e']; rfl)
          · exact step 2 e' (by decide) (t0 (by show (Nat.beq k 4 || (Nat.beq k 2 || Nat.beq k 0)) = _; rw [bne 4 e, bne 2 e']; rfl))
      · by_cases e : k = 5
        · exact yes 5 e (by rw [e]; rfl)
        · exact step 5 e (by decide) (t0 (by show (Nat.beq k 5 || Nat.beq k 0) = _; rw [bne 5 e]; rfl))
    · refine ⟨fun c => absurd rfl c, fun _ => ?_⟩
      unfold sTaken at h
      rw [ek, el] at h
      exact h
  · refine ⟨fun c => absurd rfl c, fun _ => ?_⟩
    unfold sTaken at h
    rw [ek] at h
    exact h
end RT
