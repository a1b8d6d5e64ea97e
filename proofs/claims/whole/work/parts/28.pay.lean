/-! ===== pieces, pay ===== -/
def sPieces (a : vα) (x what : Int32) : Int32 := match vix x 1000, vix what 3 with
  | some x, some w => if w = 0 then (if (vseek a x).1 = 0 then 0 else 1) else if w = 1 then nI (vseek a x).1 - 1 else nI (x - (vseek a x).2.1)
  | _, _ => -2
def vpaid (a : vα) (w : Nat → Nat) : Nat → vα
  | 0 => a
  | i + 1 => vaput (vpaid a w i) 9 i (a.1 9 i - w i)
theorem vpaid_ne {a : vα} {w : Nat → Nat} {i c k : Nat} (h : c ≠ 9 ∨ i ≤ k) : (vpaid a w i).1 c k = a.1 c k := by
  induction i with
  | zero => rfl
  | succ i ih => exact (vaput_ne (by rcases h with h | h; exact Or.inl h; exact Or.inr (by omega))).trans (ih (by rcases h with h | h; exact Or.inl h; exact Or.inr (by omega)))
def sPay (a : vα) (looker : Int32) : vR2 := match vix looker 5 with
  | none => (-2, a)
  | some p => if 999 < vallA a (a.1 1 0) p then (-3, a) else if (vseek a (vallA a (a.1 1 0) p)).1 = 0 then (-3, a) else (nI (vseek a (vallA a (a.1 1 0) p)).1 - 1, vaput (vpaid a (vseek a (vallA a (a.1 1 0) p)).2.2 4) 7 p (a.1 7 p + vallA a (a.1 1 0) p))
theorem vskB_ind {a : vα} {I : vQS → Prop} {c e X : Nat} (h : ∀ st b, b ≤ vmp a 1 X → I st → I (vpk st (vmp a 0 (X - b * a.1 8 1)) b c e (X - b * a.1 8 1 - vmp a 0 (X - b * a.1 8 1) * a.1 8 0))) : ∀ n, n ≤ vmp a 1 X + 1 → ∀ st, I st → I (vskB a c e X n st) := by
  intro n
  induction n with
  | zero => exact fun _ st hI => hI
  | succ n ih => exact fun hn st hI => ih (by omega) _ (h st n (by omega) hI)
theorem vskC_ind {a : vα} {I : vQS → Prop} {e X : Nat} (h : ∀ st c n, c ≤ vmp a 2 X → n ≤ vmp a 1 (X - c * a.1 8 2) + 1 → I st → I (vskB a c e (X - c * a.1 8 2) n st)) : ∀ n, n ≤ vmp a 2 X + 1 → ∀ st, I st → I (vskC a e X n st) := by
  intro n
  induction n with
  | zero => exact fun _ st hI => hI
  | succ n ih => exact fun hn st hI => ih (by omega) _ (h st n _ (by omega) (Nat.le_refl _) hI)
theorem vskD_ind {a : vα} {I : vQS → Prop} {x : Nat} (h : ∀ st e n, e ≤ vmp a 3 x → n ≤ vmp a 2 (x - e * a.1 8 3) + 1 → I st → I (vskC a e (x - e * a.1 8 3) n st)) : ∀ n, n ≤ vmp a 3 x + 1 → ∀ st, I st → I (vskD a x n st) := by
  intro n
  induction n with
  | zero => exact fun _ st hI => hI
  | succ n ih => exact fun hn st hI => ih (by omega) _ (h st n _ (by omega) (Nat.le_refl _) hI)
theorem vseek_ind {a : vα} {I : vQS → Prop} {x : Nat} (h0 : I (0, x, fun _ => 0)) (h : ∀ st e c b, e ≤ vmp a 3 x → c ≤ vmp a 2 (x - e * a.1 8 3) → b ≤ vmp a 1 (x - e * a.1 8 3 - c * a.1 8 2) → I st → I (vpk st (vmp a 0 (x - e * a.1 8 3 - c * a.1 8 2 - b * a.1 8 1)) b c e (x - e * a.1 8 3 - c * a.1 8 2 - b * a.1 8 1 - vmp a 0 (x - e * a.1 8 3 - c * a.1 8 2 - b * a.1 8 1) * a.1 8 0))) : I (vseek a x) :=
  vskD_ind (fun _ e n he hn hI => vskC_ind (fun _ c n hc hn hI => vskB_ind (fun _ b hb hI => h _ e c b he hc hb hI) n hn _ hI) n hn _ hI) _ (Nat.le_refl _) _ h0
theorem vmp_le9 {a : vα} {k x n : Nat} (h : n ≤ vmp a k x) : n ≤ a.1 9 k := Nat.le_trans h (Nat.min_le_left _ _)
theorem vseek_way {a : vα} {x : Nat} : ∀ k, k < 4 → (vseek a x).2.2 k ≤ a.1 9 k := by
  refine vseek_ind (I := fun st => ∀ k, k < 4 → st.2.2 k ≤ a.1 9 k) (fun k _ => Nat.zero_le _) (fun st e c b he hc hb hI k hk => ?_)
  unfold vpk
  split
  · rcases (show k = 0 ∨ k = 1 ∨ k = 2 ∨ k = 3 by omega) with rfl | rfl | rfl | rfl
    · exact vmp_le9 (Nat.le_refl _)
    · exact vmp_le9 hb
    · exact vmp_le9 hc
    · exact vmp_le9 he
  · exact hI k hk
theorem vseek_sh {a : vα} {x : Nat} : (vseek a x).2.1 ≤ x := by
  refine vseek_ind (I := fun st => st.2.1 ≤ x) (Nat.le_refl _) (fun st e c b he hc hb hI => ?_)
  unfold vpk
  split <;> exact Nat.le_trans (Nat.min_le_left _ _) hI
theorem vKl_Cs (c k : Nat) (h : vKl c k = false) : vCs c k = false := by
  cases hb : vCs c k with
  | false => rfl
  | true =>
    exfalso
    have e : vKl c k = true := by
      simp only [vCs, vKl, Bool.or_eq_true, Bool.and_eq_true, Nat.ble_eq, vbq] at hb ⊢
      omega
    rw [e] at h
    cases h
section PY
variable {G : vG} {d : Nat} {σ : vM} {post : vQ} {a : vα}
theorem vc_pieces {x0 w0 : Int32} (hC : vRC a σ) (hW : vWF a) (h : ∀ σ', vag vCs σ σ' → post (some (.int (sPieces a x0 w0))) σ') : VM G (d + 3) iX6_pieces 0 [some (.ref 0), some (.int x0), some (.int w0)] [] σ post := by
  have bad : sPieces a x0 w0 = -2 → post (some (.int (-2))) σ := fun e => by
    have := h σ vag.rf
    rw [e] at this
    exact this
  refine VM.go [] ⟨_, VM.at (vb_between (fun b1 b2 => ?_) (fun hno => ?_)), fun _ _ hh => hh⟩
  · obtain ⟨x, hx, rfl⟩ := vnat (m := 999) (by decide) b1 b2
    refine ⟨fun c => absurd c (by decide), fun _ => ⟨_, VM.at (vb_between (fun b1 b2 => ?_) (fun hno => ?_)), fun _ _ hh => hh⟩⟩
    · obtain ⟨w, hw, rfl⟩ := vnat (m := 2) (by decide) b1 b2
      have es : sPieces a (nI x) (nI w) = if w = 0 then (if (vseek a x).1 = 0 then 0 else 1) else if w = 1 then nI (vseek a x).1 - 1 else nI (x - (vseek a x).2.1) := by
        unfold sPieces
        rw [vix_nI (show x < 1000 by omega) (by decide), vix_nI (show w < 3 by omega) (by decide)]
      rw [es] at h
      refine ⟨fun _ => ⟨_, VM.at (vb_seek hx hC hW (fun s2 hs2 hP => ?_)), fun _ _ hh => hh⟩, fun c => absurd c (by decide)⟩
      obtain ⟨p1, p2, p3, p4, p5⟩ := hP
      have h2 := h s2 hs2
      rcases (show w = 0 ∨ w = 1 ∨ w = 2 by omega) with rfl | rfl | rfl
      · refine ⟨fun c => absurd rfl c, fun _ => ⟨fun c => ?_, fun c => ?_⟩⟩
        · have c' : s2.1 47 0 < 0 := c
          rw [if_pos rfl, if_pos ?_] at h2
          · exact h2
          · refine Classical.byContradiction (fun q => ?_)
            rw [p1, show (vseek a x).1 = ((vseek a x).1 - 1) + 1 by omega, nI_pred] at c'
            exact nI_pos (by omega) c'
        · have c' : ¬ s2.1 47 0 < 0 := c
          rw [if_pos rfl, if_neg ?_] at h2
          · exact h2
          · intro q
            rw [p1, q] at c'
            exact c' (by decide)
      · rw [if_neg (by decide), if_pos rfl, ← p1] at h2
        exact ⟨fun _ => ⟨fun c => absurd rfl c, fun _ => h2⟩, fun c => absurd c (by decide)⟩
      · rw [if_neg (by decide), if_neg (by decide), ← pk_sub vseek_sh, ← p2] at h2
        exact ⟨fun _ => ⟨fun _ => h2, fun c => absurd c (by decide)⟩, fun c => absurd c (by decide)⟩
    · refine ⟨fun c => absurd rfl c, fun _ => bad ?_⟩
      unfold sPieces
      rw [vix_btw (x := w0) (m := 2) (by decide) hno]
      cases vix (nI x) 1000 <;> rfl
  · refine ⟨fun _ => bad ?_, fun c => absurd rfl c⟩
    unfold sPieces
    rw [vix_btw (x := x0) (m := 999) (by decide) hno]
theorem vc_pay {p0 : Int32} (hC : vRC a σ) (hW : vWF a) (h : ∀ σ', vag vKl σ σ' → vRC (sPay a p0).2 σ' → post (some (.int (sPay a p0).1)) σ') : VM G (d + 5) iX6_pay 0 [some (.ref 0), some (.int p0), none, none] [] σ post := by
  have hT := hW.2.1.2
  have bad : sPay a p0 = (-2, a) → post (some (.int (-2))) σ := fun e => by
    have := h σ vag.rf (by rw [e]; exact hC)
    rw [e] at this
    exact this
  refine VM.go [19] ⟨_, VM.at (vb_isLooker (fun p hp e1 => ?_) (fun hno => ?_)), fun _ _ hh => hh⟩
  · subst e1
    refine ⟨fun _ => ?_, fun c => absurd c (by decide)⟩
    obtain ⟨X, hX⟩ : ∃ X, X = vallA a (a.1 1 0) p := ⟨_, rfl⟩
    have hXle : X ≤ 77922 := by rw [hX]; exact vallA_le hW
    have es : sPay a (nI p) = if 999 < X then (-3, a) else if (vseek a X).1 = 0 then (-3, a) else (nI (vseek a X).1 - 1, vaput (vpaid a (vseek a X).2.2 4) 7 p (a.1 7 p + X)) := by
      unfold sPay
      rw [vix_nI hp (by decide), hX]
    rw [es] at h
    refine VM.at (VM.go [19] ?_)
    show VM G (d + 5) iX6_pay 19 _ _ _ _
    rw [hC.num 1 0 rfl]
    refine VM.go [] ⟨_, VM.at (vb_allOf hp hW.1.1 hC hW (fun s2 hs2 => ?_)), fun _ _ hh => hh⟩
    rw [← hX]
    have st3 : ∀ s3, vag vCs σ s3 → (if 999 < X then ((-3 : Int32), a) else if (vseek a X).1 = 0 then (-3, a) else (nI (vseek a X).1 - 1, vaput (vpaid a (vseek a X).2.2 4) 7 p (a.1 7 p + X))) = (-3, a) → post (some (.int (-3))) s3 := fun s3 hs3 e => by
      rw [e] at h
      exact h s3 (hs3.up vKl_Cs) (hC.ag hs3 hT)
    have hs2' := hs2.up vBi_Cs
    refine ⟨fun c => ?_, fun c => ?_⟩
    · have c' : nI X ≤ nI 999 := c
      rw [nIle (by omega) (by decide)] at c'
      have hC2 := hC.ag hs2' hT
      refine ⟨_, VM.at (vb_seek c' hC2 hW (fun s3 hs3 hP => ?_)), fun _ _ hh => hh⟩
      have hs3' := hs2'.tr hs3
      have hC3 := hC.ag hs3' hT
      obtain ⟨p1, p2, p3, p4, p5⟩ := hP
      refine ⟨fun c2 => ?_, fun c2 => ?_⟩
      · have c2' : 0 ≤ s3.1 47 0 := c2
        have hne : ¬ (vseek a X).1 = 0 := fun q => by
          rw [p1, q] at c2'
          exact absurd c2' (by decide)
        rw [if_neg (by omega), if_neg hne] at h
        obtain ⟨w, hw⟩ : ∃ w, w = (vseek a X).2.2 := ⟨_, rfl⟩
        have hw9 : ∀ k, k < 4 → w k ≤ a.1 9 k := by rw [hw]; exact vseek_way
        rw [← hw] at h
        have hw48 : ∀ k, k < 4 → s3.1 48 k = nI (w k) := by rw [hw]; exact p3 (by omega)
        have key : ∀ i, i ≤ 4 → ∀ s4, vag vKl σ s4 → vRC (vpaid a w i) s4 → (∀ k, k < 4 → s4.1 48 k = nI (w k)) → s4.1 47 0 = nI (vseek a X).1 - 1 → VM G (d + 5) iX6_pay 70 [some (.ref 0), some (.int (nI p)), some (.int (nI X)), some (.int (nI i))] [] s4 post := by
          refine vloop _ ?_ ?_
          · intro s4 hs4 hC4 h48 h47
            have e7 : s4.1 7 p = nI (a.1 7 p) := (hC4.num 7 p rfl).trans (by rw [vpaid_ne (Or.inl (by decide))])
            refine VM.go [70] ⟨fun _ => ⟨p, rfl, hp, nofun, p, rfl, hp, ?_⟩, fun q => absurd (by decide) q⟩
            have hT4 : (vpaid a w 4).1 0 4 ≤ 6 := by rw [vpaid_ne (Or.inl (by decide))]; exact hT
            have := h (vput s4 7 p (nI (a.1 7 p + X))) (hs4.put rfl) (hC4.put (c := 7) rfl (Or.inl ⟨by decide, by decide⟩) hT4)
            rw [← nI_add, ← e7] at this
            rw [← h47] at this
            exact this
          · intro i hi ih s4 hs4 hC4 h48 h47
            have e9 : s4.1 9 i = nI (a.1 9 i) := (hC4.num 9 i rfl).trans (by rw [vpaid_ne (Or.inr (Nat.le_refl _))])
            have hT4 : (vpaid a w i).1 0 4 ≤ 6 := by rw [vpaid_ne (Or.inl (by decide))]; exact hT
            refine VM.go [70] ⟨fun q => absurd q (nI_ge hi (by decide)), fun _ => ⟨i, rfl, hi, i, rfl, hi, nofun, i, rfl, hi, ?_⟩⟩
            have := ih (vput s4 9 i (nI (a.1 9 i - w i))) (hs4.put rfl) (hC4.put (c := 9) rfl (Or.inl ⟨by decide, by decide⟩) hT4) h48 h47
            rw [← pk_sub (hw9 i hi), ← e9, ← h48 i hi, ← nI_1] at this
            exact this
        refine VM.at (VM.go [70] ?_)
        exact key 0 (Nat.zero_le _) s3 (hs3'.up vKl_Cs) hC3 hw48 p1
      · refine st3 s3 hs3' ?_
        rw [if_neg (by omega)]
        have c2' : ¬ 0 ≤ s3.1 47 0 := c2
        rw [if_pos ?_]
        refine Classical.byContradiction (fun q => c2' ?_)
        rw [p1, show (vseek a X).1 = ((vseek a X).1 - 1) + 1 by omega, nI_pred]
        exact Int32.not_lt.mp (nI_pos (by omega))
    · have c' : ¬ nI X ≤ nI 999 := c
      rw [nIle (by omega) (by decide)] at c'
      exact st3 s2 hs2' (if_pos (by omega))
  · refine ⟨fun c => absurd rfl c, fun _ => bad ?_⟩
    unfold sPay
    rw [vix_no (by decide) hno]
end PY
