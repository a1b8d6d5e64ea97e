/-! ===== what is owed depends on this alone ===== -/
theorem vsumN_cg {f g : Nat → Nat} {n : Nat} (h : ∀ i, i < n → f i = g i) : vsumN n f = vsumN n g := by
  induction n with
  | zero => rfl
  | succ n ih =>
    show vsumN n f + f n = vsumN n g + g n
    rw [ih (fun i hi => h i (by omega)), h n (by omega)]
theorem vlitS_cg {c n : Nat} {se se' : Nat → Nat} (h : ∀ k, k < n → se k = se' k) : vlitS c se n = vlitS c se' n := vsumN_cg (fun i hi => by rw [h i hi])
theorem vnames_cg {c n l t : Nat} {nu nu' ye ye' se se' : Nat → Nat} (h1 : nu l = nu' l) (h2 : ye l = ye' l) (h3 : se l = se' l) (h4 : ∀ k, k < n → se k = se' k) : vnames c nu ye se n l t = vnames c nu' ye' se' n l t := by
  funext i
  unfold vnames
  rw [h1, h2, h3, vlitS_cg h4]
theorem vowes_cg {T : Nat → (Nat → Int32) → Int32} {c n l : Nat} {kd kd' nu nu' ye ye' se se' : Nat → Nat} (h0 : kd l = kd' l) (h1 : nu l = nu' l) (h2 : ye l = ye' l) (h3 : se l = se' l) (h4 : ∀ k, k < n → se k = se' k) : vowes T c n kd nu ye se l = vowes T c n kd' nu' ye' se' l := by
  have e : ∀ t, vnames c nu ye se n l t = vnames c nu' ye' se' n l t := fun t => vnames_cg h1 h2 h3 h4
  unfold vowes
  simp only [e, h0, h1, h2, h3]
theorem vtrT_ne {tc l v j : Nat} {t : vT3} (h : ¬ j = l) : (vtrT tc l v t).1 j = t.1 j ∧ (vtrT tc l v t).2.1 j = t.2.1 j ∧ (vtrT tc l v t).2.2 j = t.2.2 j := by
  unfold vtrT
  split
  · exact ⟨if_neg h, rfl, rfl⟩
  · split
    · exact ⟨rfl, if_neg h, rfl⟩
    · exact ⟨rfl, rfl, if_neg h⟩
theorem vowT_ne {a : vα} {t c p tc l v j : Nat} {tr : vT3} (h : ¬ j = l) : vowT a t c p (vtrT tc l v tr) j = vowT a t c p tr j := by
  obtain ⟨h1, h2, h3⟩ := vtrT_ne (tc := tc) (v := v) (t := tr) h
  exact vowes_cg h1 h2 h3 rfl (fun _ _ => rfl)
theorem vfit_but {f g : Nat → Nat} {it : Nat → Int32} {n l : Nat} (hn : n ≤ 6) (hl : l < n) (h : ∀ j, j < n → ¬ j = l → f j = g j) : vfit f it n = true ↔ vfo g it l n 0 = -1 ∧ nI (f l) = it l := by
  rw [vfo_all n 0 (by omega)]
  unfold vfit
  rw [decide_eq_true_eq]
  constructor
  · refine fun z => ⟨fun j _ hj => ?_, z l hl⟩
    by_cases e : j = l
    · exact Or.inl e
    · exact Or.inr (by rw [← h j (by omega) e]; exact z j (by omega))
  · rintro ⟨z1, z2⟩ j hj
    by_cases e : j = l
    · rw [e]; exact z2
    · rcases z1 j (Nat.zero_le _) (by omega) with r | r
      · exact absurd r e
      · rw [h j hj e]; exact r
theorem vts_none {small : Bool} {F : Nat → Bool} {lo k : Nat} (h : ∀ j, j < k → ¬ F (lo + j) = true) : vts small F lo k = (0, 0, 0) := by
  induction k with
  | zero => rfl
  | succ k ih =>
    unfold vts
    rw [if_neg (h k (by omega))]
    exact ih (fun j hj => h j (by omega))
section TR
variable {G : vG} {d : Nat} {σ : vM} {post : vQ} {a : vα} {cs : Nat → List Int32} {c n r : Nat} {se : Nat → Nat}
theorem vBR.tr {tc l v : Nat} {t : vT3} (htc : tc = 41 ∨ tc = 42 ∨ tc = 43) (hB : vBR cs c n r t.1 t.2.1 t.2.2 se σ) (hl : l < 6) (hv1 : tc = 41 → v < 6) (hv2 : tc = 42 → v ≤ 9) (hv3 : v ≤ 999) : vBR cs c n r (vtrT tc l v t).1 (vtrT tc l v t).2.1 (vtrT tc l v t).2.2 se (vput σ tc l (nI v)) := by
  obtain ⟨w1, w2, w3, w4, w5, w6, w7⟩ := hB.2.2.2.2.1
  obtain ⟨g1, g2, g3, g4, g5, g6, g7⟩ := hB.2.2.2.2.2
  have up : ∀ (f : Nat → Nat) (tc : Nat), (∀ k, k < 6 → σ.1 tc k = nI (f k)) → ∀ k, k < 6 → (vput σ tc l (nI v)).1 tc k = nI (vupd f l v k) := by
    intro f tc hf k hk
    rw [vput_get]
    unfold vupd
    by_cases e : k = l
    · rw [if_pos ⟨rfl, e⟩, if_pos e]
    · rw [if_neg (fun q => e q.2), if_neg e]; exact hf k hk
  have rg : ∀ (f : Nat → Nat) (P : Nat → Prop), P v → (∀ k, k < 6 → P (f k)) → ∀ k, k < 6 → P (vupd f l v k) := by
    intro f P hP hf k hk
    unfold vupd
    split
    · exact hP
    · exact hf k hk
  rcases htc with rfl | rfl | rfl
  · exact hB.to (vag.rf.put rfl) ⟨w1, w2, w3, rg _ (· < 6) (hv1 rfl) w4, w5, w6, w7⟩ ⟨g1, g2, g3, up _ _ g4, g5, g6, g7⟩
  · exact hB.to (vag.rf.put rfl) ⟨w1, w2, w3, w4, rg _ (· ≤ 9) (hv2 rfl) w5, w6, w7⟩ ⟨g1, g2, g3, g4, up _ _ g5, g6, g7⟩
  · exact hB.to (vag.rf.put rfl) ⟨w1, w2, w3, w4, w5, rg _ (· ≤ 999) hv3 w6, w7⟩ ⟨g1, g2, g3, g4, g5, up _ _ g6, g7⟩
theorem vb_traits84 {ro p l sv tc lo K : Nat} {it : Nat → Int32} (hsv : 1 ≤ sv ∧ sv ≤ 4) (htc : tc = 41 ∨ tc = 42 ∨ tc = 43) (hK1 : tc = 41 → lo + K ≤ 6) (hK2 : tc = 42 → lo + K ≤ 10) (hK3 : lo + K ≤ 1000) (hK0 : 1 ≤ K) (hsm : sv ≤ 2 → lo + K ≤ 10) (hr : ro = 50 ∨ ro = 52 ∨ ro = 54 ∨ ro = 56) (hl : l < a.1 1 2) (hp : p < 5) (hC : vRC a σ) (hW : vWF a) {s2 : vM} (hs2 : vag vBi σ s2) (hB : vBA a (a.1 1 1) p (a.1 1 0) s2) (hsz : σ.1 ro 1 = nI (a.1 1 2)) (hit : ∀ k, k < a.1 1 2 → σ.1 (ro + 1) k = it k) {F : Nat → Bool} (hF : F = fun v => vfit (vowT a (a.1 1 1) (a.1 1 0) p (vtrT tc l v (vtr0 a))) it (a.1 1 2)) (h : ∀ σ', vag vBi σ σ' → post (some (.int (if sv ≤ 2 then nI (vts (decide (sv ≤ 2)) F lo K).1 else if sv = 3 then nI (vts (decide (sv ≤ 2)) F lo K).2.1 else nI (vts (decide (sv ≤ 2)) F lo K).2.2 - 1))) σ') : VM G (d + 4) iX6_traitsThatFit 84 [some (.ref 0), some (.ref ro), some (.int (nI l)), some (.int (nI sv)), some (.ref tc), some (.int (nI lo)), some (.int (nI (lo + K - 1))), some (.int 0), some (.int 0), some (.int (-1)), none, none] [] s2 post := by
  have hT := hW.2.1.2
  have hn6 := hW.1.2.2
  have hl6 : l < 6 := by omega
  have fin190 : ∀ (s3 : vM) (y10 y11 : Option Value) (w : Nat × Nat × Nat), vag vBi σ s3 → w = vts (decide (sv ≤ 2)) F lo K → VM G (d + 4) iX6_traitsThatFit 190 [some (.ref 0), some (.ref ro), some (.int (nI l)), some (.int (nI sv)), some (.ref tc), some (.int (nI lo)), some (.int (nI (lo + K - 1))), some (.int (nI w.1)), some (.int (nI w.2.1)), some (.int (nI w.2.2 - 1)), y10, y11] [] s3 post := by
    intro s3 y10 y11 w hs3 hw
    have h' := h s3 hs3
    rw [← hw] at h'
    refine VM.go [] ⟨fun q => ⟨fun q2 => ?_, fun q2 => ?_⟩, fun q => ?_⟩
    · have q' : ¬ nI sv ≤ nI 2 := Int32.not_le.mpr q
      rw [nIle (by omega) (by decide)] at q'
      rw [if_neg (by omega), if_neg (fun e => q2 (by rw [e]; rfl))] at h'
      exact h'
    · have q2' : sv = 3 := (nI_eq (by omega) (by decide)).mp (show nI sv = nI 3 from q2)
      rw [if_neg (by omega), if_pos q2'] at h'
      exact h'
    · have q' : nI sv ≤ nI 2 := Int32.not_lt.mp q
      rw [nIle (by omega) (by decide)] at q'
      rw [if_pos q'] at h'
      exact h'
  have fn : ∀ v j, j < a.1 1 2 → ¬ j = l → vowT a (a.1 1 1) (a.1 1 0) p (vtrT tc l v (vtr0 a)) j = vowA a (a.1 1 0) (a.1 1 1) p j := fun v j _ hj => vowT_ne hj
  have hFi : ∀ v, F v = true ↔ vfo (vowA a (a.1 1 0) (a.1 1 1) p) it l (a.1 1 2) 0 = -1 ∧ nI (vowT a (a.1 1 1) (a.1 1 0) p (vtrT tc l v (vtr0 a)) l) = it l := fun v => by
    rw [hF]; exact vfit_but hn6 hl (fn v)
  have key : vfo (vowA a (a.1 1 0) (a.1 1 1) p) it l (a.1 1 2) 0 = -1 → ∀ k, k ≤ K → ∀ (s3 : vM) (tr : vT3), vag vBi σ s3 → (∀ v, vtrT tc l v tr = vtrT tc l v (vtr0 a)) → vBR (vcomp (a.2.2 (a.1 1 1))) (a.1 1 0) (a.1 1 2) (20 + 3 * a.1 1 1) tr.1 tr.2.1 tr.2.2 (vse a p) s3 → VM G (d + 4) iX6_traitsThatFit 108 [some (.ref 0), some (.ref ro), some (.int (nI l)), some (.int (nI sv)), some (.ref tc), some (.int (nI lo)), some (.int (nI (lo + K - 1))), some (.int (nI (vts (decide (sv ≤ 2)) F lo k).1)), some (.int (nI (vts (decide (sv ≤ 2)) F lo k).2.1)), some (.int (nI (vts (decide (sv ≤ 2)) F lo k).2.2 - 1)), some (.int 1), some (.int (nI (lo + k)))] [] s3 post := by
    intro hoth
    refine vloop _ ?_ ?_
    · intro s3 tr hs3 _ _
      rcases htc with rfl | rfl | rfl
      all_goals refine VM.go [190] ⟨fun q => absurd q (by decide), fun _ => ⟨fun q => absurd q (nI_ge hl6 (by decide)), fun _ => ⟨fun _ => fin190 s3 _ _ _ hs3 rfl, fun q => absurd ?_ q⟩⟩⟩
      all_goals exact nI_lt (by omega) (by omega)
    · intro k hk ih s3 tr hs3 htr hB3
      obtain ⟨w, hw⟩ : ∃ w, w = vts (decide (sv ≤ 2)) F lo k := ⟨_, rfl⟩
      have hwl := vts_le (small := decide (sv ≤ 2)) (F := F) (lo := lo) (k := k) (fun q => by have := hsm (by simpa using q); omega)
      have es : vts (decide (sv ≤ 2)) F lo (k + 1) = if F (lo + k) then (if decide (sv ≤ 2) then w.1 ||| 2 ^ (lo + k) else w.1, w.2.1 + 1, if w.2.1 = 0 then lo + k + 1 else w.2.2) else w := by rw [hw]; rfl
      rw [← hw] at hwl ⊢
      rw [es] at ih
      obtain ⟨v, hv⟩ : ∃ v, v = lo + k := ⟨_, rfl⟩
      rw [← hv] at ih ⊢
      have hv1 : tc = 41 → v < 6 := fun e => by have := hK1 e; omega
      have hv2 : tc = 42 → v ≤ 9 := fun e => by have := hK2 e; omega
      have hB4 := hB3.tr (v := v) htc hl6 hv1 hv2 (by omega)
      rw [htr] at hB4
      have hs4 : vag vBi σ (vput s3 tc l (nI v)) := hs3.put (by rcases htc with rfl | rfl | rfl <;> rfl)
      have cont : ∀ (s5 : vM) (w' : Nat × Nat × Nat), vag vBi σ s5 → vBR (vcomp (a.2.2 (a.1 1 1))) (a.1 1 0) (a.1 1 2) (20 + 3 * a.1 1 1) (vtrT tc l v (vtr0 a)).1 (vtrT tc l v (vtr0 a)).2.1 (vtrT tc l v (vtr0 a)).2.2 (vse a p) s5 → w' = (if F v then (if decide (sv ≤ 2) then w.1 ||| 2 ^ v else w.1, w.2.1 + 1, if w.2.1 = 0 then v + 1 else w.2.2) else w) → VM G (d + 4) iX6_traitsThatFit 184 [some (.ref 0), some (.ref ro), some (.int (nI l)), some (.int (nI sv)), some (.ref tc), some (.int (nI lo)), some (.int (nI (lo + K - 1))), some (.int (nI w'.1)), some (.int (nI w'.2.1)), some (.int (nI w'.2.2 - 1)), some (.int 1), some (.int (nI v))] [] s5 post := by
        intro s5 w' hs5 hB5 hw'
        refine VM.go [108] ?_
        show VM G (d + 4) iX6_traitsThatFit 108 _ _ _ _
        rw [nI_1, hw', hv]
        exact ih s5 _ hs5 (fun v => vtrT_2) (by rw [← hv]; exact hB5)
      have next : VM G (d + 4) iX6_traitsThatFit 133 [some (.ref 0), some (.ref ro), some (.int (nI l)), some (.int (nI sv)), some (.ref tc), some (.int (nI lo)), some (.int (nI (lo + K - 1))), some (.int (nI w.1)), some (.int (nI w.2.1)), some (.int (nI w.2.2 - 1)), some (.int 1), some (.int (nI v))] [] (vput s3 tc l (nI v)) post := by
        refine VM.go [141] ⟨_, VM.at (vb_owedR hl6 hB4 (fun s5 hs5 => ?_)), fun _ _ hh => hh⟩
        have hs5' := hs4.tr (hs5.up vSc_Bi)
        have hB5 := hB4.ag hs5
        have e1 : s5.1 ro 1 = nI (a.1 1 2) := (hs5'.get (vSc_row (i := 0) hr (by decide)).2).trans hsz
        have e2 : s5.1 (ro + 1) l = it l := (hs5'.get (vSc_row hr (by decide)).2).trans (hit l hl)
        have fin : VM G (d + 4) iX6_traitsThatFit 146 [some (.ref 0), some (.ref ro), some (.int (nI l)), some (.int (nI sv)), some (.ref tc), some (.int (nI lo)), some (.int (nI (lo + K - 1))), some (.int (nI w.1)), some (.int (nI w.2.1)), some (.int (nI w.2.2 - 1)), some (.int 1), some (.int (nI v))] [.int (it l), .int (nI (vowT a (a.1 1 1) (a.1 1 0) p (vtrT tc l v (vtr0 a)) l))] s5 post := by
          refine VM.go [184, 149] ⟨fun q => ?_, fun q => ?_⟩
          · exact cont s5 w hs5' hB5 (if_neg (fun z => q ((hFi v).mp z).2)).symm
          · have hFv : F v = true := (hFi v).mpr ⟨hoth, q⟩
            rw [if_pos hFv] at cont
            show VM G (d + 4) iX6_traitsThatFit 149 _ _ _ _
            have c3 : ∀ (y : Nat), y = (if decide (sv ≤ 2) then w.1 ||| 2 ^ v else w.1) → VM G (d + 4) iX6_traitsThatFit 167 [some (.ref 0), some (.ref ro), some (.int (nI l)), some (.int (nI sv)), some (.ref tc), some (.int (nI lo)), some (.int (nI (lo + K - 1))), some (.int (nI y)), some (.int (nI w.2.1)), some (.int (nI w.2.2 - 1)), some (.int 1), some (.int (nI v))] [] s5 post := by
              intro y hy
              have c4 := cont s5 _ hs5' hB5 rfl
              dsimp only at c4
              rw [← hy] at c4
              refine VM.go [184] ⟨fun q2 => ?_, fun q2 => ?_⟩
              · rw [if_neg (fun e => q2 (by rw [e]; rfl)), ← nI_1] at c4
                exact c4
              · have e0 : w.2.1 = 0 := (nI_eq (by omega) (by decide)).mp (show nI w.2.1 = nI 0 from q2)
                rw [if_pos e0, nI_pred, ← nI_1] at c4
                exact c4
            refine VM.go [163, 167] ⟨fun q2 => ?_, fun q2 => ?_⟩
            · have q' : ¬ nI sv ≤ nI 2 := Int32.not_le.mpr q2
              rw [nIle (by omega) (by decide)] at q'
              refine VM.go [167] ?_
              show VM G (d + 4) iX6_traitsThatFit 167 _ _ _ _
              rw [show nI w.1 ||| 0 = nI w.1 from by rw [show (0 : Int32) = nI 0 from rfl, nI_or (by omega) (by decide), Nat.or_zero]]
              exact c3 _ (by rw [decide_eq_false (by omega)]; rfl)
            · have q' : nI sv ≤ nI 2 := Int32.not_lt.mp q2
              rw [nIle (by omega) (by decide)] at q'
              have hv10 : v ≤ 9 := by have := hsm q'; omega
              show VM G (d + 4) iX6_traitsThatFit 167 _ _ _ _
              rw [nI_shl1 v (by omega), nI_or (by omega) (Nat.lt_of_lt_of_le (Nat.pow_lt_pow_right (m := v) (n := 10) (by decide) (by omega)) (by decide))]
              exact c3 _ (by rw [decide_eq_true q']; rfl)
        rw [← e2] at fin
        refine VM.at ?_
        rcases hr with rfl | rfl | rfl | rfl
        all_goals
          refine VM.go [146] ⟨_, VM.at (vb_item (by decide) e1 hl (by omega) ?_), fun _ _ hh => hh⟩
          exact VM.at fin
      rcases htc with rfl | rfl | rfl
      all_goals exact VM.go [133] ⟨fun q => absurd q (by decide), fun _ => ⟨fun q => absurd q (nI_ge hl6 (by decide)), fun _ => ⟨fun q => absurd q (Int32.not_lt.mpr (nI_le (show v ≤ lo + K - 1 by omega) (by omega))), fun _ => ⟨nofun, l, rfl, hl6, next⟩⟩⟩⟩
  have fin93 : ∀ s3, vag vSc s2 s3 → VM G (d + 4) iX6_traitsThatFit 93 [some (.ref 0), some (.ref ro), some (.int (nI l)), some (.int (nI sv)), some (.ref tc), some (.int (nI lo)), some (.int (nI (lo + K - 1))), some (.int 0), some (.int 0), some (.int (-1)), none, none] [.int (vfo (vowA a (a.1 1 0) (a.1 1 1) p) it l (a.1 1 2) 0)] s3 post := by
    intro s3 hs3
    have hs3' := hs2.tr (hs3.up vSc_Bi)
    have hB3 := hB.ag hs3
    refine VM.go [108, 190] ⟨fun q => ?_, fun q => ?_⟩
    · have e : vts (decide (sv ≤ 2)) F lo K = (0, 0, 0) := vts_none (fun j _ z => q ((hFi _).mp z).1)
      refine VM.go [190] ⟨fun _ => ?_, fun q => absurd rfl q⟩
      have := fin190 s3 (some (.int 0)) (some (.int (nI lo))) (0, 0, 0) hs3' e.symm
      exact this
    · have := key q 0 (Nat.zero_le _) s3 (vtr0 a) hs3' (fun _ => rfl) hB3
      exact this
  have hE : s2.1 ro 1 = nI (a.1 1 2) := (hs2.get (vSc_row (i := 0) hr (by decide)).2).trans hsz
  have hI : ∀ k, k < a.1 1 2 → s2.1 (ro + 1) k = it k := fun k hk => (hs2.get (vSc_row hr (by decide)).2).trans (hit k hk)
  have hbut : ∀ l', l' < 6 → (nI l' = nI l ↔ l' = l) := fun l' hl' => nI_eq (by omega) (by omega)
  rcases hr with rfl | rfl | rfl | rfl
  all_goals exact VM.go [93] ⟨_, VM.at (vb_firstO (but := l) (by decide) hB hE hI hbut (fun s5 hs5 => by exact VM.at (fin93 s5 hs5))), fun _ _ hh => hh⟩
end TR
