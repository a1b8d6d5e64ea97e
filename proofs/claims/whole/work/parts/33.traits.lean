/-! ===== what is owed depends on this alone ===== -/
theorem vsumN_cg {f g : Nat → Nat} {n : Nat} (h : ∀ i, i < n → f i = g i) : vsumN n f = vsumN n g := by
  induction n with
  | zero => rfl
  | succ n ih =>
    show vsumN n f + f n = vsumN n g + g n
    rw [ih (fun i hi => h i (by omega)), h n (by omega)]
theorem vlitS_cg {c n : Nat} {se se' : Nat → Nat} (h : ∀ k, k < n → se k = se' k) : vlitS c se n = vlitS c se' n := vsumN_cg (fun i hi => by rw [h i hi])
theorem vnames_cg {c n l t : Nat} {nu nu' ye ye' se se' : Nat → Nat} (h1 : nu l = nu' l) (h2 : ye l = ye' l) (h3 : se l = se' l) (h4 : ∀ k, k < n → se k = se' k) : vnames c nu ye se n l t = vnames c nu' ye' se' n l t := by
  funext i
  unfold vnames
  rw [h1, h2, h3, vlitS_cg h4]
theorem vowes_cg {T : Nat → (Nat → Int32) → Int32} {c n l : Nat} {kd kd' nu nu' ye ye' se se' : Nat → Nat} (h0 : kd l = kd' l) (h1 : nu l = nu' l) (h2 : ye l = ye' l) (h3 : se l = se' l) (h4 : ∀ k, k < n → se k = se' k) : vowes T c n kd nu ye se l = vowes T c n kd' nu' ye' se' l := by
  have e : ∀ t, vnames c nu ye se n l t = vnames c nu' ye' se' n l t := fun t => vnames_cg h1 h2 h3 h4
  unfold vowes
  simp only [e, h0, h1, h2, h3]
theorem vtrT_ne {tc l v j : Nat} {t : vT3} (h : ¬ j = l) : (vtrT tc l v t).1 j = t.1 j ∧ (vtrT tc l v t).2.1 j = t.2.1 j ∧ (vtrT tc l v t).2.2 j = t.2.2 j := by
  unfold vtrT
  split
  · exact ⟨if_neg h, rfl, rfl⟩
  · split
    · exact ⟨rfl, if_neg h, rfl⟩
    · exact ⟨rfl, rfl, if_neg h⟩
theorem vowT_ne {a : vα} {t c p tc l v j : Nat} {tr : vT3} (h : ¬ j = l) : vowT a t c p (vtrT tc l v tr) j = vowT a t c p tr j := by
  obtain ⟨h1, h2, h3⟩ := vtrT_ne (tc := tc) (v := v) (t := tr) h
  exact vowes_cg h1 h2 h3 rfl (fun _ _ => rfl)
theorem vfit_but {f g : Nat → Nat} {it : Nat → Int32} {n l : Nat} (hn : n ≤ 6) (hl : l < n) (h : ∀ j, j < n → ¬ j = l → f j = g j) : vfit f it n = true ↔ vfo g it l n 0 = -1 ∧ nI (f l) = it l := by
  rw [vfo_all n 0 (by omega)]
  unfold vfit
  rw [decide_eq_true_eq]
  constructor
  · refine fun z => ⟨fun j _ hj => ?_, z l hl⟩
    by_cases e : j = l
    · exact Or.inl e
    · exact Or.inr (by rw [← h j (by omega) e]; exact z j (by omega))
  · rintro ⟨z1, z2⟩ j hj
    by_cases e : j = l
    · rw [e]; exact z2
    · rcases z1 j (Nat.zero_le _) (by omega) with r | r
      · exact absurd r e
      · rw [h j hj e]; exact r
theorem vts_none {small : Bool} {F : Nat → Bool} {lo k : Nat} (h : ∀ j, j < k → ¬ F (lo + j) = true) : vts small F lo k = (0, 0, 0) := by
  induction k with
  | zero => rfl
  | succ k ih =>
    unfold vts
    rw [if_neg (h k (by omega))]
    exact ih (fun j hj => h j (by omega))
section TR
variable {G : vG} {d : Nat} {σ : vM} {post : vQ} {a : vα} {cs : Nat → List Int32} {c n r : Nat} {se : Nat → Nat}
theorem vBR.tr {tc l v : Nat} {t : vT3} (htc : tc = 41 ∨ tc = 42 ∨ tc = 43) (hB : vBR cs c n r t.1 t.2.1 t.2.2 se σ) (hl : l < 6) (hv1 : tc = 41 → v < 6) (hv2 : tc = 42 → v ≤ 9) (hv3 : v ≤ 999) : vBR cs c n r (vtrT tc l v t).1 (vtrT tc l v t).2.1 (vtrT tc l v t).2.2 se (vput σ tc l (nI v)) := by
  obtain ⟨w1, w2, w3, w4, w5, w6, w7⟩ := hB.2.2.2.2.1
  obtain ⟨g1, g2, g3, g4, g5, g6, g7⟩ := hB.2.2.2.2.2
  have up : ∀ (f : Nat → Nat) (tc : Nat), (∀ k, k < 6 → σ.1 tc k = nI (f k)) → ∀ k, k < 6 → (vput σ tc l (nI v)).1 tc k = nI (vupd f l v k) := by
    intro f tc hf k hk
    rw [vput_get]
    unfold vupd
    by_cases e : k = l
    · rw [if_pos ⟨rfl, e⟩, if_pos e]
    · rw [if_neg (fun q => e q.2), if_neg e]; exact hf k hk
  have rg : ∀ (f : Nat → Nat) (P : Nat → Prop), P v → (∀ k, k < 6 → P (f k)) → ∀ k, k < 6 → P (vupd f l v k) := by
    intro f P hP hf k hk
    unfold vupd
    split
    · exact hP
    · exact hf k hk
  rcases htc with rfl | rfl | rfl
  · exact hB.to (vag.rf.put rfl) ⟨w1, w2, w3, rg _ (· < 6) (hv1 rfl) w4, w5, w6, w7⟩ ⟨g1, g2, g3, up _ _ g4, g5, g6, g7⟩
  · exact hB.to (vag.rf.put rfl) ⟨w1, w2, w3, w4, rg _ (· ≤ 9) (hv2 rfl) w5, w6, w7⟩ ⟨g1, g2, g3, g4, up _ _ g5, g6, g7⟩
  · exact hB.to (vag.rf.put rfl) ⟨w1, w2, w3, w4, w5, rg _ (· ≤ 999) hv3 w6, w7⟩ ⟨g1, g2, g3, g4, g5, up _ _ g6, g7⟩
theorem vb_traits84 {ro p l sv tc lo K : Nat} {it : Nat → Int32} (hsv : 1 ≤ sv ∧ sv ≤ 4) (htc : tc = 41 ∨ tc = 42 ∨ tc = 43) (hK1 : tc = 41 → lo + K ≤ 6) (hK2 : tc = 42 → lo + K ≤ 10) (hK3 : lo + K ≤ 1000) (hK0 : 1 ≤ K) (hsm : sv ≤ 2 → lo + K ≤ 10) (hr : ro = 50 ∨ ro = 52 ∨ ro = 54 ∨ ro = 56) (hl : l < a.1 1 2) (hp : p < 5) (hC : vRC a σ) (hW : vWF a) {s2 : vM} (hs2 : vag vBi σ s2) (hB : vBA a (a.1 1 1) p (a.1 1 0) s2) (hsz : σ.1 ro 1 = nI (a.1 1 2)) (hit : ∀ k, k < a.1 1 2 → σ.1 (ro + 1) k = it k) {F : Nat → Bool} (hF : F = fun v => vfit (vowT a (a.1 1 1) (a.1 1 0) p (vtrT tc l v (vtr0 a))) it (a.1 1 2)) (h : ∀ σ', vag vBi σ σ' → post (some (.int (if sv ≤ 2 then nI (vts (decide (sv ≤ 2)) F lo K).1 else if sv = 3 then nI (vts (decide (sv ≤ 2)) F lo K).2.1 else nI (vts (decide (sv ≤ 2)) F lo K).2.2 - 1))) σ') : VM G (d + 4) iX6_traitsThatFit 84 [some (.ref 0), some (.ref ro), some (.int (nI l)), some (.int (nI sv)), some (.ref tc), some (.int (nI lo)), some (.int (nI (lo + K - 1))), some (.int 0), some (.int 0), some (.int (-1)), none, none] [] s2 post := by
  have hT := hW.2.1.2
  have hn6 := hW.1.2.2
  have hl6 : l < 6 := by omega
  have fin190 : ∀ (s3 : vM) (y10 y11 : Option Value) (w : Nat × Nat × Nat), vag vBi σ s3 → w = vts (decide (sv ≤ 2)) F lo K → VM G (d + 4) iX6_traitsThatFit 190 [some (.ref 0), some (.ref ro), some (.int (nI l)), some (.int (nI sv)), some (.ref tc), some (.int (nI lo)), some (.int (nI (lo + K - 1))), some (.int (nI w.1)), some (.int (nI w.2.1)), some (.int (nI w.2.2 - 1)), y10, y11] [] s3 post := by
    intro s3 y10 y11 w hs3 hw
    have h' := h s3 hs3
    rw [← hw] at h'
    refine VM.go [] ⟨fun q => ⟨fun q2 => ?_, fun q2 => ?_⟩, fun q => ?_⟩
    · have q' : ¬ nI sv ≤ nI 2 := Int32.not_le.mpr q
      rw [nIle (by omega) (by decide)] at q'
      rw [if_neg (by omega), if_neg (fun e => q2 (by rw [e]; rfl))] at h'
      exact h'
    · have q2' : sv = 3 := (nI_eq (by omega) (by decide)).mp (show nI sv = nI 3 from q2)
      rw [if_neg (by omega), if_pos q2'] at h'
      exact h'
    · have q' : nI sv ≤ nI 2 := Int32.not_lt.mp q
      rw [nIle (by omega) (by decide)] at q'
      rw [if_pos q'] at h'
      exact h'
  have fn : ∀ v j, j < a.1 1 2 → ¬ j = l → vowT a (a.1 1 1) (a.1 1 0) p (vtrT tc l v (vtr0 a)) j = vowA a (a.1 1 0) (a.1 1 1) p j := fun v j _ hj => vowT_ne hj
  have hFi : ∀ v, F v = true ↔ vfo (vowA a (a.1 1 0) (a.1 1 1) p) it l (a.1 1 2) 0 = -1 ∧ nI (vowT a (a.1 1 1) (a.1 1 0) p (vtrT tc l v (vtr0 a)) l) = it l := fun v => by
    rw [hF]; exact vfit_but hn6 hl (fn v)
  have key : vfo (vowA a (a.1 1 0) (a.1 1 1) p) it l (a.1 1 2) 0 = -1 → ∀ k, k ≤ K → ∀ (s3 : vM) (tr : vT3), vag vBi σ s3 → (∀ v, vtrT tc l v tr = vtrT tc l v (vtr0 a)) → vBR (vcomp (a.2.2 (a.1 1 1))) (a.1 1 0) (a.1 1 2) (20 + 3 * a.1 1 1) tr.1 tr.2.1 tr.2.2 (vse a p) s3 → VM G (d + 4) iX6_traitsThatFit 108 [some (.ref 0), some (.ref ro), some (.int (nI l)), some (.int (nI sv)), some (.ref tc), some (.int (nI lo)), some (.int (nI (lo + K - 1))), some (.int (nI (vts (decide (sv ≤ 2)) F lo k).1)), some (.int (nI (vts (decide (sv ≤ 2)) F lo k).2.1)), some (.int (nI (vts (decide (sv ≤ 2)) F lo k).2.2 - 1)), some (.int 1), some (.int (nI (lo + k)))] [] s3 post := by
    intro hoth
    refine vloop _ ?_ ?_
    · intro s3 tr hs3 _ _
      rcases htc with rfl | rfl | rfl
      all_goals refine VM.go [190] ⟨fun q => absurd q (by decide), fun _ => ⟨fun q => absurd q (nI_ge hl6 (by decide)), fun _ => ⟨fun _ => fin190 s3 _ _ _ hs3 rfl, fun q => absurd ?_ q⟩⟩⟩
      all_goals exact nI_lt (by omega) (by omega)
    · intro k hk ih s3 tr hs3 htr hB3
      obtain ⟨w, hw⟩ : ∃ w, w = vts (decide (sv ≤ 2)) F lo k := ⟨_, rfl⟩
      have hwl := vts_le (small := decide (sv ≤ 2)) (F := F) (lo := lo) (k := k) (fun q => by have := hsm (by simpa using q); omega)
      have es : vts (decide (sv ≤ 2)) F lo (k + 1) = if F (lo + k) then (if decide (sv ≤ 2) then w.1 ||| 2 ^ (lo + k) else w.1, w.2.1 + 1, if w.2.1 = 0 then lo + k + 1 else w.2.2) else w := by rw [hw]; rfl
      rw [← hw] at hwl ⊢
      rw [es] at ih
      obtain ⟨v, hv⟩ : ∃ v, v = lo + k := ⟨_, rfl⟩
      rw [← hv] at ih ⊢
      have hv1 : tc = 41 → v < 6 := fun e => by have := hK1 e; omega
      have hv2 : tc = 42 → v ≤ 9 := fun e => by have := hK2 e; omega
      have hB4 := hB3.tr (v := v) htc hl6 hv1 hv2 (by omega)
      rw [htr] at hB4
      have hs4 : vag vBi σ (vput s3 tc l (nI v)) := hs3.put (by rcases htc with rfl | rfl | rfl <;> rfl)
      have cont : ∀ (s5 : vM) (w' : Nat × Nat × Nat), vag vBi σ s5 → vBR (vcomp (a.2.2 (a.1 1 1))) (a.1 1 0) (a.1 1 2) (20 + 3 * a.1 1 1) (vtrT tc l v (vtr0 a)).1 (vtrT tc l v (vtr0 a)).2.1 (vtrT tc l v (vtr0 a)).2.2 (vse a p) s5 → w' = (if F v then (if decide (sv ≤ 2) then w.1 ||| 2 ^ v else w.1, w.2.1 + 1, if w.2.1 = 0 then v + 1 else w.2.2) else w) → VM G (d + 4) iX6_traitsThatFit 184 [some (.ref 0), some (.ref ro), some (.int (nI l)), some (.int (nI sv)), some (.ref tc), some (.int (nI lo)), some (.int (nI (lo + K - 1))), some (.int (nI w'.1)), some (.int (nI w'.2.1)), some (.int (nI w'.2.2 - 1)), some (.int 1), some (.int (nI v))] [] s5 post := by
        intro s5 w' hs5 hB5 hw'
        refine VM.go [108] ?_
        show VM G (d + 4) iX6_traitsThatFit 108 _ _ _ _
        have ih' := ih s5 (vtrT tc l v (vtr0 a)) hs5 (fun v => vtrT_2) hB5
        rw [show lo + (k + 1) = v + 1 by omega] at ih'
        rw [nI_1, hw']
        exact ih'
      have next : VM G (d + 4) iX6_traitsThatFit 133 [some (.ref 0), some (.ref ro), some (.int (nI l)), some (.int (nI sv)), some (.ref tc), some (.int (nI lo)), some (.int (nI (lo + K - 1))), some (.int (nI w.1)), some (.int (nI w.2.1)), some (.int (nI w.2.2 - 1)), some (.int 1), some (.int (nI v))] [] (vput s3 tc l (nI v)) post := by
        refine VM.go [141] ⟨_, VM.at (vb_owedR hl6 hB4 (fun s5 hs5 => ?_)), fun _ _ hh => hh⟩
        have hs5' := hs4.tr (hs5.up vSc_Bi)
        have hB5 := hB4.ag hs5
        have e1 : s5.1 ro 1 = nI (a.1 1 2) := (hs5'.get (vSc_row (i := 0) hr (by decide)).2).trans hsz
        have e2 : s5.1 (ro + 1) l = it l := (hs5'.get (vSc_row hr (by decide)).2).trans (hit l hl)
        have fin : VM G (d + 4) iX6_traitsThatFit 146 [some (.ref 0), some (.ref ro), some (.int (nI l)), some (.int (nI sv)), some (.ref tc), some (.int (nI lo)), some (.int (nI (lo + K - 1))), some (.int (nI w.1)), some (.int (nI w.2.1)), some (.int (nI w.2.2 - 1)), some (.int 1), some (.int (nI v))] [.int (it l), .int (nI (vowT a (a.1 1 1) (a.1 1 0) p (vtrT tc l v (vtr0 a)) l))] s5 post := by
          refine VM.go [184, 149] ⟨fun q => ?_, fun q => ?_⟩
          · exact cont s5 w hs5' hB5 (if_neg (fun z => q ((hFi v).mp z).2)).symm
          · have hFv : F v = true := (hFi v).mpr ⟨hoth, q⟩
            rw [if_pos hFv] at cont
            show VM G (d + 4) iX6_traitsThatFit 149 _ _ _ _
            have c3 : ∀ (y : Nat), y = (if decide (sv ≤ 2) then w.1 ||| 2 ^ v else w.1) → VM G (d + 4) iX6_traitsThatFit 167 [some (.ref 0), some (.ref ro), some (.int (nI l)), some (.int (nI sv)), some (.ref tc), some (.int (nI lo)), some (.int (nI (lo + K - 1))), some (.int (nI y)), some (.int (nI w.2.1)), some (.int (nI w.2.2 - 1)), some (.int 1), some (.int (nI v))] [] s5 post := by
              intro y hy
              have c4 := cont s5 _ hs5' hB5 rfl
              dsimp only at c4
              rw [← hy] at c4
              refine VM.go [184] ⟨fun q2 => ?_, fun q2 => ?_⟩
              · rw [if_neg (fun e => q2 (by rw [e]; rfl)), ← nI_1] at c4
                exact c4
              · have e0 : w.2.1 = 0 := (nI_eq (by omega) (by decide)).mp (show nI w.2.1 = nI 0 from q2)
                rw [if_pos e0, nI_pred, ← nI_1] at c4
                exact c4
            refine VM.go [163, 167] ⟨fun q2 => ?_, fun q2 => ?_⟩
            · have q' : ¬ nI sv ≤ nI 2 := Int32.not_le.mpr q2
              rw [nIle (by omega) (by decide)] at q'
              refine VM.go [167] ?_
              show VM G (d + 4) iX6_traitsThatFit 167 _ _ _ _
              rw [show nI w.1 ||| 0 = nI w.1 from by rw [show (0 : Int32) = nI 0 from rfl, nI_or (by omega) (by decide), Nat.or_zero]]
              exact c3 _ (by rw [decide_eq_false (by omega)]; rfl)
            · have q' : nI sv ≤ nI 2 := Int32.not_lt.mp q2
              rw [nIle (by omega) (by decide)] at q'
              have hv10 : v ≤ 9 := by have := hsm q'; omega
              show VM G (d + 4) iX6_traitsThatFit 167 _ _ _ _
              rw [nI_shl1 v (by omega), nI_or (by omega) (Nat.lt_of_lt_of_le (Nat.pow_lt_pow_right (m := v) (n := 10) (by decide) (by omega)) (by decide))]
              exact c3 _ (by rw [decide_eq_true q']; rfl)
        rw [← e2] at fin
        refine VM.at ?_
        rcases hr with rfl | rfl | rfl | rfl
        all_goals
          refine VM.go [146] ⟨_, VM.at (vb_item (by decide) e1 hl (by omega) ?_), fun _ _ hh => hh⟩
          exact VM.at fin
      rcases htc with rfl | rfl | rfl
      all_goals exact VM.go [133] ⟨fun q => absurd q (by decide), fun _ => ⟨fun q => absurd q (nI_ge hl6 (by decide)), fun _ => ⟨fun q => absurd q (Int32.not_lt.mpr (nI_le (show v ≤ lo + K - 1 by omega) (by omega))), fun _ => ⟨nofun, l, rfl, hl6, next⟩⟩⟩⟩
  have fin93 : ∀ s3, vag vSc s2 s3 → VM G (d + 4) iX6_traitsThatFit 93 [some (.ref 0), some (.ref ro), some (.int (nI l)), some (.int (nI sv)), some (.ref tc), some (.int (nI lo)), some (.int (nI (lo + K - 1))), some (.int 0), some (.int 0), some (.int (-1)), none, none] [.int (vfo (vowA a (a.1 1 0) (a.1 1 1) p) it l (a.1 1 2) 0)] s3 post := by
    intro s3 hs3
    have hs3' := hs2.tr (hs3.up vSc_Bi)
    have hB3 := hB.ag hs3
    refine VM.go [108, 190] ⟨fun q => ?_, fun q => ?_⟩
    · have e : vts (decide (sv ≤ 2)) F lo K = (0, 0, 0) := vts_none (fun j _ z => q ((hFi _).mp z).1)
      refine VM.go [190] ⟨fun _ => ?_, fun q => absurd rfl q⟩
      have := fin190 s3 (some (.int 0)) (some (.int (nI lo))) (0, 0, 0) hs3' e.symm
      exact this
    · have := key q 0 (Nat.zero_le _) s3 (vtr0 a) hs3' (fun _ => rfl) hB3
      exact this
  have hE : s2.1 ro 1 = nI (a.1 1 2) := (hs2.get (vSc_row (i := 0) hr (by decide)).2).trans hsz
  have hI : ∀ k, k < a.1 1 2 → s2.1 (ro + 1) k = it k := fun k hk => (hs2.get (vSc_row hr (by decide)).2).trans (hit k hk)
  have hbut : ∀ l', l' < 6 → (nI l' = nI l ↔ l' = l) := fun l' hl' => nI_eq (by omega) (by omega)
  rcases hr with rfl | rfl | rfl | rfl
  all_goals exact VM.go [93] ⟨_, VM.at (vb_firstO (but := l) (by decide) hB hE hI hbut (fun s5 hs5 => by exact VM.at (fin93 s5 hs5))), fun _ _ hh => hh⟩
theorem vb_traits {s p l sv : Nat} (hs : s < 4) (hsv : 1 ≤ sv ∧ sv ≤ 4) (hl : l < a.1 1 2) (hp : p < 5) (hC : vRC a σ) (hW : vWF a) {s2 : vM} (hs2 : vag vBi σ s2) (hB : vBA a (a.1 1 1) p (a.1 1 0) s2) (hsz : a.1 (50 + 2 * s) 1 = a.1 1 2) (h : ∀ σ', vag vBi σ σ' → post (some (.int (if sv ≤ 2 then nI (vtsO a s p l sv).1 else if sv = 3 then nI (vtsO a s p l sv).2.1 else nI (vtsO a s p l sv).2.2 - 1))) σ') : VM G (d + 4) iX6_traitsThatFit 0 [some (.ref 0), some (.ref (50 + 2 * s)), some (.int (nI l)), some (.int (nI sv)), none, none, none, none, none, none, none, none] [] s2 post := by
  have hr : 50 + 2 * s = 50 ∨ 50 + 2 * s = 52 ∨ 50 + 2 * s = 54 ∨ 50 + 2 * s = 56 := by omega
  have e1 : σ.1 (50 + 2 * s) 1 = nI (a.1 1 2) := by
    rw [← hsz]
    exact hC.num _ 1 (by rcases (show s = 0 ∨ s = 1 ∨ s = 2 ∨ s = 3 by omega) with rfl | rfl | rfl | rfl <;> rfl)
  have e2 : ∀ k, k < a.1 1 2 → σ.1 (50 + 2 * s + 1) k = a.2.1 s k := fun k hk => by
    rw [show 50 + 2 * s + 1 = 51 + 2 * s by omega]
    exact hC.2.2.1 s k hs (by rw [hsz]; exact hk)
  unfold vtsO at h
  rcases (show sv = 1 ∨ sv = 2 ∨ sv = 3 ∨ sv = 4 by omega) with rfl | rfl | rfl | rfl
  · refine VM.go [84] ⟨fun q => absurd rfl q, fun _ => ⟨fun q => absurd q (by decide), fun _ => ⟨fun q => absurd rfl q, fun _ => ?_⟩⟩⟩
    exact vb_traits84 (lo := 0) (K := 6) (tc := 41) (sv := 1) hsv (Or.inl rfl) (by decide) (by decide) (by decide) (by decide) (by decide) hr hl hp hC hW hs2 hB e1 e2 rfl h
  · refine VM.go [84] ⟨fun _ => ⟨fun q => absurd rfl q, fun _ => ⟨fun q => absurd q (by decide), fun _ => ⟨fun _ => ⟨fun q => absurd rfl q, fun _ => ?_⟩, fun q => absurd q (by decide)⟩⟩⟩, fun q => absurd q (by decide)⟩
    exact vb_traits84 (lo := 0) (K := 10) (tc := 42) (sv := 2) hsv (Or.inr (Or.inl rfl)) (by decide) (by decide) (by decide) (by decide) (by decide) hr hl hp hC hW hs2 hB e1 e2 rfl h
  · refine VM.go [84] ⟨fun _ => ⟨fun _ => ⟨fun _ => ⟨fun _ => ⟨fun _ => ?_, fun q => absurd q (by decide)⟩, fun q => absurd q (by decide)⟩, fun q => absurd (by decide) q⟩, fun q => absurd q (by decide)⟩, fun q => absurd q (by decide)⟩
    exact vb_traits84 (lo := 1) (K := 999) (tc := 43) (sv := 3) hsv (Or.inr (Or.inr rfl)) (by decide) (by decide) (by decide) (by decide) (by decide) hr hl hp hC hW hs2 hB e1 e2 rfl h
  · refine VM.go [84] ⟨fun _ => ⟨fun _ => ⟨fun _ => ⟨fun _ => ⟨fun _ => ?_, fun q => absurd q (by decide)⟩, fun q => absurd q (by decide)⟩, fun q => absurd (by decide) q⟩, fun q => absurd q (by decide)⟩, fun q => absurd q (by decide)⟩
    exact vb_traits84 (lo := 1) (K := 999) (tc := 43) (sv := 4) hsv (Or.inr (Or.inr rfl)) (by decide) (by decide) (by decide) (by decide) (by decide) hr hl hp hC hW hs2 hB e1 e2 rfl h
/-- tells, all being in range -/
theorem vb_tells98 {s p w : Nat} {y : Option Value} (hs : s < 4) (hp : p < 5) (hw : w < 3 ∨ (10 ≤ w ∧ w < 50 ∧ w % 10 < a.1 1 2)) (hC : vRC a σ) (hW : vWF a) (hsz : a.1 (50 + 2 * s) 1 = a.1 1 2) (h : ∀ σ', vag vBi σ σ' → post (some (.int (if w = 0 then vfo (vowA a (a.1 1 0) (a.1 1 1) p) (a.2.1 s) 7 (a.1 1 2) 0
    else if w = 1 then nI (vowb (fun t => vfit (vowA a (a.1 1 0) t p) (a.2.1 s) (a.1 1 2)) (a.1 0 4))
    else if w = 2 then nI (vowb (fun t => vfit (vowA a (if t = 12 then 0 else 2 ^ t) (a.1 1 1) p) (a.2.1 s) (a.1 1 2)) 13)
    else if w / 10 ≤ 2 then nI (vtsO a s p (w % 10) (w / 10)).1 else if w / 10 = 3 then nI (vtsO a s p (w % 10) (w / 10)).2.1 else nI (vtsO a s p (w % 10) (w / 10)).2.2 - 1))) σ') : VM G (d + 5) iX6_tells 98 [some (.ref 0), some (.int (nI s)), some (.int (nI p)), some (.int (nI w)), y, some (.ref (50 + 2 * s))] [] σ post := by
  have hr : 50 + 2 * s = 50 ∨ 50 + 2 * s = 52 ∨ 50 + 2 * s = 54 ∨ 50 + 2 * s = 56 := by omega
  have e1 : σ.1 (50 + 2 * s) 1 = nI (a.1 1 2) := by
    rw [← hsz]
    exact hC.num _ 1 (by rcases (show s = 0 ∨ s = 1 ∨ s = 2 ∨ s = 3 by omega) with rfl | rfl | rfl | rfl <;> rfl)
  have e2 : ∀ k, k < a.1 1 2 → σ.1 (50 + 2 * s + 1) k = a.2.1 s k := fun k hk => by
    rw [show 50 + 2 * s + 1 = 51 + 2 * s by omega]
    exact hC.2.2.1 s k hs (by rw [hsz]; exact hk)
  refine VM.go [168] ⟨_, VM.at (vb_openBill hp hC hW (fun s2 hs2 hB => ?_)), fun _ _ hh => hh⟩
  have h7 : ∀ l, l < 6 → (nI l = (-1 : Int32) ↔ l = 7) := fun l hl => ⟨fun e => absurd (show nI l < 0 by rw [e]; decide) (nI_pos (by omega)), fun e => absurd e (by omega)⟩
  have e1' : s2.1 (50 + 2 * s) 1 = nI (a.1 1 2) := (hs2.get (vSc_row (i := 0) hr (by decide)).2).trans e1
  have e2' : ∀ k, k < a.1 1 2 → s2.1 (50 + 2 * s + 1) k = a.2.1 s k := fun k hk => (hs2.get (vSc_row hr (by decide)).2).trans (e2 k hk)
  rcases hw with hw | ⟨hw1, hw2, hw3⟩
  · rcases (show w = 0 ∨ w = 1 ∨ w = 2 by omega) with rfl | rfl | rfl
    · rw [if_pos rfl] at h
      have g : ∀ σ', vag vSc s2 σ' → post (some (.int (vfo (vowA a (a.1 1 0) (a.1 1 1) p) (a.2.1 s) 7 (a.1 1 2) 0))) σ' := fun s3 hs3 => h s3 (hs2.tr (hs3.up vSc_Bi))
      refine vsw_go 132 (by decide) ?_
      rcases (show s = 0 ∨ s = 1 ∨ s = 2 ∨ s = 3 by omega) with rfl | rfl | rfl | rfl
      all_goals exact ⟨_, VM.at (vb_firstO (but := 7) (by decide) hB e1' e2' h7 (by exact g)), fun _ _ hh => hh⟩
    · rw [if_neg (by decide), if_pos rfl] at h
      refine vsw_go 143 (by decide) ?_
      exact ⟨_, VM.at (vb_textsFit hr hp hC hW hs2 hB e1 e2 (by exact h)), fun _ _ hh => hh⟩
    · rw [if_neg (by decide), if_neg (by decide), if_pos rfl] at h
      refine vsw_go 150 (by decide) ?_
      exact ⟨_, VM.at (vb_cloudsFit hr hp hC hW hs2 hB e1 e2 (by exact h)), fun _ _ hh => hh⟩
  · rw [if_neg (by omega), if_neg (by omega), if_neg (by omega)] at h
    refine vsw_go 157 (vsw_outN (m := 3) (by decide) (vix_no (by decide) (fun j hj e => by rw [nI_eq (by omega) (by omega)] at e; omega)) (by decide)) ⟨by decide, by decide, ?_⟩
    show VM G (d + 5) iX6_tells 168 _ _ _ _
    rw [show nI w - nI w / 10 * 10 = nI (w % 10) from pk_rem (d := 10) (by omega) (by decide) (by decide), show nI w / 10 = nI (w / 10) from pk_div (d := 10) (by omega) (by decide) (by decide)]
    exact VM.go [] ⟨_, VM.at (vb_traits hs (by omega) hw3 hp hC hW hs2 hB hsz (by exact h)), fun _ _ hh => hh⟩
theorem vc_tells {s0 p0 w0 : Int32} (hC : vRC a σ) (hW : vWF a) (h : ∀ σ', vag vBi σ σ' → post (some (.int (sTells a s0 p0 w0))) σ') : VM G (d + 5) iX6_tells 0 [some (.ref 0), some (.int s0), some (.int p0), some (.int w0), none, none] [] σ post := by
  have bad : sTells a s0 p0 w0 = -2 → post (some (.int (-2))) σ := fun e => by
    have := h σ vag.rf
    rw [e] at this
    exact this
  have hn6 := hW.1.2.2
  have badS : vix s0 4 = none → sTells a s0 p0 w0 = -2 := fun e => by unfold sTells; rw [e]
  have badP : vix p0 5 = none → sTells a s0 p0 w0 = -2 := fun e => by unfold sTells; rw [e]; cases vix s0 4 <;> rfl
  have badW : vix w0 50 = none → sTells a s0 p0 w0 = -2 := fun e => by unfold sTells; rw [e]; cases vix s0 4 <;> cases vix p0 5 <;> rfl
  have rest : ∀ (s p w : Nat) (q : Int32), s < 4 → p < 5 → s0 = nI s → p0 = nI p → w0 = nI w → (w < 3 ∨ (10 ≤ w ∧ w < 50 ∧ w % 10 < a.1 1 2)) → VM G (d + 5) iX6_tells 60 [some (.ref 0), some (.int s0), some (.int p0), some (.int w0), some (.int q), none] [] σ post := by
    rintro s p w q hs hp rfl rfl rfl hw
    unfold sTells at h
    rw [vix_nI hs (by decide), vix_nI hp (by decide), vix_nI (show w < 50 by omega) (by decide)] at h
    dsimp only at h
    rw [if_neg (by omega), if_neg (by omega)] at h
    have hso := hC.2.1 s hs
    have hsz : σ.1 (50 + 2 * s) 1 = nI (a.1 (50 + 2 * s) 1) := hC.num _ 1 (by rcases (show s = 0 ∨ s = 1 ∨ s = 2 ∨ s = 3 by omega) with rfl | rfl | rfl | rfl <;> rfl)
    obtain ⟨r1, r2, r3⟩ := hW.2.2.2.2.2.2.2.1 s hs
    have en := hC.num 1 2 rfl
    have g68 : VM G (d + 5) iX6_tells 98 [some (.ref 0), some (.int (nI s)), some (.int (nI p)), some (.int (nI w)), some (.int q), some (.ref (50 + 2 * s))] [] σ post ∨ (a.1 (50 + 2 * s) 0 = 0 ∨ ¬ a.1 (50 + 2 * s) 1 = a.1 1 2) := by
      by_cases z1 : a.1 (50 + 2 * s) 0 = 0
      · exact Or.inr (Or.inl z1)
      · by_cases z2 : a.1 (50 + 2 * s) 1 = a.1 1 2
        · rw [if_neg z1, if_neg (fun z => z z2)] at h
          exact Or.inl (vb_tells98 hs hp hw hC hW z2 h)
        · exact Or.inr (Or.inr z2)
    have nothing : a.1 (50 + 2 * s) 0 = 0 → post (some (.int (-11))) σ := fun z => by
      rw [if_pos z] at h
      exact h σ vag.rf
    have otherN : ¬ a.1 (50 + 2 * s) 0 = 0 → ¬ a.1 (50 + 2 * s) 1 = a.1 1 2 → post (some (.int (-2))) σ := fun z z2 => by
      rw [if_neg z, if_pos z2] at h
      exact h σ vag.rf
    have f1 : σ.1 (50 + 2 * s) 0 = -1 → a.1 (50 + 2 * s) 0 = 0 := fun e => by
      rw [hso, nI_m1e (by omega)] at e
      exact e
    have f2 : ¬ σ.1 (50 + 2 * s) 0 = -1 → ¬ a.1 (50 + 2 * s) 0 = 0 := fun e z => by
      rw [hso, nI_m1e (by omega)] at e
      exact e z
    have f3 : σ.1 (50 + 2 * s) 1 = σ.1 1 2 → a.1 (50 + 2 * s) 1 = a.1 1 2 := fun e => by
      rw [hsz, en, nI_eq (by omega) (by omega)] at e
      exact e
    have f4 : ¬ σ.1 (50 + 2 * s) 1 = σ.1 1 2 → ¬ a.1 (50 + 2 * s) 1 = a.1 1 2 := fun e z => by
      rw [hsz, en, nI_eq (by omega) (by omega)] at e
      exact e z
    rcases (show s = 0 ∨ s = 1 ∨ s = 2 ∨ s = 3 by omega) with rfl | rfl | rfl | rfl
    · exact VM.go [98] ⟨0, rfl, by decide, fun z => ⟨fun z2 => g68.elim id (fun g => absurd g (fun g => g.elim (f2 z) (fun g => g (f3 z2)))), fun z2 => otherN (f2 z) (f4 z2)⟩, fun z => nothing (f1 z)⟩
    · exact VM.go [98] ⟨1, rfl, by decide, fun z => ⟨fun z2 => g68.elim id (fun g => absurd g (fun g => g.elim (f2 z) (fun g => g (f3 z2)))), fun z2 => otherN (f2 z) (f4 z2)⟩, fun z => nothing (f1 z)⟩
    · exact VM.go [98] ⟨2, rfl, by decide, fun z => ⟨fun z2 => g68.elim id (fun g => absurd g (fun g => g.elim (f2 z) (fun g => g (f3 z2)))), fun z2 => otherN (f2 z) (f4 z2)⟩, fun z => nothing (f1 z)⟩
    · exact VM.go [98] ⟨3, rfl, by decide, fun z => ⟨fun z2 => g68.elim id (fun g => absurd g (fun g => g.elim (f2 z) (fun g => g (f3 z2)))), fun z2 => otherN (f2 z) (f4 z2)⟩, fun z => nothing (f1 z)⟩
  refine VM.go [] ⟨_, VM.at (vb_between (fun b1 b2 => ?_) (fun hno => ?_)), fun _ _ hh => hh⟩
  · obtain ⟨w, hw, e3⟩ := vnat (m := 49) (by decide) (by
      rw [Int32.le_iff_toInt_le] at b1 ⊢
      rw [show (10 : Int32).toInt = 10 from by decide] at b1
      rw [show (0 : Int32).toInt = 0 from by decide]
      omega) b2
    have hw1 : 10 ≤ w := by
      rw [e3, show (10 : Int32) = nI 10 from rfl, nIle (by decide) (by omega)] at b1
      exact b1
    refine VM.at (VM.go [60, 41] ⟨_, VM.at (vb_isSheet (fun s hs e1 => ?_) (fun hno => ?_)), fun _ _ hh => hh⟩)
    · refine ⟨fun c => absurd c (by decide), fun _ => ⟨_, VM.at (vb_isLooker (fun p hp e2 => ?_) (fun hno => ?_)), fun _ _ hh => hh⟩⟩
      · refine ⟨fun c => absurd c (by decide), fun _ => ⟨fun _ => ?_, fun c => absurd c (by decide)⟩⟩
        refine VM.go [60, 51] ⟨fun c => absurd c (by decide), fun _ => ⟨by decide, ?_⟩⟩
        show VM G (d + 5) iX6_tells 51 _ _ _ _
        rw [e3, show nI w - nI w / 10 * 10 = nI (w % 10) from pk_rem (d := 10) (by omega) (by decide) (by decide)]
        refine VM.go [60] ⟨_, VM.at (vb_isLight hC hW (fun l hl e4 => ?_) (fun hno => ?_)), fun _ _ hh => hh⟩
        · rw [nI_eq (by omega) (by omega)] at e4
          have g := rest s p w 1 hs hp e1 e2 e3 (Or.inr ⟨hw1, by omega, by omega⟩)
          rw [e3] at g
          exact ⟨fun _ => g, fun c => absurd c (by decide)⟩
        · refine ⟨fun c => absurd rfl c, fun _ => bad ?_⟩
          unfold sTells
          rw [e1, e2, e3, vix_nI hs (by decide), vix_nI hp (by decide), vix_nI (show w < 50 by omega) (by decide)]
          dsimp only
          rw [if_neg (by omega), if_pos ⟨hw1, fun z => hno _ z rfl⟩]
      · exact ⟨fun _ => bad (badP (vix_no (by decide) hno)), fun c => absurd rfl c⟩
    · exact ⟨fun _ => bad (badS (vix_no (by decide) hno)), fun c => absurd rfl c⟩
  · refine VM.at (VM.go [60, 41] ⟨_, VM.at (vb_isSheet (fun s hs e1 => ?_) (fun hno2 => ?_)), fun _ _ hh => hh⟩)
    · refine ⟨fun c => absurd c (by decide), fun _ => ⟨_, VM.at (vb_isLooker (fun p hp e2 => ?_) (fun hno2 => ?_)), fun _ _ hh => hh⟩⟩
      · refine ⟨fun c => absurd c (by decide), fun _ => ⟨fun c => absurd rfl c, fun _ => ⟨_, VM.at (vb_between (fun b1 b2 => ?_) (fun hno3 => ?_)), fun _ _ hh => hh⟩⟩⟩
        · obtain ⟨w, hw, e3⟩ := vnat (m := 2) (by decide) b1 b2
          refine ⟨fun _ => VM.go [60] ⟨fun _ => rest s p w 0 hs hp e1 e2 e3 (Or.inl (by omega)), fun c => absurd rfl c⟩, fun c => absurd c (by decide)⟩
        · refine ⟨fun c => absurd rfl c, fun _ => bad ?_⟩
          cases hv : vix w0 50 with
          | none => exact badW hv
          | some w =>
            obtain ⟨hw, e3⟩ := vix_some (by decide) hv
            unfold sTells
            rw [hv, e1, e2, vix_nI hs (by decide), vix_nI hp (by decide)]
            dsimp only
            refine if_pos ⟨?_, ?_⟩
            · refine Nat.le_of_not_lt (fun z => hno3 ⟨?_, ?_⟩)
              · rw [e3]; exact Int32.not_lt.mp (nI_pos (by omega))
              · rw [e3]; exact nI_le (show w ≤ 2 by omega) (by decide)
            · refine Nat.lt_of_not_le (fun z => hno ⟨?_, ?_⟩)
              · rw [e3]; exact nI_le (show 10 ≤ w from z) (by omega)
              · rw [e3]; exact nI_le (show w ≤ 49 by omega) (by decide)
      · exact ⟨fun _ => bad (badP (vix_no (by decide) hno2)), fun c => absurd rfl c⟩
    · exact ⟨fun _ => bad (badS (vix_no (by decide) hno2)), fun c => absurd rfl c⟩
end TR
