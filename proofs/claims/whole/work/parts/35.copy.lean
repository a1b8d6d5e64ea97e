/-! ===== copy ===== -/
theorem vhas_some {sz i n : Nat} {i0 n0 : Int32} (hz : sz ≤ 40) (h : vhas sz i0 n0 = some (i, n)) : i0 = nI i ∧ n0 = nI n ∧ i + n ≤ sz := by
  unfold vhas at h
  cases h1 : vix i0 (sz + 1) with
  | none => rw [h1] at h; cases h
  | some i' =>
    cases h2 : vix n0 (sz + 1) with
    | none => rw [h1, h2] at h; cases h
    | some n' =>
      rw [h1, h2] at h
      dsimp only at h
      split at h
      · next q =>
        cases h
        exact ⟨(vix_some (by omega) h1).2, (vix_some (by omega) h2).2, q⟩
      · cases h
theorem vhas_nI {sz i n : Nat} (hz : sz ≤ 40) (h : i + n ≤ sz) : vhas sz (nI i) (nI n) = some (i, n) := by
  unfold vhas
  rw [vix_nI (show i < sz + 1 by omega) (by omega), vix_nI (show n < sz + 1 by omega) (by omega)]
  exact if_pos h
theorem vhas_no {sz : Nat} {i0 n0 : Int32} (hz : sz ≤ 40) (h : ∀ i n, i0 = nI i → n0 = nI n → ¬ i + n ≤ sz) : vhas sz i0 n0 = none := by
  cases hv : vhas sz i0 n0 with
  | none => rfl
  | some q =>
    obtain ⟨i, n⟩ := q
    obtain ⟨h1, h2, h3⟩ := vhas_some hz hv
    exact absurd h3 (h i n h1 h2)
theorem vRC.cpy {a : vα} {σ : vM} {s i o j m : Nat} (hs : s < 4) (ho : o < 4) (hC : vRC a σ) (h1 : i + m ≤ a.1 (50 + 2 * s) 1) (hT : a.1 0 4 ≤ 6) : vRC (vcpA a s i o j m) (vcopy σ (51 + 2 * s) i (51 + 2 * o) j m) := by
  obtain ⟨c1, c2, c3, c4⟩ := hC
  have ne : ∀ c k, ¬ c = 51 + 2 * o → (vcopy σ (51 + 2 * s) i (51 + 2 * o) j m).1 c k = σ.1 c k := fun c k e => by
    rw [vcopy_get, if_neg (fun q => e q.1)]
  refine ⟨fun c k hk => ?_, fun s' hs' => ?_, fun s' k hs' hk => ?_, fun t ht => ?_⟩
  · rw [ne c k (fun e => by
      subst e
      simp only [vps, Bool.or_eq_true, Bool.and_eq_true, Nat.ble_eq, vbq] at hk
      omega)]
    exact c1 c k hk
  · rw [ne _ _ (by omega)]; exact c2 s' hs'
  · rw [vcopy_get]
    show _ = if s' = o ∧ j ≤ k ∧ k < j + m then a.2.1 s (i + (k - j)) else a.2.1 s' k
    by_cases e : s' = o ∧ j ≤ k ∧ k < j + m
    · rw [if_pos ⟨by omega, e.2⟩, if_pos e]
      exact c3 s _ hs (by omega)
    · rw [if_neg (fun q => e ⟨by omega, q.2⟩), if_neg e]; exact c3 s' k hs' hk
  · obtain ⟨r1, r2⟩ := c4 t ht
    have ht' : t < a.1 0 4 := ht
    exact ⟨r1.ag (fun k => ne _ _ (by omega)) (fun k => ne _ _ (by omega)), by rw [ne _ _ (by omega)]; exact r2⟩
theorem vWF.cpy {a : vα} {s i o j m : Nat} (hW : vWF a) : vWF (vcpA a s i o j m) := hW
theorem vag_copy {S : Nat → Nat → Bool} {σ σ' : vM} {a sp b dp n : Nat} (h : vag S σ σ') (hb : ∀ k, S b k = true) : vag S σ (vcopy σ' a sp b dp n) := by
  refine ⟨fun c k hk => ?_, h.2⟩
  rw [vcopy_get, if_neg (fun q => by rw [q.1, hb k] at hk; cases hk)]
  exact h.1 c k hk
section CP
variable {G : vG} {d : Nat} {σ : vM} {post : vQ} {a : vα}
theorem vb_has {s sz : Nat} {i0 n0 : Int32} (hs : s < 4) (h1 : σ.1 (50 + 2 * s) 1 = nI sz) (hz : sz ≤ 40) (hy : ∀ i n, vhas sz i0 n0 = some (i, n) → post (some (.int 1)) σ) (hn : vhas sz i0 n0 = none → post (some (.int 0)) σ) : VM G d iX3_has 0 [some (.ref (50 + 2 * s)), some (.int i0), some (.int n0)] [] σ post := by
  have k1 : i0 < 0 → post (some (.int 0)) σ := fun q => hn (vhas_no hz (fun i n e _ r => nI_pos (show i < 2 ^ 31 by omega) (by rw [← e]; exact q)))
  have k2 : n0 < 0 → post (some (.int 0)) σ := fun q => hn (vhas_no hz (fun i n _ e r => nI_pos (show n < 2 ^ 31 by omega) (by rw [← e]; exact q)))
  have k3 : σ.1 (50 + 2 * s) 1 < i0 → post (some (.int 0)) σ := fun q => hn (vhas_no hz (fun i n e _ r => by
    rw [h1, e, nIlt (by omega) (by omega)] at q
    omega))
  have k4 : ¬ i0 < 0 → ¬ n0 < 0 → ¬ σ.1 (50 + 2 * s) 1 < i0 → σ.1 (50 + 2 * s) 1 - i0 < n0 → post (some (.int 0)) σ := fun q1 q2 q3 q4 => by
    obtain ⟨i, hi, rfl⟩ := nI_of q1
    obtain ⟨n, hnn, rfl⟩ := nI_of q2
    rw [h1, nIlt (by omega) (by omega)] at q3
    rw [h1, pk_sub (by omega), nIlt (by omega) (by omega)] at q4
    refine hn (vhas_no hz (fun i' n' e e' r => ?_))
    rw [nI_eq (by omega) (by omega)] at e e'
    omega
  have k5 : ¬ i0 < 0 → ¬ n0 < 0 → ¬ σ.1 (50 + 2 * s) 1 < i0 → ¬ σ.1 (50 + 2 * s) 1 - i0 < n0 → post (some (.int 1)) σ := fun q1 q2 q3 q4 => by
    obtain ⟨i, hi, rfl⟩ := nI_of q1
    obtain ⟨n, hnn, rfl⟩ := nI_of q2
    rw [h1, nIlt (by omega) (by omega)] at q3
    rw [h1, pk_sub (by omega), nIlt (by omega) (by omega)] at q4
    exact hy i n (vhas_nI hz (by omega))
  rcases (show s = 0 ∨ s = 1 ∨ s = 2 ∨ s = 3 by omega) with rfl | rfl | rfl | rfl
  all_goals exact VM.go [] ⟨fun q => ⟨Or.inl rfl, k1 q⟩, fun q => ⟨fun q2 => ⟨Or.inl rfl, k2 q2⟩, fun q2 => ⟨fun q3 => ⟨Or.inl rfl, k3 q3⟩, fun q3 => ⟨fun q4 => ⟨Or.inl rfl, k4 q q2 q3 q4⟩, fun q4 => ⟨Or.inr rfl, k5 q q2 q3 q4⟩⟩⟩⟩⟩
theorem vc_copy {s0 i0 o0 j0 n0 : Int32} (hC : vRC a σ) (hW : vWF a) (h : ∀ σ', vag vKl σ σ' → vRC (sCopy a s0 i0 o0 j0 n0).2 σ' → post (some (.int (sCopy a s0 i0 o0 j0 n0).1)) σ') : VM G (d + 1) iX6_copy 0 [some (.ref 0), some (.int s0), some (.int i0), some (.int o0), some (.int j0), some (.int n0), none, none] [] σ post := by
  have hT := hW.2.1.2
  have bad : ∀ v, sCopy a s0 i0 o0 j0 n0 = (v, a) → post (some (.int v)) σ := fun v e => by
    have := h σ vag.rf (by rw [e]; exact hC)
    rw [e] at this
    exact this
  refine VM.go [17] ⟨_, VM.at (vb_isSheet (fun s hs e1 => ?_) (fun hno => ?_)), fun _ _ hh => hh⟩
  · refine ⟨fun c => absurd c (by decide), fun _ => ⟨_, VM.at (vb_isSheet (fun o ho e2 => ?_) (fun hno => ?_)), fun _ _ hh => hh⟩⟩
    · refine ⟨fun _ => ?_, fun c => absurd c (by decide)⟩
      subst e1; subst e2
      have es : sCopy a (nI s) i0 (nI o) j0 n0 = if a.1 (50 + 2 * s) 0 = 0 ∨ a.1 (50 + 2 * o) 0 = 0 then ((-11 : Int32), a) else if ¬ a.1 (50 + 2 * s) 0 = a.1 (50 + 2 * o) 0 then (-13, a) else match vhas (a.1 (50 + 2 * s) 1) i0 n0, vhas (a.1 (50 + 2 * o) 1) j0 n0 with
        | some (i, m), some (j, _) => (nI m, vcpA a s i o j m)
        | _, _ => (-12, a) := by
        unfold sCopy; rw [vix_nI hs (by decide), vix_nI ho (by decide)]; rfl
      have s1 := hC.2.1 s hs
      have s2 := hC.2.1 o ho
      have z1 := hC.sz hs
      have z2 := hC.sz ho
      obtain ⟨r1, r2, r3⟩ := hW.2.2.2.2.2.2.2.1 s hs
      obtain ⟨t1, t2, t3⟩ := hW.2.2.2.2.2.2.2.1 o ho
      have f1 : σ.1 (50 + 2 * s) 0 = -1 ↔ a.1 (50 + 2 * s) 0 = 0 := by rw [s1, nI_m1e (by omega)]
      have f2 : σ.1 (50 + 2 * o) 0 = -1 ↔ a.1 (50 + 2 * o) 0 = 0 := by rw [s2, nI_m1e (by omega)]
      have f3 : ¬ a.1 (50 + 2 * s) 0 = 0 → ¬ a.1 (50 + 2 * o) 0 = 0 → (σ.1 (50 + 2 * s) 0 = σ.1 (50 + 2 * o) 0 ↔ a.1 (50 + 2 * s) 0 = a.1 (50 + 2 * o) 0) := fun q q2 => by
        rw [s1, s2, show a.1 (50 + 2 * s) 0 = (a.1 (50 + 2 * s) 0 - 1) + 1 by omega, show a.1 (50 + 2 * o) 0 = (a.1 (50 + 2 * o) 0 - 1) + 1 by omega, nI_pred, nI_pred, nI_eq (by omega) (by omega)]
        omega
      have k1 : σ.1 (50 + 2 * s) 0 = -1 → post (some (.int (-11))) σ := fun q => by
        rw [if_pos (Or.inl (f1.mp q))] at es
        exact bad _ es
      have k2 : σ.1 (50 + 2 * o) 0 = -1 → post (some (.int (-11))) σ := fun q => by
        rw [if_pos (Or.inr (f2.mp q))] at es
        exact bad _ es
      have k3 : ¬ σ.1 (50 + 2 * s) 0 = -1 → ¬ σ.1 (50 + 2 * o) 0 = -1 → ¬ σ.1 (50 + 2 * s) 0 = σ.1 (50 + 2 * o) 0 → post (some (.int (-13))) σ := fun q q2 q3 => by
        rw [f1] at q
        rw [f2] at q2
        rw [f3 q q2] at q3
        rw [if_neg (fun z => z.elim q q2), if_pos q3] at es
        exact bad _ es
      have k4 : ¬ σ.1 (50 + 2 * s) 0 = -1 → ¬ σ.1 (50 + 2 * o) 0 = -1 → σ.1 (50 + 2 * s) 0 = σ.1 (50 + 2 * o) 0 → (vhas (a.1 (50 + 2 * s) 1) i0 n0 = none ∨ vhas (a.1 (50 + 2 * o) 1) j0 n0 = none) → post (some (.int (-12))) σ := fun q q2 q3 q4 => by
        rw [f1] at q
        rw [f2] at q2
        rw [f3 q q2] at q3
        rw [if_neg (fun z => z.elim q q2), if_neg (fun z => z q3)] at es
        refine bad _ (es.trans ?_)
        rcases q4 with q4 | q4
        · rw [q4]
        · rw [q4]
          cases vhas (a.1 (50 + 2 * s) 1) i0 n0 <;> rfl
      have k5 : ¬ σ.1 (50 + 2 * s) 0 = -1 → ¬ σ.1 (50 + 2 * o) 0 = -1 → σ.1 (50 + 2 * s) 0 = σ.1 (50 + 2 * o) 0 → ∀ i m j m', vhas (a.1 (50 + 2 * s) 1) i0 n0 = some (i, m) → vhas (a.1 (50 + 2 * o) 1) j0 n0 = some (j, m') → ∃ sp dp mm : Nat, i0 = nI sp ∧ j0 = nI dp ∧ n0 = nI mm ∧ sp + mm ≤ 40 ∧ dp + mm ≤ 40 ∧ post (some (.int n0)) (vcopy σ (51 + 2 * s) sp (51 + 2 * o) dp mm) := fun q q2 q3 i m j m' q4 q5 => by
        rw [f1] at q
        rw [f2] at q2
        rw [f3 q q2] at q3
        rw [if_neg (fun z => z.elim q q2), if_neg (fun z => z q3), q4, q5] at es
        dsimp only at es
        obtain ⟨g1, g2, g3⟩ := vhas_some r2 q4
        obtain ⟨u1, u2, u3⟩ := vhas_some t2 q5
        have em : m' = m := (nI_eq (by omega) (by omega)).mp (u2.symm.trans g2)
        subst em
        rw [es] at h
        refine ⟨i, j, m', g1, u1, g2, by omega, by omega, ?_⟩
        have := h _ (vag_copy vag.rf (fun k => vKl_row ho)) (hC.cpy hs ho g3 hT)
        rw [← g2] at this
        exact this
      rcases (show s = 0 ∨ s = 1 ∨ s = 2 ∨ s = 3 by omega) with rfl | rfl | rfl | rfl
      · rcases (show o = 0 ∨ o = 1 ∨ o = 2 ∨ o = 3 by omega) with rfl | rfl | rfl | rfl
        · exact VM.go [] ⟨0, rfl, by decide, 0, rfl, by decide, fun q => k1 q, fun q => ⟨fun q2 => ⟨fun q3 => ⟨_, VM.at (vb_has hs z1 r2 (fun i m q4 => ⟨fun c => absurd c (by decide), fun _ => ⟨_, VM.at (vb_has ho z2 t2 (fun j m' q5 => ⟨fun _ => k5 q q2 q3 i m j m' q4 q5, fun c => absurd c (by decide)⟩) (fun q5 => ⟨fun c => absurd rfl c, fun _ => k4 q q2 q3 (Or.inr q5)⟩)), fun _ _ hh => hh⟩⟩) (fun q4 => ⟨fun _ => k4 q q2 q3 (Or.inl q4), fun c => absurd rfl c⟩)), fun _ _ hh => hh⟩, fun q3 => k3 q q2 q3⟩, fun q2 => k2 q2⟩⟩
        · exact VM.go [] ⟨0, rfl, by decide, 1, rfl, by decide, fun q => k1 q, fun q => ⟨fun q2 => ⟨fun q3 => ⟨_, VM.at (vb_has hs z1 r2 (fun i m q4 => ⟨fun c => absurd c (by decide), fun _ => ⟨_, VM.at (vb_has ho z2 t2 (fun j m' q5 => ⟨fun _ => k5 q q2 q3 i m j m' q4 q5, fun c => absurd c (by decide)⟩) (fun q5 => ⟨fun c => absurd rfl c, fun _ => k4 q q2 q3 (Or.inr q5)⟩)), fun _ _ hh => hh⟩⟩) (fun q4 => ⟨fun _ => k4 q q2 q3 (Or.inl q4), fun c => absurd rfl c⟩)), fun _ _ hh => hh⟩, fun q3 => k3 q q2 q3⟩, fun q2 => k2 q2⟩⟩
        · exact VM.go [] ⟨0, rfl, by decide, 2, rfl, by decide, fun q => k1 q, fun q => ⟨fun q2 => ⟨fun q3 => ⟨_, VM.at (vb_has hs z1 r2 (fun i m q4 => ⟨fun c => absurd c (by decide), fun _ => ⟨_, VM.at (vb_has ho z2 t2 (fun j m' q5 => ⟨fun _ => k5 q q2 q3 i m j m' q4 q5, fun c => absurd c (by decide)⟩) (fun q5 => ⟨fun c => absurd rfl c, fun _ => k4 q q2 q3 (Or.inr q5)⟩)), fun _ _ hh => hh⟩⟩) (fun q4 => ⟨fun _ => k4 q q2 q3 (Or.inl q4), fun c => absurd rfl c⟩)), fun _ _ hh => hh⟩, fun q3 => k3 q q2 q3⟩, fun q2 => k2 q2⟩⟩
        · exact VM.go [] ⟨0, rfl, by decide, 3, rfl, by decide, fun q => k1 q, fun q => ⟨fun q2 => ⟨fun q3 => ⟨_, VM.at (vb_has hs z1 r2 (fun i m q4 => ⟨fun c => absurd c (by decide), fun _ => ⟨_, VM.at (vb_has ho z2 t2 (fun j m' q5 => ⟨fun _ => k5 q q2 q3 i m j m' q4 q5, fun c => absurd c (by decide)⟩) (fun q5 => ⟨fun c => absurd rfl c, fun _ => k4 q q2 q3 (Or.inr q5)⟩)), fun _ _ hh => hh⟩⟩) (fun q4 => ⟨fun _ => k4 q q2 q3 (Or.inl q4), fun c => absurd rfl c⟩)), fun _ _ hh => hh⟩, fun q3 => k3 q q2 q3⟩, fun q2 => k2 q2⟩⟩
      · rcases (show o = 0 ∨ o = 1 ∨ o = 2 ∨ o = 3 by omega) with rfl | rfl | rfl | rfl
        · exact VM.go [] ⟨1, rfl, by decide, 0, rfl, by decide, fun q => k1 q, fun q => ⟨fun q2 => ⟨fun q3 => ⟨_, VM.at (vb_has hs z1 r2 (fun i m q4 => ⟨fun c => absurd c (by decide), fun _ => ⟨_, VM.at (vb_has ho z2 t2 (fun j m' q5 => ⟨fun _ => k5 q q2 q3 i m j m' q4 q5, fun c => absurd c (by decide)⟩) (fun q5 => ⟨fun c => absurd rfl c, fun _ => k4 q q2 q3 (Or.inr q5)⟩)), fun _ _ hh => hh⟩⟩) (fun q4 => ⟨fun _ => k4 q q2 q3 (Or.inl q4), fun c => absurd rfl c⟩)), fun _ _ hh => hh⟩, fun q3 => k3 q q2 q3⟩, fun q2 => k2 q2⟩⟩
        · exact VM.go [] ⟨1, rfl, by decide, 1, rfl, by decide, fun q => k1 q, fun q => ⟨fun q2 => ⟨fun q3 => ⟨_, VM.at (vb_has hs z1 r2 (fun i m q4 => ⟨fun c => absurd c (by decide), fun _ => ⟨_, VM.at (vb_has ho z2 t2 (fun j m' q5 => ⟨fun _ => k5 q q2 q3 i m j m' q4 q5, fun c => absurd c (by decide)⟩) (fun q5 => ⟨fun c => absurd rfl c, fun _ => k4 q q2 q3 (Or.inr q5)⟩)), fun _ _ hh => hh⟩⟩) (fun q4 => ⟨fun _ => k4 q q2 q3 (Or.inl q4), fun c => absurd rfl c⟩)), fun _ _ hh => hh⟩, fun q3 => k3 q q2 q3⟩, fun q2 => k2 q2⟩⟩
        · exact VM.go [] ⟨1, rfl, by decide, 2, rfl, by decide, fun q => k1 q, fun q => ⟨fun q2 => ⟨fun q3 => ⟨_, VM.at (vb_has hs z1 r2 (fun i m q4 => ⟨fun c => absurd c (by decide), fun _ => ⟨_, VM.at (vb_has ho z2 t2 (fun j m' q5 => ⟨fun _ => k5 q q2 q3 i m j m' q4 q5, fun c => absurd c (by decide)⟩) (fun q5 => ⟨fun c => absurd rfl c, fun _ => k4 q q2 q3 (Or.inr q5)⟩)), fun _ _ hh => hh⟩⟩) (fun q4 => ⟨fun _ => k4 q q2 q3 (Or.inl q4), fun c => absurd rfl c⟩)), fun _ _ hh => hh⟩, fun q3 => k3 q q2 q3⟩, fun q2 => k2 q2⟩⟩
        · exact VM.go [] ⟨1, rfl, by decide, 3, rfl, by decide, fun q => k1 q, fun q => ⟨fun q2 => ⟨fun q3 => ⟨_, VM.at (vb_has hs z1 r2 (fun i m q4 => ⟨fun c => absurd c (by decide), fun _ => ⟨_, VM.at (vb_has ho z2 t2 (fun j m' q5 => ⟨fun _ => k5 q q2 q3 i m j m' q4 q5, fun c => absurd c (by decide)⟩) (fun q5 => ⟨fun c => absurd rfl c, fun _ => k4 q q2 q3 (Or.inr q5)⟩)), fun _ _ hh => hh⟩⟩) (fun q4 => ⟨fun _ => k4 q q2 q3 (Or.inl q4), fun c => absurd rfl c⟩)), fun _ _ hh => hh⟩, fun q3 => k3 q q2 q3⟩, fun q2 => k2 q2⟩⟩
      · rcases (show o = 0 ∨ o = 1 ∨ o = 2 ∨ o = 3 by omega) with rfl | rfl | rfl | rfl
        · exact VM.go [] ⟨2, rfl, by decide, 0, rfl, by decide, fun q => k1 q, fun q => ⟨fun q2 => ⟨fun q3 => ⟨_, VM.at (vb_has hs z1 r2 (fun i m q4 => ⟨fun c => absurd c (by decide), fun _ => ⟨_, VM.at (vb_has ho z2 t2 (fun j m' q5 => ⟨fun _ => k5 q q2 q3 i m j m' q4 q5, fun c => absurd c (by decide)⟩) (fun q5 => ⟨fun c => absurd rfl c, fun _ => k4 q q2 q3 (Or.inr q5)⟩)), fun _ _ hh => hh⟩⟩) (fun q4 => ⟨fun _ => k4 q q2 q3 (Or.inl q4), fun c => absurd rfl c⟩)), fun _ _ hh => hh⟩, fun q3 => k3 q q2 q3⟩, fun q2 => k2 q2⟩⟩
        · exact VM.go [] ⟨2, rfl, by decide, 1, rfl, by decide, fun q => k1 q, fun q => ⟨fun q2 => ⟨fun q3 => ⟨_, VM.at (vb_has hs z1 r2 (fun i m q4 => ⟨fun c => absurd c (by decide), fun _ => ⟨_, VM.at (vb_has ho z2 t2 (fun j m' q5 => ⟨fun _ => k5 q q2 q3 i m j m' q4 q5, fun c => absurd c (by decide)⟩) (fun q5 => ⟨fun c => absurd rfl c, fun _ => k4 q q2 q3 (Or.inr q5)⟩)), fun _ _ hh => hh⟩⟩) (fun q4 => ⟨fun _ => k4 q q2 q3 (Or.inl q4), fun c => absurd rfl c⟩)), fun _ _ hh => hh⟩, fun q3 => k3 q q2 q3⟩, fun q2 => k2 q2⟩⟩
        · exact VM.go [] ⟨2, rfl, by decide, 2, rfl, by decide, fun q => k1 q, fun q => ⟨fun q2 => ⟨fun q3 => ⟨_, VM.at (vb_has hs z1 r2 (fun i m q4 => ⟨fun c => absurd c (by decide), fun _ => ⟨_, VM.at (vb_has ho z2 t2 (fun j m' q5 => ⟨fun _ => k5 q q2 q3 i m j m' q4 q5, fun c => absurd c (by decide)⟩) (fun q5 => ⟨fun c => absurd rfl c, fun _ => k4 q q2 q3 (Or.inr q5)⟩)), fun _ _ hh => hh⟩⟩) (fun q4 => ⟨fun _ => k4 q q2 q3 (Or.inl q4), fun c => absurd rfl c⟩)), fun _ _ hh => hh⟩, fun q3 => k3 q q2 q3⟩, fun q2 => k2 q2⟩⟩
        · exact VM.go [] ⟨2, rfl, by decide, 3, rfl, by decide, fun q => k1 q, fun q => ⟨fun q2 => ⟨fun q3 => ⟨_, VM.at (vb_has hs z1 r2 (fun i m q4 => ⟨fun c => absurd c (by decide), fun _ => ⟨_, VM.at (vb_has ho z2 t2 (fun j m' q5 => ⟨fun _ => k5 q q2 q3 i m j m' q4 q5, fun c => absurd c (by decide)⟩) (fun q5 => ⟨fun c => absurd rfl c, fun _ => k4 q q2 q3 (Or.inr q5)⟩)), fun _ _ hh => hh⟩⟩) (fun q4 => ⟨fun _ => k4 q q2 q3 (Or.inl q4), fun c => absurd rfl c⟩)), fun _ _ hh => hh⟩, fun q3 => k3 q q2 q3⟩, fun q2 => k2 q2⟩⟩
      · rcases (show o = 0 ∨ o = 1 ∨ o = 2 ∨ o = 3 by omega) with rfl | rfl | rfl | rfl
        · exact VM.go [] ⟨3, rfl, by decide, 0, rfl, by decide, fun q => k1 q, fun q => ⟨fun q2 => ⟨fun q3 => ⟨_, VM.at (vb_has hs z1 r2 (fun i m q4 => ⟨fun c => absurd c (by decide), fun _ => ⟨_, VM.at (vb_has ho z2 t2 (fun j m' q5 => ⟨fun _ => k5 q q2 q3 i m j m' q4 q5, fun c => absurd c (by decide)⟩) (fun q5 => ⟨fun c => absurd rfl c, fun _ => k4 q q2 q3 (Or.inr q5)⟩)), fun _ _ hh => hh⟩⟩) (fun q4 => ⟨fun _ => k4 q q2 q3 (Or.inl q4), fun c => absurd rfl c⟩)), fun _ _ hh => hh⟩, fun q3 => k3 q q2 q3⟩, fun q2 => k2 q2⟩⟩
        · exact VM.go [] ⟨3, rfl, by decide, 1, rfl, by decide, fun q => k1 q, fun q => ⟨fun q2 => ⟨fun q3 => ⟨_, VM.at (vb_has hs z1 r2 (fun i m q4 => ⟨fun c => absurd c (by decide), fun _ => ⟨_, VM.at (vb_has ho z2 t2 (fun j m' q5 => ⟨fun _ => k5 q q2 q3 i m j m' q4 q5, fun c => absurd c (by decide)⟩) (fun q5 => ⟨fun c => absurd rfl c, fun _ => k4 q q2 q3 (Or.inr q5)⟩)), fun _ _ hh => hh⟩⟩) (fun q4 => ⟨fun _ => k4 q q2 q3 (Or.inl q4), fun c => absurd rfl c⟩)), fun _ _ hh => hh⟩, fun q3 => k3 q q2 q3⟩, fun q2 => k2 q2⟩⟩
        · exact VM.go [] ⟨3, rfl, by decide, 2, rfl, by decide, fun q => k1 q, fun q => ⟨fun q2 => ⟨fun q3 => ⟨_, VM.at (vb_has hs z1 r2 (fun i m q4 => ⟨fun c => absurd c (by decide), fun _ => ⟨_, VM.at (vb_has ho z2 t2 (fun j m' q5 => ⟨fun _ => k5 q q2 q3 i m j m' q4 q5, fun c => absurd c (by decide)⟩) (fun q5 => ⟨fun c => absurd rfl c, fun _ => k4 q q2 q3 (Or.inr q5)⟩)), fun _ _ hh => hh⟩⟩) (fun q4 => ⟨fun _ => k4 q q2 q3 (Or.inl q4), fun c => absurd rfl c⟩)), fun _ _ hh => hh⟩, fun q3 => k3 q q2 q3⟩, fun q2 => k2 q2⟩⟩
        · exact VM.go [] ⟨3, rfl, by decide, 3, rfl, by decide, fun q => k1 q, fun q => ⟨fun q2 => ⟨fun q3 => ⟨_, VM.at (vb_has hs z1 r2 (fun i m q4 => ⟨fun c => absurd c (by decide), fun _ => ⟨_, VM.at (vb_has ho z2 t2 (fun j m' q5 => ⟨fun _ => k5 q q2 q3 i m j m' q4 q5, fun c => absurd c (by decide)⟩) (fun q5 => ⟨fun c => absurd rfl c, fun _ => k4 q q2 q3 (Or.inr q5)⟩)), fun _ _ hh => hh⟩⟩) (fun q4 => ⟨fun _ => k4 q q2 q3 (Or.inl q4), fun c => absurd rfl c⟩)), fun _ _ hh => hh⟩, fun q3 => k3 q q2 q3⟩, fun q2 => k2 q2⟩⟩
    · refine ⟨fun c => absurd rfl c, fun _ => bad (-2) ?_⟩
      unfold sCopy
      rw [vix_no (x := o0) (by decide) hno]
      cases vix s0 4 <;> rfl
  · refine ⟨fun _ => bad (-2) ?_, fun c => absurd rfl c⟩
    unfold sCopy
    rw [vix_no (x := s0) (by decide) hno]
end CP
