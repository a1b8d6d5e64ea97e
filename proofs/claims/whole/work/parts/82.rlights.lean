/-! ===== THE REFERENCE: lights ===== -/
theorem vlt_le {p k sz : Nat} (hp : p < 2 ^ 31) (hk : k ≤ 6) (hz : sz ≤ 40) : nI p ≤ nI sz - nI 3 * nI k - nI 3 ↔ p + 3 * k + 3 ≤ sz := by
  rw [pk_mul, Int32.le_iff_toInt_le, nI_toInt hp]
  have e : nI sz - nI (3 * k) - nI 3 = nI sz - nI (3 * k + 3) := by
    rw [← nI_add, Int32.sub_eq_add_neg, Int32.sub_eq_add_neg, Int32.sub_eq_add_neg, Int32.neg_add, Int32.sub_eq_add_neg, Int32.add_assoc]
  rw [e, sub_I (by omega) (by omega)]
  omega
section RLI
variable {Gx : Nat × (Nat → Int32)} {d D : Nat} {σ : vM} {post : vQ} {a : vα}
theorem vr_lightsL {s so sz n : Nat} {it : Nat → Int32} {at0 : Int32} (hs : s < 4) (hn : n ≤ 6) (hz : sz ≤ 40) : ∀ m i came b s2 (y7 : Option Value), i + m = n → came ≤ i → vRM b s2 → vWF b → b.2.1 s = it → b.1 (50 + 2 * s) 1 = sz → ¬ b.1 (50 + 2 * s) 0 = 0 → vagI vRf σ s2 → (∀ R : vR2, (m = 0 → R = (nI came, b)) → ((∀ p, at0 = nI p → ¬ p + 3 * i + 3 ≤ sz) → 0 < m → R = (-12, b)) → (∀ p, at0 = nI p → p ≤ 40 → R = vltL it sz m (p + 3 * i) came b) → ∀ σ', vagI vRf σ σ' → vRM R.2 σ' → post (some (.int R.1)) σ') → VM (true, Gx) (d + 3) iX7_lights 75 [some (.ref 58), some (.int (nI s)), some (.int (nI so)), some (.int at0), some (.int (nI n)), some (.int (nI came)), some (.int (nI i)), y7] [] s2 post := by
  intro m
  induction m with
  | zero =>
    intro i came b s2 y7 him hc hR2 hW2 hit hsz hth hs2 h
    have := h (nI came, b) (fun _ => rfl) (fun _ q => absurd q (Nat.lt_irrefl _)) (fun p _ _ => rfl) s2 hs2 hR2
    exact VM.go [75] ⟨fun _ => this, fun q => absurd (nI_le (show n ≤ i by omega) (by omega)) q⟩
  | succ m ih =>
    intro i came b s2 y7 him hc hR2 hW2 hit hsz hth hs2 h
    obtain ⟨q1, q2⟩ := hR2.2.2.2.2.2 s hs
    obtain ⟨r1, r2, r3⟩ := q2 hth
    rw [hsz] at r2 r3
    have b12 : (∀ p, at0 = nI p → ¬ p + 3 * i + 3 ≤ sz) → post (some (.int (-12))) s2 := fun z => h (-12, b) (fun e => absurd e (by omega)) (fun _ _ => rfl) (fun p e _ => by
      have := z p e
      unfold vltL
      rw [if_neg (by omega)]) s2 hs2 hR2
    refine VM.go [106] ⟨fun q => absurd q (nI_ge (show i < n by omega) (by omega)), fun _ => ⟨fun q => b12 (fun p e r => nI_pos (show p < 2 ^ 31 by omega) (by rw [← e]; exact q)), fun q => ⟨s, rfl, hs, fun c => ?_, fun c => b12 (fun p e r => ?_)⟩⟩⟩
    · obtain ⟨p, hp, e⟩ := nI_of q
      subst e
      have c' : nI p ≤ s2.1 81 s - nI 3 * nI i - nI 3 := c
      rw [r2, vlt_le hp (by omega) hz] at c'
      obtain ⟨P, hP⟩ : ∃ P, P = p + 3 * i := ⟨_, rfl⟩
      have ix : (40 : Int32) * nI s + nI p + (3 : Int32) * nI i = nI (40 * s + P) := by
        rw [show (40 : Int32) = nI 40 from rfl, show (3 : Int32) = nI 3 from rfl, pk_mul, pk_mul, nI_add, nI_add, hP, Nat.add_assoc]
      have g0 : s2.1 82 (40 * s + P) = it P := by rw [← hit]; exact r3 P (by omega)
      have g1 : s2.1 82 (40 * s + P + 1) = it (P + 1) := by rw [← hit, Nat.add_assoc]; exact r3 (P + 1) (by omega)
      have g2 : s2.1 82 (40 * s + P + 2) = it (P + 2) := by rw [← hit, Nat.add_assoc]; exact r3 (P + 2) (by omega)
      show VM (true, Gx) (d + 3) iX7_lights 106 _ _ _ _
      refine VM.go [119] ?_
      show VM (true, Gx) (d + 3) iX7_lights 119 _ _ _ _
      rw [ix]
      refine VM.go [147] ⟨40 * s + P, rfl, by omega, 40 * s + P + 1, by rw [show (1 : Int32) = nI 1 from rfl, nI_add], by omega, 40 * s + P + 2, by rw [show (2 : Int32) = nI 2 from rfl, nI_add], by omega, ?_⟩
      show VM (true, Gx) (d + 3) iX7_lights 147 _ _ _ _
      rw [g0, g1, g2]
      obtain ⟨L, hL⟩ : ∃ L, L = sLight b (it P) (it (P + 1)) (it (P + 2)) := ⟨_, rfl⟩
      have hk := sLight_keep b (it P) (it (P + 1)) (it (P + 2))
      have hw := hW2.sLight (it P) (it (P + 1)) (it (P + 2))
      rw [← hL] at hk hw
      refine VM.go [75] ⟨_, VM.at (vr_light hR2 hW2 (fun s3 hs3 hR3 => ?_)), fun _ _ hh => hh⟩
      rw [← hL] at hR3 ⊢
      have go : ∀ cc, cc ≤ i + 1 → (cc = if 0 ≤ L.1 then came + 1 else came) → ∀ y7 : Option Value, VM (true, Gx) (d + 3) iX7_lights 75 [some (.ref 58), some (.int (nI s)), some (.int (nI so)), some (.int (nI p)), some (.int (nI n)), some (.int (nI cc)), some (.int (nI (i + 1))), y7] [] s3 post := fun cc hc' ec y7 => by
        refine ih (i + 1) cc L.2 s3 y7 (by omega) hc' hR3 hw (by rw [hk.1]; exact hit) (by rw [hk.2 _ _ (by omega)]; exact hsz) (by rw [hk.2 _ _ (by omega)]; exact hth) (hs2.tr hs3) (fun R z0 z1 z2 σ' hs' hR' => ?_)
        refine h R (fun e => absurd e (by omega)) (fun z _ => absurd c' (z p rfl)) (fun p' e hp' => ?_) σ' hs' hR'
        have ep : p' = p := ((nI_eq (by omega) (by omega)).mp e).symm
        subst ep
        have := z2 p' rfl hp'
        rw [this]
        conv => rhs; unfold vltL
        rw [if_pos (by omega), ← hP, ← hL, ← ec, show p' + 3 * (i + 1) = P + 3 by omega]
      refine ⟨fun c1 => ?_, fun c1 => ?_⟩
      · have c1' : L.1 < 0 := c1
        have := go came (by omega) (by rw [if_neg (Int32.not_le.mpr c1')]) (some (.int (nI (40 * s + P))))
        rw [← nI_1 i, show nI came = nI came + 0 from (Int32.add_zero _).symm] at this
        exact this
      · have c1' : ¬ L.1 < 0 := c1
        have := go (came + 1) (by omega) (by rw [if_pos (Int32.not_lt.mp c1')]) (some (.int (nI (40 * s + P))))
        rw [← nI_1 came, ← nI_1 i] at this
        exact this
    · have c' : ¬ at0 ≤ s2.1 81 s - nI 3 * nI i - nI 3 := c
      rw [r2, e] at c'
      have hp : p < 2 ^ 31 := by omega
      rw [vlt_le hp (by omega) hz] at c'
      exact c' r
theorem vr_lights {s0 o0 at0 n0 : Int32} (hR : vRM a σ) (hW : vWF a) (h : ∀ σ', vagI vRf σ σ' → vRM (sLights a s0 o0 at0 n0).2 σ' → post (some (.int (sLights a s0 o0 at0 n0).1)) σ') : VM (true, Gx) (d + 3) iX7_lights 0 [some (.ref 58), some (.int s0), some (.int o0), some (.int at0), some (.int n0), none, none, none] [] σ post := by
  have bad : ∀ v, sLights a s0 o0 at0 n0 = (v, a) → post (some (.int v)) σ := fun v e => by
    have := h σ vagI.rf (by rw [e]; exact hR)
    rw [e] at this
    exact this
  refine VM.go [35] ⟨_, VM.at (vm_isSheet (d := d + 1) (fun s es hs e1 => ?_) (fun es => ?_)), fun _ _ hh => hh⟩
  · refine ⟨fun c => absurd c (by decide), fun _ => ⟨_, VM.at (vm_in0 (m := 2) (by decide) (by decide) (fun so eso hso e2 => ?_) (fun eso => ?_)), fun _ _ hh => hh⟩⟩
    · refine ⟨fun c => absurd c (by decide), fun _ => ⟨_, VM.at (vm_in0 (m := 6) (by decide) (by decide) (fun n en hn e3 => ?_) (fun en => ?_)), fun _ _ hh => hh⟩⟩
      · subst e1; subst e2; subst e3
        refine ⟨fun _ => ?_, fun c => absurd c (by decide)⟩
        have er : sLights a (nI s) (nI so) at0 (nI n) = if ¬ a.1 (50 + 2 * s) 0 = 0 ∧ ¬ a.1 (50 + 2 * s) 0 = so + 1 then (-13, a) else if a.1 (50 + 2 * s) 0 = 0 then (-11, a) else if n = 0 then (0, a) else match vix at0 41 with
            | none => (-12, a)
            | some p => vltL (a.2.1 s) (a.1 (50 + 2 * s) 1) n p 0 a := by
          unfold sLights
          rw [es, show vix (nI so) 3 = some so from eso, show vix (nI n) 7 = some n from en]
          dsimp only
          cases vix at0 41 <;> rfl
        obtain ⟨q1, q2⟩ := hR.2.2.2.2.2 s hs
        obtain ⟨z1, z2, -⟩ := hW.2.2.2.2.2.2.2.1 s hs
        by_cases th : a.1 (50 + 2 * s) 0 = 0
        · rw [if_pos th] at q1
          rw [if_neg (fun q => q.1 th), if_pos th] at er
          exact VM.at (VM.go [] ⟨s, rfl, hs, fun _ => ⟨s, rfl, hs, fun q => absurd q1 q, fun _ => bad _ er⟩, fun q => absurd q1 q⟩)
        · rw [if_neg th] at q1
          obtain ⟨r1, r2, r3⟩ := q2 th
          have nz : ¬ σ.1 79 s = 0 := fun q => absurd (q1.symm.trans q) (by decide)
          have esr : σ.1 80 s = nI so ↔ a.1 (50 + 2 * s) 0 = so + 1 := by
            rw [r1, show a.1 (50 + 2 * s) 0 = (a.1 (50 + 2 * s) 0 - 1) + 1 by omega, nI_pred, nI_eq (by omega) (by omega)]
            omega
          refine VM.at (VM.go [75] ⟨s, rfl, hs, fun q => absurd q nz, fun _ => ⟨s, rfl, hs, fun c => ⟨s, rfl, hs, fun _ => ?_, fun q => absurd q nz⟩, fun c => bad _ ?_⟩⟩)
          · rw [if_neg (fun q => q.2 (esr.mp c)), if_neg th] at er
            refine vr_lightsL (σ := σ) hs hn z2 n 0 0 a σ none (by omega) (Nat.le_refl _) hR hW rfl rfl th vagI.rf (fun R y1 y2 y3 σ' hs' hR' => ?_)
            have eR : sLights a (nI s) (nI so) at0 (nI n) = R := by
              rw [er]
              by_cases n0 : n = 0
              · rw [if_pos n0, y1 n0]; rfl
              · rw [if_neg n0]
                cases hv : vix at0 41 with
                | none => exact (y2 (fun p e r => vix_none (by decide) hv p (by omega) e) (by omega)).symm
                | some p =>
                  obtain ⟨hp, e⟩ := vix_some (by decide) hv
                  exact (y3 p e (by omega)).symm
            rw [← eR] at hR' ⊢
            exact h σ' hs' hR'
          · rw [er, if_pos ⟨th, fun q => c (esr.mpr q)⟩]
      · refine ⟨fun c => absurd rfl c, fun _ => bad (-2) ?_⟩
        unfold sLights
        rw [en]
        cases vix s0 4 <;> cases vix o0 3 <;> rfl
    · refine ⟨fun _ => bad (-2) ?_, fun c => absurd rfl c⟩
      unfold sLights
      rw [eso]
      cases vix s0 4 <;> rfl
  · refine ⟨fun _ => bad (-2) ?_, fun c => absurd rfl c⟩
    unfold sLights
    rw [es]
end RLI
