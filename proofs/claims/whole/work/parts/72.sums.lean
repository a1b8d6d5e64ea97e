section SM
variable {Gx : Nat × (Nat → Int32)} {d D : Nat} {σ : vM} {post : vQ} {a : vα}
/-- the row of sums is laid up to place j -/
def vFw (a : vα) (j : Nat) (σ : vM) : Prop := ∀ i, i < j → σ.1 70 i = nI (vfw a (i / 1000) (i % 1000))
theorem vr_sums (hR : vRM a σ) (hW : vWF a) (h : ∀ σ', vagI vMo σ σ' → vFw a 4000 σ' → post none σ') : VM (true, Gx) d iX7_sums 0 [some (.ref 58), none, none, none, none, none, none] [] σ post := by
  have inner : ∀ k x s2 (y5 y6 : Option Value), k < 4 → x < 1000 → vagI vMo σ s2 → vFw a (1000 * k + x) s2 → (∀ s3 (y3 y4 y5 y6 : Option Value), vagI vMo σ s3 → vFw a (1000 * k + (x + 1)) s3 → VM (true, Gx) d iX7_sums 9 [some (.ref 58), some (.int (nI k)), some (.int (nI (x + 1))), y3, y4, y5, y6] [] s3 post) → ∀ g : Nat → Nat, (∀ c, c ≤ vmp a k x → g c = if k = 0 then (if x - c * a.1 8 0 = 0 then c else 1000000) else vfw a (k - 1) (x - c * a.1 8 k) + c) → vfw a k x = vmnB g (vmp a k x + 1) → VM (true, Gx) d iX7_sums 23 [some (.ref 58), some (.int (nI k)), some (.int (nI x)), some (.int (nI 1000000)), some (.int (nI 0)), y5, y6] [] s2 post := by
    intro k x s2 y5 y6 hk hx hs2 hF hn g hg ef
    obtain ⟨w1, w2, w3⟩ := hW.br hk
    have hR2 := hR.ag hs2
    have e8 : s2.1 68 k = nI (a.1 8 k) := (hR2.2.2.1 k).2.2.2.2.2.1
    have e9 : s2.1 69 k = nI (a.1 9 k) := (hR2.2.2.1 k).2.2.2.2.2.2.1
    have key : ∀ c, c ≤ vmp a k x + 1 → ∀ (y5 y6 : Option Value), VM (true, Gx) d iX7_sums 23 [some (.ref 58), some (.int (nI k)), some (.int (nI x)), some (.int (nI (vmnB g c))), some (.int (nI c)), y5, y6] [] s2 post := by
      refine vloop _ ?_ ?_
      · intro y5 y6
        have fin : VM (true, Gx) d iX7_sums 119 [some (.ref 58), some (.int (nI k)), some (.int (nI x)), some (.int (nI (vmnB g (vmp a k x + 1)))), some (.int (nI (vmp a k x + 1))), y5, y6] [] s2 post := by
          have ix : (1000 : Int32) * nI k + nI x = nI (1000 * k + x) := by rw [show (1000 : Int32) = nI 1000 from rfl, pk_mul, nI_add]
          have := hn (vput s2 70 (1000 * k + x) (nI (vfw a k x))) (some (.int (nI (vfw a k x)))) (some (.int (nI (vmp a k x + 1)))) y5 y6 (hs2.put rfl) (fun i hi => by
            rw [vput_get]
            by_cases e : i = 1000 * k + x
            · rw [if_pos ⟨rfl, e⟩, e, show (1000 * k + x) / 1000 = k by omega, show (1000 * k + x) % 1000 = x by omega]
            · rw [if_neg (fun q => e q.2)]; exact hF i (by omega))
          rw [← nI_1, ef] at this
          exact VM.go [9] ⟨nofun, 1000 * k + x, ix, by omega, this⟩
        refine VM.go [119] ⟨k, rfl, hk, fun q => fin, fun q => ⟨k, rfl, hk, fun q2 => fin, fun q2 => ?_⟩⟩
        exfalso
        have hm20 := vmp_le hW (k := k) (x := x) hk
        have m1 : (vmp a k x + 1) * a.1 8 k ≤ 21 * 99 := Nat.mul_le_mul (by omega) w2
        rw [e9, nIlt (by omega) (by omega)] at q
        rw [e8, pk_mul, nIlt (by omega) (by omega)] at q2
        have := (vmp_iff (a := a) (k := k) (x := x) (c := vmp a k x + 1) w1).mpr ⟨by omega, by omega⟩
        omega
      · intro i hi ih y5 y6
        have hi2 := (vmp_iff (a := a) (k := k) (x := x) (c := i) w1).mp (by omega)
        have hgi := hg i (by omega)
        have b1 := vmnB_N g i
        have b3 : g i < 2 ^ 31 := by
          rw [hgi]
          split
          · split <;> omega
          · have : vfw a (k - 1) (x - i * a.1 8 k) ≤ 1000000 := by
              cases k - 1 with
              | zero => exact vmnB_N _ _
              | succ j => exact vmnB_N _ _
            omega
        have step : ∀ z : Int32, z = nI (g i) → ∀ (r5 : Int32) (y6 : Option Value), VM (true, Gx) d iX7_sums 98 [some (.ref 58), some (.int (nI k)), some (.int (nI x)), some (.int (nI (vmnB g i))), some (.int (nI i)), some (.int r5), y6] [.int z] s2 post := by
          rintro z rfl r5 y6
          have hm : vmnB g (i + 1) = min (vmnB g i) (g i) := rfl
          have := ih (some (.int r5)) (some (.int (nI (g i))))
          rw [hm] at this
          refine VM.go [23] ⟨fun q => ?_, fun q => ?_⟩
          · rw [nIle (by omega) (by omega)] at q
            rw [Nat.min_eq_left (by omega), ← nI_1] at this
            exact this
          · rw [nIle (by omega) (by omega)] at q
            rw [Nat.min_eq_right (by omega), ← nI_1] at this
            exact this
        refine VM.go [119, 60] ⟨k, rfl, hk, fun q => ?_, fun q => ⟨k, rfl, hk, fun q2 => ?_, fun q2 => ⟨k, rfl, hk, ?_⟩⟩⟩
        · rw [e9, nIlt (by omega) (by omega)] at q
          omega
        · rw [e8, pk_mul, nIlt (by omega) (by omega)] at q2
          omega
        · show VM (true, Gx) d iX7_sums 60 _ _ _ _
          rw [e8, pk_mul, pk_sub hi2.2]
          obtain ⟨R, hR'⟩ : ∃ R, R = x - i * a.1 8 k := ⟨_, rfl⟩
          rw [← hR'] at hgi ⊢
          by_cases k0 : k = 0
          · subst k0
            rw [if_pos rfl] at hgi
            rw [← hR'] at hgi
            by_cases r0 : R = 0
            · rw [if_pos r0] at hgi
              subst r0
              exact VM.go [98] ⟨fun _ => ⟨fun q => absurd rfl q, fun _ => step _ (by rw [hgi]) _ _⟩, fun q => absurd (by decide) q⟩
            · rw [if_neg r0] at hgi
              exact VM.go [98] ⟨fun _ => ⟨fun _ => step _ (by rw [hgi]; rfl) _ _, fun q => absurd ((nI_eq (b := 0) (by omega) (by decide)).mp q) r0⟩, fun q => absurd (by decide) q⟩
          · rw [if_neg k0] at hgi
            have ix : (1000 : Int32) * (nI k - 1) + nI R = nI (1000 * (k - 1) + R) := by
              rw [show (1 : Int32) = nI 1 from rfl, pk_sub (a := k) (b := 1) (by omega), show (1000 : Int32) = nI 1000 from rfl, pk_mul, nI_add]
            have ev := hF (1000 * (k - 1) + R) (by omega)
            rw [show (1000 * (k - 1) + R) / 1000 = k - 1 by omega, show (1000 * (k - 1) + R) % 1000 = R by omega] at ev
            exact VM.go [98] ⟨fun q => absurd (show nI k ≤ nI 0 from q) (by rw [nIle (by omega) (by decide)]; omega), fun _ => ⟨1000 * (k - 1) + R, ix, by omega, step _ (by rw [ev, nI_add, hgi]) _ _⟩⟩
    exact key 0 (Nat.zero_le _) y5 y6
  have mid : ∀ k, k < 4 → (∀ s3 (y2 y3 y4 y5 y6 : Option Value), vagI vMo σ s3 → vFw a (1000 * (k + 1)) s3 → VM (true, Gx) d iX7_sums 2 [some (.ref 58), some (.int (nI (k + 1))), y2, y3, y4, y5, y6] [] s3 post) → ∀ x, x ≤ 1000 → ∀ s2 (y3 y4 y5 y6 : Option Value), vagI vMo σ s2 → vFw a (1000 * k + x) s2 → VM (true, Gx) d iX7_sums 9 [some (.ref 58), some (.int (nI k)), some (.int (nI x)), y3, y4, y5, y6] [] s2 post := by
    intro k hk hn
    refine vloop _ ?_ ?_
    · intro s2 y3 y4 y5 y6 hs2 hF
      have := hn s2 (some (.int (nI 1000))) y3 y4 y5 y6 hs2 (by rw [Nat.mul_add]; exact hF)
      rw [← nI_1] at this
      exact VM.go [2] ⟨fun _ => this, fun q => absurd (by decide) q⟩
    · intro x hx ih s2 y3 y4 y5 y6 hs2 hF
      refine VM.go [9, 23] ⟨fun q => absurd q (nI_ge hx (by decide)), fun _ => ?_⟩
      cases k with
      | zero => exact inner 0 x s2 y5 y6 hk hx hs2 hF ih (fun c => if x - c * a.1 8 0 = 0 then c else 1000000) (fun c hc => by rw [if_pos rfl]) rfl
      | succ k => exact inner (k + 1) x s2 y5 y6 hk hx hs2 hF ih (fun c => vfw a k (x - c * a.1 8 (k + 1)) + c) (fun c hc => by rw [if_neg (by omega)]; rfl) rfl
  have outer : ∀ k, k ≤ 4 → ∀ s2 (y2 y3 y4 y5 y6 : Option Value), vagI vMo σ s2 → vFw a (1000 * k) s2 → VM (true, Gx) d iX7_sums 2 [some (.ref 58), some (.int (nI k)), y2, y3, y4, y5, y6] [] s2 post := by
    refine vloop _ ?_ ?_
    · intro s2 y2 y3 y4 y5 y6 hs2 hF
      exact VM.go [] ⟨fun _ => h s2 hs2 hF, fun q => absurd (by decide) q⟩
    · intro k hk ih s2 y2 y3 y4 y5 y6 hs2 hF
      refine VM.go [2, 9] ⟨fun q => absurd q (nI_ge hk (by decide)), fun _ => ?_⟩
      exact mid k hk ih 0 (Nat.zero_le _) s2 y3 y4 y5 y6 hs2 hF
  exact VM.go [2] (outer 0 (Nat.zero_le _) σ _ _ _ _ _ vagI.rf (fun i hi => absurd hi (by omega)))
end SM
