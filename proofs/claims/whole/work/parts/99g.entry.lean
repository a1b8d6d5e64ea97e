/-! ===== THE LAW'S ENTRY: the constants ===== -/
def vgA (k0 k1 v0 v1 t4 t5 t6 b : Nat) (i : Nat) : Nat := bif Nat.beq i 1000 then k0 else bif Nat.beq i 1001 then k1 else bif Nat.beq i 1002 then v0 else bif Nat.beq i 1003 then v1 else bif Nat.beq i 1004 then t4 else bif Nat.beq i 1005 then t5 else bif Nat.beq i 1006 then t6 else bif Nat.beq i 1007 then b else 0
theorem vg_mem {w : Cond} {ls : List Cond} (h : ls.all (fun w => vgF.contains w) = true) (hw : w ∈ ls) : w ∈ vgF := by
  have := List.all_eq_true.mp h w hw
  simpa using this
theorem vk_S_cg {N : Nat} {len : List Nat} {byt : List (List Int32)} {aK aV bK bV : Nat → Nat} {A : Nat → Prop} {U : State} {H : Heap} (eK : ∀ i, i < N → aK i = bK i) (eV : ∀ i, i < N → aV i = bV i) (h : vk_S N len byt bK bV A U H) : vk_S N len byt aK aV A U H := by
  refine ⟨fun i hi => ?_, fun i j hi hj e => h.2 i j hi hj (by rw [← eK i hi, ← eK j hj]; exact e)⟩
  rw [eK i hi, eV i hi]
  exact h.1 i hi
set_option maxHeartbeats 4000000 in
theorem vg_cn {s : State} {b L : Nat} {xs : Nat → Int32} (hL : L ≤ 3072) (hts : ∀ w ∈ lw_tbl, w.before #[Value.ref b] s = true) (hX : va_X b L xs s s.heap) (hbl : b < s.heap.size) (hgv : (Jvm.Cond.and given_1 narrow_1).before #[Value.ref b] s = true) : ∃ (adc : Nat → Nat) (ef : Value), adc 1007 = b ∧ vCn (false, L, xs) adc ef (fun q => s.heap.size ≤ q) s s.heap := by
  have hq := flat_of_before _ hgv
  have hA : ∀ a : Nat, a < s.heap.size → ¬ (fun q => s.heap.size ≤ q) a := fun a h => Nat.not_le.mpr h
  obtain ⟨adK, adV, hS, hK⟩ := vk_Sof (N := 2) (tm := fun i => match i with | 0 => vgT1 | _ => vgT2) (len := [32, 68]) (byt := [vFirst, vWords]) (args := #[Value.ref b]) (s := s) (A := fun q => s.heap.size ≤ q)
    (fun i hi => match i, hi with
      | 0, _ => by decide
      | 1, _ => by decide)
    (fun i hi => match i, hi with
      | 0, _ => hq _ (vg_mem vg_wu (by simp))
      | 1, _ => hq _ (vg_mem vg_wu (by simp)))
    (fun i hi => match i, hi with
      | 0, _ => hq _ (vg_mem vg_wu (by simp))
      | 1, _ => hq _ (vg_mem vg_wu (by simp)))
    (fun i hi => match i, hi with
      | 0, _ => hq _ (vg_mem vg_wu (by simp))
      | 1, _ => hq _ (vg_mem vg_wu (by simp)))
    (fun i hi => match i, hi with
      | 0, _ => hq _ (vg_mem vg_wu (by simp))
      | 1, _ => hq _ (vg_mem vg_wu (by simp)))
    (fun i hi => match i, hi with
      | 0, _ => fun j hj => hq _ (vg_e1 j hj)
      | 1, _ => fun j hj => hq _ (vg_e2 j hj))
    (fun i j hi hj hij => match i, j, hi, hj, hij with
      | 0, 1, _, _, _ => Or.inl (hq _ (vg_mem vg_wu (by simp)))
      | 1, 0, _, _, _ => Or.inr (hq _ (vg_mem vg_wu (by simp)))
      | 0, 0, _, _, h => absurd rfl h
      | 1, 1, _, _, h => absurd rfl h) hA
  have hini : (Cond.initialized "LightYearsAreOwed").before #[Value.ref b] s = true := hts _ (vg_tb (k := 1) (by decide +kernel))
  obtain ⟨t4, e4, T4⟩ := va_Tof (args := #[Value.ref b]) (s := s) (tm := vgS "UNDER") (ty := .int) (N := 6) (f := fun j => .int (vUnder.getD j 0)) (A := fun q => s.heap.size ≤ q) (by decide) (hq _ (vg_mem vg_wu (by simp))) (va_eqt (hq _ (vg_mem vg_wu (by simp)))) (fun j hj => va_eqt (hq _ (vg_u j hj))) hA
  obtain ⟨t5, e5, T5⟩ := va_Tof (args := #[Value.ref b]) (s := s) (tm := vgS "LEAST") (ty := .int) (N := 6) (f := fun j => .int (vLeast.getD j 0)) (A := fun q => s.heap.size ≤ q) (by decide) (hq _ (vg_mem vg_wu (by simp))) (va_eqt (hq _ (vg_mem vg_wu (by simp)))) (fun j hj => va_eqt (hq _ (vg_l j hj))) hA
  obtain ⟨t6, e6, T6⟩ := va_Tof (args := #[Value.ref b]) (s := s) (tm := vgS "MOST") (ty := .int) (N := 6) (f := fun j => .int (vMost.getD j 0)) (A := fun q => s.heap.size ≤ q) (by decide) (hq _ (vg_mem vg_wu (by simp))) (va_eqt (hq _ (vg_mem vg_wu (by simp)))) (fun j hj => va_eqt (hq _ (vg_m j hj))) hA
  have Z4 := va_Zref (hts (.laysStatic "LightYearsAreOwed" "UNDER" "[I") (vg_tb (k := 710) (by decide +kernel))) hini e4 hA
  have Z5 := va_Zref (hts (.laysStatic "LightYearsAreOwed" "LEAST" "[I") (vg_tb (k := 400) (by decide +kernel))) hini e5 hA
  have Z6 := va_Zref (hts (.laysStatic "LightYearsAreOwed" "MOST" "[I") (vg_tb (k := 398) (by decide +kernel))) hini e6 hA
  have ZC := va_Zof (hts (.laysStatic "java/lang/String" "COMPACT_STRINGS" "Z") (vg_tb (k := 224) (by decide +kernel))) (hts (.initialized "java/lang/String") (vg_tb (k := 8) (by decide +kernel))) (va_eqi (z := 1) (hq _ (vg_mem vg_wu (by simp)))) hA
  have ZF := va_Zqof (hts (.laysStatic "jdk/internal/util/Preconditions" "SIOOBE_FORMATTER" "Ljava/util/function/BiFunction;") (vg_tb (k := 240) (by decide +kernel))) (hts (.initialized "jdk/internal/util/Preconditions") (vg_tb (k := 10) (by decide +kernel))) (hq _ (vg_mem vg_wu (by simp))) hA
  obtain ⟨ef, zf, he⟩ : ∃ ef, va_Z "jdk/internal/util/Preconditions" "SIOOBE_FORMATTER" "Ljava/util/function/BiFunction;" ef (fun q => s.heap.size ≤ q) s s.heap ∧ (ef = .null ∨ ∃ t, ef = .ref t) := by
    rcases ZF with h | ⟨t, h⟩
    · exact ⟨_, h, Or.inl rfl⟩
    · exact ⟨_, h, Or.inr ⟨t, rfl⟩⟩
  have R1 : vk_R RX6 60 "dues years ; offs 0 ; extras 3 ;" (adK 0) s := vk_R.of (hts (.stringRef "LightYearsAreOwed" 60 "dues years ; offs 0 ; extras 3 ;") (vg_tb (k := 214) (by decide +kernel))) (hK 0 (by decide))
  have R2 : vk_R RX2 106 "years nights number night cloudy lights dues offs extras or and not " (adK 1) s := vk_R.of (hts (.stringRef "LightYearsAreOwed$Reader" 106 "years nights number night cloudy lights dues offs extras or and not ") (vg_tb (k := 290) (by decide +kernel))) (hK 1 (by decide))
  have TX : va_T .int b L (fun j => .int (xs j)) (fun q => s.heap.size ≤ q) s s.heap := by
    obtain ⟨scr, x1, x2, x3, x4, x5⟩ := hX
    exact ⟨scr, x1, x2, x3, by omega, by rw [x4], x5, Nat.not_le.mpr hbl⟩
  obtain ⟨adc, had⟩ : ∃ adc, adc = vgA (adK 0) (adK 1) (adV 0) (adV 1) t4 t5 t6 b := ⟨_, rfl⟩
  have c0 : adc 1000 = adK 0 := by rw [had]; rfl
  have c1 : adc 1001 = adK 1 := by rw [had]; rfl
  have c2 : adc 1002 = adV 0 := by rw [had]; rfl
  have c3 : adc 1003 = adV 1 := by rw [had]; rfl
  have c4 : adc 1004 = t4 := by rw [had]; rfl
  have c5 : adc 1005 = t5 := by rw [had]; rfl
  have c6 : adc 1006 = t6 := by rw [had]; rfl
  have c7 : adc 1007 = b := by rw [had]; rfl
  refine ⟨adc, ef, c7, vk_S_cg (fun i hi => ?_) (fun i hi => ?_) hS, by rw [c0]; exact R1, by rw [c1]; exact R2, by rw [c4]; exact Z4, by rw [c5]; exact Z5, by rw [c6]; exact Z6, ZC, zf, he, fun r t n f hr => ?_⟩
  · match i, hi with
    | 0, _ => exact c0
    | 1, _ => exact c1
  · match i, hi with
    | 0, _ => exact c2
    | 1, _ => exact c3
  · unfold vcon at hr
    split at hr
    · cases hr; rw [c2]; exact ⟨by decide, (hS.1 0 (by decide)).2.2.2⟩
    · cases hr; rw [c3]; exact ⟨by decide, (hS.1 1 (by decide)).2.2.2⟩
    · cases hr; rw [c4]; exact ⟨by decide, T4⟩
    · cases hr; rw [c5]; exact ⟨by decide, T5⟩
    · cases hr; rw [c6]; exact ⟨by decide, T6⟩
    · cases hr; rw [c7]; exact ⟨by show L < 2 ^ 31; omega, TX⟩
    · cases hr
