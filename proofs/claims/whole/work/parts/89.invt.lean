/-! ===== text() keeps the state in range ===== -/
theorem vtxt_o {a : vα} {b : List Nat} {c k : Nat} (h : ¬ (c = 38 ∧ k = 0) ∧ ¬ (c = 0 ∧ k = 4)) : (vtxt a b).1 c k = a.1 c k := by
  show (if c = 38 ∧ k = 0 then 0 else if c = 0 ∧ k = 4 then a.1 0 4 + 1 else a.1 c k) = a.1 c k
  rw [if_neg h.1, if_neg h.2]
theorem vWF.txt {a : vα} {b : List Nat} (hW : vWF a) (hT : ¬ a.1 0 4 = 6) (hl : b.length ≤ 160) (hb : ∀ x ∈ b, x < 256) (hf : vfault b = none) : vWF (vtxt a b) := by
  obtain ⟨⟨w11, w12, w13⟩, w2, w3, w4, w5, w6, ⟨w71, w72⟩, w8, w9, ⟨w10, w11'⟩⟩ := hW
  have e04 : (vtxt a b).1 0 4 = a.1 0 4 + 1 := rfl
  refine ⟨⟨?_, ?_, ?_⟩, ?_, fun k hk => ?_, fun k hk => ?_, fun k hk => ?_, fun k hk => ?_, ⟨?_, fun k hk => ?_⟩, fun s hs => ?_, fun t ht => ?_, ?_, fun hi => ?_⟩
  · rw [vtxt_o (by omega)]; exact w11
  · rw [vtxt_o (by omega), e04]; omega
  · rw [vtxt_o (by omega)]; exact w13
  · rw [e04]; omega
  · rw [vtxt_o (by omega), vtxt_o (by omega), vtxt_o (by omega)]; exact w3 k hk
  · rw [vtxt_o (by omega)]; exact w4 k hk
  · rw [vtxt_o (by omega), vtxt_o (by omega)]; exact w5 k hk
  · rw [vtxt_o (by omega), vtxt_o (by omega)]; exact w6 k hk
  · exact Nat.zero_le _
  · rw [vtxt_o (by omega)]; exact w72 k hk
  · rw [vtxt_o (by omega), vtxt_o (by omega)]; exact w8 s hs
  · rw [e04] at ht
    show vWf (vcomp (if t = a.1 0 4 then b else a.2.2 t)) ∧ vTok (vTof (vcomp (if t = a.1 0 4 then b else a.2.2 t))) (vnn (if t = a.1 0 4 then b else a.2.2 t)) ∧ (if t = a.1 0 4 then b else a.2.2 t).length ≤ 160 ∧ ∀ x ∈ (if t = a.1 0 4 then b else a.2.2 t), x < 256
    by_cases e : t = a.1 0 4
    · rw [if_pos e]; exact ⟨vacc_wf hl hf, vacc_tok b, hl, hb⟩
    · rw [if_neg e]; exact w9 t (by omega)
  · rw [vtxt_o (by omega)]; exact w10
  · rw [vtxt_o (by omega)] at hi
    obtain ⟨⟨x1, x2, x3⟩, x4, x5, x6, x7, x8⟩ := w11' hi
    refine ⟨⟨?_, ?_, ?_⟩, fun k hk => ?_, fun k hk => ?_, fun k hk => ?_, fun k hk => ?_, fun k hk => ?_⟩
    · rw [vtxt_o (by omega)]; exact x1
    · rw [vtxt_o (by omega), e04]; omega
    · rw [vtxt_o (by omega), vtxt_o (by omega)]; exact x3
    · rw [vtxt_o (by omega), vtxt_o (by omega), vtxt_o (by omega)]; exact x4 k hk
    · rw [vtxt_o (by omega)]; exact x5 k hk
    · rw [vtxt_o (by omega), vtxt_o (by omega)]; exact x6 k hk
    · rw [vtxt_o (by omega), vtxt_o (by omega)]; exact x7 k hk
    · rw [vtxt_o (by omega)] at hk
      rw [vtxt_o (by omega), vtxt_o (by omega)]; exact x8 k hk
theorem vInv.text {n : Nat} {a : vα} (h : vInv n a) : vInv (n + 1) (sText a).2 := by
  obtain ⟨w71, w72⟩ := h.1.2.2.2.2.2.2.1
  unfold sText
  by_cases e : a.1 0 4 = 6
  · rw [if_pos e]; exact h.up
  · rw [if_neg e]
    cases hf : vfault (vtape a) with
    | some f => exact h.put (h.1.put (by omega) (fun e => by omega) (fun e => by omega) (fun e => by omega) (fun e => by omega) (fun e => by omega) (fun e => by omega) (fun e => by omega) (fun e => by omega) (fun e => by omega) (fun e => by omega) (fun e => by omega)) (by omega)
    | none =>
      have hl := vtape_len a
      have u := h.up
      refine ⟨h.1.txt e (by omega) (fun x hx => ?_) hf, fun t ht => ?_, fun k hk => ?_, fun z k hk => ?_⟩
      · unfold vtape at hx
        obtain ⟨k, hk, rfl⟩ := List.mem_map.mp hx
        have := List.mem_range.mp hk
        exact w72 k (by omega)
      · have ht' : t < a.1 0 4 + 1 := ht
        show vfault (if t = a.1 0 4 then vtape a else a.2.2 t) = none
        by_cases q : t = a.1 0 4
        · rw [if_pos q]; exact hf
        · rw [if_neg q]; exact h.2.1 t (by omega)
      · rw [show (vtxt a (vtape a)).1 7 k = a.1 7 k from vtxt_o (by omega)]; exact u.2.2.1 k hk
      · have z' : a.1 0 2 = 1 := (vtxt_o (a := a) (b := vtape a) (by omega)).symm.trans z
        rw [show (vtxt a (vtape a)).1 16 k = a.1 16 k from vtxt_o (by omega)]; exact u.2.2.2 z' k hk
