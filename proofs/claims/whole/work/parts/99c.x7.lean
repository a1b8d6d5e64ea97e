/-! ===== THE REFERENCE IS MADE: its cells in the order of the virtual machine ===== -/
def vad7 (ad : Nat → Nat) (h0 : Nat) (u : Nat → Nat) (i : Nat) : Nat := bif Nat.ble i 57 then ad i else bif Nat.ble i 82 then [h0, u 0, u 1, u 2, u 3, u 4, u 5, u 6, u 7, u 8, u 9, u 10, u 11, u 12, u 13, u 14, u 15, u 16, u 17, u 18, u 19, u 20, u 21, u 22, u 23].getD (i - 58) 0 else ad i
def vm7 (σ : vM) : vM := (fun c k => bif Nat.ble c 57 then σ.1 c k else bif Nat.beq c 58 && Nat.beq k 43 then -1 else 0, fun _ _ => 0)
theorem vad7_lo {ad u : Nat → Nat} {h0 i : Nat} (h : i < 58) : vad7 ad h0 u i = ad i := by
  unfold vad7; rw [Nat.ble_eq_true_of_le (by omega)]; rfl
theorem vad7_hi {ad u : Nat → Nat} {h0 i : Nat} (h : 83 ≤ i) : vad7 ad h0 u i = ad i := by
  have f : ∀ n, n < i → Nat.ble i n = false := fun n hn => by
    cases hb : Nat.ble i n with
    | false => rfl
    | true => exact absurd (Nat.le_of_ble_eq_true hb) (by omega)
  unfold vad7
  rw [f 57 (by omega), f 82 (by omega)]
  rfl
theorem ves6 : ∀ k, [20, 23, 26, 29, 32, 35].getD k 0 < 58 := by
  intro k
  match k with
  | 0 => decide
  | 1 => decide
  | 2 => decide
  | 3 => decide
  | 4 => decide
  | 5 => decide
  | k + 6 => exact (by decide : (0 : Nat) < 58)
theorem ves4 : ∀ k, [50, 52, 54, 56].getD k 0 < 58 := by
  intro k
  match k with
  | 0 => decide
  | 1 => decide
  | 2 => decide
  | 3 => decide
  | k + 4 => exact (by decide : (0 : Nat) < 58)
set_option maxRecDepth 100000 in
set_option maxHeartbeats 4000000 in
theorem vcell_7 {ad u : Nat → Nat} {h0 : Nat} {cA : Nat → ClassId} {σ : vM} (h1 : σ.1 38 2 = 20) (h2 : σ.1 40 1 = 20) : ∀ i, i < 58 → vcell (vad7 ad h0 u) cA (vm7 σ) i = vcell ad cA σ i := by
  intro i hi
  rcases (show i = 0 ∨ i = 1 ∨ i = 2 ∨ i = 3 ∨ i = 4 ∨ i = 5 ∨ i = 6 ∨ i = 7 ∨ i = 8 ∨ i = 9 ∨ i = 10 ∨ i = 11 ∨ i = 12 ∨ i = 13 ∨ i = 14 ∨ i = 15 ∨ i = 16 ∨ i = 17 ∨ i = 18 ∨ i = 19 ∨ i = 20 ∨ i = 21 ∨ i = 22 ∨ i = 23 ∨ i = 24 ∨ i = 25 ∨ i = 26 ∨ i = 27 ∨ i = 28 ∨ i = 29 ∨ i = 30 ∨ i = 31 ∨ i = 32 ∨ i = 33 ∨ i = 34 ∨ i = 35 ∨ i = 36 ∨ i = 37 ∨ i = 38 ∨ i = 39 ∨ i = 40 ∨ i = 41 ∨ i = 42 ∨ i = 43 ∨ i = 44 ∨ i = 45 ∨ i = 46 ∨ i = 47 ∨ i = 48 ∨ i = 49 ∨ i = 50 ∨ i = 51 ∨ i = 52 ∨ i = 53 ∨ i = 54 ∨ i = 55 ∨ i = 56 ∨ i = 57 by omega) with rfl | rfl | rfl | rfl | rfl | rfl | rfl | rfl | rfl | rfl | rfl | rfl | rfl | rfl | rfl | rfl | rfl | rfl | rfl | rfl | rfl | rfl | rfl | rfl | rfl | rfl | rfl | rfl | rfl | rfl | rfl | rfl | rfl | rfl | rfl | rfl | rfl | rfl | rfl | rfl | rfl | rfl | rfl | rfl | rfl | rfl | rfl | rfl | rfl | rfl | rfl | rfl | rfl | rfl | rfl | rfl | rfl | rfl
  · rfl
  · rfl
  · rfl
  · rfl
  · rfl
  · rfl
  · rfl
  · rfl
  · rfl
  · rfl
  · rfl
  · rfl
  · rfl
  · rfl
  · rfl
  · rfl
  · rfl
  · rfl
  · rfl
  · show (Sum.inl (cA 19, 6, .inr (.inr (.inr (.inr (fun k => some (vad7 ad h0 u ([20, 23, 26, 29, 32, 35].getD k 0))))))) : va_E) = .inl (cA 19, 6, .inr (.inr (.inr (.inr (fun k => some (ad ([20, 23, 26, 29, 32, 35].getD k 0)))))))
    rw [show (fun k => some (vad7 ad h0 u ([20, 23, 26, 29, 32, 35].getD k 0))) = fun k => some (ad ([20, 23, 26, 29, 32, 35].getD k 0)) from funext fun k => by rw [vad7_lo (ves6 k)]]
  · rfl
  · rfl
  · rfl
  · rfl
  · rfl
  · rfl
  · rfl
  · rfl
  · rfl
  · rfl
  · rfl
  · rfl
  · rfl
  · rfl
  · rfl
  · rfl
  · rfl
  · rfl
  · have e : vad7 ad h0 u ((vm7 σ).1 38 2).toNatClampNeg = ad (σ.1 38 2).toNatClampNeg := by
      show vad7 ad h0 u (σ.1 38 2).toNatClampNeg = _
      rw [h1]; rfl
    show (Sum.inr (2, [.int (σ.1 38 0), .ref (ad 39), .ref (vad7 ad h0 u ((vm7 σ).1 38 2).toNatClampNeg), .int (σ.1 38 3), .int (σ.1 38 4), .int (σ.1 38 5), .int (σ.1 38 6), .int (σ.1 38 7)]) : va_E) = _
    rw [e]
    rfl
  · rfl
  · have e : vad7 ad h0 u ((vm7 σ).1 40 1).toNatClampNeg = ad (σ.1 40 1).toNatClampNeg := by
      show vad7 ad h0 u (σ.1 40 1).toNatClampNeg = _
      rw [h2]; rfl
    show (Sum.inr (0, [.int (σ.1 40 0), .ref (vad7 ad h0 u ((vm7 σ).1 40 1).toNatClampNeg), .ref (ad 41), .ref (ad 42), .ref (ad 43), .ref (ad 44), .int (σ.1 40 6), .ref (ad 45), .ref (ad 46)]) : va_E) = _
    rw [e]
    rfl
  · rfl
  · rfl
  · rfl
  · rfl
  · rfl
  · rfl
  · rfl
  · rfl
  · show (Sum.inl (cA 49, 4, .inr (.inr (.inr (.inr (fun k => some (vad7 ad h0 u ([50, 52, 54, 56].getD k 0))))))) : va_E) = .inl (cA 49, 4, .inr (.inr (.inr (.inr (fun k => some (ad ([50, 52, 54, 56].getD k 0)))))))
    rw [show (fun k => some (vad7 ad h0 u ([50, 52, 54, 56].getD k 0))) = fun k => some (ad ([50, 52, 54, 56].getD k 0)) from funext fun k => by rw [vad7_lo (ves4 k)]]
  · rfl
  · rfl
  · rfl
  · rfl
  · rfl
  · rfl
  · rfl
  · rfl
def vpr7 (i : Nat) : Nat := bif Nat.ble i 57 then i + 1 else bif Nat.beq i 58 then 0 else i
theorem vpr7_inj {i j : Nat} (h : vpr7 i = vpr7 j) : i = j := by
  have f : ∀ i, vpr7 i = if i ≤ 57 then i + 1 else if i = 58 then 0 else i := fun i => by
    unfold vpr7
    by_cases h : i ≤ 57
    · rw [Nat.ble_eq_true_of_le h, if_pos h]; rfl
    · rw [show Nat.ble i 57 = false from by cases hb : Nat.ble i 57 with | false => rfl | true => exact absurd (Nat.le_of_ble_eq_true hb) h, if_neg h]
      by_cases h2 : i = 58
      · rw [h2]; rfl
      · rw [show Nat.beq i 58 = false from by cases hb : Nat.beq i 58 with | false => rfl | true => exact absurd (Nat.eq_of_beq_eq_true hb) h2, if_neg h2]; rfl
  rw [f i, f j] at h
  repeat' split at h
  all_goals omega
set_option maxRecDepth 100000 in
set_option maxHeartbeats 4000000 in
theorem vw7_at {cI cZ cU cO : ClassId} {ad u : Nat → Nat} {h0 : Nat} {σ : vM} {Gx : Nat × (Nat → Int32)} (h1 : σ.1 38 2 = 20) (h2 : σ.1 40 1 = 20) : ∀ i, i < 83 → ((h0, .inr (7, vfs7 u)) :: (vwd (false, Gx) ad (vcA cI cZ cU cO) σ ++ var7 cI cZ u))[vpr7 i]? = some (vad7 ad h0 u i, vcell (vad7 ad h0 u) (vcA cI cZ cU cO) (vm7 σ) i) := by
  intro i hi
  have hlen : (vwd (false, Gx) ad (vcA cI cZ cU cO) σ).length = 58 := by simp [vwd, vsz]
  by_cases h57 : i < 58
  · rw [vcell_7 h1 h2 i h57, vad7_lo h57]
    have e : vpr7 i = i + 1 := by unfold vpr7; rw [Nat.ble_eq_true_of_le (by omega)]; rfl
    rw [e, List.getElem?_cons_succ, List.getElem?_append_left (by omega)]
    exact vwd_get (G := (false, Gx)) h57
  · by_cases h58 : i = 58
    · subst h58; rfl
    · have hi2 : i = 59 ∨ i = 60 ∨ i = 61 ∨ i = 62 ∨ i = 63 ∨ i = 64 ∨ i = 65 ∨ i = 66 ∨ i = 67 ∨ i = 68 ∨ i = 69 ∨ i = 70 ∨ i = 71 ∨ i = 72 ∨ i = 73 ∨ i = 74 ∨ i = 75 ∨ i = 76 ∨ i = 77 ∨ i = 78 ∨ i = 79 ∨ i = 80 ∨ i = 81 ∨ i = 82 := by omega
      have ap : ∀ j, ((h0, .inr (7, vfs7 u)) :: (vwd (false, Gx) ad (vcA cI cZ cU cO) σ ++ var7 cI cZ u))[j + 58 + 1]? = (var7 cI cZ u)[j]? := fun j => by
        rw [List.getElem?_cons_succ, List.getElem?_append_right (by omega), hlen, Nat.add_sub_cancel]
      rcases hi2 with rfl | rfl | rfl | rfl | rfl | rfl | rfl | rfl | rfl | rfl | rfl | rfl | rfl | rfl | rfl | rfl | rfl | rfl | rfl | rfl | rfl | rfl | rfl | rfl
      · exact (ap 0).trans rfl
      · exact (ap 1).trans rfl
      · exact (ap 2).trans rfl
      · exact (ap 3).trans rfl
      · exact (ap 4).trans rfl
      · exact (ap 5).trans rfl
      · exact (ap 6).trans rfl
      · exact (ap 7).trans rfl
      · exact (ap 8).trans rfl
      · exact (ap 9).trans rfl
      · exact (ap 10).trans rfl
      · exact (ap 11).trans rfl
      · exact (ap 12).trans rfl
      · exact (ap 13).trans rfl
      · exact (ap 14).trans rfl
      · exact (ap 15).trans rfl
      · exact (ap 16).trans rfl
      · exact (ap 17).trans rfl
      · exact (ap 18).trans rfl
      · exact (ap 19).trans rfl
      · exact (ap 20).trans rfl
      · exact (ap 21).trans rfl
      · exact (ap 22).trans rfl
      · exact (ap 23).trans rfl
