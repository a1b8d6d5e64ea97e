/-! ===== THE CLASS IS MADE: its contract ===== -/
def vcT (cI cZ cU cO : ClassId) (t : Nat) : ClassId := match t with | 0 => cI | 1 => cZ | 2 => cU | _ => cO
def vcA (cI cZ cU cO : ClassId) (i : Nat) : ClassId := match vlayT i with
  | .inl q => vcT cI cZ cU cO q.1
  | .inr _ => cI
theorem vcA_t {cI cZ cU cO : ClassId} {G : vG} {D : va_G} {s : State} (h : va_K D vwCl (vtyC cI cZ cU cO) s) : vKt G D (vcA cI cZ cU cO) s := by
  refine ⟨⟨h.1, fun k q hk => by simp at hk⟩, fun i t n es hl => ?_⟩
  have e : vlayT i = .inl (t, n, es) := by
    unfold vlay at hl
    cases hb : vok G i with
    | true => rw [hb] at hl; exact Option.some.inj hl
    | false => rw [hb] at hl; cases hl
  have ec : vcA cI cZ cU cO i = vcT cI cZ cU cO t := by
    unfold vcA; rw [e]
  rw [ec]
  match t with
  | 0 => exact h.2 0 _ rfl
  | 1 => exact h.2 1 _ rfl
  | 2 => exact h.2 2 _ rfl
  | t + 3 => exact h.2 3 _ rfl
theorem arrV_cg {c : ClassId} {N : Nat} {f g : Nat → Value} (h : ∀ j, j < N → f j = g j) : arrV c N f = arrV c N g := by
  unfold arrV
  have : (fun j : Fin N => f j.val) = (fun j : Fin N => g j.val) := funext fun j => h j.val j.isLt
  rw [this]
def vpr6 : List Nat := [0, 1, 2, 3, 4, 5, 6, 7, 8, 9, 10, 11, 12, 13, 14, 15, 16, 17, 18, 19, 23, 24, 25, 26, 27, 28, 29, 30, 31, 32, 33, 34, 35, 36, 37, 38, 39, 40, 49, 50, 51, 52, 53, 54, 55, 56, 57, 20, 21, 22, 41, 42, 43, 44, 45, 46, 47, 48]
theorem vpr6_inj : ∀ i, i < 58 → ∀ j, j < 58 → vpr6.getD i 0 = vpr6.getD j 0 → i = j := by decide +kernel
def vad6 (h0 q1 q2 qr qp qo qd qb : Nat) (u1 u2 u3 r o ud ub : Nat → Nat) (v w : Nat → Nat → Nat) (adc : Nat → Nat) (i : Nat) : Nat := bif Nat.ble i 57 then [h0, q1, u1 0, u1 1, u1 2, u1 3, u1 4, u1 5, u1 6, u1 7, q2, u2 0, u2 1, u2 2, u2 3, u2 4, u2 5, u2 6, u2 7, qr, r 0, v 0 0, v 0 1, r 1, v 1 0, v 1 1, r 2, v 2 0, v 2 1, r 3, v 3 0, v 3 1, r 4, v 4 0, v 4 1, r 5, v 5 0, v 5 1, qd, ud 0, qb, ub 0, ub 1, ub 2, ub 3, ub 4, ub 5, qp, u3 0, qo, o 0, w 0 0, o 1, w 1 0, o 2, w 2 0, o 3, w 3 0].getD i 0 else adc i
set_option maxRecDepth 100000 in
set_option maxHeartbeats 4000000 in
theorem vw6_at {D : va_G} {cI cZ cU cO : ClassId} {h0 q1 q2 qr qp qo qd qb : Nat} {u1 u2 u3 r o ud ub : Nat → Nat} {v w : Nat → Nat → Nat} {adc : Nat → Nat} {z : Nat → Nat → Int64} : ∀ i, i < 58 → ∃ xe, (vw6F cI cU cO h0 q1 q2 qr qp qo qd qb u1 u2 u3 r o ud ub v w)[vpr6.getD i 0]? = some (vad6 h0 q1 q2 qr qp qo qd qb u1 u2 u3 r o ud ub v w adc i, xe) ∧ ∀ H, va_at D vwCl (vad6 h0 q1 q2 qr qp qo qd qb u1 u2 u3 r o ud ub v w adc i, xe) H → va_at D vwCl (vad6 h0 q1 q2 qr qp qo qd qb u1 u2 u3 r o ud ub v w adc i, vcell (vad6 h0 q1 q2 qr qp qo qd qb u1 u2 u3 r o ud ub v w adc) (vcA cI cZ cU cO) (vz6, z) i) H := by
  intro i hi
  rcases (show i = 0 ∨ i = 1 ∨ i = 2 ∨ i = 3 ∨ i = 4 ∨ i = 5 ∨ i = 6 ∨ i = 7 ∨ i = 8 ∨ i = 9 ∨ i = 10 ∨ i = 11 ∨ i = 12 ∨ i = 13 ∨ i = 14 ∨ i = 15 ∨ i = 16 ∨ i = 17 ∨ i = 18 ∨ i = 19 ∨ i = 20 ∨ i = 21 ∨ i = 22 ∨ i = 23 ∨ i = 24 ∨ i = 25 ∨ i = 26 ∨ i = 27 ∨ i = 28 ∨ i = 29 ∨ i = 30 ∨ i = 31 ∨ i = 32 ∨ i = 33 ∨ i = 34 ∨ i = 35 ∨ i = 36 ∨ i = 37 ∨ i = 38 ∨ i = 39 ∨ i = 40 ∨ i = 41 ∨ i = 42 ∨ i = 43 ∨ i = 44 ∨ i = 45 ∨ i = 46 ∨ i = 47 ∨ i = 48 ∨ i = 49 ∨ i = 50 ∨ i = 51 ∨ i = 52 ∨ i = 53 ∨ i = 54 ∨ i = 55 ∨ i = 56 ∨ i = 57 by omega) with rfl | rfl | rfl | rfl | rfl | rfl | rfl | rfl | rfl | rfl | rfl | rfl | rfl | rfl | rfl | rfl | rfl | rfl | rfl | rfl | rfl | rfl | rfl | rfl | rfl | rfl | rfl | rfl | rfl | rfl | rfl | rfl | rfl | rfl | rfl | rfl | rfl | rfl | rfl | rfl | rfl | rfl | rfl | rfl | rfl | rfl | rfl | rfl | rfl | rfl | rfl | rfl | rfl | rfl | rfl | rfl | rfl | rfl
  · exact ⟨_, rfl, fun H h => h⟩
  · exact ⟨_, rfl, fun H h => h⟩
  · exact ⟨_, rfl, fun H h => h⟩
  · exact ⟨_, rfl, fun H h => h⟩
  · exact ⟨_, rfl, fun H h => h⟩
  · exact ⟨_, rfl, fun H h => h⟩
  · exact ⟨_, rfl, fun H h => h⟩
  · exact ⟨_, rfl, fun H h => h⟩
  · refine ⟨_, rfl, fun H h => ?_⟩
    have h' : H[u1 6]? = some (arrV cI 4 (fun j => .int (vbf6 j))) := h
    show H[u1 6]? = some (arrV cI 4 (fun j => .int (vz6 8 j)))
    rw [h', arrV_cg (fun j hj => ?_)]
    rcases (show j = 0 ∨ j = 1 ∨ j = 2 ∨ j = 3 by omega) with rfl | rfl | rfl | rfl <;> rfl
  · exact ⟨_, rfl, fun H h => h⟩
  · exact ⟨_, rfl, fun H h => h⟩
  · exact ⟨_, rfl, fun H h => h⟩
  · exact ⟨_, rfl, fun H h => h⟩
  · exact ⟨_, rfl, fun H h => h⟩
  · exact ⟨_, rfl, fun H h => h⟩
  · exact ⟨_, rfl, fun H h => h⟩
  · exact ⟨_, rfl, fun H h => h⟩
  · exact ⟨_, rfl, fun H h => h⟩
  · exact ⟨_, rfl, fun H h => h⟩
  · refine ⟨_, rfl, fun H h => ?_⟩
    have h' : H[qr]? = some (arrV cU 6 (fun j => va_rf (vrf6 r j))) := h
    show H[qr]? = some (arrV cU 6 (fun j => va_rf (some (vad6 h0 q1 q2 qr qp qo qd qb u1 u2 u3 r o ud ub v w adc ([20, 23, 26, 29, 32, 35].getD j 0)))))
    rw [h', arrV_cg (fun j hj => ?_)]
    rcases (show j = 0 ∨ j = 1 ∨ j = 2 ∨ j = 3 ∨ j = 4 ∨ j = 5 by omega) with rfl | rfl | rfl | rfl | rfl | rfl <;> rfl
  · exact ⟨_, rfl, fun H h => h⟩
  · exact ⟨_, rfl, fun H h => h⟩
  · exact ⟨_, rfl, fun H h => h⟩
  · exact ⟨_, rfl, fun H h => h⟩
  · exact ⟨_, rfl, fun H h => h⟩
  · exact ⟨_, rfl, fun H h => h⟩
  · exact ⟨_, rfl, fun H h => h⟩
  · exact ⟨_, rfl, fun H h => h⟩
  · exact ⟨_, rfl, fun H h => h⟩
  · exact ⟨_, rfl, fun H h => h⟩
  · exact ⟨_, rfl, fun H h => h⟩
  · exact ⟨_, rfl, fun H h => h⟩
  · exact ⟨_, rfl, fun H h => h⟩
  · exact ⟨_, rfl, fun H h => h⟩
  · exact ⟨_, rfl, fun H h => h⟩
  · exact ⟨_, rfl, fun H h => h⟩
  · exact ⟨_, rfl, fun H h => h⟩
  · exact ⟨_, rfl, fun H h => h⟩
  · exact ⟨_, rfl, fun H h => h⟩
  · exact ⟨_, rfl, fun H h => h⟩
  · exact ⟨_, rfl, fun H h => h⟩
  · exact ⟨_, rfl, fun H h => h⟩
  · exact ⟨_, rfl, fun H h => h⟩
  · exact ⟨_, rfl, fun H h => h⟩
  · exact ⟨_, rfl, fun H h => h⟩
  · exact ⟨_, rfl, fun H h => h⟩
  · exact ⟨_, rfl, fun H h => h⟩
  · exact ⟨_, rfl, fun H h => h⟩
  · exact ⟨_, rfl, fun H h => h⟩
  · refine ⟨_, rfl, fun H h => ?_⟩
    have h' : H[qo]? = some (arrV cO 4 (fun j => va_rf (vof6 o j))) := h
    show H[qo]? = some (arrV cO 4 (fun j => va_rf (some (vad6 h0 q1 q2 qr qp qo qd qb u1 u2 u3 r o ud ub v w adc ([50, 52, 54, 56].getD j 0)))))
    rw [h', arrV_cg (fun j hj => ?_)]
    rcases (show j = 0 ∨ j = 1 ∨ j = 2 ∨ j = 3 by omega) with rfl | rfl | rfl | rfl <;> rfl
  · exact ⟨_, rfl, fun H h => h⟩
  · exact ⟨_, rfl, fun H h => h⟩
  · exact ⟨_, rfl, fun H h => h⟩
  · exact ⟨_, rfl, fun H h => h⟩
  · exact ⟨_, rfl, fun H h => h⟩
  · exact ⟨_, rfl, fun H h => h⟩
  · exact ⟨_, rfl, fun H h => h⟩
  · exact ⟨_, rfl, fun H h => h⟩
theorem vw6_P {D : va_G} {cI cZ cU cO : ClassId} {h0 q1 q2 qr qp qo qd qb : Nat} {u1 u2 u3 r o ud ub : Nat → Nat} {v w : Nat → Nat → Nat} {adc : Nat → Nat} {z : Nat → Nat → Int64} {Gx : Nat × (Nat → Int32)} {H : Heap} (h : va_P D vwCl (vw6F cI cU cO h0 q1 q2 qr qp qo qd qb u1 u2 u3 r o ud ub v w) H) : va_P D vwCl (vwd (false, Gx) (vad6 h0 q1 q2 qr qp qo qd qb u1 u2 u3 r o ud ub v w adc) (vcA cI cZ cU cO) (vz6, z)) H := by
  intro k q hk
  have hl : k < 58 := by
    rcases Nat.lt_or_ge k 58 with h | h
    · exact h
    · rw [List.getElem?_eq_none (by simp [vwd, vsz]; omega)] at hk; cases hk
  rw [vwd_get (G := (false, Gx)) hl] at hk
  cases hk
  obtain ⟨xe, h1, h2⟩ := vw6_at (D := D) (cI := cI) (cZ := cZ) (cU := cU) (cO := cO) (h0 := h0) (q1 := q1) (q2 := q2) (qr := qr) (qp := qp) (qo := qo) (qd := qd) (qb := qb) (u1 := u1) (u2 := u2) (u3 := u3) (r := r) (o := o) (ud := ud) (ub := ub) (v := v) (w := w) (adc := adc) (z := z) k hl
  exact h2 H (h _ _ h1)
theorem vw6_D {D : va_G} {cI cZ cU cO : ClassId} {h0 q1 q2 qr qp qo qd qb : Nat} {u1 u2 u3 r o ud ub : Nat → Nat} {v w : Nat → Nat → Nat} {adc : Nat → Nat} {Gx : Nat × (Nat → Int32)} {A : Nat → Prop} (h : va_D A (vw6F cI cU cO h0 q1 q2 qr qp qo qd qb u1 u2 u3 r o ud ub v w)) (σ : vM) : va_D A (vwd (false, Gx) (vad6 h0 q1 q2 qr qp qo qd qb u1 u2 u3 r o ud ub v w adc) (vcA cI cZ cU cO) σ) := by
  have lt : ∀ {k : Nat} {q : Nat × va_E}, (vwd (false, Gx) (vad6 h0 q1 q2 qr qp qo qd qb u1 u2 u3 r o ud ub v w adc) (vcA cI cZ cU cO) σ)[k]? = some q → k < 58 ∧ q.1 = vad6 h0 q1 q2 qr qp qo qd qb u1 u2 u3 r o ud ub v w adc k := fun {k q} hk => by
    have hl : k < 58 := by
      rcases Nat.lt_or_ge k 58 with h | h
      · exact h
      · rw [List.getElem?_eq_none (by simp [vwd, vsz]; omega)] at hk; cases hk
    rw [vwd_get (G := (false, Gx)) hl] at hk
    cases hk
    exact ⟨hl, rfl⟩
  refine ⟨fun i j p q hi hj e => ?_, fun k q hk => ?_⟩
  · obtain ⟨hi', ei⟩ := lt hi
    obtain ⟨hj', ej⟩ := lt hj
    obtain ⟨x1, h1, -⟩ := vw6_at (D := D) (cI := cI) (cZ := cZ) (cU := cU) (cO := cO) (h0 := h0) (q1 := q1) (q2 := q2) (qr := qr) (qp := qp) (qo := qo) (qd := qd) (qb := qb) (u1 := u1) (u2 := u2) (u3 := u3) (r := r) (o := o) (ud := ud) (ub := ub) (v := v) (w := w) (adc := adc) (z := fun _ _ => 0) i hi'
    obtain ⟨x2, h2, -⟩ := vw6_at (D := D) (cI := cI) (cZ := cZ) (cU := cU) (cO := cO) (h0 := h0) (q1 := q1) (q2 := q2) (qr := qr) (qp := qp) (qo := qo) (qd := qd) (qb := qb) (u1 := u1) (u2 := u2) (u3 := u3) (r := r) (o := o) (ud := ud) (ub := ub) (v := v) (w := w) (adc := adc) (z := fun _ _ => 0) j hj'
    exact vpr6_inj i hi' j hj' (h.1 _ _ _ _ h1 h2 (by rw [← ei, ← ej]; exact e))
  · obtain ⟨hk', ek⟩ := lt hk
    obtain ⟨x1, h1, -⟩ := vw6_at (D := D) (cI := cI) (cZ := cZ) (cU := cU) (cO := cO) (h0 := h0) (q1 := q1) (q2 := q2) (qr := qr) (qp := qp) (qo := qo) (qd := qd) (qb := qb) (u1 := u1) (u2 := u2) (u3 := u3) (r := r) (o := o) (ud := ud) (ub := ub) (v := v) (w := w) (adc := adc) (z := fun _ _ => 0) k hk'
    rw [ek]
    exact h.2 _ _ h1
