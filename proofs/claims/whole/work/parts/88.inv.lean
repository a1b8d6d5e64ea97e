/-! ===== EVERY CALL KEEPS THE STATE IN RANGE ===== -/
/-- in range, every text accepted; at most 999 a call has been paid -/
def vInv (n : Nat) (a : vα) : Prop := vWF a ∧ vAc a ∧ (∀ k, k < 5 → a.1 7 k ≤ 999 * n) ∧ (a.1 0 2 = 1 → ∀ k, k < 5 → a.1 16 k ≤ 999 * n)
section IV
variable {n : Nat} {a b : vα}
theorem vInv.up (h : vInv n a) : vInv (n + 1) a := ⟨h.1, h.2.1, fun k hk => Nat.le_trans (h.2.2.1 k hk) (Nat.mul_le_mul_left _ (by omega)), fun z k hk => Nat.le_trans (h.2.2.2 z k hk) (Nat.mul_le_mul_left _ (by omega))⟩
theorem vInv.of (h : vInv n a) (hW : vWF b) (h2 : b.2.2 = a.2.2) (h04 : b.1 0 4 = a.1 0 4) (h7 : ∀ k, b.1 7 k = a.1 7 k) (h02 : b.1 0 2 = a.1 0 2) (h16 : ∀ k, b.1 16 k = a.1 16 k) : vInv (n + 1) b := by
  have u := h.up
  exact ⟨hW, fun t ht => by rw [h2]; exact u.2.1 t (by rw [← h04]; exact ht), fun k hk => by rw [h7]; exact u.2.2.1 k hk, fun z k hk => by rw [h16]; exact u.2.2.2 (by rw [← h02]; exact z) k hk⟩
theorem vInv.put {c k v : Nat} (h : vInv n a) (hW : vWF (vaput a c k v)) (hc : ¬ c = 0 ∧ ¬ c = 7 ∧ ¬ c = 16) : vInv (n + 1) (vaput a c k v) :=
  h.of hW rfl (vaput_ne (Or.inl (by omega))) (fun _ => vaput_ne (Or.inl (by omega))) (vaput_ne (Or.inl (by omega))) (fun _ => vaput_ne (Or.inl (by omega)))
theorem sSet_cs (a : vα) (x y z : Int32) : (sSet a x y z).2 = a ∨ ∃ c k v, (sSet a x y z).2 = vaput a c k v ∧ ((c = 1 ∧ k = 0 ∧ v < 4096) ∨ (c = 3 ∧ v ≤ 9) ∨ (c = 4 ∧ v ≤ 999) ∨ (c = 6 ∧ v ≤ 99) ∨ (c = 8 ∧ 1 ≤ v ∧ v ≤ 99) ∨ (c = 9 ∧ v ≤ 20)) := by
  unfold sSet
  split
  · exact Or.inl rfl
  · split
    · next v hz => exact Or.inr ⟨1, 0, v, rfl, Or.inl ⟨rfl, rfl, (vix_some (by decide) hz).1⟩⟩
    · exact Or.inl rfl
  · next w hne hx =>
    obtain ⟨hw, -⟩ := vix_some (by decide) hx
    split
    · next k v hy hz =>
      split
      · next hl =>
        refine Or.inr ⟨_, k, v, rfl, ?_⟩
        have hne' : ¬ w = 0 := fun e => by subst e; exact hne rfl
        rcases (show w = 1 ∨ w = 2 ∨ w = 3 ∨ w = 4 ∨ w = 5 by omega) with e | e | e | e | e <;> subst e
        · exact Or.inr (Or.inl ⟨rfl, Nat.le_of_lt_succ (vix_some (m := 10) (by decide) hz).1⟩)
        · exact Or.inr (Or.inr (Or.inl ⟨rfl, Nat.le_of_lt_succ (vix_some (m := 1000) (by decide) hz).1⟩))
        · exact Or.inr (Or.inr (Or.inr (Or.inl ⟨rfl, Nat.le_of_lt_succ (vix_some (m := 100) (by decide) hz).1⟩)))
        · exact Or.inr (Or.inr (Or.inr (Or.inr (Or.inl ⟨rfl, hl, Nat.le_of_lt_succ (vix_some (m := 100) (by decide) hz).1⟩))))
        · exact Or.inr (Or.inr (Or.inr (Or.inr (Or.inr ⟨rfl, Nat.le_of_lt_succ (vix_some (m := 21) (by decide) hz).1⟩))))
      · exact Or.inl rfl
    · exact Or.inl rfl
theorem vInv.set (h : vInv n a) (x y z : Int32) : vInv (n + 1) (sSet a x y z).2 := by
  rcases sSet_cs a x y z with e | ⟨c, k, v, e, hc⟩
  · rw [e]; exact h.up
  · rw [e]
    exact h.put (h.1.put (by omega) (fun e => by omega) (fun e => by omega) (fun e => by omega) (fun e => by omega) (fun e => by omega) (fun e => by omega) (fun e => by omega) (fun e => by omega) (fun e => by omega) (fun e => by omega) (fun e => by omega)) (by omega)
theorem vInv.light (h : vInv n a) (x y z : Int32) : vInv (n + 1) (sLight a x y z).2 := by
  have hk := sLight_keep a x y z
  refine h.of (h.1.sLight x y z) (by rw [hk.1]) (hk.2 0 4 (by omega)) (fun k => ?_) (hk.2 0 2 (by omega)) (fun k => hk.2 16 k (by omega))
  rcases sLight_cs a x y z with e | e | ⟨k', m, y', -, -, -, -, -, e⟩
  · rw [e]
  · rw [e]
  · rw [e]
    show (vlight a k' m y').1 7 k = a.1 7 k
    unfold vlight
    rw [vaput_ne (Or.inl (by decide)), vseen0_ne (by decide), vaput_ne (Or.inl (by decide)), vaput_ne (Or.inl (by decide)), vaput_ne (Or.inl (by decide))]
theorem vInv.look (h : vInv n a) (x y z : Int32) : vInv (n + 1) (sLook a x y z).2 := by
  unfold sLook
  cases hx : vix x 5 with
  | none => exact h.up
  | some p =>
    cases hy : vix y (a.1 1 2) with
    | none => exact h.up
    | some l =>
      cases hz : vix z 4096 with
      | none => exact h.up
      | some v =>
        have hv := (vix_some (by decide) hz).1
        exact h.put (h.1.put (by omega) (fun e => by omega) (fun e => by omega) (fun e => by omega) (fun e => by omega) (fun e => hv) (fun e => by omega) (fun e => by omega) (fun e => by omega) (fun e => by omega) (fun e => by omega) (fun e => by omega)) (by omega)
theorem vInv.feed (h : vInv n a) (x : Int32) : vInv (n + 1) (sFeed a x).2 := by
  unfold sFeed
  cases hx : vix x 256 with
  | none => exact h.up
  | some v =>
    have hv := (vix_some (by decide) hx).1
    have hs := h.1.2.2.2.2.2.2.1.1
    dsimp only
    by_cases e : a.1 38 0 = 160
    · rw [if_pos e]; exact h.up
    · rw [if_neg e]
      have w1 : vWF (vaput a 39 (a.1 38 0) v) := h.1.put (by omega) (fun e => by omega) (fun e => by omega) (fun e => by omega) (fun e => by omega) (fun e => by omega) (fun e => by omega) (fun e => by omega) (fun e => by omega) (fun e => by omega) (fun e => by omega) (fun e => hv)
      have w2 : vWF (vaput (vaput a 39 (a.1 38 0) v) 38 0 (a.1 38 0 + 1)) := w1.put (by omega) (fun e => by omega) (fun e => by omega) (fun e => by omega) (fun e => by omega) (fun e => by omega) (fun e => by omega) (fun e => by omega) (fun e => by omega) (fun e => by omega) (fun e => by omega) (fun e => by omega)
      exact h.of w2 rfl rfl (fun _ => rfl) rfl (fun _ => rfl)
theorem vInv.force (h : vInv n a) (x : Int32) : vInv (n + 1) (sForce a x).2 := by
  unfold sForce
  have hT := h.1.2.1
  cases hx : vix x (a.1 0 4) with
  | none => exact h.up
  | some v =>
    have hv := (vix_some (by omega) hx).1
    exact h.put (h.1.put (by omega) (fun e => Or.inr (Or.inl ⟨rfl, hv⟩)) (fun e => by omega) (fun e => by omega) (fun e => by omega) (fun e => by omega) (fun e => by omega) (fun e => by omega) (fun e => by omega) (fun e => by omega) (fun e => by omega) (fun e => by omega)) (by omega)
theorem vInv.bec {s so m : Nat} (h : vInv n a) (hs : s < 4) (hso : so ≤ 3) (hm : m ≤ 40) (hz : so = 0 → m = 0) : vInv (n + 1) (vbec a s so m) :=
  h.of (h.1.bec hs hso hm hz) rfl (vbec_ne (by decide)) (fun _ => vbec_ne (by decide)) (vbec_ne (by decide)) (fun _ => vbec_ne (by decide))
theorem vInv.sheet (h : vInv n a) (x y z : Int32) : vInv (n + 1) (sSheet a x y z).2 := by
  unfold sSheet
  cases hx : vix x 4 with
  | none => exact h.up
  | some s =>
    have hs := (vix_some (by decide) hx).1
    dsimp only
    by_cases e : y = -1
    · rw [if_pos e]; exact h.bec hs (by omega) (by omega) (fun _ => rfl)
    · rw [if_neg e]
      cases hy : vix y 3 with
      | none => exact h.up
      | some so =>
        have hso := (vix_some (by decide) hy).1
        dsimp only
        by_cases e2 : 40 < z
        · rw [if_pos e2]; exact h.up
        · rw [if_neg e2]
          cases hz : vix z 41 with
          | none => exact h.up
          | some m =>
            have hm := (vix_some (by decide) hz).1
            exact h.bec hs (by omega) (by omega) (fun q => absurd q (by omega))
theorem vInv.cell (h : vInv n a) (x y z : Int32) : vInv (n + 1) (sCell a x y z).2 := by
  unfold sCell
  cases hx : vix x 4 with
  | none => exact h.up
  | some s =>
    dsimp only
    by_cases e : a.1 (50 + 2 * s) 0 = 0
    · rw [if_pos e]; exact h.up
    · rw [if_neg e]
      cases hy : vix y (a.1 (50 + 2 * s) 1) with
      | none => exact h.up
      | some i => exact h.of h.1.itm rfl rfl (fun _ => rfl) rfl (fun _ => rfl)
theorem vflm_wf {s p : Nat} (hW : vWF a) (hs : s < 4) : ∀ i, vWF (vflm a s p i) := by
  intro i
  induction i with
  | zero => exact hW.bec hs (by decide) (by have := hW.1.2.2; omega) (fun q => absurd q (by decide))
  | succ i ih => exact ih.itm
theorem vInv.film (h : vInv n a) (x y : Int32) : vInv (n + 1) (sFilm a x y).2 := by
  unfold sFilm
  cases hx : vix x 4 with
  | none => exact h.up
  | some s =>
    cases hy : vix y 5 with
    | none => exact h.up
    | some p =>
      have hs := (vix_some (by decide) hx).1
      have ne : ∀ c k, c < 50 → (vflm a s p (a.1 1 2)).1 c k = a.1 c k := fun c k hc => by rw [(vflm_1 _).1]; exact vbec_ne hc
      exact h.of (vflm_wf h.1 hs _) (vflm_1 _).2 (ne 0 4 (by decide)) (fun k => ne 7 k (by decide)) (ne 0 2 (by decide)) (fun k => ne 16 k (by decide))
theorem vInv.copy (h : vInv n a) (x y z u v : Int32) : vInv (n + 1) (sCopy a x y z u v).2 := by
  unfold sCopy
  cases hx : vix x 4 with
  | none => exact h.up
  | some s =>
    cases hz : vix z 4 with
    | none => exact h.up
    | some o =>
      dsimp only
      by_cases e1 : a.1 (50 + 2 * s) 0 = 0 ∨ a.1 (50 + 2 * o) 0 = 0
      · rw [if_pos e1]; exact h.up
      · rw [if_neg e1]
        by_cases e2 : ¬ a.1 (50 + 2 * s) 0 = a.1 (50 + 2 * o) 0
        · rw [if_pos e2]; exact h.up
        · rw [if_neg e2]
          rcases vhas (a.1 (50 + 2 * s) 1) y v with _ | ⟨i, m⟩
          · exact h.up
          · rcases vhas (a.1 (50 + 2 * o) 1) u v with _ | ⟨j, m'⟩
            · exact h.up
            · exact h.of h.1.cpy rfl rfl (fun _ => rfl) rfl (fun _ => rfl)
theorem vltL_inv {it : Nat → Int32} {sz : Nat} : ∀ m p came (b : vα), vInv n b → (∀ k, b.1 7 k = a.1 7 k) → vInv n (vltL it sz m p came b).2 := by
  intro m
  induction m with
  | zero => intro p came b h _; exact h
  | succ m ih =>
    intro p came b h h7
    unfold vltL
    by_cases e : p + 3 ≤ sz
    · rw [if_pos e]
      have hk := sLight_keep b (it p) (it (p + 1)) (it (p + 2))
      have hl := h.light (it p) (it (p + 1)) (it (p + 2))
      have e7 : ∀ k, (sLight b (it p) (it (p + 1)) (it (p + 2))).2.1 7 k = b.1 7 k := fun k => by
        rcases sLight_cs b (it p) (it (p + 1)) (it (p + 2)) with e | e | ⟨k', m, y', -, -, -, -, -, e⟩
        · rw [e]
        · rw [e]
        · rw [e]
          show (vlight b k' m y').1 7 k = b.1 7 k
          unfold vlight
          rw [vaput_ne (Or.inl (by decide)), vseen0_ne (by decide), vaput_ne (Or.inl (by decide)), vaput_ne (Or.inl (by decide)), vaput_ne (Or.inl (by decide))]
      exact ih _ _ _ ⟨hl.1, hl.2.1, fun k hk' => by rw [e7]; exact h.2.2.1 k hk', fun z k hk' => by rw [hk.2 16 k (by omega)]; exact h.2.2.2 (by rw [← hk.2 0 2 (by omega)]; exact z) k hk'⟩ (fun k => by rw [e7, h7])
    · rw [if_neg e]; exact h
theorem vInv.lights (h : vInv n a) (x y z u : Int32) : vInv (n + 1) (sLights a x y z u).2 := by
  unfold sLights
  cases hx : vix x 4 with
  | none => exact h.up
  | some s =>
    cases hy : vix y 3 with
    | none => exact h.up
    | some so =>
      cases hu : vix u 7 with
      | none => exact h.up
      | some m =>
        dsimp only
        by_cases e1 : ¬ a.1 (50 + 2 * s) 0 = 0 ∧ ¬ a.1 (50 + 2 * s) 0 = so + 1
        · rw [if_pos e1]; exact h.up
        · rw [if_neg e1]
          by_cases e2 : a.1 (50 + 2 * s) 0 = 0
          · rw [if_pos e2]; exact h.up
          · rw [if_neg e2]
            by_cases e3 : m = 0
            · rw [if_pos e3]; exact h.up
            · rw [if_neg e3]
              cases hz : vix z 41 with
              | none => exact h.up
              | some p => exact vInv.up (vltL_inv (a := a) m p 0 a h (fun _ => rfl))
theorem vInv.img (h : vInv n a) : vInv (n + 1) (sImage a).2 := by
  have u := h.up
  refine ⟨h.1.img, fun t ht => u.2.1 t (by rw [← vimg_o (a := a) (c := 0) (k := 4) (by omega)]; exact ht), fun k hk => by rw [show (sImage a).2.1 7 k = a.1 7 k from vimg_o (by omega)]; exact u.2.2.1 k hk, fun _ k hk => ?_⟩
  show (if 16 = 10 ∧ k ≤ 2 then a.1 1 k else if 11 ≤ 16 ∧ 16 ≤ 18 ∧ k < vsl9 (16 - 9) then a.1 (16 - 9) k else if 16 = 0 ∧ k = 2 then 1 else a.1 16 k) ≤ _
  rw [if_neg (by omega), if_pos ⟨by decide, by decide, show k < 5 from hk⟩]
  exact u.2.2.1 k hk
theorem vInv.bck (h : vInv n a) : vInv (n + 1) (sBack a).2 := by
  unfold sBack
  by_cases e : a.1 0 2 = 0
  · rw [if_pos e]; exact h.up
  · rw [if_neg e]
    have u := h.up
    have h1 : a.1 0 2 = 1 := by have := h.1.2.2.2.2.2.2.2.2.2.1; omega
    refine ⟨h.1.bck h1, fun t ht => u.2.1 t (by rw [← vbck_o (a := a) (c := 0) (k := 4) (by omega)]; exact ht), fun k hk => ?_, fun z k hk => by rw [vbck_o (by omega)]; exact u.2.2.2 h1 k hk⟩
    show (if 7 = 1 ∧ k ≤ 2 then a.1 10 k else if 2 ≤ 7 ∧ 7 ≤ 9 ∧ k < vsl9 7 then a.1 (7 + 9) k else a.1 7 k) ≤ _
    rw [if_neg (by omega), if_pos ⟨by decide, by decide, show k < 5 from hk⟩]
    exact u.2.2.2 h1 k hk
theorem vpaid_wf {w : Nat → Nat} (hW : vWF a) : ∀ i, i ≤ 4 → vWF (vpaid a w i) := by
  intro i
  induction i with
  | zero => intro _; exact hW
  | succ i ih =>
    intro hi
    have h9 := (hW.br (k := i) (by omega)).2.2
    exact (ih (by omega)).put (by omega) (fun e => by omega) (fun e => by omega) (fun e => by omega) (fun e => by omega) (fun e => by omega) (fun e => by omega) (fun e => by omega) (fun e => by omega) (fun e => by omega) (fun e => by omega) (fun e => by omega)
theorem vInv.pay (h : vInv n a) (hn : n ≤ 600) (x : Int32) : vInv (n + 1) (sPay a x).2 := by
  unfold sPay
  cases hx : vix x 5 with
  | none => exact h.up
  | some p =>
    have hp := (vix_some (by decide) hx).1
    dsimp only
    obtain ⟨X, hX⟩ : ∃ X, X = vallA a (a.1 1 0) p := ⟨_, rfl⟩
    rw [← hX]
    by_cases e : 999 < X
    · rw [if_pos e]; exact h.up
    · rw [if_neg e]
      by_cases e2 : (vseek a X).1 = 0
      · rw [if_pos e2]; exact h.up
      · rw [if_neg e2]
        have h7 := h.2.2.1 p hp
        have e7 : ∀ k, (vpaid a (vseek a X).2.2 4).1 7 k = a.1 7 k := fun k => vpaid_ne (Or.inl (by decide))
        have u := h.up
        have e2' : ∀ i, (vpaid a (vseek a X).2.2 i).2 = a.2 := by
          intro i
          induction i with
          | zero => rfl
          | succ i ih => exact ih
        refine ⟨(vpaid_wf h.1 4 (Nat.le_refl _)).put (by omega) (fun e => by omega) (fun e => by omega) (fun e => by omega) (fun e => by omega) (fun e => by omega) (fun e => by omega) (fun _ => by omega) (fun e => by omega) (fun e => by omega) (fun e => by omega) (fun e => by omega), fun t ht => ?_, fun k hk => ?_, fun z k hk => ?_⟩
        · have ht' : t < a.1 0 4 := by
            have e04 : (vaput (vpaid a (vseek a X).2.2 4) 7 p (a.1 7 p + X)).1 0 4 = a.1 0 4 := (vaput_ne (Or.inl (by decide))).trans (vpaid_ne (Or.inl (by decide)))
            rw [← e04]; exact ht
          show vfault ((vpaid a (vseek a X).2.2 4).2.2 t) = none
          rw [e2']
          exact h.2.1 t ht'
        · show (vaput (vpaid a (vseek a X).2.2 4) 7 p (a.1 7 p + X)).1 7 k ≤ _
          rw [vaput_get]
          by_cases q : 7 = 7 ∧ k = p
          · rw [if_pos q]; omega
          · rw [if_neg q, e7]; exact u.2.2.1 k hk
        · have z' : (vpaid a (vseek a X).2.2 4).1 0 2 = 1 := (vaput_ne (Or.inl (by decide))).symm.trans z
          rw [vpaid_ne (Or.inl (by decide))] at z'
          have := u.2.2.2 z' k hk
          rw [show (vaput (vpaid a (vseek a X).2.2 4) 7 p (a.1 7 p + X)).1 16 k = a.1 16 k from (vaput_ne (Or.inl (by decide))).trans (vpaid_ne (Or.inl (by decide)))]
          exact this
end IV
