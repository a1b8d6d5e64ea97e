/-! ===== image, back: the machine ===== -/
def vskcp (σ : vM) (r r' : Nat) : vM := (fun c k => if c = r ∧ k ≤ 2 then σ.1 r' k else if r + 1 ≤ c ∧ c ≤ r + 8 ∧ k < vsl9 (c + 1 - r) then σ.1 (c + r' - r) k else σ.1 c k, σ.2)
def vskN (σ : vM) (r r' : Nat) : vM := vcopy (vcopy (vcopy (vcopy (vcopy (vcopy (vcopy (vcopy (vput (vput (vput σ r 0 (σ.1 r' 0)) r 1 (σ.1 r' 1)) r 2 (σ.1 r' 2)) (r' + 1) 0 (r + 1) 0 6) (r' + 2) 0 (r + 2) 0 6) (r' + 3) 0 (r + 3) 0 6) (r' + 4) 0 (r + 4) 0 30) (r' + 5) 0 (r + 5) 0 5) (r' + 6) 0 (r + 6) 0 5) (r' + 7) 0 (r + 7) 0 4) (r' + 8) 0 (r + 8) 0 4
theorem vcp0 (s : vM) (x b n c k : Nat) : (vcopy s x 0 b 0 n).1 c k = if c = b ∧ k < n then s.1 x k else s.1 c k := by
  rw [vcopy_get]
  by_cases h : c = b ∧ k < n
  · rw [if_pos h, if_pos ⟨h.1, Nat.zero_le _, by omega⟩]
    rw [show 0 + (k - 0) = k by omega]
  · rw [if_neg h, if_neg (fun q => h ⟨q.1, by omega⟩)]
theorem vskN_10 (σ : vM) : vskN σ 10 1 = vskcp σ 10 1 := by
  refine Prod.ext ?_ rfl
  funext c k
  unfold vskN vskcp
  simp only [vcp0, vput_get, Nat.reduceAdd]
  rcases (show c = 10 ∨ c = 11 ∨ c = 12 ∨ c = 13 ∨ c = 14 ∨ c = 15 ∨ c = 16 ∨ c = 17 ∨ c = 18 ∨ (¬ c = 10 ∧ ¬ c = 11 ∧ ¬ c = 12 ∧ ¬ c = 13 ∧ ¬ c = 14 ∧ ¬ c = 15 ∧ ¬ c = 16 ∧ ¬ c = 17 ∧ ¬ c = 18) by omega) with rfl | rfl | rfl | rfl | rfl | rfl | rfl | rfl | rfl | ⟨h0, h1, h2, h3, h4, h5, h6, h7, h8⟩
  · rcases (show k = 0 ∨ k = 1 ∨ k = 2 ∨ 2 < k by omega) with rfl | rfl | rfl | h
    · rfl
    · rfl
    · rfl
    · simp [show ¬ k = 0 by omega, show ¬ k = 1 by omega, show ¬ k = 2 by omega, show ¬ k ≤ 2 by omega]
  · simp [vsl9]
  · simp [vsl9]
  · simp [vsl9]
  · simp [vsl9]
  · simp [vsl9]
  · simp [vsl9]
  · simp [vsl9]
  · simp [vsl9]
  · simp only [h0, h1, h2, h3, h4, h5, h6, h7, h8, false_and, if_false]
    rw [if_neg (by omega)]
theorem vskN_1 (σ : vM) : vskN σ 1 10 = vskcp σ 1 10 := by
  refine Prod.ext ?_ rfl
  funext c k
  unfold vskN vskcp
  simp only [vcp0, vput_get, Nat.reduceAdd]
  rcases (show c = 1 ∨ c = 2 ∨ c = 3 ∨ c = 4 ∨ c = 5 ∨ c = 6 ∨ c = 7 ∨ c = 8 ∨ c = 9 ∨ (¬ c = 1 ∧ ¬ c = 2 ∧ ¬ c = 3 ∧ ¬ c = 4 ∧ ¬ c = 5 ∧ ¬ c = 6 ∧ ¬ c = 7 ∧ ¬ c = 8 ∧ ¬ c = 9) by omega) with rfl | rfl | rfl | rfl | rfl | rfl | rfl | rfl | rfl | ⟨h0, h1, h2, h3, h4, h5, h6, h7, h8⟩
  · rcases (show k = 0 ∨ k = 1 ∨ k = 2 ∨ 2 < k by omega) with rfl | rfl | rfl | h
    · rfl
    · rfl
    · rfl
    · simp [show ¬ k = 0 by omega, show ¬ k = 1 by omega, show ¬ k = 2 by omega, show ¬ k ≤ 2 by omega]
  · simp [vsl9]
  · simp [vsl9]
  · simp [vsl9]
  · simp [vsl9]
  · simp [vsl9]
  · simp [vsl9]
  · simp [vsl9]
  · simp [vsl9]
  · simp only [h0, h1, h2, h3, h4, h5, h6, h7, h8, false_and, if_false]
    rw [if_neg (by omega)]
section IM
variable {G : vG} {d : Nat} {σ : vM} {post : vQ} {a : vα}
theorem vb_sky10 (h : post none (vskcp σ 10 1)) : VM G (d + 1) iX5_become 0 [some (.ref 10), some (.ref 1)] [] σ post := by
  rw [← vskN_10] at h
  exact VM.go [] ⟨0, 0, 6, rfl, rfl, rfl, by decide, by decide, 0, 0, 6, rfl, rfl, rfl, by decide, by decide, 0, 0, 6, rfl, rfl, rfl, by decide, by decide, 0, 0, 30, rfl, rfl, rfl, by decide, by decide, 0, 0, 5, rfl, rfl, rfl, by decide, by decide, 0, 0, 5, rfl, rfl, rfl, by decide, by decide, 0, 0, 4, rfl, rfl, rfl, by decide, by decide, 0, 0, 4, rfl, rfl, rfl, by decide, by decide, h⟩
theorem vb_sky1 (h : post none (vskcp σ 1 10)) : VM G (d + 1) iX5_become 0 [some (.ref 1), some (.ref 10)] [] σ post := by
  rw [← vskN_1] at h
  exact VM.go [] ⟨0, 0, 6, rfl, rfl, rfl, by decide, by decide, 0, 0, 6, rfl, rfl, rfl, by decide, by decide, 0, 0, 6, rfl, rfl, rfl, by decide, by decide, 0, 0, 30, rfl, rfl, rfl, by decide, by decide, 0, 0, 5, rfl, rfl, rfl, by decide, by decide, 0, 0, 5, rfl, rfl, rfl, by decide, by decide, 0, 0, 4, rfl, rfl, rfl, by decide, by decide, 0, 0, 4, rfl, rfl, rfl, by decide, by decide, h⟩
theorem vskcp_ne {r r' c k : Nat} (h : c < r ∨ r + 8 < c) : (vskcp σ r r').1 c k = σ.1 c k := by
  unfold vskcp
  dsimp only
  rw [if_neg (by omega), if_neg (by omega)]
theorem vps_1 {k : Nat} (h : k ≤ 2) : vps 1 k = true ∧ vps 10 k = true := by
  rcases (show k = 0 ∨ k = 1 ∨ k = 2 by omega) with rfl | rfl | rfl <;> exact ⟨rfl, rfl⟩
theorem vps_lo {c k : Nat} (h : 2 ≤ c ∧ c ≤ 9) : vps c k = true := by
  simp only [vps, Bool.or_eq_true, Bool.and_eq_true, Nat.ble_eq, vbq]
  omega
theorem vps_hi {c k : Nat} (h : 11 ≤ c ∧ c ≤ 18) : vps c k = true := by
  simp only [vps, Bool.or_eq_true, Bool.and_eq_true, Nat.ble_eq, vbq]
  omega
theorem vRC.img (hC : vRC a σ) (hT : a.1 0 4 ≤ 6) : vRC (vimg a) (vput (vskcp σ 10 1) 0 2 1) := by
  obtain ⟨c1, c2, c3, c4⟩ := hC
  have ge : ∀ c k, 19 ≤ c → (vput (vskcp σ 10 1) 0 2 1).1 c k = σ.1 c k ∧ (vimg a).1 c k = a.1 c k := fun c k hc => by
    constructor
    · rw [vput_ne (Or.inl (by omega)), vskcp_ne (by omega)]
    · unfold vimg; dsimp only; rw [if_neg (by omega), if_neg (by omega), if_neg (by omega)]
  have z4 : (vimg a).1 0 4 = a.1 0 4 := rfl
  refine ⟨fun c k hk => ?_, fun s hs => ?_, fun s k hs hk => ?_, fun t ht => ?_⟩
  · rw [vput_get]
    unfold vimg vskcp
    dsimp only
    by_cases h1 : c = 10 ∧ k ≤ 2
    · rw [if_neg (by omega), if_pos h1, if_pos h1]
      exact c1 1 k (vps_1 h1.2).1
    · rw [if_neg h1, if_neg h1]
      by_cases h2 : 11 ≤ c ∧ c ≤ 18 ∧ k < vsl9 (c - 9)
      · rw [if_neg (by omega), if_pos (show 10 + 1 ≤ c ∧ c ≤ 10 + 8 ∧ k < vsl9 (c + 1 - 10) from ⟨by omega, by omega, by rw [show c + 1 - 10 = c - 9 by omega]; exact h2.2.2⟩), if_pos h2, show c + 1 - 10 = c - 9 by omega]
        exact c1 (c - 9) k (vps_lo (by omega))
      · rw [if_neg h2]
        by_cases h3 : c = 0 ∧ k = 2
        · rw [if_pos h3, if_pos h3]; decide
        · rw [if_neg h3, if_neg h3, if_neg (fun q => h2 ⟨by omega, by omega, by have := q.2.2; rw [show c + 1 - 10 = c - 9 by omega] at this; exact this⟩)]
          exact c1 c k hk
  · rw [(ge _ _ (by omega)).1, (ge _ _ (by omega)).2]; exact c2 s hs
  · rw [(ge _ _ (by omega)).2] at hk
    rw [(ge _ _ (by omega)).1]; exact c3 s k hs hk
  · rw [z4] at ht
    obtain ⟨r1, r2⟩ := c4 t ht
    exact ⟨r1.ag (fun k => (ge _ _ (by omega)).1) (fun k => (ge _ _ (by omega)).1), by rw [(ge _ _ (by omega)).1]; exact r2⟩
theorem vRC.bck (hC : vRC a σ) (hT : a.1 0 4 ≤ 6) : vRC (vbck a) (vskcp σ 1 10) := by
  obtain ⟨c1, c2, c3, c4⟩ := hC
  have ge : ∀ c k, 19 ≤ c → (vskcp σ 1 10).1 c k = σ.1 c k ∧ (vbck a).1 c k = a.1 c k := fun c k hc => by
    constructor
    · rw [vskcp_ne (by omega)]
    · unfold vbck; dsimp only; rw [if_neg (by omega), if_neg (by omega)]
  have z4 : (vbck a).1 0 4 = a.1 0 4 := rfl
  refine ⟨fun c k hk => ?_, fun s hs => ?_, fun s k hs hk => ?_, fun t ht => ?_⟩
  · unfold vbck vskcp
    dsimp only
    by_cases h1 : c = 1 ∧ k ≤ 2
    · rw [if_pos h1, if_pos h1]
      exact c1 10 k (vps_1 h1.2).2
    · rw [if_neg h1, if_neg h1]
      by_cases h2 : 2 ≤ c ∧ c ≤ 9 ∧ k < vsl9 c
      · rw [if_pos (show 1 + 1 ≤ c ∧ c ≤ 1 + 8 ∧ k < vsl9 (c + 1 - 1) from ⟨by omega, by omega, h2.2.2⟩), if_pos h2, show c + 10 - 1 = c + 9 by omega]
        exact c1 (c + 9) k (vps_hi (by omega))
      · rw [if_neg h2, if_neg (fun q => h2 ⟨by omega, by omega, q.2.2⟩)]
        exact c1 c k hk
  · rw [(ge _ _ (by omega)).1, (ge _ _ (by omega)).2]; exact c2 s hs
  · rw [(ge _ _ (by omega)).2] at hk
    rw [(ge _ _ (by omega)).1]; exact c3 s k hs hk
  · rw [z4] at ht
    obtain ⟨r1, r2⟩ := c4 t ht
    exact ⟨r1.ag (fun k => (ge _ _ (by omega)).1) (fun k => (ge _ _ (by omega)).1), by rw [(ge _ _ (by omega)).1]; exact r2⟩
theorem vag_skcp {r r' : Nat} (hr : r ≤ 49) : vag vKl σ (vskcp σ r r') := by
  refine ⟨fun c k hk => ?_, rfl⟩
  refine vskcp_ne (Or.inr ?_)
  refine Nat.lt_of_not_le (fun q => ?_)
  have : vKl c k = true := by unfold vKl; rw [Nat.ble_eq]; omega
  rw [this] at hk; cases hk
theorem vc_image (hC : vRC a σ) (hW : vWF a) (h : ∀ σ', vag vKl σ σ' → vRC (sImage a).2 σ' → post (some (.int (sImage a).1)) σ') : VM G (d + 2) iX6_image 0 [some (.ref 0)] [] σ post := by
  refine VM.go [] ⟨_, VM.at (vb_sky10 ?_), fun _ _ hh => hh⟩
  have := h (vput (vskcp σ 10 1) 0 2 1) ((vag_skcp (by decide)).put rfl) (hC.img hW.2.1.2)
  unfold sImage at this
  dsimp only at this
  rw [← hC.num 1 2 rfl] at this
  exact ⟨Or.inr rfl, this⟩
theorem vc_back (hC : vRC a σ) (hW : vWF a) (h : ∀ σ', vag vKl σ σ' → vRC (sBack a).2 σ' → post (some (.int (sBack a).1)) σ') : VM G (d + 2) iX6_back 0 [some (.ref 0)] [] σ post := by
  have e02 : σ.1 0 2 = nI (a.1 0 2) := hC.num 0 2 rfl
  have hle := hW.2.2.2.2.2.2.2.2.2.1
  have h2 : σ.1 10 2 = nI (a.1 10 2) := hC.num 10 2 rfl
  refine VM.go [] ⟨fun q => ?_, fun q => ?_⟩
  · have q' : ¬ σ.1 0 2 = 0 := q
    have es : sBack a = (nI (a.1 10 2), vbck a) := if_neg (fun e => q' (by rw [e02, e]; rfl))
    refine ⟨_, VM.at (vb_sky1 ?_), fun _ _ hh => hh⟩
    have := h (vskcp σ 1 10) (vag_skcp (by decide)) (by rw [es]; exact hC.bck hW.2.1.2)
    rw [es, ← h2] at this
    exact this
  · have q' : σ.1 0 2 = 0 := q
    rw [e02, show (0 : Int32) = nI 0 from rfl, nI_eq (by omega) (by decide)] at q'
    have es : sBack a = (-3, a) := if_pos q'
    have := h σ vag.rf (by rw [es]; exact hC)
    rw [es] at this
    exact this
theorem vWF.img (hW : vWF a) : vWF (vimg a) := by
  obtain ⟨w1, w2, w3, w4, w5, w6, w7, w8, w9, w10⟩ := hW
  have ge : ∀ c k, 19 ≤ c → (vimg a).1 c k = a.1 c k := fun c k hc => by
    unfold vimg; dsimp only; rw [if_neg (by omega), if_neg (by omega), if_neg (by omega)]
  have c8 : ∀ c k, 11 ≤ c → c ≤ 18 → k < vsl9 (c - 9) → (vimg a).1 c k = a.1 (c - 9) k := fun c k h1 h2 h3 => by
    unfold vimg; dsimp only; rw [if_neg (by omega), if_pos ⟨h1, h2, h3⟩]
  have e04 : (vimg a).1 0 4 = a.1 0 4 := rfl
  have lo : ∀ c k, 1 ≤ c → c ≤ 9 → (vimg a).1 c k = a.1 c k := fun c k h1 h2 => by
    unfold vimg; dsimp only; rw [if_neg (by omega), if_neg (by omega), if_neg (by omega)]
  unfold vWF
  simp only [lo 1 _ (by decide) (by decide), lo 2 _ (by decide) (by decide), lo 3 _ (by decide) (by decide), lo 4 _ (by decide) (by decide), lo 5 _ (by decide) (by decide), lo 6 _ (by decide) (by decide), lo 7 _ (by decide) (by decide), lo 8 _ (by decide) (by decide), lo 9 _ (by decide) (by decide), e04, ge 38 _ (by decide), ge 39 _ (by decide)]
  refine ⟨w1, w2, w3, w4, w5, w6, w7, fun s hs => ?_, w9, Nat.le_refl 1, fun _ => ⟨⟨w1.1, w1.2.1, Nat.le_refl _⟩, fun k hk => ?_, fun k hk => ?_, fun k hk => ?_, fun k hk => ?_, fun k hk => ?_⟩⟩
  · rw [ge _ _ (by omega), ge _ _ (by omega)]; exact w8 s hs
  · rw [c8 11 k (by decide) (by decide) hk, c8 12 k (by decide) (by decide) hk, c8 13 k (by decide) (by decide) hk]; exact w3 k hk
  · rw [c8 14 k (by decide) (by decide) hk]; exact w4 k hk
  · rw [c8 15 k (by decide) (by decide) hk, c8 16 k (by decide) (by decide) hk]; exact w5 k hk
  · rw [c8 17 k (by decide) (by decide) hk, c8 18 k (by decide) (by decide) hk]; exact w6 k hk
  · have hk' : k < a.1 1 2 := hk
    exact c8 11 k (by decide) (by decide) (Nat.lt_of_lt_of_le hk' w1.2.2)
theorem vWF.bck (hW : vWF a) (hi : a.1 0 2 = 1) : vWF (vbck a) := by
  obtain ⟨w1, w2, w3, w4, w5, w6, w7, w8, w9, w10, w11⟩ := hW
  obtain ⟨x1, x2, x3, x4, x5, x6⟩ := w11 hi
  have ge : ∀ c k, (10 ≤ c ∨ c = 0) → (vbck a).1 c k = a.1 c k := fun c k hc => by
    unfold vbck; dsimp only; rw [if_neg (by omega), if_neg (by omega)]
  have c8 : ∀ c k, 2 ≤ c → c ≤ 9 → k < vsl9 c → (vbck a).1 c k = a.1 (c + 9) k := fun c k h1 h2 h3 => by
    unfold vbck; dsimp only; rw [if_neg (by omega), if_pos ⟨h1, h2, h3⟩]
  have c1 : ∀ k, k ≤ 2 → (vbck a).1 1 k = a.1 10 k := fun k hk => if_pos ⟨rfl, hk⟩
  unfold vWF
  simp only [ge 0 _ (Or.inr rfl), ge 10 _ (Or.inl (by decide)), ge 11 _ (Or.inl (by decide)), ge 12 _ (Or.inl (by decide)), ge 13 _ (Or.inl (by decide)), ge 14 _ (Or.inl (by decide)), ge 15 _ (Or.inl (by decide)), ge 16 _ (Or.inl (by decide)), ge 17 _ (Or.inl (by decide)), ge 18 _ (Or.inl (by decide)), ge 38 _ (Or.inl (by decide)), ge 39 _ (Or.inl (by decide)), c1 0 (by decide), c1 1 (by decide), c1 2 (by decide)]
  refine ⟨⟨x1.1, x1.2.1, Nat.le_trans x1.2.2 w1.2.2⟩, w2, fun k hk => ?_, fun k hk => ?_, fun k hk => ?_, fun k hk => ?_, w7, fun s hs => ?_, w9, w10, fun _ => ⟨⟨x1.1, x1.2.1, Nat.le_refl _⟩, x2, x3, x4, x5, fun k hk => ?_⟩⟩
  · rw [c8 2 k (by decide) (by decide) hk, c8 3 k (by decide) (by decide) hk, c8 4 k (by decide) (by decide) hk]; exact x2 k hk
  · rw [c8 5 k (by decide) (by decide) hk]; exact x3 k hk
  · rw [c8 6 k (by decide) (by decide) hk, c8 7 k (by decide) (by decide) hk]; exact x4 k hk
  · rw [c8 8 k (by decide) (by decide) hk, c8 9 k (by decide) (by decide) hk]; exact x5 k hk
  · rw [ge _ _ (Or.inl (by omega)), ge _ _ (Or.inl (by omega))]; exact w8 s hs
  · have h6 : k < 6 := Nat.lt_of_lt_of_le hk (Nat.le_trans x1.2.2 w1.2.2)
    exact (c8 2 k (by decide) (by decide) h6).symm
end IM
