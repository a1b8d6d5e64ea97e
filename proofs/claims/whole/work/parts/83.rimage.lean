/-! ===== THE REFERENCE: image, back ===== -/
/-- cells lo .. lo + 6 took the first places of others -/
def vKc (σ s2 : vM) (lo : Nat) (src n : Nat → Nat) : Prop := ∀ c k, s2.1 c k = if lo ≤ c ∧ c ≤ lo + 6 ∧ k < n c then σ.1 (src c) k else σ.1 c k
theorem vKc.put {σ s2 : vM} {lo c l : Nat} {src n n' : Nat → Nat} (h : vKc σ s2 lo src n) (hc : lo ≤ c ∧ c ≤ lo + 6) (hn : n c = l) (hn' : ∀ c', n' c' = if c' = c then l + 1 else n c') : vKc σ (vput s2 c l (σ.1 (src c) l)) lo src n' := by
  intro c' k
  rw [vput_get, hn' c']
  by_cases e : c' = c
  · subst e
    rw [if_pos rfl]
    by_cases e2 : k = l
    · rw [if_pos ⟨rfl, e2⟩, if_pos ⟨hc.1, hc.2, by omega⟩, e2]
    · rw [if_neg (fun q => e2 q.2), h c' k, hn]
      by_cases e3 : k < l
      · rw [if_pos ⟨hc.1, hc.2, e3⟩, if_pos ⟨hc.1, hc.2, by omega⟩]
      · rw [if_neg (fun q => e3 q.2.2), if_neg (fun q => by have := q.2.2; omega)]
  · rw [if_neg (fun q => e q.1), if_neg e]; exact h c' k
theorem vKc.src {σ s2 : vM} {lo c k : Nat} {src n : Nat → Nat} (h : vKc σ s2 lo src n) (hc : ¬ (lo ≤ c ∧ c ≤ lo + 6)) : s2.1 c k = σ.1 c k := (h c k).trans (if_neg (fun q => hc ⟨q.1, q.2.1⟩))
theorem vKc.inn {σ s2 : vM} {lo c k : Nat} {src n : Nat → Nat} (h : vKc σ s2 lo src n) (hc : lo ≤ c ∧ c ≤ lo + 6) (hk : k < n c) : s2.1 c k = σ.1 (src c) k := (h c k).trans (if_pos ⟨hc.1, hc.2, hk⟩)
theorem vKc.out {σ s2 : vM} {lo c k : Nat} {src n : Nat → Nat} (h : vKc σ s2 lo src n) (hk : ¬ k < n c) : s2.1 c k = σ.1 c k := (h c k).trans (if_neg (fun q => hk q.2.2))
theorem vKc.rf {σ : vM} {lo : Nat} {src n : Nat → Nat} (h : ∀ c, n c = 0) : vKc σ σ lo src n := fun c k => by rw [h c, if_neg (fun q => absurd q.2.2 (Nat.not_lt_zero _))]
theorem vimg_o {a : vα} {c k : Nat} (h : (c = 0 ∧ ¬ k = 2) ∨ (1 ≤ c ∧ c ≤ 9) ∨ 19 ≤ c) : (vimg a).1 c k = a.1 c k := by
  show (if c = 10 ∧ k ≤ 2 then a.1 1 k else if 11 ≤ c ∧ c ≤ 18 ∧ k < vsl9 (c - 9) then a.1 (c - 9) k else if c = 0 ∧ k = 2 then 1 else a.1 c k) = a.1 c k
  rw [if_neg (by omega), if_neg (by omega), if_neg (by omega)]
theorem vbck_o {a : vα} {c k : Nat} (h : c = 0 ∨ 10 ≤ c) : (vbck a).1 c k = a.1 c k := by
  show (if c = 1 ∧ k ≤ 2 then a.1 10 k else if 2 ≤ c ∧ c ≤ 9 ∧ k < vsl9 c then a.1 (c + 9) k else a.1 c k) = a.1 c k
  rw [if_neg (by omega), if_neg (by omega)]
theorem vRM.imgd {a : vα} {σ s2 : vM} (hR : vRM a σ) (hK : vKc σ s2 72 (fun c => c - 9) (fun c => vsl9 (c - 69))) : vRM (vimg a) (vput (vput (vput s2 58 43 (nI (a.1 1 2))) 58 44 (nI (a.1 1 0))) 58 45 (nI (a.1 1 1))) := by
  obtain ⟨⟨p1, p2, p3, p4, p5⟩, g2, g3, g4, ⟨k1, k2, k3, k4⟩, h6⟩ := hR
  have nc : ∀ c k, ¬ c = 58 → (vput (vput (vput s2 58 43 (nI (a.1 1 2))) 58 44 (nI (a.1 1 0))) 58 45 (nI (a.1 1 1))).1 c k = s2.1 c k := fun c k e => by rw [vput_ne (Or.inl e), vput_ne (Or.inl e), vput_ne (Or.inl e)]
  have nf : ∀ k, ¬ (43 ≤ k ∧ k ≤ 45) → (vput (vput (vput s2 58 43 (nI (a.1 1 2))) 58 44 (nI (a.1 1 0))) 58 45 (nI (a.1 1 1))).1 58 k = s2.1 58 k := fun k e => by rw [vput_ne (Or.inr (by omega)), vput_ne (Or.inr (by omega)), vput_ne (Or.inr (by omega))]
  have kept : ∀ c k x, 12 ≤ c → c ≤ 18 → σ.1 (c + 60) k = nI (a.1 c k) → σ.1 (c + 51) k = nI (a.1 (c - 9) k) → x = c + 60 → (vput (vput (vput s2 58 43 (nI (a.1 1 2))) 58 44 (nI (a.1 1 0))) 58 45 (nI (a.1 1 1))).1 x k = nI ((vimg a).1 c k) := fun c k x h1 h2 e1 e2 ex => by
    subst ex
    rw [nc _ _ (by omega)]
    show _ = nI (if c = 10 ∧ k ≤ 2 then a.1 1 k else if 11 ≤ c ∧ c ≤ 18 ∧ k < vsl9 (c - 9) then a.1 (c - 9) k else if c = 0 ∧ k = 2 then 1 else a.1 c k)
    rw [if_neg (show ¬ (c = 10 ∧ k ≤ 2) by omega), if_neg (show ¬ (c = 0 ∧ k = 2) by omega)]
    by_cases e : k < vsl9 (c - 9)
    · rw [if_pos ⟨by omega, by omega, e⟩, hK.inn (by omega) (show k < vsl9 (c + 60 - 69) by rw [show c + 60 - 69 = c - 9 by omega]; exact e), show c + 60 - 9 = c + 51 by omega]
      exact e2
    · rw [if_neg (fun q => e q.2.2), hK.out (show ¬ k < vsl9 (c + 60 - 69) by rw [show c + 60 - 69 = c - 9 by omega]; exact e)]
      exact e1
  refine ⟨⟨?_, ?_, ?_, ?_, ?_⟩, fun k hk => ?_, fun k => ?_, fun t ht => ?_, ⟨?_, ?_, ?_, fun k => ?_⟩, fun s hs => ?_⟩
  · rw [nf _ (by decide), hK.src (by decide), vimg_o (by omega)]; exact p1
  · rw [nf _ (by decide), hK.src (by decide), vimg_o (by omega)]; exact p2
  · rw [nf _ (by decide), hK.src (by decide), vimg_o (by omega)]; exact p3
  · rw [nf _ (by decide), hK.src (by decide), vimg_o (by omega)]; exact p4
  · rw [nf _ (by decide), hK.src (by decide), vimg_o (by omega)]; exact p5
  · rw [vimg_o (by omega)] at hk
    rw [nc _ _ (by decide), hK.src (by decide), vimg_o (by omega)]; exact g2 k hk
  · rw [nc _ _ (by decide), nc _ _ (by decide), nc _ _ (by decide), nc _ _ (by decide), nc _ _ (by decide), nc _ _ (by decide), nc _ _ (by decide), nc _ _ (by decide), hK.src (by decide), hK.src (by decide), hK.src (by decide), hK.src (by decide), hK.src (by decide), hK.src (by decide), hK.src (by decide), hK.src (by decide), vimg_o (by omega), vimg_o (by omega), vimg_o (by omega), vimg_o (by omega), vimg_o (by omega), vimg_o (by omega), vimg_o (by omega), vimg_o (by omega), vimg_o (by omega)]
    exact g3 k
  · rw [vimg_o (by omega)] at ht
    rw [nc _ _ (by decide), hK.src (by decide)]
    exact ⟨(g4 t ht).1, fun k hk => by rw [nc _ _ (by decide), hK.src (by decide)]; exact (g4 t ht).2 k hk⟩
  · show nI (a.1 1 2) = if (1 : Nat) = 0 then -1 else nI (a.1 1 2)
    rw [if_neg (by decide)]
  · rfl
  · rfl
  · obtain ⟨q1, q2, q3, q4, q5, q6, q7⟩ := k4 k
    obtain ⟨r1, r2, r3, r4, r5, r6, r7, r8⟩ := g3 k
    exact ⟨kept 12 k _ (by decide) (by decide) q1 r1 rfl, kept 13 k _ (by decide) (by decide) q2 r2 rfl, kept 14 k _ (by decide) (by decide) q3 r3 rfl, kept 15 k _ (by decide) (by decide) q4 r4 rfl, kept 16 k _ (by decide) (by decide) q5 r5 rfl, kept 17 k _ (by decide) (by decide) q6 r6 rfl, kept 18 k _ (by decide) (by decide) q7 r7 rfl⟩
  · obtain ⟨q1, q2⟩ := h6 s hs
    rw [vimg_o (by omega), vimg_o (by omega)]
    refine ⟨by rw [nc _ _ (by decide), hK.src (by decide)]; exact q1, fun z => ?_⟩
    obtain ⟨r1, r2, r3⟩ := q2 z
    exact ⟨by rw [nc _ _ (by decide), hK.src (by decide)]; exact r1, by rw [nc _ _ (by decide), hK.src (by decide)]; exact r2, fun k hk => by rw [nc _ _ (by decide), hK.src (by decide)]; exact r3 k hk⟩
theorem vRM.bckd {a : vα} {σ s2 : vM} (hR : vRM a σ) (hW : vWF a) (h1 : a.1 0 2 = 1) (hK : vKc σ s2 63 (fun c => c + 9) (fun c => vsl9 (c - 60))) : vRM (vbck a) (vput (vput (vput s2 58 11 (nI (a.1 10 2))) 58 7 (nI (a.1 10 0))) 58 4 (nI (a.1 10 1))) := by
  obtain ⟨⟨p1, p2, p3, p4, p5⟩, g2, g3, g4, ⟨k1, k2, k3, k4⟩, h6⟩ := hR
  obtain ⟨⟨-, -, wn⟩, -, -, -, -, wk⟩ := hW.2.2.2.2.2.2.2.2.2.2 h1
  have hn6 := hW.1.2.2
  have nc : ∀ c k, ¬ c = 58 → (vput (vput (vput s2 58 11 (nI (a.1 10 2))) 58 7 (nI (a.1 10 0))) 58 4 (nI (a.1 10 1))).1 c k = s2.1 c k := fun c k e => by rw [vput_ne (Or.inl e), vput_ne (Or.inl e), vput_ne (Or.inl e)]
  have nf : ∀ k, ¬ (k = 11 ∨ k = 7 ∨ k = 4) → (vput (vput (vput s2 58 11 (nI (a.1 10 2))) 58 7 (nI (a.1 10 0))) 58 4 (nI (a.1 10 1))).1 58 k = s2.1 58 k := fun k e => by rw [vput_ne (Or.inr (by omega)), vput_ne (Or.inr (by omega)), vput_ne (Or.inr (by omega))]
  have back : ∀ c k x, 3 ≤ c → c ≤ 9 → σ.1 (c + 60) k = nI (a.1 c k) → σ.1 (c + 69) k = nI (a.1 (c + 9) k) → x = c + 60 → (vput (vput (vput s2 58 11 (nI (a.1 10 2))) 58 7 (nI (a.1 10 0))) 58 4 (nI (a.1 10 1))).1 x k = nI ((vbck a).1 c k) := fun c k x h1 h2 e1 e2 ex => by
    subst ex
    rw [nc _ _ (by omega)]
    show _ = nI (if c = 1 ∧ k ≤ 2 then a.1 10 k else if 2 ≤ c ∧ c ≤ 9 ∧ k < vsl9 c then a.1 (c + 9) k else a.1 c k)
    rw [if_neg (show ¬ (c = 1 ∧ k ≤ 2) by omega)]
    by_cases e : k < vsl9 c
    · rw [if_pos ⟨by omega, by omega, e⟩, hK.inn (by omega) (show k < vsl9 (c + 60 - 60) by rw [show c + 60 - 60 = c by omega]; exact e), show c + 60 + 9 = c + 69 by omega]
      exact e2
    · rw [if_neg (fun q => e q.2.2), hK.out (show ¬ k < vsl9 (c + 60 - 60) by rw [show c + 60 - 60 = c by omega]; exact e)]
      exact e1
  have v12 : (vbck a).1 1 2 = a.1 10 2 := rfl
  refine ⟨⟨?_, ?_, ?_, ?_, ?_⟩, fun k hk => ?_, fun k => ?_, fun t ht => ?_, ⟨?_, ?_, ?_, fun k => ?_⟩, fun s hs => ?_⟩
  · rw [nf _ (by decide), hK.src (by decide), vbck_o (by omega)]; exact p1
  · rfl
  · rw [nf _ (by decide), hK.src (by decide), vbck_o (by omega)]; exact p3
  · rfl
  · rfl
  · rw [v12] at hk
    rw [nc _ _ (by decide), hK.src (by decide), g2 k (by omega), ← wk k hk]
    show _ = nI (if 2 = 1 ∧ k ≤ 2 then a.1 10 k else if 2 ≤ 2 ∧ 2 ≤ 9 ∧ k < vsl9 2 then a.1 (2 + 9) k else a.1 2 k)
    rw [if_neg (by omega), if_pos ⟨by decide, by decide, show k < 6 by omega⟩]
  · obtain ⟨q1, q2, q3, q4, q5, q6, q7⟩ := k4 k
    obtain ⟨r1, r2, r3, r4, r5, r6, r7, r8⟩ := g3 k
    exact ⟨back 3 k _ (by decide) (by decide) r1 q1 rfl, back 4 k _ (by decide) (by decide) r2 q2 rfl, back 5 k _ (by decide) (by decide) r3 q3 rfl, back 6 k _ (by decide) (by decide) r4 q4 rfl, back 7 k _ (by decide) (by decide) r5 q5 rfl, back 8 k _ (by decide) (by decide) r6 q6 rfl, back 9 k _ (by decide) (by decide) r7 q7 rfl, fun z => by rw [nc _ _ (by decide), hK.src (by decide), vbck_o (by omega)]; exact r8 (by rw [← vbck_o (a := a) (c := 38) (k := 0) (by omega)]; exact z)⟩
  · rw [vbck_o (by omega)] at ht
    rw [nc _ _ (by decide), hK.src (by decide)]
    exact ⟨(g4 t ht).1, fun k hk => by rw [nc _ _ (by decide), hK.src (by decide)]; exact (g4 t ht).2 k hk⟩
  · rw [nf _ (by decide), hK.src (by decide), vbck_o (by omega), vbck_o (by omega)]; exact k1
  · rw [nf _ (by decide), hK.src (by decide), vbck_o (by omega)]; exact k2
  · rw [nf _ (by decide), hK.src (by decide), vbck_o (by omega)]; exact k3
  · rw [nc _ _ (by decide), nc _ _ (by decide), nc _ _ (by decide), nc _ _ (by decide), nc _ _ (by decide), nc _ _ (by decide), nc _ _ (by decide), hK.src (by decide), hK.src (by decide), hK.src (by decide), hK.src (by decide), hK.src (by decide), hK.src (by decide), hK.src (by decide), vbck_o (by omega), vbck_o (by omega), vbck_o (by omega), vbck_o (by omega), vbck_o (by omega), vbck_o (by omega), vbck_o (by omega)]
    exact k4 k
  · obtain ⟨q1, q2⟩ := h6 s hs
    rw [vbck_o (by omega), vbck_o (by omega)]
    refine ⟨by rw [nc _ _ (by decide), hK.src (by decide)]; exact q1, fun z => ?_⟩
    obtain ⟨r1, r2, r3⟩ := q2 z
    exact ⟨by rw [nc _ _ (by decide), hK.src (by decide)]; exact r1, by rw [nc _ _ (by decide), hK.src (by decide)]; exact r2, fun k hk => by rw [nc _ _ (by decide), hK.src (by decide)]; exact r3 k hk⟩
def vN4 (lo l1 l2 l3 l4 c : Nat) : Nat := if c = lo ∨ c = lo + 1 then l1 else if c = lo + 2 then l2 else if c = lo + 3 ∨ c = lo + 4 then l3 else if c = lo + 5 ∨ c = lo + 6 then l4 else 0
theorem vKc.eqn {σ s2 : vM} {lo : Nat} {src n n' : Nat → Nat} (h : vKc σ s2 lo src n) (hn : ∀ c, lo ≤ c → c ≤ lo + 6 → n c = n' c) : vKc σ s2 lo src n' := fun c k => by
  rw [h c k]
  by_cases e : lo ≤ c ∧ c ≤ lo + 6
  · rw [hn c e.1 e.2]
  · rw [if_neg (fun q => e ⟨q.1, q.2.1⟩), if_neg (fun q => e ⟨q.1, q.2.1⟩)]
theorem vKc.ag {σ s2 : vM} {lo : Nat} {src n : Nat → Nat} (h : vKc σ s2 lo src n) (h1 : 58 ≤ lo) (h2 : lo + 6 ≤ 82) : vagI vRf σ s2 := fun c k hc => h.src (fun q => by
  have : vRf c k = true := by simp only [vRf, Bool.and_eq_true, Nat.ble_eq]; omega
  rw [this] at hc; cases hc)
theorem vKc.p1 {σ s2 : vM} {lo l : Nat} {src : Nat → Nat} (h : vKc σ s2 lo src (vN4 lo l 0 0 0)) : vKc σ (vput (vput s2 lo l (σ.1 (src lo) l)) (lo + 1) l (σ.1 (src (lo + 1)) l)) lo src (vN4 lo (l + 1) 0 0 0) := by
  refine vKc.put (n := fun c => if c = lo then l + 1 else vN4 lo l 0 0 0 c) (h.put (by omega) (by unfold vN4; rw [if_pos (by omega)]) (fun c => rfl)) (by omega) ?_ (fun c => ?_)
  · unfold vN4; rw [if_neg (by omega), if_pos (by omega)]
  · unfold vN4
    repeat' split
    all_goals omega
theorem vKc.p2 {σ s2 : vM} {lo l : Nat} {src : Nat → Nat} (h : vKc σ s2 lo src (vN4 lo 6 l 0 0)) : vKc σ (vput s2 (lo + 2) l (σ.1 (src (lo + 2)) l)) lo src (vN4 lo 6 (l + 1) 0 0) := by
  refine h.put (by omega) ?_ (fun c => ?_)
  · unfold vN4; rw [if_neg (by omega), if_pos (by omega)]
  · unfold vN4
    repeat' split
    all_goals omega
theorem vKc.p3 {σ s2 : vM} {lo l : Nat} {src : Nat → Nat} (h : vKc σ s2 lo src (vN4 lo 6 30 l 0)) : vKc σ (vput (vput s2 (lo + 3) l (σ.1 (src (lo + 3)) l)) (lo + 4) l (σ.1 (src (lo + 4)) l)) lo src (vN4 lo 6 30 (l + 1) 0) := by
  refine vKc.put (n := fun c => if c = lo + 3 then l + 1 else vN4 lo 6 30 l 0 c) (h.put (by omega) (by unfold vN4; rw [if_neg (by omega), if_neg (by omega), if_pos (by omega)]) (fun c => rfl)) (by omega) ?_ (fun c => ?_)
  · unfold vN4; rw [if_neg (by omega), if_neg (by omega), if_neg (by omega), if_pos (by omega)]
  · unfold vN4
    repeat' split
    all_goals omega
theorem vKc.p4 {σ s2 : vM} {lo l : Nat} {src : Nat → Nat} (h : vKc σ s2 lo src (vN4 lo 6 30 5 l)) : vKc σ (vput (vput s2 (lo + 5) l (σ.1 (src (lo + 5)) l)) (lo + 6) l (σ.1 (src (lo + 6)) l)) lo src (vN4 lo 6 30 5 (l + 1)) := by
  refine vKc.put (n := fun c => if c = lo + 5 then l + 1 else vN4 lo 6 30 5 l c) (h.put (by omega) (by unfold vN4; rw [if_neg (by omega), if_neg (by omega), if_neg (by omega), if_pos (by omega)]) (fun c => rfl)) (by omega) ?_ (fun c => ?_)
  · unfold vN4; rw [if_neg (by omega), if_neg (by omega), if_neg (by omega), if_neg (by omega), if_pos (by omega)]
  · unfold vN4
    repeat' split
    all_goals omega
theorem vN4_i {c : Nat} (h1 : 72 ≤ c) (h2 : c ≤ 72 + 6) : vN4 72 6 30 5 4 c = vsl9 (c - 69) := by
  rcases (show c = 72 ∨ c = 73 ∨ c = 74 ∨ c = 75 ∨ c = 76 ∨ c = 77 ∨ c = 78 by omega) with e | e | e | e | e | e | e <;> rw [e] <;> rfl
theorem vN4_b {c : Nat} (h1 : 63 ≤ c) (h2 : c ≤ 63 + 6) : vN4 63 6 30 5 4 c = vsl9 (c - 60) := by
  rcases (show c = 63 ∨ c = 64 ∨ c = 65 ∨ c = 66 ∨ c = 67 ∨ c = 68 ∨ c = 69 by omega) with e | e | e | e | e | e | e <;> rw [e] <;> rfl
theorem vN4_z {lo c : Nat} : vN4 lo 0 0 0 0 c = 0 := by
  unfold vN4
  simp only [ite_self]
section RIM
variable {Gx : Nat × (Nat → Int32)} {d D : Nat} {σ : vM} {post : vQ} {a : vα}
theorem vr_image (hR : vRM a σ) (h : ∀ σ', vagI vRf σ σ' → vRM (sImage a).2 σ' → post (some (.int (sImage a).1)) σ') : VM (true, Gx) d iX7_image 0 [some (.ref 58), none] [] σ post := by
  have g := fun {s2 : vM} {n : Nat → Nat} (h : vKc σ s2 72 (fun c => c - 9) n) (c k : Nat) (hc : ¬ (72 ≤ c ∧ c ≤ 72 + 6)) => (h.src (k := k) hc).symm
  have l4 : ∀ l, l ≤ 4 → ∀ s2, vKc σ s2 72 (fun c => c - 9) (vN4 72 6 30 5 l) → VM (true, Gx) d iX7_image 103 [some (.ref 58), some (.int (nI l))] [] s2 post := by
    refine vloop _ ?_ ?_
    · intro s2 hs
      have := h _ (((((hs.ag (by decide) (by decide)).put (a := 58) (k := 43) (v := nI (a.1 1 2)) rfl).put (a := 58) (k := 44) (v := nI (a.1 1 0)) rfl).put (a := 58) (k := 45) (v := nI (a.1 1 1)) rfl)) (hR.imgd (hs.eqn (fun c h1 h2 => vN4_i h1 h2)))
      have e1 : s2.1 58 11 = nI (a.1 1 2) := (hs.src (by decide)).trans hR.1.2.2.2.2
      have e2 : s2.1 58 7 = nI (a.1 1 0) := (hs.src (by decide)).trans hR.1.2.2.2.1
      have e3 : s2.1 58 4 = nI (a.1 1 1) := (hs.src (by decide)).trans hR.1.2.1
      unfold sImage at this
      dsimp only at this
      rw [← e1, ← e2, ← e3] at this
      exact VM.go [] ⟨fun _ => this, fun q => absurd (by decide) q⟩
    · intro l hl ih s2 hs
      have := ih _ hs.p4
      rw [show σ.1 ((fun c => c - 9) (72 + 5)) l = s2.1 68 l from g hs 68 l (by decide), show σ.1 ((fun c => c - 9) (72 + 6)) l = s2.1 69 l from g hs 69 l (by decide), ← nI_1] at this
      exact VM.go [103] ⟨fun q => absurd q (nI_ge hl (by decide)), fun _ => ⟨l, rfl, by omega, nofun, l, rfl, by omega, l, rfl, by omega, nofun, l, rfl, by omega, this⟩⟩
  have l3 : ∀ l, l ≤ 5 → ∀ s2, vKc σ s2 72 (fun c => c - 9) (vN4 72 6 30 l 0) → VM (true, Gx) d iX7_image 66 [some (.ref 58), some (.int (nI l))] [] s2 post := by
    refine vloop _ ?_ ?_
    · intro s2 hs
      exact VM.go [103] ⟨fun _ => l4 0 (Nat.zero_le _) s2 hs, fun q => absurd (by decide) q⟩
    · intro l hl ih s2 hs
      have := ih _ hs.p3
      rw [show σ.1 ((fun c => c - 9) (72 + 3)) l = s2.1 66 l from g hs 66 l (by decide), show σ.1 ((fun c => c - 9) (72 + 4)) l = s2.1 67 l from g hs 67 l (by decide), ← nI_1] at this
      exact VM.go [66] ⟨fun q => absurd q (nI_ge hl (by decide)), fun _ => ⟨l, rfl, by omega, nofun, l, rfl, by omega, l, rfl, by omega, nofun, l, rfl, by omega, this⟩⟩
  have l2 : ∀ l, l ≤ 30 → ∀ s2, vKc σ s2 72 (fun c => c - 9) (vN4 72 6 l 0 0) → VM (true, Gx) d iX7_image 40 [some (.ref 58), some (.int (nI l))] [] s2 post := by
    refine vloop _ ?_ ?_
    · intro s2 hs
      exact VM.go [66] ⟨fun _ => l3 0 (Nat.zero_le _) s2 hs, fun q => absurd (by decide) q⟩
    · intro l hl ih s2 hs
      have := ih _ hs.p2
      rw [show σ.1 ((fun c => c - 9) (72 + 2)) l = s2.1 65 l from g hs 65 l (by decide), ← nI_1] at this
      exact VM.go [40] ⟨fun q => absurd q (nI_ge hl (by decide)), fun _ => ⟨l, rfl, by omega, nofun, l, rfl, by omega, this⟩⟩
  have l1 : ∀ l, l ≤ 6 → ∀ s2, vKc σ s2 72 (fun c => c - 9) (vN4 72 l 0 0 0) → VM (true, Gx) d iX7_image 2 [some (.ref 58), some (.int (nI l))] [] s2 post := by
    refine vloop _ ?_ ?_
    · intro s2 hs
      exact VM.go [40] ⟨fun _ => l2 0 (Nat.zero_le _) s2 hs, fun q => absurd (by decide) q⟩
    · intro l hl ih s2 hs
      have := ih _ hs.p1
      rw [show σ.1 ((fun c => c - 9) 72) l = s2.1 63 l from g hs 63 l (by decide), show σ.1 ((fun c => c - 9) (72 + 1)) l = s2.1 64 l from g hs 64 l (by decide), ← nI_1] at this
      exact VM.go [2] ⟨fun q => absurd q (nI_ge hl (by decide)), fun _ => ⟨l, rfl, by omega, nofun, l, rfl, by omega, l, rfl, by omega, nofun, l, rfl, by omega, this⟩⟩
  exact VM.go [2] (l1 0 (Nat.zero_le _) σ (vKc.rf (fun c => vN4_z)))
theorem vr_back (hR : vRM a σ) (hW : vWF a) (h : ∀ σ', vagI vRf σ σ' → vRM (sBack a).2 σ' → post (some (.int (sBack a).1)) σ') : VM (true, Gx) d iX7_back 0 [some (.ref 58), none] [] σ post := by
  obtain ⟨k1, k2, k3, k4⟩ := hR.2.2.2.2.1
  by_cases z : a.1 0 2 = 0
  · have er : sBack a = (-3, a) := if_pos z
    rw [if_pos z] at k1
    have := h σ vagI.rf (by rw [er]; exact hR)
    rw [er] at this
    exact VM.go [] ⟨fun q => absurd k1 q, fun _ => this⟩
  · have er : sBack a = (nI (a.1 10 2), vbck a) := if_neg z
    have z1 : a.1 0 2 = 1 := by have := hW.2.2.2.2.2.2.2.2.2.1; omega
    rw [if_neg z] at k1
    rw [er] at h
    obtain ⟨⟨-, -, wn⟩, -⟩ := hW.2.2.2.2.2.2.2.2.2.2 z1
    have hn6 := hW.1.2.2
    have ne : ¬ σ.1 58 43 = -1 := by
      rw [k1]
      exact fun q => absurd (show nI (a.1 10 2) < 0 by rw [q]; decide) (nI_pos (by omega))
    have g := fun {s2 : vM} {n : Nat → Nat} (h : vKc σ s2 63 (fun c => c + 9) n) (c k : Nat) (hc : ¬ (63 ≤ c ∧ c ≤ 63 + 6)) => (h.src (k := k) hc).symm
    have l4 : ∀ l, l ≤ 4 → ∀ s2, vKc σ s2 63 (fun c => c + 9) (vN4 63 6 30 5 l) → VM (true, Gx) d iX7_back 114 [some (.ref 58), some (.int (nI l))] [] s2 post := by
      refine vloop _ ?_ ?_
      · intro s2 hs
        have := h _ (((((hs.ag (by decide) (by decide)).put (a := 58) (k := 11) (v := nI (a.1 10 2)) rfl).put (a := 58) (k := 7) (v := nI (a.1 10 0)) rfl).put (a := 58) (k := 4) (v := nI (a.1 10 1)) rfl)) (hR.bckd hW z1 (hs.eqn (fun c h1 h2 => vN4_b h1 h2)))
        have e1 : s2.1 58 43 = nI (a.1 10 2) := (hs.src (by decide)).trans k1
        have e2 : s2.1 58 44 = nI (a.1 10 0) := (hs.src (by decide)).trans k2
        have e3 : s2.1 58 45 = nI (a.1 10 1) := (hs.src (by decide)).trans k3
        dsimp only at this
        rw [← e1, ← e2, ← e3] at this
        exact VM.go [] ⟨fun _ => this, fun q => absurd (by decide) q⟩
      · intro l hl ih s2 hs
        have := ih _ hs.p4
        rw [show σ.1 ((fun c => c + 9) (63 + 5)) l = s2.1 77 l from g hs 77 l (by decide), show σ.1 ((fun c => c + 9) (63 + 6)) l = s2.1 78 l from g hs 78 l (by decide), ← nI_1] at this
        exact VM.go [114] ⟨fun q => absurd q (nI_ge hl (by decide)), fun _ => ⟨l, rfl, by omega, nofun, l, rfl, by omega, l, rfl, by omega, nofun, l, rfl, by omega, this⟩⟩
    have l3 : ∀ l, l ≤ 5 → ∀ s2, vKc σ s2 63 (fun c => c + 9) (vN4 63 6 30 l 0) → VM (true, Gx) d iX7_back 77 [some (.ref 58), some (.int (nI l))] [] s2 post := by
      refine vloop _ ?_ ?_
      · intro s2 hs
        exact VM.go [114] ⟨fun _ => l4 0 (Nat.zero_le _) s2 hs, fun q => absurd (by decide) q⟩
      · intro l hl ih s2 hs
        have := ih _ hs.p3
        rw [show σ.1 ((fun c => c + 9) (63 + 3)) l = s2.1 75 l from g hs 75 l (by decide), show σ.1 ((fun c => c + 9) (63 + 4)) l = s2.1 76 l from g hs 76 l (by decide), ← nI_1] at this
        exact VM.go [77] ⟨fun q => absurd q (nI_ge hl (by decide)), fun _ => ⟨l, rfl, by omega, nofun, l, rfl, by omega, l, rfl, by omega, nofun, l, rfl, by omega, this⟩⟩
    have l2 : ∀ l, l ≤ 30 → ∀ s2, vKc σ s2 63 (fun c => c + 9) (vN4 63 6 l 0 0) → VM (true, Gx) d iX7_back 51 [some (.ref 58), some (.int (nI l))] [] s2 post := by
      refine vloop _ ?_ ?_
      · intro s2 hs
        exact VM.go [77] ⟨fun _ => l3 0 (Nat.zero_le _) s2 hs, fun q => absurd (by decide) q⟩
      · intro l hl ih s2 hs
        have := ih _ hs.p2
        rw [show σ.1 ((fun c => c + 9) (63 + 2)) l = s2.1 74 l from g hs 74 l (by decide), ← nI_1] at this
        exact VM.go [51] ⟨fun q => absurd q (nI_ge hl (by decide)), fun _ => ⟨l, rfl, by omega, nofun, l, rfl, by omega, this⟩⟩
    have l1 : ∀ l, l ≤ 6 → ∀ s2, vKc σ s2 63 (fun c => c + 9) (vN4 63 l 0 0 0) → VM (true, Gx) d iX7_back 13 [some (.ref 58), some (.int (nI l))] [] s2 post := by
      refine vloop _ ?_ ?_
      · intro s2 hs
        exact VM.go [51] ⟨fun _ => l2 0 (Nat.zero_le _) s2 hs, fun q => absurd (by decide) q⟩
      · intro l hl ih s2 hs
        have := ih _ hs.p1
        rw [show σ.1 ((fun c => c + 9) 63) l = s2.1 72 l from g hs 72 l (by decide), show σ.1 ((fun c => c + 9) (63 + 1)) l = s2.1 73 l from g hs 73 l (by decide), ← nI_1] at this
        exact VM.go [13] ⟨fun q => absurd q (nI_ge hl (by decide)), fun _ => ⟨l, rfl, by omega, nofun, l, rfl, by omega, l, rfl, by omega, nofun, l, rfl, by omega, this⟩⟩
    exact VM.go [13] ⟨fun _ => l1 0 (Nat.zero_le _) σ (vKc.rf (fun c => vN4_z)), fun q => absurd q ne⟩
end RIM
