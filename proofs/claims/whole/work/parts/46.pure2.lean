/-! ===== the code of a text, part by part ===== -/
def vpsk (b : List Nat) : Nat → vPS
  | 0 => vp0 b
  | k + 1 => vpPart b k (vpsk b k)
theorem vpsk_0 (b : List Nat) : vpsk b 0 = vp0 b := rfl
theorem vpsk_s (b : List Nat) (k : Nat) : vpsk b (k + 1) = vpPart b k (vpsk b k) := rfl
theorem vpsk_1 (b : List Nat) : vpsk b 1 = vpPart b 0 (vp0 b) := rfl
theorem vpsk_2 (b : List Nat) : vpsk b 2 = vpPart b 1 (vpsk b 1) := rfl
theorem vpsk_3 (b : List Nat) : vpsk b 3 = vpPart b 2 (vpsk b 2) := rfl
theorem vp1_sk (b : List Nat) : vp1 b = vpsk b 1 := by
  rw [vpsk_1]; unfold vp1; rfl
theorem vp2_sk (b : List Nat) : vp2 b = vpsk b 2 := by
  rw [vpsk_2, ← vp1_sk]; unfold vp2; rfl
theorem vp3_sk (b : List Nat) : vp3 b = vpsk b 3 := by
  rw [vpsk_3, ← vp2_sk]; unfold vp3; rfl
theorem vpEnd_sk (b : List Nat) : vpEnd b = if vpT (vpsk b 3) = 0 then vpsk b 3 else vpFail (vpsk b 3) := by
  unfold vpEnd; rw [vp3_sk]
theorem vnn_sk (b : List Nat) : vnn b = if (-4 : Int32) ∈ vpC (vpsk b 3) then 1 else 0 := by
  unfold vnn; rw [vp3_sk]
theorem vcomp_0 (b : List Nat) : vcomp b 0 = vpC (vpsk b 1) := by
  rw [← vp1_sk]; unfold vcomp; rfl
theorem vcomp_1 (b : List Nat) : vcomp b 1 = (vpC (vpsk b 2)).drop (vpC (vpsk b 1)).length := by
  rw [← vp1_sk, ← vp2_sk]; unfold vcomp; rfl
theorem vcomp_2 (b : List Nat) : vcomp b 2 = (vpC (vpsk b 3)).drop (vpC (vpsk b 2)).length := by
  rw [← vp3_sk, ← vp2_sk]; unfold vcomp; rfl
theorem vpFail_F (s : vPS) : vpF (vpFail s) = (match vpF s with | none => some (vpP s) | some f => some f) := rfl
theorem vpFail_no (s : vPS) : ¬ vpF (vpFail s) = none := by
  rw [vpFail_F]
  cases vpF s <;> exact fun q => by cases q
theorem vpsk_pre (b : List Nat) {i j : Nat} (h : i ≤ j) : vpC (vpsk b i) <+: vpC (vpsk b j) := by
  induction j with
  | zero =>
    have : i = 0 := by omega
    rw [this]; exact List.prefix_refl _
  | succ j ih =>
    by_cases e : i = j + 1
    · rw [e]; exact List.prefix_refl _
    · have h1 := ih (by omega)
      have h2 := (vp_prefix b).2.2 j (vpsk b j)
      rw [← vpsk_s] at h2
      exact h1.trans h2
theorem vend_0 (cs : Nat → List Int32) : vend cs 0 = (cs 0).length := rfl
theorem vend_s (cs : Nat → List Int32) (p : Nat) : vend cs (p + 1) = vend cs p + (cs (p + 1)).length := rfl
theorem vend_comp (b : List Nat) : ∀ p, p < 3 → vend (vcomp b) p = (vpC (vpsk b (p + 1))).length := by
  have l1 := (vpsk_pre b (show 1 ≤ 2 by decide)).length_le
  have l2 := (vpsk_pre b (show 2 ≤ 3 by decide)).length_le
  have e0 : vend (vcomp b) 0 = (vpC (vpsk b 1)).length := by rw [vend_0, vcomp_0]
  have e1 : vend (vcomp b) 1 = (vpC (vpsk b 2)).length := by
    rw [vend_s, e0, vcomp_1, List.length_drop]; omega
  have e2 : vend (vcomp b) 2 = (vpC (vpsk b 3)).length := by
    rw [vend_s, e1, vcomp_2, List.length_drop]; omega
  intro p hp
  rcases (show p = 0 ∨ p = 1 ∨ p = 2 by omega) with h | h | h
  · rw [h, e0, Nat.zero_add]
  · rw [h, e1, show 1 + 1 = 2 from rfl]
  · rw [h, e2, show 2 + 1 = 3 from rfl]
theorem vpre_getD {l m : List Int32} {k : Nat} (h : l <+: m) (hk : k < l.length) : l.getD k 0 = m.getD k 0 := by
  obtain ⟨t, rfl⟩ := h
  rw [List.getD_eq_getElem?_getD, List.getD_eq_getElem?_getD, List.getElem?_append_left hk]
theorem vbeg_0 (cs : Nat → List Int32) : vbeg cs 0 = 0 := rfl
theorem vbeg_s (cs : Nat → List Int32) (p : Nat) : vbeg cs (p + 1) = vend cs p := rfl
theorem vdrop_getD {l m : List Int32} {n k : Nat} (h : l <+: m) (hk : k < (l.drop n).length) : (l.drop n).getD k 0 = m.getD (n + k) 0 ∧ n + k < m.length := by
  rw [List.length_drop] at hk
  have := h.length_le
  refine ⟨?_, by omega⟩
  rw [List.getD_eq_getElem?_getD, List.getElem?_drop, ← List.getD_eq_getElem?_getD]
  exact vpre_getD h (by omega)
theorem vcode_comp (b : List Nat) : ∀ p, p < 3 → ∀ k, k < (vcomp b p).length → (vcomp b p).getD k 0 = (vpC (vpsk b 3)).getD (vbeg (vcomp b) p + k) 0 ∧ vbeg (vcomp b) p + k < (vpC (vpsk b 3)).length := by
  have p13 := vpsk_pre b (show 1 ≤ 3 by decide)
  have p23 := vpsk_pre b (show 2 ≤ 3 by decide)
  have l1 := p13.length_le
  have e0 := vend_comp b 0 (by decide)
  have e1 := vend_comp b 1 (by decide)
  rw [Nat.zero_add] at e0
  rw [show 1 + 1 = 2 from rfl] at e1
  intro p hp k hk
  rcases (show p = 0 ∨ p = 1 ∨ p = 2 by omega) with h | h | h
  · rw [h] at hk ⊢
    rw [vcomp_0] at hk ⊢
    rw [vbeg_0, Nat.zero_add]
    exact ⟨vpre_getD p13 hk, by omega⟩
  · rw [h] at hk ⊢
    rw [vcomp_1] at hk ⊢
    rw [vbeg_s, e0]
    exact vdrop_getD p23 hk
  · rw [h] at hk ⊢
    rw [vcomp_2] at hk ⊢
    rw [vbeg_s, e1]
    exact vdrop_getD (List.prefix_refl _) hk
theorem vJ_part {b : List Nat} {m k : Nat} {s : vPS} (h : vJ m (vpExp b (nI (6 + k)) s)) : vJ m (vpPart b k s) := by
  unfold vpPart
  exact vJ_exp (((vJ_rel b) 5 _).2 (vFT_exp b _ s) m h)
theorem vp_back {b : List Nat} {k : Nat} {s : vPS} (h : vpF (vpPart b k s) = none) : vpF s = none := by
  cases hs : vpF s with
  | none => rfl
  | some f => rw [(vp_stick b).2.2 k s f hs] at h; cases h
theorem vp_bac2 {b : List Nat} {k : Nat} {s : vPS} (h : vpF (vpPart b k s) = none) : vpF (vpExp b (nI (6 + k)) s) = none := by
  cases hs : vpF (vpExp b (nI (6 + k)) s) with
  | none => rfl
  | some f =>
    have h1 := (vp_stick b).1 5 _ f hs
    have h2 := (vp_stick b).2.1 59 _ f h1
    unfold vpPart at h
    rw [h2] at h; cases h
theorem vp0_F (b : List Nat) : vpF (vp0 b) = none := rfl
/-- a text of no fault: the three parts without one -/
theorem vfault_no {b : List Nat} (hf : vfault b = none) : vpT (vpsk b 3) = 0 ∧ vpF (vpsk b 3) = none := by
  unfold vfault at hf
  rw [vpEnd_sk] at hf
  by_cases q : vpT (vpsk b 3) = 0
  · rw [if_pos q] at hf; exact ⟨q, hf⟩
  · rw [if_neg q] at hf; exact absurd hf (vpFail_no _)
/-- with no fault the code isn't full -/
theorem vp_room {b : List Nat} (hb : b.length ≤ 160) (hN : vpN (vpsk b 3) ≤ b.length) (hf : vfault b = none) : (vpC (vpsk b 3)).length < 160 := by
  have hF3 := (vfault_no hf).2
  rw [vpsk_3] at hF3
  have hF2 := vp_back hF3
  rw [vpsk_2] at hF2
  have hF1 := vp_back hF2
  rw [vpsk_1] at hF1
  have hE := vp_bac2 hF1
  have j00 : vJ 0 ((0, 0, 0, 0, none, []) : vPS) := ⟨Nat.le_refl _, fun q => absurd rfl q.1⟩
  have j0 : vJ 0 (vp0 b) := by unfold vp0; exact (vJ_adv j00).1
  have h6 : vpT (vp0 b) = nI (6 + 0) := by
    refine Classical.byContradiction (fun q => ?_)
    unfold vpExp at hE
    rw [if_neg q] at hE
    exact vpFail_no _ hE
  have j1 : vJ 1 (vpExp b (nI (6 + 0)) (vp0 b)) := by
    unfold vpExp
    rw [if_pos h6]
    exact (vJ_adv j0).2 (vlive_of h6 (by decide) (by decide)) (vp0_F b)
  have k1 : vJ 1 (vpsk b 1) := by rw [vpsk_1]; exact vJ_part j1
  have k2 : vJ 1 (vpsk b 2) := by rw [vpsk_2]; exact vJ_part (vJ_exp k1)
  have k3 : vJ 1 (vpsk b 3) := by rw [vpsk_3]; exact vJ_part (vJ_exp k2)
  have := k3.1
  omega
/-- places stay within the text -/
def vpl (b : List Nat) (s : vPS) : Prop := vpN s ≤ b.length ∧ vpP s ≤ b.length ∧ ∀ f, vpF s = some f → f ≤ b.length
theorem vlex_pl {b : List Nat} {i : Nat} (hi : i ≤ b.length) : (vlex b i).2.2.1 ≤ b.length ∧ (vlex b i).2.2.2 ≤ b.length := by
  obtain ⟨p, hp⟩ : ∃ p, p = vspan vblank b b.length i := ⟨_, rfl⟩
  have hpl : p ≤ b.length := by rw [hp]; exact (vspan_le _ _ hi).2
  cases hc : b[p]? with
  | none => rw [vlex_none hp hc]; exact ⟨hpl, hpl⟩
  | some c =>
    have hlt : p < b.length := (List.getElem?_eq_some_iff.mp hc).1
    by_cases hl : vletter c = true
    · rw [vlex_let hp hc hl]; exact ⟨hpl, (vspan_le _ _ hpl).2⟩
    · have hl' : vletter c = false := by simpa using hl
      by_cases hd : vdigit c = true
      · rw [vlex_num hp hc hl' hd]; exact ⟨hpl, (vspan_le _ _ hpl).2⟩
      · have hd' : vdigit c = false := by simpa using hd
        rw [vlex_sign hp hc hl' hd']; exact ⟨hpl, hlt⟩
theorem vpl_adv {b : List Nat} {s : vPS} (h : vpl b s) : vpl b (vpAdv b s) := by
  cases hf : vpF s with
  | some f =>
    have e : vpAdv b s = (vpN s, -1, vpV s, vpP s, some f, vpC s) := by unfold vpAdv; rw [hf]
    rw [e]
    exact ⟨h.1, h.2.1, fun g q => by cases q; exact h.2.2 f hf⟩
  | none =>
    have e : vpAdv b s = ((vlex b (vpN s)).2.2.2, (vlex b (vpN s)).1, (vlex b (vpN s)).2.1, (vlex b (vpN s)).2.2.1, none, vpC s) := by unfold vpAdv; rw [hf]
    rw [e]
    have := vlex_pl h.1
    exact ⟨this.2, this.1, fun g q => by cases q⟩
theorem vpl_fail {b : List Nat} {s : vPS} (h : vpl b s) : vpl b (vpFail s) := by
  refine ⟨h.1, h.2.1, fun f q => ?_⟩
  rw [vpFail_F] at q
  cases hf : vpF s with
  | none => rw [hf] at q; cases q; exact h.2.1
  | some g => rw [hf] at q; exact h.2.2 f (hf.trans q)
theorem vpl_part (b : List Nat) (k : Nat) (s : vPS) : vpl b s → vpl b (vpPart b k s) :=
  (vp_simple (b := b) (I := fun s t => vpl b s → vpl b t) (fun s h => h) (fun h1 h2 h => h2 (h1 h)) (fun s h => vpl_adv h) (fun c s h => h) (fun s h => vpl_fail h)).2.2 k s
theorem vpl_sk (b : List Nat) : ∀ k, vpl b (vpsk b k) := by
  intro k
  induction k with
  | zero => rw [vpsk_0]; unfold vp0; exact vpl_adv ⟨Nat.zero_le _, Nat.zero_le _, fun f q => by cases q⟩
  | succ k ih => rw [vpsk_s]; exact vpl_part b k _ ih
theorem vfault_le {b : List Nat} {f : Nat} (hb : b.length ≤ 160) (h : vfault b = some f) : f ≤ 160 := by
  have h3 := vpl_sk b 3
  unfold vfault at h
  rw [vpEnd_sk] at h
  by_cases q : vpT (vpsk b 3) = 0
  · rw [if_pos q] at h
    exact Nat.le_trans (h3.2.2 f h) hb
  · rw [if_neg q] at h
    exact Nat.le_trans ((vpl_fail h3).2.2 f h) hb
