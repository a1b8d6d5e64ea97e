/-! ===== THE REFERENCE'S CONSTRUCTOR: its contract ===== -/
section X7M
variable {cI cZ cU cO : ClassId} {D : va_G} {ad u : Nat → Nat} {h0 : Nat} {σ : vM} {Gx : Nat × (Nat → Int32)} {A : Nat → Prop} {H : Heap}
theorem vw7_P (h1 : σ.1 38 2 = 20) (h2 : σ.1 40 1 = 20) (h : va_P D vwCl ((h0, .inr (7, vfs7 u)) :: (vwd (false, Gx) ad (vcA cI cZ cU cO) σ ++ var7 cI cZ u)) H) : va_P D vwCl (vwd (true, Gx) (vad7 ad h0 u) (vcA cI cZ cU cO) (vm7 σ)) H := by
  intro k q hk
  have hl : k < 83 := by
    rcases Nat.lt_or_ge k 83 with h | h
    · exact h
    · rw [List.getElem?_eq_none (by simp [vwd, vsz]; omega)] at hk; cases hk
  rw [vwd_get (G := (true, Gx)) hl] at hk
  cases hk
  exact h _ _ (vw7_at h1 h2 k hl)
theorem vw7_D (h1 : σ.1 38 2 = 20) (h2 : σ.1 40 1 = 20) (h : va_D A ((h0, .inr (7, vfs7 u)) :: (vwd (false, Gx) ad (vcA cI cZ cU cO) σ ++ var7 cI cZ u))) (σ' : vM) : va_D A (vwd (true, Gx) (vad7 ad h0 u) (vcA cI cZ cU cO) σ') := by
  have lt : ∀ {k : Nat} {q : Nat × va_E}, (vwd (true, Gx) (vad7 ad h0 u) (vcA cI cZ cU cO) σ')[k]? = some q → k < 83 ∧ q.1 = vad7 ad h0 u k := fun {k q} hk => by
    have hl : k < 83 := by
      rcases Nat.lt_or_ge k 83 with h | h
      · exact h
      · rw [List.getElem?_eq_none (by simp [vwd, vsz]; omega)] at hk; cases hk
    rw [vwd_get (G := (true, Gx)) hl] at hk
    cases hk
    exact ⟨hl, rfl⟩
  refine ⟨fun i j p q hi hj e => ?_, fun k q hk => ?_⟩
  · obtain ⟨hi', ei⟩ := lt hi
    obtain ⟨hj', ej⟩ := lt hj
    exact vpr7_inj (h.1 _ _ _ _ (vw7_at h1 h2 i hi') (vw7_at h1 h2 j hj') (by rw [← ei, ← ej]; exact e))
  · obtain ⟨hk', ek⟩ := lt hk
    rw [ek]
    exact h.2 _ _ (vw7_at h1 h2 k hk')
end X7M
theorem vCn.ad83 {G : vG} {ad ad' : Nat → Nat} {ef : Value} {A : Nat → Prop} {U : State} {H : Heap} (ha : ∀ i, 83 ≤ i → ad' i = ad i) (h : vCn G ad ef A U H) : vCn G ad' ef A U H := by
  obtain ⟨h1, h2, h3, h4, h5, h6, h7, h8, h9, h10⟩ := h
  have e1 : (fun i => ad' (1000 + i)) = fun i => ad (1000 + i) := funext fun i => ha _ (by omega)
  have e2 : (fun i => ad' (1002 + i)) = fun i => ad (1002 + i) := funext fun i => ha _ (by omega)
  refine ⟨by rw [e1, e2]; exact h1, by rw [ha 1000 (by decide)]; exact h2, by rw [ha 1001 (by decide)]; exact h3, by rw [ha 1004 (by decide)]; exact h4, by rw [ha 1005 (by decide)]; exact h5, by rw [ha 1006 (by decide)]; exact h6, h7, h8, h9, fun r t n f hr => ?_⟩
  have hr' : 83 ≤ r := by
    unfold vcon at hr
    split at hr <;> first | omega | cases hr
  rw [ha r hr']
  exact h10 r t n f hr
/-- what the reference's constructor takes as given -/
def vEx7 (Gx : Nat × (Nat → Int32)) (ad : Nat → Nat) (ef : Value) (ws : va_W) (sz : Nat) (U : State) : Prop := vCn (true, Gx) ad ef (va_A ws sz) U U.heap
abbrev vx7 (Gx : Nat × (Nat → Int32)) (ad : Nat → Nat) (cA : Nat → ClassId) (σ : vM) (h0 : Nat) : va_W := (h0, .inr (7, vdf7)) :: vwd (false, Gx) ad cA σ
def vgood7 (ad : Nat → Nat) (h0 : Nat) (u : (Nat → Nat) × vM) : Prop := vRC va0 u.2 ∧ vRM va0 u.2 ∧ u.1 58 = h0 ∧ ∀ i, i < 58 ∨ 83 ≤ i → u.1 i = ad i
set_option maxRecDepth 100000 in
set_option maxHeartbeats 4000000 in
theorem vk_X7 (l : Launch) (D : va_G) (cI cZ cU cO : ClassId) (Gx : Nat × (Nat → Int32)) (ad : Nat → Nat) (ef : Value) (h0 sz : Nat) (σ : vM) (hC : vRC va0 σ) (h1 : σ.1 38 2 = 20) (h2 : σ.1 40 1 = 20) : Met l (vYn 107) (vws 107) vrm7 (vkPc D (vtyC cI cZ cU cO) [.ref h0] (vx7 Gx ad (vcA cI cZ cU cO) σ h0) sz (vEx7 Gx ad ef (vx7 Gx ad (vcA cI cZ cU cO) σ h0) sz)) (vkQc D (vx7 Gx ad (vcA cI cZ cU cO) σ h0) sz (vgood7 ad h0) (fun u => vwd (true, Gx) u.1 (vcA cI cZ cU cO) u.2)) 24 5430 (va_A (vx7 Gx ad (vcA cI cZ cU cO) σ h0) sz) := by
  refine vk_met (oi := 7) (by decide) (by decide +kernel) rfl rfl (Nat.le_of_ble_eq_true rfl) (Nat.le_of_ble_eq_true rfl) (Nat.le_of_ble_eq_true rfl) (by decide +kernel) (by decide +kernel) (List.mem_of_getElem? (i := 242) rfl) rfl rfl (fun p e s m args below meth c A Q ls hsz hF hAi hAo hE hin hW hl hk => ?_)
  refine vk_X7walk hF hin hW hl (fun u H locs hW => ?_)
  obtain ⟨f1, f2, f3, f4, f5, f6, f7⟩ := id hF
  have hP := vw7_P (D := D) (cZ := cZ) h1 h2 hW.1
  have hD := vw7_D (cZ := cZ) h1 h2 hW.2.1
  obtain ⟨ad', had⟩ : ∃ ad', ad' = vad7 ad h0 u := ⟨_, rfl⟩
  have e58 : ad' 58 = h0 := by rw [had]; rfl
  have eo : ∀ i, i < 58 ∨ 83 ≤ i → ad' i = ad i := fun i hi => by
    rw [had]
    rcases hi with hi | hi
    · exact vad7_lo hi
    · exact vad7_hi hi
  rw [← had] at hP hD
  have hC' : vCn (true, Gx) ad' ef A s s.heap := by
    have hE' : vCn (true, Gx) ad ef (va_A (vx7 Gx ad (vcA cI cZ cU cO) σ h0) sz) s s.heap := hE
    exact (hE'.ad83 (fun i hi => eo i (Or.inr hi))).nar (fun q hq => hAo q hq)
  have hVM : VM (true, Gx) 2 107 194 [some (.ref 58)] [] (vm7 σ) (fun v σ' => v = none ∧ vRC va0 σ' ∧ vRM va0 σ') := by
    refine vr_init (d := 1) (fun c k hc => ?_) (hC.off va0_inv.1 (fun c k hc => ?_)) (fun σ' c1 c2 => ⟨rfl, c1, c2⟩)
    · show (bif Nat.ble c 57 then σ.1 c k else bif Nat.beq c 58 && Nat.beq k 43 then -1 else 0) = _
      rw [show Nat.ble c 57 = false from by cases hb : Nat.ble c 57 with | false => rfl | true => exact absurd (Nat.le_of_ble_eq_true hb) (by omega)]
      by_cases z : c = 58 ∧ k = 43
      · rw [if_pos z, z.1, z.2]; rfl
      · rw [if_neg z]
        have : (Nat.beq c 58 && Nat.beq k 43) = false := by
          cases hb : (Nat.beq c 58 && Nat.beq k 43) with
          | false => rfl
          | true =>
            simp only [Bool.and_eq_true, vbq] at hb
            exact absurd hb z
        rw [this]; rfl
    · show (bif Nat.ble c 57 then σ.1 c k else bif Nat.beq c 58 && Nat.beq k 43 then -1 else 0) = _
      rw [Nat.ble_eq_true_of_le (by omega)]; rfl
  refine VM_sound (l := l) hVM p e vrm7 s m args below meth c A ad' (vcA cI cZ cU cO) D ef 24 5430 Q ⟨f1, f2, f3, f4, f5, vcA_t f6, hC', f7, hD, ⟨Nat.le_of_ble_eq_true rfl, Nat.le_of_ble_eq_true rfl, Nat.le_of_ble_eq_true rfl, Nat.le_of_ble_eq_true rfl⟩⟩ (fun H locs L pc v σ' i hp hd hrt hP' hS' => ?_) H locs ls hP hW.2.2 ⟨hl.1, hl.2.1, fun i v hv => ?_⟩ rfl
  · obtain ⟨hv, c1, c2⟩ := hp
    subst hv
    rcases hrt with ⟨-, x, ty, h, -⟩ | ⟨-, x, h, -⟩ | ⟨-, x, rt, h, -⟩ | ⟨rfl, -, -⟩
    · cases h
    · cases h
    · cases h
    · exact hk H locs L pc (ad', σ') ⟨c1, c2, e58, eo⟩ hd ⟨hP', hD σ', hS'⟩
  · match i, hv with
    | 0, hv => cases hv; rw [vcv_r]; show ls[0]? = some (.val (.ref (ad' 58))); rw [e58]; exact lv_at hl 0 rfl
    | i + 1, hv => simp [vget] at hv
