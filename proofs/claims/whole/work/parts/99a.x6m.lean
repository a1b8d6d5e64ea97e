/-! ===== THE CLASS'S CONSTRUCTOR: its contract ===== -/
theorem vCn.ad {G : vG} {ad ad' : Nat → Nat} {ef : Value} {A : Nat → Prop} {U : State} {H : Heap} (ha : ∀ i, 58 ≤ i → ad' i = ad i) (h : vCn G ad ef A U H) : vCn G ad' ef A U H := by
  obtain ⟨h1, h2, h3, h4, h5, h6, h7, h8, h9, h10⟩ := h
  have e1 : (fun i => ad' (1000 + i)) = fun i => ad (1000 + i) := funext fun i => ha _ (by omega)
  have e2 : (fun i => ad' (1002 + i)) = fun i => ad (1002 + i) := funext fun i => ha _ (by omega)
  refine ⟨by rw [e1, e2]; exact h1, by rw [ha 1000 (by decide)]; exact h2, by rw [ha 1001 (by decide)]; exact h3, by rw [ha 1004 (by decide)]; exact h4, by rw [ha 1005 (by decide)]; exact h5, by rw [ha 1006 (by decide)]; exact h6, h7, h8, h9, fun r t n f hr => ?_⟩
  have hr' : 58 ≤ r := by
    unfold vcon at hr
    split at hr <;> first | omega | cases hr
  rw [ha r hr']
  exact h10 r t n f hr
theorem vCn.nar {G : vG} {ad : Nat → Nat} {ef : Value} {A B : Nat → Prop} {U : State} {H : Heap} (hAB : ∀ q, B q → A q) (h : vCn G ad ef A U H) : vCn G ad ef B U H := by
  obtain ⟨h1, h2, h3, h4, h5, h6, h7, h8, h9, h10⟩ := h
  exact ⟨h1.narrow hAB, h2, h3, h4.narrow hAB, h5.narrow hAB, h6.narrow hAB, h7.narrow hAB, h8.narrow hAB, h9, fun r t n f hr => ⟨(h10 r t n f hr).1, (h10 r t n f hr).2.narrow hAB⟩⟩
/-- what the class's constructor takes as given -/
def vEx6 (Gx : Nat × (Nat → Int32)) (adc : Nat → Nat) (ef : Value) (h0 sz : Nat) (U : State) : Prop :=
  (va_Nw (.methodLinkNest RX6 9 (vYn 52) RX6) U ∧ va_Nw (.methodLinkNest RX6 27 (vYn 14) RX6) U ∧ va_Nw (.methodLinkNest RX6 38 (vYn 44) RX6) U ∧ va_Nw (.methodLinkNest RX6 39 (vYn 39) RX6) U) ∧ (va_AO RX4 U ∧ va_AO RX3 U) ∧ vCn (false, Gx) adc ef (fun q => q = h0 ∨ sz ≤ q) U U.heap
abbrev vx6 (h0 : Nat) : va_W := [(h0, .inr (6, [.null, .null, .int 0, .null, .int 0, .null, .null, .null, .null]))]
def vgood6 (adc : Nat → Nat) (h0 : Nat) (u : (Nat → Nat) × vM) : Prop := vRC va0 u.2 ∧ u.1 0 = h0 ∧ (∀ i, 58 ≤ i → u.1 i = adc i) ∧ u.2.1 38 2 = 20 ∧ u.2.1 40 1 = 20
set_option maxRecDepth 100000 in
set_option maxHeartbeats 4000000 in
theorem vk_X6 (l : Launch) (D : va_G) (cI cZ cU cO : ClassId) (Gx : Nat × (Nat → Int32)) (adc : Nat → Nat) (ef : Value) (h0 sz : Nat) : Met l (vYn 57) (vws 57) vrm6 (vkPc D (vtyC cI cZ cU cO) [.ref h0] (vx6 h0) sz (vEx6 Gx adc ef h0 sz)) (vkQc D (vx6 h0) sz (vgood6 adc h0) (fun u => vwd (false, Gx) u.1 (vcA cI cZ cU cO) u.2)) 57 1592 (va_A (vx6 h0) sz) := by
  refine vk_met (oi := 1) (by decide) (by decide +kernel) rfl rfl (Nat.le_of_ble_eq_true rfl) (Nat.le_of_ble_eq_true rfl) (Nat.le_of_ble_eq_true rfl) (by decide +kernel) (by decide +kernel) (List.mem_of_getElem? (i := 9) rfl) rfl rfl (fun p e s m args below meth c A Q ls hsz hF hAi hAo hE hin hW hl hk => ?_)
  obtain ⟨⟨n5, n1, n4, n3⟩, ⟨aU, aO⟩, hC⟩ := hE
  refine vk_X6walk hF hin n5 n1 n4 n3 aU aO hW hl (fun q1 q2 qr qp qo qd qb u1 u2 u3 r o ud ub v w H locs ls hls hW => ?_)
  obtain ⟨f1, f2, f3, f4, f5, f6, f7⟩ := id hF
  obtain ⟨ad, had⟩ : ∃ ad, ad = vad6 h0 q1 q2 qr qp qo qd qb u1 u2 u3 r o ud ub v w adc := ⟨_, rfl⟩
  have hP := vw6_P (cZ := cZ) (adc := adc) (z := fun _ _ => 0) (Gx := Gx) hW.1
  have hD := vw6_D (D := D) (cZ := cZ) (adc := adc) (Gx := Gx) hW.2.1
  rw [← had] at hP hD
  have a0 : ad 0 = h0 := by rw [had]; rfl
  have ac : ∀ i, 58 ≤ i → ad i = adc i := fun i hi => by
    rw [had]
    unfold vad6
    rw [show Nat.ble i 57 = false from by cases hb : Nat.ble i 57 with | false => rfl | true => exact absurd (Nat.le_of_ble_eq_true hb) (by omega)]
    rfl
  have hC' : vCn (false, Gx) ad ef A s s.heap := by
    refine (hC.ad ac).nar (fun q hq => ?_)
    rcases hAo q hq with ⟨k, x, hx⟩ | hq
    · match k, hx with
      | 0, hx => cases hx; exact Or.inl rfl
      | k + 1, hx => simp at hx
    · exact Or.inr hq
  have hVM : VM (false, Gx) 45 57 190 [some (.ref 0), some (.int 4)] [] (vz6, fun _ _ => 0) (fun v σ' => v = none ∧ vRC va0 σ' ∧ σ'.1 38 2 = 20 ∧ σ'.1 40 1 = 20) := vc_init (D := 0) (fun c k hc => rfl) (fun σ' _ c1 c2 hC => ⟨rfl, hC, c1, c2⟩)
  refine VM_sound (l := l) hVM p e vrm6 s m args below meth c A ad (vcA cI cZ cU cO) D ef 57 1592 Q ⟨f1, f2, f3, f4, f5, vcA_t f6, hC', f7, hD, ⟨Nat.le_of_ble_eq_true rfl, Nat.le_of_ble_eq_true rfl, Nat.le_of_ble_eq_true rfl, Nat.le_of_ble_eq_true rfl⟩⟩ (fun H locs L pc v σ' i hp hd hrt hP' hS' => ?_) H locs ls hP hW.2.2 ⟨hls.1, hls.2.1, fun i v hv => ?_⟩ rfl
  · obtain ⟨hv, hC0, c1, c2⟩ := hp
    subst hv
    rcases hrt with ⟨-, x, ty, h, -⟩ | ⟨-, x, h, -⟩ | ⟨-, x, rt, h, -⟩ | ⟨rfl, -, -⟩
    · cases h
    · cases h
    · cases h
    · exact hk H locs L pc (ad, σ') ⟨hC0, a0, ac, c1, c2⟩ hd ⟨hP', hD σ', hS'⟩
  · match i, hv with
    | 0, hv => cases hv; rw [vcv_r]; show ls[0]? = some (.val (.ref (ad 0))); rw [a0]; exact lv_at hls 1 rfl
    | 1, hv => cases hv; exact lv_at hls 0 rfl
    | i + 2, hv => simp [vget] at hv
