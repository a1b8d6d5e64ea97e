/-! ===== THE LAW, FROM ITS ENTRY ===== -/
theorem vwd_DD {G : vG} {ad : Nat → Nat} {cA : Nat → ClassId} {σ : vM} {A : Nat → Prop} (h : va_D A (vwd G ad cA σ)) (σ' : vM) : va_D A (vwd G ad cA σ') := by
  have tr : ∀ {k : Nat} {q : Nat × va_E}, (vwd G ad cA σ')[k]? = some q → ∃ q', (vwd G ad cA σ)[k]? = some q' ∧ q'.1 = q.1 := fun {k q} hk => by
    have hl : k < vsz G := by
      rcases Nat.lt_or_ge k (vsz G) with h | h
      · exact h
      · rw [List.getElem?_eq_none (by simp [vwd]; omega)] at hk; cases hk
    rw [vwd_get hl] at hk
    cases hk
    exact ⟨_, vwd_get hl, rfl⟩
  refine ⟨fun i j p q hi hj e => ?_, fun k q hk => ?_⟩
  · obtain ⟨p', hi', ep⟩ := tr hi
    obtain ⟨q', hj', eq⟩ := tr hj
    exact h.1 i j p' q' hi' hj' (by rw [ep, eq]; exact e)
  · obtain ⟨q', hk', eq⟩ := tr hk
    rw [← eq]
    exact h.2 k q' hk'
theorem vg_df7 : ∀ j, j < 50 → defaultValue (vfY 7 j) = vp_V vdf7 j := by decide +kernel
theorem vg_df6 : ∀ j, j < 9 → defaultValue (vfY 6 j) = vp_V [.null, .null, .int 0, .null, .int 0, .null, .null, .null, .null] j := by decide +kernel
set_option maxHeartbeats 4000000 in
set_option maxRecDepth 100000 in
/-- YOUR PART: from the entry, for every script of at most 3072 ints, the law comes to its end with true -/
theorem whole_start {p : Program} {e : Env} {s : State} {m : MethodId} {below : List Frame} {meth : Method} {c : Code} (l : Launch) (hflags : l.flags = flags0) {b L : Nat} {xs : Nat → Int32} (hL : L ≤ 3072) (C0 : lw_At p s m meth c b L xs) : W p l e room_1 s m #[Value.ref b] below meth c s.heap [] 0 0 (lw_Z below #[Value.ref b] s) (entryFrame m ([Value.ref b] : List Value).toArray 4) := by
  obtain ⟨hx, hb, hr, hml, hown, hts, hX, hbl, hlocks, hgv⟩ := id C0
  have h5 : ∀ w ∈ wsL_law, w.before #[Value.ref b] s = true := fun w hw => hts w (wsL_law_in w hw)
  have a4 : va_AO RX4 s := va_AO.of (hts (.arrayOver (.object RX4)) (vg_tb (k := 83) (by decide +kernel)))
  have a3 : va_AO RX3 s := va_AO.of (hts (.arrayOver (.object RX3)) (vg_tb (k := 104) (by decide +kernel)))
  have hN : va_Nw (.methodLinkNest RX6 9 (vYn 52) RX6) s ∧ va_Nw (.methodLinkNest RX6 27 (vYn 14) RX6) s ∧ va_Nw (.methodLinkNest RX6 38 (vYn 44) RX6) s ∧ va_Nw (.methodLinkNest RX6 39 (vYn 39) RX6) s :=
    ⟨va_Nw.of rfl (hts _ (vg_tb (k := 26) (by decide +kernel))), va_Nw.of rfl (hts _ (vg_tb (k := 86) (by decide +kernel))), va_Nw.of rfl (hts _ (vg_tb (k := 106) (by decide +kernel))), va_Nw.of rfl (hts _ (vg_tb (k := 125) (by decide +kernel)))⟩
  obtain ⟨D, cI, cZ, cU, cO, hK⟩ := vg_K h5 a4 a3
  obtain ⟨adc, ef, hc7, hC⟩ := vg_cn hL hts hX hbl hgv
  obtain ⟨A, hAe⟩ : ∃ A : Nat → Prop, A = fun q => s.heap.size ≤ q := ⟨_, rfl⟩
  rw [← hAe] at hC
  have hA : ∀ q : Nat, s.heap.size ≤ q → A q := fun q h => by rw [hAe]; exact h
  have hA2 : ∀ q : Nat, A q → s.heap.size ≤ q := fun q h => by rw [hAe] at h; exact h
  have hb' : c.code = vYc 205 := hb
  have hml' : c.maxLocals = vYl 205 := hml
  have hown' : s.vm.findClass (vcn (vYk 205)) = some m.cls := hown
  have hF : vKf 205 D (vtyC cI cZ cU cO) p s m #[Value.ref b] c A := ⟨hx, hb', hml', hown', h5, hK, hA⟩
  have hl := lv_entry ([.ref b]) (n := 4) (Nat.le_of_ble_eq_true rfl)
  rw [lg_entry_eq]
  generalize (lg_sl ([.ref b]) ++ List.replicate (4 - (lg_sl ([.ref b])).length) Slot.unset).toArray = ls at hl ⊢
  have hl : lv_has ls 4 [(0, .ref b)] := hl
  have hW0 : vWd D [] A s s.heap [] := ⟨fun k q h => by simp at h, ⟨fun i j p q h => by simp at h, fun k q h => by simp at h⟩, va_S.rf⟩
  refine vk_new (y := 205) (idx := 7) (ci := 6) (fs := [.null, .null, .int 0, .null, .int 0, .null, .null, .null, .null]) hF (by decide) (List.mem_of_getElem? (i := 0) rfl) (List.mem_of_getElem? (i := 1) rfl) (List.mem_of_getElem? (i := 2) rfl) vg_df6 hW0 (Nat.le_of_ble_eq_true rfl) (Nat.le_of_ble_eq_true rfl) (by decide +kernel : decode (vYc 205) 0 = .ok (.new 7, 3)) (by decide +kernel) (fun h0 H hW => ?_)
  have hW : vWd D (vx6 h0) A s H [] := hW
  have hh0 : A h0 := hW.2.1.2 0 _ rfl
  refine vk_whole (good := vgood6 adc h0) (wsf := fun u => vwd (false, L, xs) u.1 (vcA cI cZ cU cO) u.2) hA hW (va_runI (As := []) (rest := [.ref h0]) (b := h0) (n := 0) (bytes := vYc 57) (maxL := vYl 57) ⟨hx, hb', hml', hown', h5⟩ (vk_X6 l D cI cZ cU cO (L, xs) adc ef h0 H.size) (cwI 0 h5 (vws_good (by decide) (Nat.le_of_ble_eq_true rfl)) (by unfold vws; rfl) rfl rfl (h5 _ (List.mem_of_getElem? (i := 2) rfl)) (h5 _ (List.mem_of_getElem? (i := 6) rfl)) (h5 _ (List.mem_of_getElem? (i := 7) rfl)) rfl ⟨by decide, by decide, by decide +kernel⟩ ⟨Nat.le_of_ble_eq_true rfl, Nat.le_of_ble_eq_true rfl⟩) (vk_preS hF hW vEx6_b (vEx6_at hA hh0 hW.2.2 hN ⟨a4, a3⟩ hC)) rfl rfl hl.1 rfl (lv_room (Nat.le_of_ble_eq_true rfl)) (by decide +kernel : decode (vYc 205) 4 = .ok (.invokespecial 9, 3)) ⟨Nat.le_of_ble_eq_true rfl, Nat.le_of_ble_eq_true rfl⟩) (fun u H1 locs1 hg hW1 => ?_)
  obtain ⟨hRC, e0, ec, s1, s2⟩ := hg
  have hW1 : vWd D (vwd (false, L, xs) u.1 (vcA cI cZ cU cO) u.2) A s H1 locs1 := hW1
  refine lv_astore_n (k := 1) (lv' := [(1, .ref h0), (0, .ref b)]) hx hb' (by decide +kernel : decode (vYc 205) 7 = _) rfl hl (by decide) rfl (fun ls hl => ?_)
  refine vk_new (y := 205) (idx := 10) (ci := 7) (fs := vdf7) hF (by decide) (List.mem_of_getElem? (i := 3) rfl) (List.mem_of_getElem? (i := 4) rfl) (List.mem_of_getElem? (i := 5) rfl) vg_df7 hW1 (Nat.le_of_ble_eq_true rfl) (Nat.le_of_ble_eq_true rfl) (by decide +kernel : decode (vYc 205) 8 = .ok (.new 10, 3)) (by decide +kernel) (fun h7 H2 hW2 => ?_)
  have hW2 : vWd D (vx7 (L, xs) u.1 (vcA cI cZ cU cO) u.2 h7) A s H2 locs1 := vWd_rot hW2
  have hC2 : vCn (true, L, xs) u.1 ef A s s.heap := by
    obtain ⟨h1, h2, h3, h4, h5, h6, h7, h8, h9, h10⟩ := vCn.ad ec hC
    exact ⟨h1, h2, h3, h4, h5, h6, h7, h8, h9, fun r t n f hr => h10 r t n f (by unfold vcon at hr ⊢; exact hr)⟩
  refine vk_whole (good := vgood7 u.1 h7) (wsf := fun v => vwd (true, L, xs) v.1 (vcA cI cZ cU cO) v.2) hA hW2 (va_runI (As := []) (rest := [.ref h7]) (b := h7) (n := 0) (bytes := vYc 107) (maxL := vYl 107) ⟨hx, hb', hml', hown', h5⟩ (vk_X7 l D cI cZ cU cO (L, xs) u.1 ef h7 H2.size u.2 hRC s1 s2) (cwI 0 h5 (vws_good (by decide) (Nat.le_of_ble_eq_true rfl)) (by unfold vws; rfl) rfl rfl (h5 _ (List.mem_of_getElem? (i := 5) rfl)) (h5 _ (List.mem_of_getElem? (i := 239) rfl)) (h5 _ (List.mem_of_getElem? (i := 240) rfl)) rfl ⟨by decide, by decide, by decide +kernel⟩ ⟨Nat.le_of_ble_eq_true rfl, Nat.le_of_ble_eq_true rfl⟩) (vk_preS hF hW2 vEx7_b (vEx7_at hA hW2 hC2)) rfl rfl hl.1 rfl (lv_room (Nat.le_of_ble_eq_true rfl)) (by decide +kernel : decode (vYc 205) 12 = .ok (.invokespecial 12, 3)) ⟨Nat.le_of_ble_eq_true rfl, Nat.le_of_ble_eq_true rfl⟩) (fun v H3 locs3 hg2 hW3 => ?_)
  obtain ⟨hRC2, hRM2, e7, ev⟩ := hg2
  have hW3 : vWd D (vwd (true, L, xs) v.1 (vcA cI cZ cU cO) v.2) A s H3 locs3 := hW3
  refine lv_astore_n (k := 2) (lv' := [(2, .ref h7), (1, .ref h0), (0, .ref b)]) hx hb' (by decide +kernel : decode (vYc 205) 15 = _) rfl hl (by decide) rfl (fun ls hl => ?_)
  refine lv_iconst (n := 0) (v := 0) hx hb' (by decide +kernel : decode (vYc 205) 16 = _) (by decide) ?_
  refine lv_istore_n (k := 3) (lv' := [(3, .int 0), (2, .ref h7), (1, .ref h0), (0, .ref b)]) hx hb' (by decide +kernel : decode (vYc 205) 17 = _) rfl hl (by decide) rfl (fun ls hl => ?_)
  have hC3 : vCn (true, L, xs) v.1 ef A s s.heap := hC2.ad83 (fun i hi => ev i (Or.inr hi))
  have hVM : VM (true, L, xs) 61 205 18 [some (.ref 1007), some (.ref 0), some (.ref 58), some (.int (nI (6 * 0)))] [] v.2 (fun w _ => w = some (.int 1)) := vlaw_loop (D := 0) hL (fun _ => rfl) 512 0 rfl v.2 va0 hRC2 hRM2 va0_inv
  refine VM_sound (l := l) hVM p e room_1 s m #[Value.ref b] below meth c A v.1 (vcA cI cZ cU cO) D ef _ _ _ ⟨hx, hb', hml', hown', h5, vcA_t hK, hC3, hA, vwd_DD hW3.2.1, ⟨Nat.le_of_ble_eq_true rfl, Nat.le_of_ble_eq_true rfl, Nat.le_of_ble_eq_true rfl, Nat.le_of_ble_eq_true rfl⟩⟩ (fun H locs L pc w σ' i hp hd hrt hP' hS' => ?_) H3 locs3 ls hW3.1 hW3.2.2 ⟨hl.1, hl.2.1, fun i w hw => ?_⟩ rfl
  · subst hp
    rcases hrt with ⟨rfl, -⟩ | ⟨-, x, h, -⟩ | ⟨-, x, rt, h, hh, -⟩ | ⟨-, h, -⟩
    · show W p l e room_1 s m #[Value.ref b] below meth c H locs _ _ _ (F0 m pc L [.int 1])
      refine va_forget (fun q hq => hA2 _ (hS'.2.2 q hq)) ?_
      refine W.widen (k := 600000) (n := 7302250) (Nat.le_of_ble_eq_true rfl) (Nat.le_of_ble_eq_true rfl) ?_
      exact lw_ret hx hb hr hlocks hd
    · cases h
    · cases h
      rcases hh with h | ⟨x, h⟩ <;> cases h
    · cases h
  · match i, hw with
    | 0, hw => cases hw; rw [vcv_r]; show ls[0]? = some (.val (.ref (v.1 1007))); rw [ev 1007 (Or.inr (by decide)), ec 1007 (by decide), hc7]; exact lv_at hl 3 rfl
    | 1, hw => cases hw; rw [vcv_r]; show ls[1]? = some (.val (.ref (v.1 0))); rw [ev 0 (Or.inl (by decide)), e0]; exact lv_at hl 2 rfl
    | 2, hw => cases hw; rw [vcv_r]; show ls[2]? = some (.val (.ref (v.1 58))); rw [e7]; exact lv_at hl 1 rfl
    | 3, hw => cases hw; exact lv_at hl 0 rfl
    | i + 4, hw => simp [vget] at hw
