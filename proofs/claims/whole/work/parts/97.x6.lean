/-! ===== THE CLASS IS MADE: its own constructor, up to its last new cell ===== -/
/-- the world while it is made -/
def vw6 (cI cU cO : ClassId) (h0 : Nat) (fs : List Value) (q1 : Nat) (u1 : Nat → Nat) (bf : Nat → Int32) (q2 : Nat) (u2 : Nat → Nat) (qr : Nat) (f : Nat → Option Nat) (qp : Nat) (u3 : Nat → Nat) (qo : Nat) (g : Nat → Option Nat) (tl : va_W) : va_W :=
  (h0, .inr (6, fs)) :: (q1, .inr (5, [.int 0, .int 0, .int 0, .ref (u1 0), .ref (u1 1), .ref (u1 2), .ref (u1 3), .ref (u1 4), .ref (u1 5), .ref (u1 6), .ref (u1 7)])) :: (u1 0, vkI cI 6) :: (u1 1, vkI cI 6) :: (u1 2, vkI cI 6) :: (u1 3, vkI cI 30) :: (u1 4, vkI cI 5) :: (u1 5, vkI cI 5) :: (u1 6, .inl (cI, 4, .inl bf)) :: (u1 7, vkI cI 4) :: (vkw5 cI q2 u2 ++ (qr, .inl (cU, 6, .inr (.inr (.inr (.inr f))))) :: (vkw1 cI qp u3 ++ (qo, .inl (cO, 4, .inr (.inr (.inr (.inr g))))) :: tl))
section X6
variable {p : Program} {l : Launch} {e : Env} {R : Room} {s : State} {m : MethodId} {args : Array Value} {below : List Frame} {meth : Method} {c : Code} {H : Heap} {locs : List Loc} {cells slots : Nat} {Q : State → Prop} {A : Nat → Prop} {D : va_G} {y pc : Nat} {ws ws0 : va_W} {cI cZ cU cO : ClassId} {ls : Array Slot} {rest : List Value}
theorem vk_get {idx ci f a q0 : Nat} {fs : List Value} {v : Value} (hF : vKf y D (vtyC cI cZ cU cO) p s m args c A) (hci : ci < 8) (hf : f < vfN ci) (hW : vWd D ws A s H locs) (he : ws[q0]? = some (a, .inr (ci, fs))) (hlk : Cond.fieldLink (vcn (vYk y)) idx (vfT ci f).1 (vfT ci f).2.1 (vfT ci f).2.2.1 ∈ wsL_law) (hv : fs[f]? = some v) (hdg : decode (vYc y) pc = .ok (.getfield idx, 3)) (kk : W p l e R s m args below meth c H locs cells slots Q (F0 m (pc + 3) ls (v :: rest))) : W p l e R s m args below meth c H locs cells slots Q (F0 m pc ls (.ref a :: rest)) := by
  obtain ⟨f1, f2, f3, f4, f5, f6, f7⟩ := hF
  exact va_get (D := D) (ci := ci) (C := vcn ci) (T := vfT ci) (N := vfN ci) (ref := (vfT ci f).1) f1 f2 f5 (vin_at hci) f4 f6 hW.1 q0 he (vcl_at hci) f hf (f5 _ hlk) (fun _ h9 => h9) hv hdg kk
set_option maxRecDepth 100000 in
set_option maxHeartbeats 4000000 in
theorem vk_ruleIt {i h0 q1 q2 qr qp qo : Nat} {u1 u2 u3 : Nat → Nat} {bf : Nat → Int32} {fs : List Value} {f g : Nat → Option Nat} {tl : va_W} (hF : vKf 57 D (vtyC cI cZ cU cO) p s m args c A) (hR : 2 ≤ R.frames ∧ 40 ≤ R.locals) (hnest : va_Nw (.methodLinkNest RX6 38 (vYn 44) RX6) s) (hi : i < 6) (h3 : fs[3]? = some (.ref qr)) (hls : lv_has ls 2 [(1, .int (nI i)), (0, .ref h0)]) (hW : vWd D (vw6 cI cU cO h0 fs q1 u1 bf q2 u2 qr f qp u3 qo g tl) A s H locs) (hc : cells + 3 ≤ R.cells) (hs : slots + 167 ≤ R.slots)
    (kk : ∀ (q : Nat) (v : Nat → Nat) (H1 : Heap) (locs1 : List Loc) (ls1 : Array Slot), lv_has ls1 2 [(1, .int (nI (i + 1))), (0, .ref h0)] → vWd D (vw6 cI cU cO h0 fs q1 u1 bf q2 u2 qr (va_up f i (some q)) qp u3 qo g (tl ++ vkw4 cI q v)) A s H1 locs1 → W p l e R s m args below meth c H1 locs1 (cells + 3) (slots + 167) Q (F0 m 56 ls1 [])) : W p l e R s m args below meth c H locs cells slots Q (F0 m 56 ls []) := by
  obtain ⟨f1, f2, f3, f4, f5, f6, f7⟩ := id hF
  refine lv_iload_n f1 f2 (by decide +kernel : decode (vYc 57) 56 = .ok (.iload_n 1, 1)) rfl (lv_at hls 0 rfl) ?_
  refine lv_aload_n f1 f2 (by decide +kernel : decode (vYc 57) 57 = .ok (.aload_n 0, 1)) rfl (lv_at hls 1 rfl) ?_
  refine vk_get (idx := 21) (ci := 6) (f := 3) (q0 := 0) hF (by decide) (by decide) hW rfl (List.mem_of_getElem? (i := 18) rfl) h3 (by decide +kernel) ?_
  refine va_alen (D := D) (cl := vwCl) (tys := vtyC cI cZ cU cO) (v := nI 6) f1 f2 f6 hW.1 19 2 rfl rfl rfl (by decide +kernel) ?_
  refine lv_icmp_ge (off := 22) (tgt := 84) f1 f2 (by decide +kernel) (by decide) (fun z => absurd z (nI_ge hi (by decide))) (fun _ => ?_)
  refine lv_aload_n f1 f2 (by decide +kernel : decode (vYc 57) 65 = .ok (.aload_n 0, 1)) rfl (lv_at hls 1 rfl) ?_
  refine vk_get (idx := 21) (ci := 6) (f := 3) (q0 := 0) hF (by decide) (by decide) hW rfl (List.mem_of_getElem? (i := 18) rfl) h3 (by decide +kernel) ?_
  refine lv_iload_n f1 f2 (by decide +kernel : decode (vYc 57) 69 = .ok (.iload_n 1, 1)) rfl (lv_at hls 0 rfl) ?_
  refine vk_new (idx := 19) (ci := 4) (fs := [.int 0, .null, .null, .int 0]) hF (by decide) (List.mem_of_getElem? (i := 17) rfl) (List.mem_of_getElem? (i := 25) rfl) (List.mem_of_getElem? (i := 26) rfl) (fun j hj => by have hj : j < 4 := hj; rcases (show j = 0 ∨ j = 1 ∨ j = 2 ∨ j = 3 by omega) with rfl | rfl | rfl | rfl <;> rfl) hW (by omega) (by show slots + 4 ≤ _; omega) (by decide +kernel) (by decide +kernel) (fun q H1 hW1 => ?_)
  refine vk_callN (y' := 44) (idx := 38) hF hls rfl hW1 (vk_X4 l D cI cZ cU cO q H1.size) (by decide) (by decide) rfl rfl rfl hnest (List.mem_of_getElem? (i := 26) rfl) (List.mem_of_getElem? (i := 55) rfl) (by decide +kernel) rfl ⟨hR.1, Nat.le_trans (Nat.le_of_ble_eq_true rfl) hR.2⟩ (Nat.le_of_ble_eq_true rfl) (by decide +kernel) ⟨by omega, by show slots + 4 + 163 ≤ _; omega⟩ (fun v H2 locs2 _ hW2 => ?_)
  refine va_astq (D := D) (cl := vwCl) (tys := vtyC cI cZ cU cO) (r := (RX4, TX4, 4)) f1 f2 f6 hW2.1 hW2.2.1 hW2.2.2 19 2 (vw6 cI cU cO h0 fs q1 u1 bf q2 u2 qr f qp u3 qo g tl).length 4 rfl rfl (by rw [List.getElem?_append_right (Nat.le_refl _), Nat.sub_self]; rfl) rfl (pk_in i 6 hi) (by decide +kernel) (fun H3 locs3 hP hD hS => ?_)
  rw [nI_clamp (by omega)] at hP hD
  refine lv_iinc (k := 0) (n := 1) (lv' := [(1, .int (nI (i + 1))), (0, .ref h0)]) f1 f2 (by decide +kernel) hls rfl (nI_1 i) (by decide) rfl (fun ls1 hls1 => ?_)
  refine lv_goto (off := -25) (tgt := 56) f1 f2 (by decide +kernel) (by decide) ?_
  exact kk q v H3 locs3 ls1 hls1 ⟨hP, hD, hS⟩
set_option maxRecDepth 100000 in
set_option maxHeartbeats 4000000 in
theorem vk_rowIt {i h0 q1 q2 qr qp qo : Nat} {u1 u2 u3 : Nat → Nat} {bf : Nat → Int32} {fs : List Value} {f g : Nat → Option Nat} {tl : va_W} (hF : vKf 57 D (vtyC cI cZ cU cO) p s m args c A) (hR : 2 ≤ R.frames ∧ 40 ≤ R.locals) (hnest : va_Nw (.methodLinkNest RX6 39 (vYn 39) RX6) s) (hi : i < 4) (h3 : fs[8]? = some (.ref qo)) (hls : lv_has ls 2 [(1, .int (nI i)), (0, .ref h0)]) (hW : vWd D (vw6 cI cU cO h0 fs q1 u1 bf q2 u2 qr f qp u3 qo g tl) A s H locs) (hc : cells + 2 ≤ R.cells) (hs : slots + 43 ≤ R.slots)
    (kk : ∀ (q : Nat) (v : Nat → Nat) (H1 : Heap) (locs1 : List Loc) (ls1 : Array Slot), lv_has ls1 2 [(1, .int (nI (i + 1))), (0, .ref h0)] → vWd D (vw6 cI cU cO h0 fs q1 u1 bf q2 u2 qr f qp u3 qo (va_up g i (some q)) (tl ++ vkw3 cI q v)) A s H1 locs1 → W p l e R s m args below meth c H1 locs1 (cells + 2) (slots + 43) Q (F0 m 86 ls1 [])) : W p l e R s m args below meth c H locs cells slots Q (F0 m 86 ls []) := by
  obtain ⟨f1, f2, f3, f4, f5, f6, f7⟩ := id hF
  refine lv_iload_n f1 f2 (by decide +kernel : decode (vYc 57) 86 = .ok (.iload_n 1, 1)) rfl (lv_at hls 0 rfl) ?_
  refine lv_aload_n f1 f2 (by decide +kernel : decode (vYc 57) 87 = .ok (.aload_n 0, 1)) rfl (lv_at hls 1 rfl) ?_
  refine vk_get (idx := 34) (ci := 6) (f := 8) (q0 := 0) hF (by decide) (by decide) hW rfl (List.mem_of_getElem? (i := 24) rfl) h3 (by decide +kernel) ?_
  refine va_alen (D := D) (cl := vwCl) (tys := vtyC cI cZ cU cO) (v := nI 4) f1 f2 f6 hW.1 22 3 rfl rfl rfl (by decide +kernel) ?_
  refine lv_icmp_ge (off := 22) (tgt := 114) f1 f2 (by decide +kernel) (by decide) (fun z => absurd z (nI_ge hi (by decide))) (fun _ => ?_)
  refine lv_aload_n f1 f2 (by decide +kernel : decode (vYc 57) 95 = .ok (.aload_n 0, 1)) rfl (lv_at hls 1 rfl) ?_
  refine vk_get (idx := 34) (ci := 6) (f := 8) (q0 := 0) hF (by decide) (by decide) hW rfl (List.mem_of_getElem? (i := 24) rfl) h3 (by decide +kernel) ?_
  refine lv_iload_n f1 f2 (by decide +kernel : decode (vYc 57) 99 = .ok (.iload_n 1, 1)) rfl (lv_at hls 0 rfl) ?_
  refine vk_new (idx := 32) (ci := 3) (fs := [.int 0, .int 0, .null]) hF (by decide) (List.mem_of_getElem? (i := 23) rfl) (List.mem_of_getElem? (i := 27) rfl) (List.mem_of_getElem? (i := 28) rfl) (fun j hj => by have hj : j < 3 := hj; rcases (show j = 0 ∨ j = 1 ∨ j = 2 by omega) with rfl | rfl | rfl <;> rfl) hW (by omega) (by show slots + 3 ≤ _; omega) (by decide +kernel) (by decide +kernel) (fun q H1 hW1 => ?_)
  refine vk_callN (y' := 39) (idx := 39) hF hls rfl hW1 (vk_X3 l D cI cZ cU cO q H1.size) (by decide) (by decide) rfl rfl rfl hnest (List.mem_of_getElem? (i := 28) rfl) (List.mem_of_getElem? (i := 60) rfl) (by decide +kernel) rfl ⟨hR.1, Nat.le_trans (Nat.le_of_ble_eq_true rfl) hR.2⟩ (Nat.le_of_ble_eq_true rfl) (by decide +kernel) ⟨by omega, by show slots + 3 + 40 ≤ _; omega⟩ (fun v H2 locs2 _ hW2 => ?_)
  refine va_astq (D := D) (cl := vwCl) (tys := vtyC cI cZ cU cO) (r := (RX3, TX3, 3)) f1 f2 f6 hW2.1 hW2.2.1 hW2.2.2 22 3 (vw6 cI cU cO h0 fs q1 u1 bf q2 u2 qr f qp u3 qo g tl).length 3 rfl rfl (by rw [List.getElem?_append_right (Nat.le_refl _), Nat.sub_self]; rfl) rfl (pk_in i 4 hi) (by decide +kernel) (fun H3 locs3 hP hD hS => ?_)
  rw [nI_clamp (by omega)] at hP hD
  refine lv_iinc (k := 0) (n := 1) (lv' := [(1, .int (nI (i + 1))), (0, .ref h0)]) f1 f2 (by decide +kernel) hls rfl (nI_1 i) (by decide) rfl (fun ls1 hls1 => ?_)
  refine lv_goto (off := -25) (tgt := 86) f1 f2 (by decide +kernel) (by decide) ?_
  exact kk q v H3 locs3 ls1 hls1 ⟨hP, hD, hS⟩
end X6
