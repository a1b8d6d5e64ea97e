/-! ===== THE LAW'S ENTRY: calls of the two constructors ===== -/
section WC
variable {p : Program} {l : Launch} {e : Env} {R : Room} {s : State} {m : MethodId} {args : Array Value} {below : List Frame} {meth : Method} {c : Code} {H : Heap} {locs : List Loc} {cells slots : Nat} {Q : State → Prop} {A : Nat → Prop} {D : va_G} {y pc : Nat} {ws : va_W} {cI cZ cU cO : ClassId} {ls : Array Slot} {rest st0 : List Value} {a : Array Value}
theorem vk_own (hA : ∀ q : Nat, s.heap.size ≤ q → A q) (hW : vWd D ws A s H locs) : ∀ q, va_A ws H.size q → A q := by
  rintro q (⟨k, e, h⟩ | h)
  · exact hW.2.1.2 k (q, e) h
  · exact hA q (Nat.le_trans hW.2.2.1 h)
theorem vk_whole {S : Type} {good : S → Prop} {wsf : S → va_W} {mc ms : Nat} (hA : ∀ q : Nat, s.heap.size ≤ q → A q) (hW : vWd D ws A s H locs) (hr : va_Run p l e R s m args below meth c H locs cells slots mc ms (F0 m pc ls st0) rest (vkQc D ws H.size good wsf a) (va_A ws H.size))
    (kk : ∀ (u : S) (H1 : Heap) (locs1 : List Loc), good u → vWd D (wsf u) A s H1 locs1 → W p l e R s m args below meth c H1 locs1 (cells + mc) (slots + ms) Q (F0 m (pc + 3) ls rest)) : W p l e R s m args below meth c H locs cells slots Q (F0 m pc ls st0) := by
  have hF := vk_own hA hW
  obtain ⟨hP, hD, hS⟩ := hW
  refine va_callv hr hS (fun q _ h => hF q h) hF (fun u t H1 locs1 ht hvm hg hB hz hk hS1 => ?_)
  obtain ⟨hP1, hD1⟩ := hB
  rw [ht] at hP1
  exact kk u H1 locs1 hg ⟨hP1, hD1.weaken (fun k q _ h => hF q.1 h), hS1⟩
theorem vk_preS {as : List Value} {Ex : State → Prop} (hF : vKf y D (vtyC cI cZ cU cO) p s m args c A) (hW : vWd D ws A s H locs) (hb : ∀ (a : Array Value) (U : State) (g : JFrame) (mk : MethodId), Ex U → Ex (U.calling g mk a)) (hE : ∀ U : State, U.heap = H → s.WarmedH U.vm → Ex U) : PreS s H (vkPc D (vtyC cI cZ cU cO) as ws H.size Ex) as := by
  refine ⟨fun a U g mk q => ?_, fun U hU hWm => ?_⟩
  · obtain ⟨q0, q1, qP, qK, qD, qE⟩ := q
    exact ⟨q0, q1, qP, va_K.moved (u := U) (U := U.calling g mk a) (Vm.Alike.refl U.vm) qK, qD, hb a U g mk qE⟩
  · exact ⟨rfl, by rw [hU], by rw [hU]; exact hW.1, va_K.moved hWm.alike hF.2.2.2.2.2.1, hW.2.1.weaken (fun _ _ _ _ => trivial), hE U hU hWm⟩
theorem vEx6_b {Gx : Nat × (Nat → Int32)} {adc : Nat → Nat} {ef : Value} {h0 sz : Nat} (a : Array Value) (U : State) (g : JFrame) (mk : MethodId) (h : vEx6 Gx adc ef h0 sz U) : vEx6 Gx adc ef h0 sz (U.calling g mk a) := by
  obtain ⟨⟨n1, n2, n3, n4⟩, ⟨a1, a2⟩, hC⟩ := h
  exact ⟨⟨va_Nw.same rfl rfl n1, va_Nw.same rfl rfl n2, va_Nw.same rfl rfl n3, va_Nw.same rfl rfl n4⟩, ⟨va_AO.moved (u := U) (U := U.calling g mk a) (Vm.Alike.refl U.vm) a1, va_AO.moved (u := U) (U := U.calling g mk a) (Vm.Alike.refl U.vm) a2⟩, vCn.same (u := U) (U := U.calling g mk a) rfl hC⟩
theorem vEx6_at {Gx : Nat × (Nat → Int32)} {adc : Nat → Nat} {ef : Value} {h0 : Nat} (hA : ∀ q : Nat, s.heap.size ≤ q → A q) (hh : A h0) (hS : va_S A s.heap H locs) (hN : va_Nw (.methodLinkNest RX6 9 (vYn 52) RX6) s ∧ va_Nw (.methodLinkNest RX6 27 (vYn 14) RX6) s ∧ va_Nw (.methodLinkNest RX6 38 (vYn 44) RX6) s ∧ va_Nw (.methodLinkNest RX6 39 (vYn 39) RX6) s) (hO : va_AO RX4 s ∧ va_AO RX3 s) (hC : vCn (false, Gx) adc ef A s s.heap) (U : State) (hU : U.heap = H) (hWm : s.WarmedH U.vm) : vEx6 Gx adc ef h0 H.size U := by
  obtain ⟨n1, n2, n3, n4⟩ := hN
  refine ⟨⟨va_Nw.warmM hWm n1, va_Nw.warmM hWm n2, va_Nw.warmM hWm n3, va_Nw.warmM hWm n4⟩, ⟨va_AO.moved hWm.alike hO.1, va_AO.moved hWm.alike hO.2⟩, vCn.next hWm hS.2.1 hU (fun q hq => ?_) hC⟩
  rcases hq with rfl | hq
  · exact hh
  · exact hA q (Nat.le_trans hS.1 hq)
theorem vEx7_b {Gx : Nat × (Nat → Int32)} {ad : Nat → Nat} {ef : Value} {sz : Nat} (a : Array Value) (U : State) (g : JFrame) (mk : MethodId) (h : vEx7 Gx ad ef ws sz U) : vEx7 Gx ad ef ws sz (U.calling g mk a) := vCn.same (u := U) (U := U.calling g mk a) rfl h
theorem vEx7_at {Gx : Nat × (Nat → Int32)} {ad : Nat → Nat} {ef : Value} (hA : ∀ q : Nat, s.heap.size ≤ q → A q) (hW : vWd D ws A s H locs) (hC : vCn (true, Gx) ad ef A s s.heap) (U : State) (hU : U.heap = H) (hWm : s.WarmedH U.vm) : vEx7 Gx ad ef ws H.size U := vCn.next hWm hW.2.2.2.1 hU (vk_own hA hW) hC
/-- the last cell first -/
theorem vWd_rot {x : Nat × va_E} (hW : vWd D (ws ++ [x]) A s H locs) : vWd D (x :: ws) A s H locs := by
  obtain ⟨hP, hD, hS⟩ := hW
  have up : ∀ {k : Nat} {q : Nat × va_E}, (x :: ws)[k]? = some q → (ws ++ [x])[if k = 0 then ws.length else k - 1]? = some q := fun {k q} h => by
    cases k with
    | zero => rw [if_pos rfl]; simpa using h
    | succ k =>
      rw [if_neg (by omega)]
      have h' : ws[k]? = some q := h
      show (ws ++ [x])[k]? = some q
      rw [List.getElem?_append_left (List.getElem?_eq_some_iff.mp h').1]
      exact h'
  have lt : ∀ {k : Nat} {q : Nat × va_E}, (x :: ws)[k]? = some q → k ≤ ws.length := fun {k q} h => by
    have := (List.getElem?_eq_some_iff.mp h).1
    simp at this
    omega
  refine ⟨fun k q h => hP _ q (up h), ⟨fun i j p q hi hj e => ?_, fun k q h => hD.2 _ q (up h)⟩, hS⟩
  have := hD.1 _ _ p q (up hi) (up hj) e
  have li := lt hi
  have lj := lt hj
  split at this <;> split at this <;> omega
end WC
