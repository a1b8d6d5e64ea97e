/-! ===== CONSTRUCTORS: new, and a call of a constructor ===== -/
theorem vk_join {A : Nat → Prop} {D : va_G} {ws0 w1 : va_W} {x : Nat × va_E} {H H1 : Heap} (hP : va_P D vwCl (ws0 ++ [x]) H) (hD : va_D A (ws0 ++ [x])) (hk : ∀ q : Nat, q < H.size → ¬ va_A [x] H.size q → H1[q]? = H[q]?) (hF : ∀ q, va_A [x] H.size q → A q) (hP1 : va_P D vwCl w1 H1) (hD1 : va_D (va_A [x] H.size) w1) : va_P D vwCl (ws0 ++ w1) H1 ∧ va_D A (ws0 ++ w1) := by
  have up : ∀ {k : Nat} {q : Nat × va_E}, ws0[k]? = some q → (ws0 ++ [x])[k]? = some q := fun {k q} h => by
    rw [List.getElem?_append_left (List.getElem?_eq_some_iff.mp h).1]; exact h
  have hx : (ws0 ++ [x])[ws0.length]? = some x := by simp
  have no : ∀ {k : Nat} {q : Nat × va_E}, ws0[k]? = some q → q.1 < H.size ∧ ¬ va_A [x] H.size q.1 := fun {k q} h => by
    have hl := (hP k q (up h)).lt
    refine ⟨hl, fun z => ?_⟩
    rcases z with ⟨j, e, z⟩ | z
    · match j, z with
      | 0, z =>
        cases z
        have := hD.1 k ws0.length q _ (up h) hx rfl
        have hk' := (List.getElem?_eq_some_iff.mp h).1
        omega
      | j + 1, z => simp at z
    · omega
  exact ⟨va_P.app (fun k q h => (hP k q (up h)).kept (hk q.1 (no h).1 (no h).2)) hP1, va_D.app ⟨fun i j p q hi hj e => hD.1 i j p q (up hi) (up hj) e, fun k q h => hD.2 k q (up h)⟩ (hD1.weaken (fun k q _ h => hF q.1 h)) (fun i j p q hi hj e => (no hi).2 (by rw [e]; exact hD1.2 j q hj))⟩
section MC
variable {p : Program} {l : Launch} {e : Env} {R : Room} {s : State} {m : MethodId} {args : Array Value} {below : List Frame} {meth : Method} {c : Code} {H : Heap} {locs : List Loc} {cells slots : Nat} {Q : State → Prop} {A : Nat → Prop} {D : va_G} {y pc : Nat} {ws ws0 : va_W} {cI cZ cU cO : ClassId} {ls : Array Slot} {rest st0 : List Value} {a : Array Value}
theorem vk_back {S : Type} {good : S → Prop} {wsf : S → va_W} {x : Nat × va_E} {mc ms : Nat} (hA : ∀ q : Nat, s.heap.size ≤ q → A q) (hW : vWd D (ws0 ++ [x]) A s H locs) (hr : va_Run p l e R s m args below meth c H locs cells slots mc ms (F0 m pc ls st0) rest (vkQc D [x] H.size good wsf a) (va_A [x] H.size))
    (kk : ∀ (u : S) (H1 : Heap) (locs1 : List Loc), good u → vWd D (ws0 ++ wsf u) A s H1 locs1 → W p l e R s m args below meth c H1 locs1 (cells + mc) (slots + ms) Q (F0 m (pc + 3) ls rest)) : W p l e R s m args below meth c H locs cells slots Q (F0 m pc ls st0) := by
  obtain ⟨hP, hD, hS⟩ := hW
  have hF : ∀ q, va_A [x] H.size q → A q := by
    rintro q (⟨k, e, h⟩ | h)
    · match k, h with
      | 0, h =>
        cases h
        exact hD.2 ws0.length (q, e) (by simp)
      | k + 1, h => simp at h
    · exact hA q (Nat.le_trans hS.1 h)
  refine va_callv hr hS (fun q _ h => hF q h) hF (fun u t H1 locs1 ht hvm hg hB hz hk hS1 => ?_)
  obtain ⟨hP1, hD1⟩ := hB
  rw [ht] at hP1
  obtain ⟨j1, j2⟩ := vk_join hP hD hk hF hP1 hD1
  exact kk u H1 locs1 hg ⟨j1, j2, hS1⟩
theorem vkPc_blind {tys : List (ClassId × FieldType)} {as : List Value} {sz : Nat} : FrameBlind (vkPc D tys as ws sz (fun _ => True)) := by
  intro a U g mk q
  obtain ⟨q0, q1, qP, qK, qD, qE⟩ := q
  exact ⟨q0, q1, qP, va_K.moved (u := U) (U := U.calling g mk a) (Vm.Alike.refl U.vm) qK, qD, trivial⟩
theorem vkPc_at {as : List Value} {x : Nat × va_E} (hF : vKf y D (vtyC cI cZ cU cO) p s m args c A) (hW : vWd D (ws0 ++ [x]) A s H locs) (U : State) (hU : U.heap = H) (hWm : s.WarmedH U.vm) : vkPc D (vtyC cI cZ cU cO) as [x] H.size (fun _ => True) as.toArray U := by
  refine ⟨rfl, by rw [hU], ?_, va_K.moved hWm.alike hF.2.2.2.2.2.1, ⟨fun i j p q hi hj _ => ?_, fun _ _ _ => trivial⟩, trivial⟩
  · rw [hU]
    intro k q h
    match k, h with
    | 0, h => cases h; exact hW.1 ws0.length _ (by simp)
    | k + 1, h => simp at h
  · match i, j, hi, hj with
    | 0, 0, _, _ => rfl
    | 0, j + 1, _, h => simp at h
    | i + 1, _, h, _ => simp at h
/-- new C; dup -/
theorem vk_new {idx ci : Nat} {fs : List Value} (hF : vKf y D (vtyC cI cZ cU cO) p s m args c A) (hci : ci < 8) (hlk : Cond.classLink (vcn (vYk y)) idx (vcn ci) ∈ wsL_law) (hinst : Cond.instantiable (vcn ci) (vfN ci) ∈ wsL_law) (hini : Cond.initialized (vcn ci) ∈ wsL_law) (hfs : ∀ j, j < vfN ci → defaultValue (vfY ci j) = vp_V fs j) (hW : vWd D ws A s H locs) (hcells : cells + 1 ≤ R.cells) (hslots : slots + vfN ci ≤ R.slots) (hd0 : decode (vYc y) pc = .ok (.new idx, 3)) (hd1 : decode (vYc y) (pc + 3) = .ok (.dup, 1))
    (kk : ∀ (q : Nat) (H1 : Heap), vWd D (ws ++ [(q, .inr (ci, fs))]) A s H1 locs → W p l e R s m args below meth c H1 locs (cells + 1) (slots + vfN ci) Q (F0 m (pc + 4) ls (.ref q :: .ref q :: rest))) : W p l e R s m args below meth c H locs cells slots Q (F0 m pc ls rest) := by
  obtain ⟨f1, f2, f3, f4, f5, f6, f7⟩ := hF
  refine va_new (D := D) (cl := vwCl) (tys := vtyC cI cZ cU cO) (ci := ci) (fs := fs) (C := vcn ci) (T := vfT ci) (N := vfN ci) f1 f2 f5 (vin_at hci) (vfY ci) (vty_at hci) f4 (f5 _ hlk) (f5 _ hinst) (f5 _ hini) f6 hW.1 hW.2.1 hW.2.2 f7 (vcl_at hci) hfs hcells hslots hd0 (fun q H1 hP hD hS => ?_)
  refine lv_dup f1 f2 hd1 rfl ?_
  exact kk q H1 ⟨hP, hD, hS⟩
/-- a nest mate's constructor -/
theorem vk_callN {S : Type} {good : S → Prop} {wsf : S → va_W} {y' idx q nl mc ms : Nat} {xe : va_E} {rm : Room} {lv : List (Nat × Value)} (hF : vKf y D (vtyC cI cZ cU cO) p s m args c A) (hls : lv_has ls nl lv) (hnl : nl = vYl y) (hW : vWd D (ws0 ++ [(q, xe)]) A s H locs) (hM : Met l (vYn y') (vws y') rm (vkPc D (vtyC cI cZ cU cO) [.ref q] [(q, xe)] H.size (fun _ => True)) (vkQc D [(q, xe)] H.size good wsf) mc ms (va_A [(q, xe)] H.size)) (hy : y' < 221) (hyp : vYp y' ≤ 9998) (hret : vYr y' = none) (hrc : rm.cells = mc) (hrs : rm.slots = ms) (hnest : va_Nw (.methodLinkNest (vcn (vYk y)) idx (vYn y') RX6) s) (hini : Cond.initialized (vYn y').cls ∈ wsL_law) (hins : Cond.instanceMethod (vYn y') ∈ wsL_law) (hd3 : (vYn y').cls ≠ "java/lang/invoke/MethodHandle" ∧ (vYn y').cls ≠ "java/lang/invoke/VarHandle" ∧ (parseMethodDescriptor (vYn y').desc).map (fun d => d.parameters.length) = some 0) (hnm : (vYn y').name = "<init>") (hR : rm.frames + 1 ≤ R.frames ∧ 8 + (vYl y' + 11) + rm.locals ≤ R.locals) (hcat : (rest.map fun v => v.category).sum ≤ 8) (hd : decode (vYc y) pc = .ok (.invokespecial idx, 3)) (hf : cells + mc ≤ R.cells ∧ slots + ms ≤ R.slots)
    (kk : ∀ (u : S) (H1 : Heap) (locs1 : List Loc), good u → vWd D (ws0 ++ wsf u) A s H1 locs1 → W p l e R s m args below meth c H1 locs1 (cells + mc) (slots + ms) Q (F0 m (pc + 3) ls rest)) : W p l e R s m args below meth c H locs cells slots Q (F0 m pc ls (.ref q :: rest)) := by
  obtain ⟨f1, f2, f3, f4, f5, f6, f7⟩ := id hF
  subst hnl
  refine vk_back (good := good) (wsf := wsf) f7 hW (va_runIN (As := []) (rest := rest) (b := q) (n := 0) (bytes := vYc y') (maxL := vYl y') ⟨f1, f2, f3, f4, f5⟩ hM ⟨va_cnB 0 f5 (vws_good hy hyp) (by unfold vws; rw [hret]) hrc hrs hnest (f5 _ hini) hd3 hR, hnm, f5 _ hins⟩ ⟨vkPc_blind, fun U hU hWm => vkPc_at hF hW U hU hWm⟩ rfl rfl hls.1 rfl (by show 2 * 0 + _ ≤ 8; omega) hd hf) kk
/-- a constructor with one argument -/
theorem vk_call1 {S : Type} {good : S → Prop} {wsf : S → va_W} {y' idx q nl mc ms : Nat} {xe : va_E} {v : Value} {rm : Room} {lv : List (Nat × Value)} (hF : vKf y D (vtyC cI cZ cU cO) p s m args c A) (hls : lv_has ls nl lv) (hnl : nl = vYl y) (hW : vWd D (ws0 ++ [(q, xe)]) A s H locs) (hM : Met l (vYn y') (vws y') rm (vkPc D (vtyC cI cZ cU cO) [.ref q, v] [(q, xe)] H.size (fun _ => True)) (vkQc D [(q, xe)] H.size good wsf) mc ms (va_A [(q, xe)] H.size)) (hy : y' < 221) (hyp : vYp y' ≤ 9998) (hret : vYr y' = none) (hrc : rm.cells = mc) (hrs : rm.slots = ms) (hlk : Cond.methodLink (vcn (vYk y)) idx (vYn y') ∈ wsL_law) (hini : Cond.initialized (vYn y').cls ∈ wsL_law) (hins : Cond.instanceMethod (vYn y') ∈ wsL_law) (hd3 : (vYn y').cls ≠ "java/lang/invoke/MethodHandle" ∧ (vYn y').cls ≠ "java/lang/invoke/VarHandle" ∧ (parseMethodDescriptor (vYn y').desc).map (fun d => d.parameters.length) = some 1) (hnm : (vYn y').name = "<init>") (hR : rm.frames + 1 ≤ R.frames ∧ 8 + (vYl y' + 11) + rm.locals ≤ R.locals) (hcat : (rest.map fun v => v.category).sum ≤ 8) (hd : decode (vYc y) pc = .ok (.invokespecial idx, 3)) (hf : cells + mc ≤ R.cells ∧ slots + ms ≤ R.slots)
    (kk : ∀ (u : S) (H1 : Heap) (locs1 : List Loc), good u → vWd D (ws0 ++ wsf u) A s H1 locs1 → W p l e R s m args below meth c H1 locs1 (cells + mc) (slots + ms) Q (F0 m (pc + 3) ls rest)) : W p l e R s m args below meth c H locs cells slots Q (F0 m pc ls (v :: .ref q :: rest)) := by
  obtain ⟨f1, f2, f3, f4, f5, f6, f7⟩ := id hF
  subst hnl
  refine vk_back (good := good) (wsf := wsf) f7 hW (va_runI (As := [v]) (rest := rest) (b := q) (n := 1) (bytes := vYc y') (maxL := vYl y') ⟨f1, f2, f3, f4, f5⟩ hM (cwI 1 f5 (vws_good hy hyp) (by unfold vws; rw [hret]) hrc hrs (f5 _ hini) (f5 _ hlk) (f5 _ hins) hnm hd3 hR) ⟨vkPc_blind, fun U hU hWm => vkPc_at hF hW U hU hWm⟩ rfl rfl hls.1 rfl (by show 2 * 0 + _ ≤ 8; omega) hd hf) kk
end MC
