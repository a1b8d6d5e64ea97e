set_option maxRecDepth 100000 in
theorem vcode_ok0 : (List.range 221).filterMap (fun y => bif Nat.ble (vYp y) 9998 then some wsL_law[vYp y]? else none) = (List.range 221).filterMap (fun y => bif Nat.ble (vYp y) 9998 then some (some (Cond.code (vYn y) (vYc y) (vYl y) (vYr y))) else none) := rfl
theorem vcode_ok {y : Nat} (hy : y < 221) (hp : vYp y ≤ 9998) : Cond.code (vYn y) (vYc y) (vYl y) (vYr y) ∈ wsL_law := by
  have key : ∀ (n : Nat) (f g : Nat → Option (Option Cond)), (∀ y, (f y).isSome = (g y).isSome) → (List.range n).filterMap f = (List.range n).filterMap g → ∀ y, y < n → f y = g y := by
    intro n f g hfg
    induction n with
    | zero => intro _ y hy; omega
    | succ n ih =>
      intro h y hy
      rw [List.range_succ, List.filterMap_append, List.filterMap_append] at h
      have hl := congrArg List.length h
      have e : f n = g n ∧ (List.range n).filterMap f = (List.range n).filterMap g := by
        have hs := hfg n
        cases hf : f n with
        | none =>
          cases hg : g n with
          | none => simp [hf, hg] at h; exact ⟨rfl, h⟩
          | some b => rw [hf, hg] at hs; cases hs
        | some a =>
          cases hg : g n with
          | none => rw [hf, hg] at hs; cases hs
          | some b =>
            simp only [List.filterMap_cons, hf, hg, List.filterMap_nil] at h
            have h2 := List.append_inj' h rfl
            exact ⟨congrArg some (List.cons.inj h2.2).1, h2.1⟩
      by_cases hyn : y = n
      · subst hyn; exact e.1
      · exact ih e.2 y (by omega)
  have h := key 221 _ _ (fun y => by cases Nat.ble (vYp y) 9998 <;> rfl) vcode_ok0 y hy
  rw [Nat.ble_eq_true_of_le hp] at h
  exact List.mem_of_getElem? (Option.some.inj h)
theorem vpopn_e {n : Nat} {acc st as r : List Value} (h : vpopn n acc st = some (as, r)) : ∃ pre, st = pre ++ r ∧ as = pre.reverse ++ acc ∧ pre.length = n := by
  induction n generalizing acc st with
  | zero => cases h; exact ⟨[], rfl, rfl, rfl⟩
  | succ n ih =>
    cases st with
    | nil => cases h
    | cons v st =>
      obtain ⟨pre, h1, h2, h3⟩ := ih (acc := v :: acc) (st := st) h
      exact ⟨v :: pre, by rw [h1]; rfl, by rw [h2]; simp, by simp [h3]⟩
section SR
variable {l : Launch} {G : vG} {d y pc nx : Nat} {ls : vL} {st : List Value} {σ : vM} {post : vQ}
/-- behind a call -/
theorem vs_back {p : Program} {e : Env} {R : Room} {s : State} {m : MethodId} {args : Array Value} {below : List Frame} {meth : Method} {c : Code} {A : Nat → Prop} {ad : Nat → Nat} {cA : Nat → ClassId} {D : va_G} {ef : Value} {cells slots : Nat} {Q : State → Prop} {H : Heap} {locs : List Loc} {L : Array Slot} {Mid : vQ} {a : Array Value} {stk r : List Value}
    (hF : vCf G p R s m args c A ad cA D ef cells slots (d + 1) y) (hE : vEnd l G p e R s m args below meth c A ad cA D ef cells slots Q y post) (hS : va_S A s.heap H locs) (hL : vlok ad ef L ls) (hn : ls.length = vYl y)
    (hr : va_Run p l e R s m args below meth c H locs cells slots 0 0 (F0 m pc L stk) (r.map (vcv ad ef)) (vQc G D cA ad ef Mid H.size a) (vA G ad H.size)) (hA : ∀ q, vA G ad H.size q → A q)
    (hk : ∀ (v : Option Value) (σ' : vM), Mid v σ' → vS l G (d + 1) y (pc + 3) ls (vpush v r) σ' post) : W p l e R s m args below meth c H locs cells slots Q (F0 m pc L stk) := by
  intro T hT X
  obtain ⟨v, st₀, t, T', L1, h0, X', hL1, e1, e2, ⟨⟨v', σ', hv, hM, hP'⟩, hz, hkp⟩, stp⟩ := hr T hT X
  cases hv
  rw [h0] at hz hkp
  have hS' : va_S A s.heap T'.heap (locs ++ L1) := ⟨Nat.le_trans hS.1 (by rw [e1]; exact hz), fun q h1 h2 => by rw [e1, hkp q (Nat.lt_of_lt_of_le h1 hS.1) (fun z => h2 (hA q z))]; exact hS.2.1 q h1 h2, fun q hq => by
      rcases List.mem_append.mp hq with h | h
      · exact hS.2.2 q h
      · exact hA _ (hL1 q h)⟩
  have hw := hk v' σ' hM p e R s m args below meth c A ad cA D ef cells slots Q hF hE T'.heap (locs ++ L1) L (by rw [e1]; exact hP') hS' hL hn
  have e3 : (vpush v' r).map (vcv ad ef) = (v'.map (vcv ad ef)).toList ++ r.map (vcv ad ef) := by cases v' <;> rfl
  rw [e3] at hw
  obtain ⟨t2, a1, b1⟩ := hw T' rfl X'
  exact ⟨t2, stp t2 a1, b1⟩
theorem vA_in {p : Program} {R : Room} {s : State} {m : MethodId} {args : Array Value} {c : Code} {A : Nat → Prop} {ad : Nat → Nat} {cA : Nat → ClassId} {D : va_G} {ef : Value} {cells slots : Nat} {H : Heap} {locs : List Loc} (hF : vCf G p R s m args c A ad cA D ef cells slots d y) (hS : va_S A s.heap H locs) : ∀ q, vA G ad H.size q → A q := by
  intro q hq
  obtain ⟨-, -, -, -, -, -, -, hA, hD, -⟩ := hF
  rcases hq with ⟨i, hi, rfl⟩ | hq
  · exact (hD (fun _ _ => 0, fun _ _ => 0)).2 i _ (vwd_get hi)
  · exact hA q (Nat.le_trans hS.1 hq)
theorem vA_D {ad : Nat → Nat} {cA : Nat → ClassId} {A : Nat → Prop} {sz : Nat} (h : va_D A (vwd G ad cA σ)) : va_D (vA G ad sz) (vwd G ad cA σ) := by
  refine ⟨h.1, fun k q hk => ?_⟩
  have hl : k < vsz G := by
    rcases Nat.lt_or_ge k (vsz G) with h | h
    · exact h
    · rw [List.getElem?_eq_none (by simp [vwd]; omega)] at hk; cases hk
  rw [vwd_get hl] at hk
  cases hk
  exact Or.inl ⟨k, hl, rfl⟩
theorem vPc_at {p : Program} {R : Room} {s : State} {m : MethodId} {args : Array Value} {c : Code} {A : Nat → Prop} {ad : Nat → Nat} {cA : Nat → ClassId} {D : va_G} {ef : Value} {cells slots : Nat} {H : Heap} {locs : List Loc} {as : List Value} (hF : vCf G p R s m args c A ad cA D ef cells slots d y) (hS : va_S A s.heap H locs) (hP : va_P D vwCl (vwd G ad cA σ) H) (U : State) (hU : U.heap = H) (hW : s.WarmedH U.vm) : vPc G D cA ad ef σ as H.size (as.map (vcv ad ef)).toArray U := by
  have hA := vA_in hF hS
  exact ⟨rfl, by rw [hU], by rw [hU]; exact hP, fun σ => vA_D (hF.2.2.2.2.2.2.2.2.1 σ), hF.2.2.2.2.2.1.moved hW.alike, hF.2.2.2.2.2.2.1.next hW hS.2.1 hU hA⟩
theorem vrecv_ok {p : Program} {R : Room} {s : State} {m : MethodId} {args : Array Value} {c : Code} {A : Nat → Prop} {ad : Nat → Nat} {cA : Nat → ClassId} {D : va_G} {ef : Value} {cells slots : Nat} {H : Heap} {locs : List Loc} {a k : Nat} (hF : vCf G p R s m args c A ad cA D ef cells slots d y) (hS : va_S A s.heap H locs) (hP : va_P D vwCl (vwd G ad cA σ) H) (hr : vrecv G a k = true) : vcv ad ef (.ref a) = .ref (ad a) ∧ ∃ cell : Cell, H[ad a]? = some cell ∧ cell.vm.isStatics = false ∧ s.vm.findClass (vcn k) = some cell.cls := by
  unfold vrecv at hr
  split at hr
  next q hl =>
    have hr := Nat.eq_of_beq_eq_true hr
    obtain ⟨ci, fs⟩ := q
    dsimp only at hr
    subst hr
    refine ⟨vcv_cell hl, ?_⟩
    exact va_recv (cl := vwCl) (tys := []) hF.2.2.2.2.2.1.1 hP (vcl_at (vlay_obj hl).1) (by rw [vwd_get (vlay_some hl).1, vcell_obj hl])
  next =>
    simp only [Bool.and_eq_true, Bool.or_eq_true] at hr
    have hk := Nat.eq_of_beq_eq_true hr.1
    subst hk
    obtain ⟨h1, -⟩ := hF.2.2.2.2.2.2.1
    rcases hr.2 with ha | ha
    · have ha := Nat.eq_of_beq_eq_true ha
      subst ha
      exact ⟨vcv_ref (by decide), vk_recv h1 (i := 0) (by decide) hS⟩
    · have ha := Nat.eq_of_beq_eq_true ha
      subst ha
      exact ⟨vcv_ref (by decide), vk_recv h1 (i := 1) (by decide) hS⟩
theorem vws_good {y' : Nat} (hy : y' < 221) (hp : vYp y' ≤ 9998) : GoodIn wsL_law (vws y') := by
  intro w hw
  rcases List.mem_cons.mp hw with rfl | hw
  · exact ⟨vcode_ok hy hp, Or.inl rfl⟩
  · exact ⟨hw, (wsL_law_good w hw).2⟩
set_option maxHeartbeats 4000000 in
theorem vs_static {idx y' n : Nat} {ps : List Nat} {as r : List Value} (hd : decode (vYc y) pc = .ok (.invokestatic idx, 3)) (hpm : vfind (vPm (vYk y)) idx = some (y', n, 0, ps)) (hpop : vpopn n [] st = some (as, r)) (hnd : vnd as = true) (hr : vcats r ≤ 8) (hlen : (vfill (vYl y') (vsl as)).length = vYl y') (h : ∃ Mid : vQ, vS l G d y' 0 (vfill (vYl y') (vsl as)) [] σ Mid ∧ ∀ (v : Option Value) (σ' : vM), Mid v σ' → vS l G (d + 1) y (pc + 3) ls (vpush v r) σ' post) : vS l G (d + 1) y pc ls st σ post := by
  obtain ⟨Mid, hM, hk⟩ := h
  obtain ⟨pre, rfl, has, hpl⟩ := vpopn_e hpop
  rw [List.append_nil] at has
  have hc := vPm_ok hpm
  simp only [vPmC, Bool.and_eq_true, decide_eq_true_eq] at hc
  obtain ⟨-, hw, hdn, -, hplain, hm1, hm2, hl40, hy, hyp, -⟩ := hc
  have hy : y' < 221 := by have := Nat.le_of_ble_eq_true hy; omega
  have hl40 := Nat.le_of_ble_eq_true hl40
  have hws := vpos_mem hw
  intro p e R s m args below meth c A ad cA D ef cells slots Q hF hE H locs L hP hS hL hn
  obtain ⟨r1, r2, r3, r4⟩ := hF.2.2.2.2.2.2.2.2.2
  have hMet := vS_met hy hplain hnd hlen hM D cA ad ef H.size
  have hgood : GoodIn wsL_law (va_wsS (vcn (vYk y)) idx (vYn y') (vws y')) := by
    intro w hw
    unfold va_wsS at hw
    rcases List.mem_append.mp hw with hw | hw
    · exact ⟨hws w hw, (wsL_law_good w (hws w hw)).2⟩
    · exact vws_good hy (Nat.le_of_ble_eq_true hyp) w hw
  have hcw := va_cwS (R := R) (s := s) (args := args) n hF.2.2.2.2.1 hgood (ws := vws y') rfl (rm := vrm d) (mc := 0) (ms := 0) rfl rfl ⟨hm1, hm2, hdn⟩ ⟨r1, by show 8 + (vYl y' + 11) + 64 * d ≤ R.locals; omega⟩
  have hsum := vcats_sum (ad := ad) (vef_cat hF.2.2.2.2.2.2.1) r
  have hrun := va_runS (As := as.map (vcv ad ef)) (rest := r.map (vcv ad ef)) (g := F0 m pc L ((pre ++ r).map (vcv ad ef))) (p := p) (e := e) (below := below) (meth := meth) (H := H) (locs := locs) (cells := cells) (slots := slots) (nL := vYl y) ⟨hF.1, hF.2.1, hF.2.2.1, hF.2.2.2.1, hF.2.2.2.2.1⟩ hMet hcw ⟨vPc_blind, fun U hU hW => vPc_at hF hS hP U hU hW⟩ rfl (by rw [List.length_map, has, List.length_reverse]; exact hpl) (hL.1.trans hn) (by rw [has, List.map_append, List.map_reverse, List.reverse_reverse]) (by show 2 * 0 + _ ≤ 8; omega) hd ⟨by omega, by omega⟩
  exact vs_back hF hE hS hL hn hrun (vA_in hF hS) hk
set_option maxHeartbeats 4000000 in
theorem vs_virtual {idx y' n a : Nat} {ps : List Nat} {as r : List Value} (hd : decode (vYc y) pc = .ok (.invokevirtual idx, 3)) (hpm : vfind (vPm (vYk y)) idx = some (y', n, 1, ps)) (hpop : vpopn n [] st = some (.ref a :: as, r)) (hrec : vrecv G a (vYk y') = true) (hnd : vnd (.ref a :: as) = true) (hr : vcats r ≤ 8) (hlen : (vfill (vYl y') (vsl (.ref a :: as))).length = vYl y') (h : ∃ Mid : vQ, vS l G d y' 0 (vfill (vYl y') (vsl (.ref a :: as))) [] σ Mid ∧ ∀ (v : Option Value) (σ' : vM), Mid v σ' → vS l G (d + 1) y (pc + 3) ls (vpush v r) σ' post) : vS l G (d + 1) y pc ls st σ post := by
  obtain ⟨Mid, hM, hk⟩ := h
  obtain ⟨pre, rfl, has, hpl⟩ := vpopn_e hpop
  rw [List.append_nil] at has
  have hpre : pre = as.reverse ++ [.ref a] := by
    have := congrArg List.reverse has
    rw [List.reverse_reverse, List.reverse_cons] at this
    exact this.symm
  subst hpre
  have hc := vPm_ok hpm
  simp only [vPmC, Bool.and_eq_true, decide_eq_true_eq] at hc
  obtain ⟨-, hw, hdn, -, hplain, hm1, hm2, hl40, hy, hyp, hcn⟩ := hc
  have hy : y' < 221 := by have := Nat.le_of_ble_eq_true hy; omega
  have hl40 := Nat.le_of_ble_eq_true hl40
  have hws := vpos_mem hw
  intro p e R s m args below meth c A ad cA D ef cells slots Q hF hE H locs L hP hS hL hn
  obtain ⟨r1, r2, r3, r4⟩ := hF.2.2.2.2.2.2.2.2.2
  obtain ⟨hra, hrc⟩ := vrecv_ok hF hS hP hrec
  have hMet := vS_met hy hplain hnd hlen hM D cA ad ef H.size
  have hgood : GoodIn wsL_law (wsV (vcn (vYk y)) idx (vYn y').cls (vYn y') (vws y')) := by
    intro w hw
    unfold wsV at hw
    rcases List.mem_append.mp hw with hw | hw
    · exact ⟨hws w hw, (wsL_law_good w (hws w hw)).2⟩
    · exact vws_good hy (Nat.le_of_ble_eq_true hyp) w hw
  have hcw := cwV (R := R) (s := s) (args := args) (n - 1) hF.2.2.2.2.1 hgood (ws := vws y') rfl (rm := vrm d) (mc := 0) (ms := 0) rfl rfl ⟨rfl, hm1, hm2, hdn⟩ ⟨r1, by show 8 + (vYl y' + 11) + 64 * d ≤ R.locals; omega⟩
  have hsum := vcats_sum (ad := ad) (vef_cat hF.2.2.2.2.2.2.1) r
  have hPC : ∀ U : State, U.heap = H → s.WarmedH U.vm → vPc G D cA ad ef σ (.ref a :: as) H.size (Value.ref (ad a) :: as.map (vcv ad ef)).toArray U := by
    intro U hU hW
    have := vPc_at (as := .ref a :: as) hF hS hP U hU hW
    rw [List.map_cons, hra] at this
    exact this
  rw [hcn] at hrc
  have hrun := va_runV (As := as.map (vcv ad ef)) (rest := r.map (vcv ad ef)) (b := ad a) (g := F0 m pc L ((as.reverse ++ [Value.ref a] ++ r).map (vcv ad ef))) (p := p) (e := e) (below := below) (meth := meth) (H := H) (locs := locs) (cells := cells) (slots := slots) (nL := vYl y) ⟨hF.1, hF.2.1, hF.2.2.1, hF.2.2.2.1, hF.2.2.2.2.1⟩ hMet hcw ⟨vPc_blind, hrc, hPC⟩ rfl (by rw [List.length_map]; simp at hpl; omega) (hL.1.trans hn) (by simp [hra]) (by show 2 * 0 + _ ≤ 8; omega) hd ⟨by omega, by omega⟩
  exact vs_back hF hE hS hL hn hrun (vA_in hF hS) hk
end SR
