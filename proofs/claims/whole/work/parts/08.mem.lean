def vszC (x : vC) : Bool := match x with
  | .inl (t, n, es) => Nat.ble n 4000 && Nat.ble t 3 && es.all (fun e => Nat.ble e 57)
  | .inr (ci, fs) => Nat.ble ci 7 && Nat.beq fs.length (vfN ci) && fs.all (fun f => Nat.ble f.2 82)
theorem vsz_ok : (List.range 83).all (fun i => vszC (vlayT i)) = true := by decide +kernel
theorem vlay_sz {G : vG} {i : Nat} {x : vC} (h : vlay G i = some x) : vszC x = true := by
  obtain ⟨h1, h2⟩ := vlay_some h
  rw [← h2]
  refine List.all_eq_true.mp vsz_ok i (List.mem_range.mpr ?_)
  unfold vsz at h1
  cases hG : G.1 <;> rw [hG] at h1 <;> simp at h1 <;> omega
theorem vlay_83 {G : vG} {i : Nat} {x : vC} (h : vlay G i = some x) : i < 83 := by
  obtain ⟨h1, -⟩ := vlay_some h
  unfold vsz at h1
  cases hG : G.1 <;> rw [hG] at h1 <;> simp at h1 <;> omega
theorem vlay_arr {G : vG} {i t n : Nat} {es : List Nat} (h : vlay G i = some (.inl (t, n, es))) : n < 2 ^ 31 ∧ t ≤ 3 ∧ ∀ j, es.getD j 0 ≤ 57 := by
  have h0 := vlay_sz h
  simp only [vszC, Bool.and_eq_true] at h0
  obtain ⟨⟨h1, h2⟩, h3⟩ := h0
  refine ⟨by have := Nat.le_of_ble_eq_true h1; omega, Nat.le_of_ble_eq_true h2, fun j => ?_⟩
  rw [List.getD_eq_getElem?_getD]
  cases he : es[j]? with
  | none => simp
  | some e =>
    have := List.all_eq_true.mp h3 e (List.mem_of_getElem? he)
    simpa using Nat.le_of_ble_eq_true this
theorem vlay_obj {G : vG} {i ci : Nat} {fs : List (Nat × Nat)} (h : vlay G i = some (.inr (ci, fs))) : ci < 8 ∧ fs.length = vfN ci ∧ ∀ k f, vnth fs k = some f → k < vfN ci ∧ f.2 ≤ 82 ∧ vtagT f.1 (vfY ci k) (vfT ci k).2.2.2 = true := by
  have h0 := vlay_ok h
  simp only [vcellOk, Bool.and_eq_true] at h0
  obtain ⟨⟨h1, h2⟩, h3⟩ := h0
  refine ⟨by have := Nat.le_of_ble_eq_true h1; omega, Nat.eq_of_beq_eq_true h2, fun k f hk => ?_⟩
  have e1 : fs[k]? = some f := by
    clear h h1 h2 h3
    induction fs generalizing k with
    | nil => cases hk
    | cons a l ih => cases k with
      | zero => exact hk
      | succ k => exact ih k hk
  have hlt : k < vfN ci := by
    have := (List.getElem?_eq_some_iff.mp e1).1
    have := Nat.eq_of_beq_eq_true h2
    omega
  have h4 := List.all_eq_true.mp h3 k (List.mem_range.mpr hlt)
  rw [e1] at h4
  simp only [Bool.and_eq_true] at h4
  exact ⟨hlt, Nat.le_of_ble_eq_true h4.2, h4.1⟩
theorem vcell_arr {G : vG} {ad : Nat → Nat} {cA : Nat → ClassId} {σ : vM} {i t n : Nat} {es : List Nat} (h : vlay G i = some (.inl (t, n, es))) (ht : t ≤ 1) : vcell ad cA σ i = .inl (cA i, n, .inl (σ.1 i)) := by
  unfold vcell
  rw [(vlay_some h).2]
  show Sum.inl (cA i, n, bif Nat.ble t 1 then Sum.inl (σ.1 i) else _) = _
  rw [Nat.ble_eq_true_of_le ht]
  rfl
theorem vcell_refs {G : vG} {ad : Nat → Nat} {cA : Nat → ClassId} {σ : vM} {i t n : Nat} {es : List Nat} (h : vlay G i = some (.inl (t, n, es))) (ht : 2 ≤ t) : vcell ad cA σ i = .inl (cA i, n, .inr (.inr (.inr (.inr (fun k => some (ad (es.getD k 0))))))) := by
  unfold vcell
  rw [(vlay_some h).2]
  show Sum.inl (cA i, n, bif Nat.ble t 1 then Sum.inl (σ.1 i) else _) = _
  have : Nat.ble t 1 = false := by
    cases hb : Nat.ble t 1 with
    | false => rfl
    | true => have := Nat.le_of_ble_eq_true hb; omega
  rw [this]
  rfl
theorem vcell_obj {G : vG} {ad : Nat → Nat} {cA : Nat → ClassId} {σ : vM} {i ci : Nat} {fs : List (Nat × Nat)} (h : vlay G i = some (.inr (ci, fs))) : vcell ad cA σ i = .inr (ci, vflds ad σ i fs) := by
  unfold vcell
  rw [(vlay_some h).2]
theorem vcv_cell {G : vG} {ad : Nat → Nat} {ef : Value} {i : Nat} {x : vC} (h : vlay G i = some x) : vcv ad ef (.ref i) = .ref (ad i) := vcv_ref (by have := vlay_83 h; omega)
theorem vconL {G : vG} {r : Nat} {x : Nat × Nat × (Nat → Int32)} (h : vcon G r = some x) : r ≤ 1007 := by
  unfold vcon at h
  split at h <;> first | (cases h; done) | decide
section SM
variable {l : Launch} {G : vG} {d y pc nx : Nat} {ls : vL} {st : List Value} {σ : vM} {post : vQ}
theorem vs_iaload (hd : decode (vYc y) pc = .ok (.iaload, 1)) (h : vald G σ 0 st (fun v r => vS l G d y (pc + 1) ls (v :: r) σ post)) : vS l G d y pc ls st σ post := by
  unfold vald at h
  split at h
  next i a r =>
    split at h
    next t n es hl =>
      replace h : bif Nat.beq t 0 then ∃ j : Nat, i = nI j ∧ j < n ∧ vS l G d y (pc + 1) ls (.int (σ.1 a j) :: r) σ post else False := h
      obtain ⟨ht, j, rfl, hj, hh⟩ := vcond h
      clear h
      have h := hh
      have ht := Nat.eq_of_beq_eq_true ht
      subst ht
      obtain ⟨hz, -, -⟩ := vlay_arr hl
      intro p e R s m args below meth c A ad cA D ef cells slots Q hF hE H locs L hP hS hL hn
      rw [List.map_cons, List.map_cons, vcv_cell hl]
      refine va_iald (D := D) (tys := [(cA a, vty 0)]) hF.1 hF.2.1 (hF.2.2.2.2.2.1.one hl) hP a 0 (by rw [vwd_get (vlay_some hl).1, vcell_arr hl (by decide)]) rfl (vp_in_nI hj hz) hd ?_
      rw [nI_clamp (by omega)]
      exact (h p e R s m args below meth c A ad cA D ef cells slots Q hF hE H locs _ hP hS hL hn)
    next hl => cases h
    next hl =>
      split at h
      next t n f hc =>
        obtain ⟨ht, j, rfl, hj, hh⟩ := vcond h
        clear h
        have h := hh
        have ht := Nat.eq_of_beq_eq_true ht
        subst ht
        intro p e R s m args below meth c A ad cA D ef cells slots Q hF hE H locs L hP hS hL hn
        obtain ⟨-, -, -, -, -, -, -, -, -, h10⟩ := hF.2.2.2.2.2.2.1
        obtain ⟨hz, hT⟩ := h10 _ _ _ _ hc
        rw [List.map_cons, List.map_cons, vcv_ref (vconL hc)]
        exact va_ti hF.1 hF.2.1 hT hS (vp_in_nI hj hz) (by rw [nI_clamp (by omega)]; rfl) hd (h p e R s m args below meth c A ad cA D ef cells slots Q hF hE H locs _ hP hS hL hn)
      next hc => cases h
  next hne => cases h
theorem vs_baload (hd : decode (vYc y) pc = .ok (.baload, 1)) (h : vald G σ 1 st (fun v r => vS l G d y (pc + 1) ls (v :: r) σ post)) : vS l G d y pc ls st σ post := by
  unfold vald at h
  split at h
  next i a r =>
    split at h
    next t n es hl =>
      replace h : bif Nat.beq t 1 then ∃ j : Nat, i = nI j ∧ j < n ∧ vS l G d y (pc + 1) ls (.int (σ.1 a j) :: r) σ post else False := h
      obtain ⟨ht, j, rfl, hj, hh⟩ := vcond h
      clear h
      have h := hh
      have ht := Nat.eq_of_beq_eq_true ht
      subst ht
      obtain ⟨hz, -, -⟩ := vlay_arr hl
      intro p e R s m args below meth c A ad cA D ef cells slots Q hF hE H locs L hP hS hL hn
      rw [List.map_cons, List.map_cons, vcv_cell hl]
      refine va_zald (D := D) (tys := [(cA a, vty 1)]) hF.1 hF.2.1 (hF.2.2.2.2.2.1.one hl) hP a 0 (by rw [vwd_get (vlay_some hl).1, vcell_arr hl (by decide)]) rfl (vp_in_nI hj hz) hd ?_
      rw [nI_clamp (by omega)]
      exact (h p e R s m args below meth c A ad cA D ef cells slots Q hF hE H locs _ hP hS hL hn)
    next hl => cases h
    next hl =>
      split at h
      next t n f hc =>
        obtain ⟨ht, j, rfl, hj, hh⟩ := vcond h
        clear h
        have h := hh
        have ht := Nat.eq_of_beq_eq_true ht
        subst ht
        intro p e R s m args below meth c A ad cA D ef cells slots Q hF hE H locs L hP hS hL hn
        obtain ⟨-, -, -, -, -, -, -, -, -, h10⟩ := hF.2.2.2.2.2.2.1
        obtain ⟨hz, hT⟩ := h10 _ _ _ _ hc
        rw [List.map_cons, List.map_cons, vcv_ref (vconL hc)]
        exact va_tb hF.1 hF.2.1 hT hS (vp_in_nI hj hz) (by rw [nI_clamp (by omega)]; rfl) hd (h p e R s m args below meth c A ad cA D ef cells slots Q hF hE H locs _ hP hS hL hn)
      next hc => cases h
  next hne => cases h
theorem vs_aaload (hd : decode (vYc y) pc = .ok (.aaload, 1)) (h : vald G σ 2 st (fun v r => vS l G d y (pc + 1) ls (v :: r) σ post)) : vS l G d y pc ls st σ post := by
  unfold vald at h
  split at h
  next i a r =>
    split at h
    next t n es hl =>
      replace h : bif Nat.ble 2 t then ∃ j : Nat, i = nI j ∧ j < n ∧ vS l G d y (pc + 1) ls (.ref (es.getD j 0) :: r) σ post else False := h
      obtain ⟨ht, j, rfl, hj, hh⟩ := vcond h
      clear h
      have h := hh
      have ht := Nat.le_of_ble_eq_true ht
      obtain ⟨hz, ht3, hes⟩ := vlay_arr hl
      intro p e R s m args below meth c A ad cA D ef cells slots Q hF hE H locs L hP hS hL hn
      rw [List.map_cons, List.map_cons, vcv_cell hl]
      have hh : W p l e R s m args below meth c H locs cells slots Q (F0 m (pc + 1) L (va_rf ((fun k => some (ad (es.getD k 0))) (nI j).toNatClampNeg) :: r.map (vcv ad ef))) := by
        rw [nI_clamp (by omega)]
        have h1 := (h p e R s m args below meth c A ad cA D ef cells slots Q hF hE H locs _ hP hS hL hn)
        rw [List.map_cons, vcv_ref (by have := hes j; omega)] at h1
        exact h1
      rcases (show t = 2 ∨ t = 3 by omega) with rfl | rfl
      · exact va_aldq (C := RX4) (D := D) (tys := [(cA a, vty 2)]) hF.1 hF.2.1 (hF.2.2.2.2.2.1.one hl) hP a 0 (by rw [vwd_get (vlay_some hl).1, vcell_refs hl (by decide)]) rfl (vp_in_nI hj hz) hd hh
      · exact va_aldq (C := RX3) (D := D) (tys := [(cA a, vty 3)]) hF.1 hF.2.1 (hF.2.2.2.2.2.1.one hl) hP a 0 (by rw [vwd_get (vlay_some hl).1, vcell_refs hl (by decide)]) rfl (vp_in_nI hj hz) hd hh
    next hl => cases h
    next hl =>
      split at h
      next t n f hc =>
        obtain ⟨ht, -⟩ := vcond h
        have ht := Nat.eq_of_beq_eq_true ht
        subst ht
        exfalso
        unfold vcon at hc
        split at hc <;> cases hc
      next hc => cases h
  next hne => cases h
theorem vput_arr {ad : Nat → Nat} {cA : Nat → ClassId} {σ : vM} {G : vG} {a t n j : Nat} {es : List Nat} {x : Int32} (hl : vlay G a = some (.inl (t, n, es))) (ht : t ≤ 1) : vcell ad cA (vput σ a j x) a = .inl (cA a, n, .inl (upd (σ.1 a) j x)) := by
  rw [vcell_arr hl ht]
  congr 4
  funext k
  show (if a = a ∧ k = j then x else σ.1 a k) = if k = j then x else σ.1 a k
  by_cases e : k = j <;> simp [e]
theorem vs_iastore (hd : decode (vYc y) pc = .ok (.iastore, 1)) (h : vast G σ 0 st (fun σ r => vS l G d y (pc + 1) ls r σ post)) : vS l G d y pc ls st σ post := by
  unfold vast at h
  split at h
  next x i a r =>
    split at h
    next t n es hl =>
      obtain ⟨ht, hx, j, rfl, hj, hh⟩ := vcond h
      clear h
      have h := hh
      have ht := Nat.eq_of_beq_eq_true ht
      subst ht
      obtain ⟨hz, -, -⟩ := vlay_arr hl
      intro p e R s m args below meth c A ad cA D ef cells slots Q hF hE H locs L hP hS hL hn
      rw [List.map_cons, List.map_cons, List.map_cons, vcv_cell hl]
      refine va_iast (D := D) (tys := [(cA a, vty 0)]) hF.1 hF.2.1 (hF.2.2.2.2.2.1.one hl) hP (hF.2.2.2.2.2.2.2.2.1 σ) hS a 0 (by rw [vwd_get (vlay_some hl).1, vcell_arr hl (by decide)]) rfl (vp_in_nI hj hz) hd (fun H1 locs1 hP1 _ hS1 => ?_)
      rw [nI_clamp (by omega)] at hP1
      rw [vwd_set (σ' := vput σ a j x) (vlay_some hl).1 (fun j hj => vcell_put hj) (vput_arr hl (by decide))] at hP1
      exact (h p e R s m args below meth c A ad cA D ef cells slots Q hF hE H1 locs1 _ hP1 hS1 hL hn)
    next hl => cases h
  next hne => cases h
theorem vs_bastore (hd : decode (vYc y) pc = .ok (.bastore, 1)) (h : vast G σ 1 st (fun σ r => vS l G d y (pc + 1) ls r σ post)) : vS l G d y pc ls st σ post := by
  unfold vast at h
  split at h
  next x i a r =>
    split at h
    next t n es hl =>
      obtain ⟨ht, hx, j, rfl, hj, hh⟩ := vcond h
      clear h
      have h := hh
      have ht := Nat.eq_of_beq_eq_true ht
      subst ht
      obtain ⟨hz, -, -⟩ := vlay_arr hl
      intro p e R s m args below meth c A ad cA D ef cells slots Q hF hE H locs L hP hS hL hn
      rw [List.map_cons, List.map_cons, List.map_cons, vcv_cell hl]
      refine va_zast (D := D) (tys := [(cA a, vty 1)]) hF.1 hF.2.1 (hF.2.2.2.2.2.1.one hl) hP (hF.2.2.2.2.2.2.2.2.1 σ) hS a 0 (by rw [vwd_get (vlay_some hl).1, vcell_arr hl (by decide)]) rfl (vp_in_nI hj hz) hd (fun H1 locs1 hP1 _ hS1 => ?_)
      rw [nI_clamp (by omega)] at hP1
      have e1 : vp_nar .boolean x = x := by
        rcases hx rfl with rfl | rfl <;> rfl
      rw [e1] at hP1
      rw [vwd_set (σ' := vput σ a j x) (vlay_some hl).1 (fun j hj => vcell_put hj) (vput_arr hl (by decide))] at hP1
      exact (h p e R s m args below meth c A ad cA D ef cells slots Q hF hE H1 locs1 _ hP1 hS1 hL hn)
    next hl => cases h
  next hne => cases h
theorem vs_arraylength (hd : decode (vYc y) pc = .ok (.arraylength, 1)) (h : valen G st (fun n r => vS l G d y (pc + 1) ls (.int n :: r) σ post)) : vS l G d y pc ls st σ post := by
  unfold valen at h
  split at h
  next a r =>
    split at h
    next t n es hl =>
      intro p e R s m args below meth c A ad cA D ef cells slots Q hF hE H locs L hP hS hL hn
      rw [List.map_cons, vcv_cell hl]
      by_cases ht : t ≤ 1
      · exact va_alen (D := D) (tys := [(cA a, vty t)]) hF.1 hF.2.1 (hF.2.2.2.2.2.1.one hl) hP a 0 (by rw [vwd_get (vlay_some hl).1, vcell_arr hl ht]) rfl (v := nI n) rfl hd (h p e R s m args below meth c A ad cA D ef cells slots Q hF hE H locs _ hP hS hL hn)
      · exact va_alen (D := D) (tys := [(cA a, vty t)]) hF.1 hF.2.1 (hF.2.2.2.2.2.1.one hl) hP a 0 (by rw [vwd_get (vlay_some hl).1, vcell_refs hl (by omega)]) rfl (v := nI n) rfl hd (h p e R s m args below meth c A ad cA D ef cells slots Q hF hE H locs _ hP hS hL hn)
    next hl => cases h
    next hl =>
      split at h
      next t n f hc =>
        intro p e R s m args below meth c A ad cA D ef cells slots Q hF hE H locs L hP hS hL hn
        obtain ⟨-, -, -, -, -, -, -, -, -, h10⟩ := hF.2.2.2.2.2.2.1
        obtain ⟨hz, hT⟩ := h10 _ _ _ _ hc
        rw [List.map_cons, vcv_ref (vconL hc)]
        exact va_tlen hF.1 hF.2.1 hT hS (v := nI n) rfl hd (h p e R s m args below meth c A ad cA D ef cells slots Q hF hE H locs _ hP hS hL hn)
      next hc => cases h
  next hne => cases h
theorem vPf_ok {c idx ci k q : Nat} (h : vfind (vPf c) idx = some (ci, k, q)) : ci < 8 ∧ k < vfN ci ∧ Cond.fieldLink (vcn c) idx (vfT ci k).1 (vfT ci k).2.1 (vfT ci k).2.2.1 ∈ wsL_law := by
  have hm := vfind_mem h
  have hc : c < 15 := by
    rcases Nat.lt_or_ge c 15 with h1 | h1
    · exact h1
    · exfalso
      have e : vPf c = [] := by
        unfold vPf
        split <;> first | rfl | omega
      rw [e] at hm
      cases hm
  have h1 := List.all_eq_true.mp (List.all_eq_true.mp vPf_ok0 c (List.mem_range.mpr hc)) _ hm
  simp only [vPfC, Bool.and_eq_true] at h1
  obtain ⟨⟨h1, h2⟩, h3⟩ := h1
  exact ⟨by have := Nat.le_of_ble_eq_true h1; omega, Nat.le_of_ble_eq_true h2, vpos_mem h3 _ List.mem_cons_self⟩
theorem vPj_ok {c idx w : Nat} (h : vfind (vPj c) idx = some w) : (c = 9 ∧ idx = 9 ∧ w = 0) ∨ (c = 9 ∧ idx = 15 ∧ w = 1) := by
  have hm := vfind_mem h
  unfold vPj at hm
  split at hm
  · simp [vPj9] at hm
    rcases hm with ⟨rfl, rfl⟩ | ⟨rfl, rfl⟩
    · exact Or.inl ⟨rfl, rfl, rfl⟩
    · exact Or.inr ⟨rfl, rfl, rfl⟩
  · cases hm
theorem vs_getfield {idx : Nat} (hd : decode (vYc y) pc = .ok (.getfield idx, 3)) (h : vgetf G σ (vYk y) idx st (fun v r => vS l G d y (pc + 3) ls (v :: r) σ post)) : vS l G d y pc ls st σ post := by
  unfold vgetf at h
  split at h
  next a r =>
    split at h
    next ci fs hl =>
      split at h
      next ci' f q hf =>
        obtain ⟨he, hh⟩ := vcond h
        clear h
        have h := hh
        have he := Nat.eq_of_beq_eq_true he
        subst he
        obtain ⟨hc8, hfl, hk⟩ := vlay_obj hl
        obtain ⟨-, hfN, hlk⟩ := vPf_ok hf
        have key : ∀ (t : Nat × Nat) (v : Value), vnth fs f = some t → (∀ ad ef, vcv ad ef v = vfld ad σ a f t) → vS l G d y (pc + 3) ls (v :: r) σ post → vS l G d y pc ls (.ref a :: r) σ post := by
          intro t v ht hv h
          intro p e R s m args below meth c A ad cA D ef cells slots Q hF hE H locs L hP hS hL hn
          rw [List.map_cons, vcv_cell hl]
          have h1 := (h p e R s m args below meth c A ad cA D ef cells slots Q hF hE H locs _ hP hS hL hn)
          rw [List.map_cons, hv ad ef] at h1
          exact va_get (D := D) (ci := ci) (C := vcn ci) (T := vfT ci) (N := vfN ci) (ref := (vfT ci f).1) hF.1 hF.2.1 hF.2.2.2.2.1 (vin_at hc8) hF.2.2.2.1 hF.2.2.2.2.2.1.1 hP a (by rw [vwd_get (vlay_some hl).1, vcell_obj hl]) (vcl_at hc8) f hfN (hF.2.2.2.2.1 _ hlk) (fun _ h9 => h9) (vflds_get ht) hd h1
        split at h
        next t ht => exact key _ _ ht (fun _ _ => rfl) h
        next t ht => exact key _ _ ht (fun ad ef => by rw [vcv_ref (by have := (hk _ _ ht).2.1; dsimp only at this; omega)]; rfl) h
        next t ht => exact key _ _ ht (fun _ _ => rfl) h
        next t ht =>
          obtain ⟨u, hu, hu2, h⟩ := h
          exact key _ _ ht (fun ad ef => by rw [vcv_ref (by omega)]; show _ = Value.ref (ad (σ.1 a f).toNatClampNeg); rw [hu, nI_clamp (by omega)]) h
        next t ht => exact key _ _ ht (fun _ _ => rfl) h
        next => cases h
      next hf => cases h
    next hl => cases h
    next hl =>
      split at h
      next hj =>
        obtain ⟨ha, hh⟩ := vcond h
        clear h
        have h := hh
        rcases vPj_ok hj with ⟨hc, rfl, -⟩ | ⟨-, -, h0⟩
        · intro p e R s m args below meth c A ad cA D ef cells slots Q hF hE H locs L hP hS hL hn
          obtain ⟨h1, -, -, -, -, -, -, -, -, -⟩ := hF.2.2.2.2.2.2.1
          have hlk : (Cond.fieldLink (vcn (vYk y)) 9 "java/lang/String" "value" "[B").before args s = true := hF.2.2.2.2.1 _ (by rw [hc]; exact List.mem_of_getElem? (i := 87) (by decide +kernel))
          simp only [Bool.or_eq_true] at ha
          have ha2 : a = 1000 ∨ a = 1001 := ha.imp Nat.eq_of_beq_eq_true Nat.eq_of_beq_eq_true
          have h2 := (h p e R s m args below meth c A ad cA D ef cells slots Q hF hE H locs _ hP hS hL hn)
          rcases ha2 with rfl | rfl
          · exact vk_getf hF.1 hF.2.1 (h1.1 0 (by decide)).2.2.1 hS hF.2.2.2.1 hlk (fun _ h9 => h9) hd h2
          · exact vk_getf hF.1 hF.2.1 (h1.1 1 (by decide)).2.2.1 hS hF.2.2.2.1 hlk (fun _ h9 => h9) hd h2
        · cases h0
      next hj =>
        obtain ⟨ha, hh⟩ := vcond h
        clear h
        have h := hh
        rcases vPj_ok hj with ⟨-, -, h0⟩ | ⟨hc, rfl, -⟩
        · cases h0
        · intro p e R s m args below meth c A ad cA D ef cells slots Q hF hE H locs L hP hS hL hn
          obtain ⟨h1, -, -, -, -, -, -, -, -, -⟩ := hF.2.2.2.2.2.2.1
          have hlk : (Cond.fieldLink (vcn (vYk y)) 15 "java/lang/String" "coder" "B").before args s = true := hF.2.2.2.2.1 _ (by rw [hc]; exact List.mem_of_getElem? (i := 93) (by decide +kernel))
          simp only [Bool.or_eq_true] at ha
          have ha2 : a = 1000 ∨ a = 1001 := ha.imp Nat.eq_of_beq_eq_true Nat.eq_of_beq_eq_true
          have h2 := (h p e R s m args below meth c A ad cA D ef cells slots Q hF hE H locs _ hP hS hL hn)
          rcases ha2 with rfl | rfl
          · exact vk_getf hF.1 hF.2.1 (h1.1 0 (by decide)).2.1 hS hF.2.2.2.1 hlk (fun _ h9 => h9) hd h2
          · exact vk_getf hF.1 hF.2.1 (h1.1 1 (by decide)).2.1 hS hF.2.2.2.1 hlk (fun _ h9 => h9) hd h2
      next => cases h
  next hne => cases h
theorem vs_putfield {idx : Nat} (hd : decode (vYc y) pc = .ok (.putfield idx, 3)) (h : vputf G σ (vYk y) idx st (fun σ r => vS l G d y (pc + 3) ls r σ post)) : vS l G d y pc ls st σ post := by
  unfold vputf at h
  split at h
  next v a r =>
    split at h
    next ci fs hl =>
      split at h
      next ci' f q hf =>
        obtain ⟨he, hh⟩ := vcond h
        clear h
        have h := hh
        have he := Nat.eq_of_beq_eq_true he
        subst he
        obtain ⟨hc8, hfl, hk⟩ := vlay_obj hl
        obtain ⟨-, hfN, hlk⟩ := vPf_ok hf
        have key : ∀ (t : Nat × Nat) (σ' : vM), vnth fs f = some t → (vfT ci f).2.2.2 = false → (∀ ad ef, narrow (vfY ci f) (vcv ad ef v) = vcv ad ef v ∧ fits (vfY ci f) (vcv ad ef v) = true) → (∀ ad cA j, j ≠ a → vcell ad cA σ' j = vcell ad cA σ j) → (∀ ad j g, j ≠ f → vfld ad σ' a j g = vfld ad σ a j g) → (∀ ad ef, vfld ad σ' a f t = vcv ad ef v) → vS l G d y (pc + 3) ls r σ' post → vS l G d y pc ls (v :: .ref a :: r) σ post := by
          intro t σ' ht hfin hnf hc1 hc2 hv h
          intro p e R s m args below meth c A ad cA D ef cells slots Q hF hE H locs L hP hS hL hn
          rw [List.map_cons, List.map_cons, vcv_cell hl]
          refine va_put (D := D) (ci := ci) (C := vcn ci) (T := vfT ci) (N := vfN ci) (ref := (vfT ci f).1) hF.1 hF.2.1 hF.2.2.2.2.1 (vin_at hc8) (vfY ci) (vty_at hc8) (vnm_at hc8) hF.2.2.2.1 hF.2.2.2.2.2.1.1 hP (hF.2.2.2.2.2.2.2.2.1 σ) hS a (by rw [vwd_get (vlay_some hl).1, vcell_obj hl]) (vcl_at hc8) f hfN (hF.2.2.2.2.1 _ hlk) (fun _ h9 => h9) hfin (vty_at hc8 f hfN) (hnf ad ef).1 (hnf ad ef).2 (by simp [vflds, hfl, hfN]) hd (fun H1 locs1 hP1 _ hS1 => ?_)
          rw [vwd_set (σ' := σ') (vlay_some hl).1 (hc1 ad cA) (by rw [vcell_obj hl, vflds_set ht (hc2 ad) (hv ad ef)])] at hP1
          exact (h p e R s m args below meth c A ad cA D ef cells slots Q hF hE H1 locs1 _ hP1 hS1 hL hn)
        split at h
        next t ht =>
          split at h
          next x =>
            have hT := (hk _ _ ht).2.2
            simp only [vtagT, Bool.and_eq_true, decide_eq_true_eq, Bool.not_eq_true'] at hT
            exact key _ _ ht hT.2 (fun _ _ => by rw [hT.1]; exact ⟨rfl, rfl⟩) (fun _ _ _ hj => vcell_put hj) (fun ad j g hj => by simp only [vfld, vput]; rw [if_neg (fun q => hj q.2)]) (fun _ _ => by simp [vfld, vput, vcv]) h
          next => cases h
        next t ht =>
          split at h
          next x =>
            have hT := (hk _ _ ht).2.2
            simp only [vtagT, Bool.and_eq_true, decide_eq_true_eq, Bool.not_eq_true'] at hT
            exact key _ _ ht hT.2 (fun _ _ => by rw [hT.1]; exact ⟨rfl, rfl⟩) (fun _ _ _ hj => vcell_putL hj) (fun ad j g hj => by simp only [vfld, vputL]; rw [if_neg (fun q => hj q.2)]) (fun _ _ => by simp [vfld, vputL, vcv]) h
          next => cases h
        next t ht =>
          split at h
          next x =>
            obtain ⟨hx, hh⟩ := vcond h
            clear h
            have h := hh
            have hx := Nat.le_of_ble_eq_true hx
            have hT := (hk _ _ ht).2.2
            have hT2 : (∃ C, vfY ci f = .object C) ∧ (vfT ci f).2.2.2 = false := by
              revert hT
              cases vfY ci f with
              | object C => intro hT; exact ⟨⟨C, rfl⟩, by simpa [vtagT] using hT⟩
              | _ => intro hT; cases hT
            obtain ⟨⟨C, hC⟩, hfin⟩ := hT2
            exact key _ _ ht hfin (fun ad ef => by rw [hC, vcv_ref (by omega)]; exact ⟨rfl, rfl⟩) (fun _ _ _ hj => vcell_put hj) (fun ad j g hj => by simp only [vfld, vput]; rw [if_neg (fun q => hj q.2)]) (fun ad ef => by rw [vcv_ref (x := x) (Nat.le_trans hx (by decide))]; show Value.ref (ad (if a = a ∧ f = f then nI x else σ.1 a f).toNatClampNeg) = _; rw [if_pos ⟨rfl, rfl⟩, nI_clamp (n := x) (Nat.lt_of_le_of_lt hx (by decide))]) h
          next => cases h
        next t ht =>
          split at h
          next x =>
            obtain ⟨hx, h⟩ := h
            have hT := (hk _ _ ht).2.2
            simp only [vtagT, Bool.and_eq_true, decide_eq_true_eq, Bool.not_eq_true'] at hT
            exact key _ _ ht hT.2 (fun _ _ => by rw [hT.1]; rcases hx with rfl | rfl <;> exact ⟨rfl, rfl⟩) (fun _ _ _ hj => vcell_put hj) (fun ad j g hj => by simp only [vfld, vput]; rw [if_neg (fun q => hj q.2)]) (fun _ _ => by simp [vfld, vput, vcv]) h
          next => cases h
        next => cases h
      next hf => cases h
    next hl => cases h
  next hne => cases h
end SM
