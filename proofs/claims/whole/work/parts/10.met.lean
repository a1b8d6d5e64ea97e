theorem vPm_ok {c idx : Nat} {q : Nat × Nat × Nat × List Nat} (h : vfind (vPm c) idx = some q) : vPmC c (idx, q) = true := by
  have hm := vfind_mem h
  have hc : c < 15 := by
    rcases Nat.lt_or_ge c 15 with h1 | h1
    · exact h1
    · exfalso
      have e : vPm c = [] := by
        unfold vPm
        split <;> first | rfl | omega
      rw [e] at hm
      cases hm
  exact List.all_eq_true.mp (List.all_eq_true.mp vPm_ok0 c (List.mem_range.mpr hc)) _ hm
theorem vcats_sum {ad : Nat → Nat} {ef : Value} (he : ef.category = 1) (r : List Value) : ((r.map (vcv ad ef)).map fun v => v.category).sum = vcats r := by
  induction r with
  | nil => rfl
  | cons v r ih => rw [List.map_cons, List.map_cons, List.sum_cons, ih, vcv_cat he]; rfl
theorem vw_native : Cond.native arraycopyName ∈ wsL_law := List.mem_of_getElem? (i := 992) (by decide +kernel)
theorem vw_static : Cond.static arraycopyName ∈ wsL_law := List.mem_of_getElem? (i := 993) (by decide +kernel)
theorem vw_system : Cond.initialized "java/lang/System" ∈ wsL_law := List.mem_of_getElem? (i := 994) (by decide +kernel)
theorem vw_smax : Cond.static Lib.Math.max.name ∈ wsL_law := List.mem_of_getElem? (i := 629) (by decide +kernel)
set_option maxRecDepth 100000 in
theorem vw_cmax : Cond.code Lib.Math.max.name Lib.Math.max.code 2 (some .int) ∈ wsL_law := List.mem_of_getElem? (i := 631) rfl
theorem vw_smin : Cond.static Lib.Math.min.name ∈ wsL_law := List.mem_of_getElem? (i := 649) (by decide +kernel)
set_option maxRecDepth 100000 in
theorem vw_cmin : Cond.code Lib.Math.min.name Lib.Math.min.code 2 (some .int) ∈ wsL_law := List.mem_of_getElem? (i := 650) rfl
theorem vw_sabs : Cond.static Lib.Math.abs.name ∈ wsL_law := List.mem_of_getElem? (i := 856) (by decide +kernel)
set_option maxRecDepth 100000 in
theorem vw_cabs : Cond.code Lib.Math.abs.name Lib.Math.abs.code 1 (some .int) ∈ wsL_law := List.mem_of_getElem? (i := 857) rfl
theorem vw_math : Cond.initialized "java/lang/Math" ∈ wsL_law := List.mem_of_getElem? (i := 630) (by decide +kernel)
section SC
variable {l : Launch} {G : vG} {d y pc nx : Nat} {ls : vL} {st : List Value} {σ : vM} {post : vQ}
theorem vs_acopy {idx y' n : Nat} {ps : List Nat} (hd : decode (vYc y) pc = .ok (.invokestatic idx, 3)) (hpm : vfind (vPm (vYk y)) idx = some (y', n, 3, ps)) (h : vacopy G σ st (fun σ r => vS l G (d + 1) y (pc + 3) ls r σ post)) : vS l G (d + 1) y pc ls st σ post := by
  unfold vacopy at h
  split at h
  next n j b i a r =>
    split at h
    next na es1 hla =>
      split at h
      next nb es2 hlb =>
        obtain ⟨hr, sp, dp, w, rfl, rfl, rfl, h1, h2, hh⟩ := vcond h
        clear h
        have h := hh
        have hr := Nat.le_of_ble_eq_true hr
        obtain ⟨za, -, -⟩ := vlay_arr hla
        obtain ⟨zb, -, -⟩ := vlay_arr hlb
        have hk := vPm_ok hpm
        have hlk : Cond.methodLink (vcn (vYk y)) idx arraycopyName ∈ wsL_law := vpos_mem hk _ List.mem_cons_self
        intro p e R s m args below meth c A ad cA D ef cells slots Q hF hE H locs L hP hS hL hn
        rw [List.map_cons, List.map_cons, List.map_cons, List.map_cons, List.map_cons, vcv_cell hla, vcv_cell hlb]
        obtain ⟨r1, r2, r3, r4⟩ := hF.2.2.2.2.2.2.2.2.2
        have e1 := nI_clamp (n := sp) (by omega)
        have e2 := nI_clamp (n := dp) (by omega)
        have e3 := nI_clamp (n := w) (by omega)
        refine va_copyi (D := D) (tys := [(cA a, vty 0), (cA b, vty 0)]) (ty := vty 0) hF.1 hF.2.1 (by rw [hF.2.2.1, hL.1, hn]) hF.2.2.2.1 (hF.2.2.2.2.1 _ hlk) (hF.2.2.2.2.1 _ vw_native) (hF.2.2.2.2.1 _ vw_static) (hF.2.2.2.2.1 _ vw_system) (hF.2.2.2.2.2.1.two hla hlb) hP (hF.2.2.2.2.2.2.2.2.1 σ) hS a b 0 1 (by rw [vwd_get (vlay_some hla).1, vcell_arr hla (by decide)]) (by rw [vwd_get (vlay_some hlb).1, vcell_arr hlb (by decide)]) rfl rfl rfl (nI_pos (by omega)) (nI_pos (by omega)) (nI_pos (by omega)) (by rw [e1, e3]; exact h1) (by rw [e2, e3]; exact h2) (fun _ _ => rfl) (by omega) (by
          have := vcats_sum (ad := ad) (vef_cat hF.2.2.2.2.2.2.1) r
          have : nativeFrameWords "java/lang/System" "arraycopy" 5 ≤ 7 := by decide
          omega) hd (fun H1 locs1 hP1 _ hS1 => ?_)
        rw [e1, e2, e3, vwd_set (σ' := vcopy σ a sp b dp w) (vlay_some hlb).1 (fun j hj => vcell_copy hj) (by
          rw [vcell_arr hlb (by decide)]
          congr 4
          funext k
          show (if b = b ∧ dp ≤ k ∧ k < dp + w then σ.1 a (sp + (k - dp)) else σ.1 b k) = if dp ≤ k ∧ k < dp + w then σ.1 a (sp + (k - dp)) else σ.1 b k
          by_cases e : dp ≤ k ∧ k < dp + w
          · rw [if_pos ⟨rfl, e⟩, if_pos e]
          · rw [if_neg (fun q => e q.2), if_neg e])] at hP1
        exact (h p e R s m args below meth c A ad cA D ef cells slots Q hF hE H1 locs1 _ hP1 hS1 hL hn)
      next => cases h
    next => cases h
  next => cases h
theorem vs_mmax {idx y' n : Nat} {ps : List Nat} (hd : decode (vYc y) pc = .ok (.invokestatic idx, 3)) (hpm : vfind (vPm (vYk y)) idx = some (y', n, 4, ps)) (h : vI2 st (fun a b r => bif Nat.ble (vcats r) 8 then vS l G (d + 1) y (pc + 3) ls (.int (if a < b then b else a) :: r) σ post else False)) : vS l G (d + 1) y pc ls st σ post := by
  obtain ⟨a, b, r, rfl, h⟩ := vI2_e h
  obtain ⟨hr, hh⟩ := vcond h
  clear h
  have h := hh
  have hr := Nat.le_of_ble_eq_true hr
  have hk := vPm_ok hpm
  have hlk : Cond.methodLink (vcn (vYk y)) idx Lib.Math.max.name ∈ wsL_law := vpos_mem hk _ List.mem_cons_self
  intro p e R s m args below meth c A ad cA D ef cells slots Q hF hE H locs L hP hS hL hn
  obtain ⟨r1, r2, r3, r4⟩ := hF.2.2.2.2.2.2.2.2.2
  have hsum := vcats_sum (ad := ad) (vef_cat hF.2.2.2.2.2.2.1) r
  exact va_mmax hF.1 hF.2.1 (by rw [hF.2.2.1, hL.1, hn]) hF.2.2.2.1 (hF.2.2.2.2.1 _ hlk) (hF.2.2.2.2.1 _ vw_smax) (hF.2.2.2.2.1 _ vw_math) (hF.2.2.2.2.1 _ vw_cmax) (by omega) (by omega) r3 r4 hd (h p e R s m args below meth c A ad cA D ef cells slots Q hF hE H locs _ hP hS hL hn)
theorem vs_mmin {idx y' n : Nat} {ps : List Nat} (hd : decode (vYc y) pc = .ok (.invokestatic idx, 3)) (hpm : vfind (vPm (vYk y)) idx = some (y', n, 5, ps)) (h : vI2 st (fun a b r => bif Nat.ble (vcats r) 8 then vS l G (d + 1) y (pc + 3) ls (.int (if b < a then b else a) :: r) σ post else False)) : vS l G (d + 1) y pc ls st σ post := by
  obtain ⟨a, b, r, rfl, h⟩ := vI2_e h
  obtain ⟨hr, hh⟩ := vcond h
  clear h
  have h := hh
  have hr := Nat.le_of_ble_eq_true hr
  have hk := vPm_ok hpm
  have hlk : Cond.methodLink (vcn (vYk y)) idx Lib.Math.min.name ∈ wsL_law := vpos_mem hk _ List.mem_cons_self
  intro p e R s m args below meth c A ad cA D ef cells slots Q hF hE H locs L hP hS hL hn
  obtain ⟨r1, r2, r3, r4⟩ := hF.2.2.2.2.2.2.2.2.2
  have hsum := vcats_sum (ad := ad) (vef_cat hF.2.2.2.2.2.2.1) r
  exact va_mmin hF.1 hF.2.1 (by rw [hF.2.2.1, hL.1, hn]) hF.2.2.2.1 (hF.2.2.2.2.1 _ hlk) (hF.2.2.2.2.1 _ vw_smin) (hF.2.2.2.2.1 _ vw_math) (hF.2.2.2.2.1 _ vw_cmin) (by omega) (by omega) r3 r4 hd (h p e R s m args below meth c A ad cA D ef cells slots Q hF hE H locs _ hP hS hL hn)
theorem vs_mabs {idx y' n : Nat} {ps : List Nat} (hd : decode (vYc y) pc = .ok (.invokestatic idx, 3)) (hpm : vfind (vPm (vYk y)) idx = some (y', n, 6, ps)) (h : vI1 st (fun a r => bif Nat.ble (vcats r) 8 then vS l G (d + 1) y (pc + 3) ls (.int (if 0 ≤ a then a else 0 - a) :: r) σ post else False)) : vS l G (d + 1) y pc ls st σ post := by
  obtain ⟨a, r, rfl, h⟩ := vI1_e h
  obtain ⟨hr, hh⟩ := vcond h
  clear h
  have h := hh
  have hr := Nat.le_of_ble_eq_true hr
  have hk := vPm_ok hpm
  have hlk : Cond.methodLink (vcn (vYk y)) idx Lib.Math.abs.name ∈ wsL_law := vpos_mem hk _ List.mem_cons_self
  intro p e R s m args below meth c A ad cA D ef cells slots Q hF hE H locs L hP hS hL hn
  obtain ⟨r1, r2, r3, r4⟩ := hF.2.2.2.2.2.2.2.2.2
  have hsum := vcats_sum (ad := ad) (vef_cat hF.2.2.2.2.2.2.1) r
  exact va_mabs hF.1 hF.2.1 (by rw [hF.2.2.1, hL.1, hn]) hF.2.2.2.1 (hF.2.2.2.2.1 _ hlk) (hF.2.2.2.2.1 _ vw_sabs) (hF.2.2.2.2.1 _ vw_math) (hF.2.2.2.2.1 _ vw_cabs) (by omega) (by omega) r3 r4 hd (h p e R s m args below meth c A ad cA D ef cells slots Q hF hE H locs _ hP hS hL hn)
end SC
/-- a method's own contract out of the virtual machine -/
def vws (y : Nat) : List Cond := .code (vYn y) (vYc y) (vYl y) (vYr y) :: wsL_law
def vrm (d : Nat) : Room := { frames := d, cells := 0, slots := 0, locals := 64 * d }
def vA (G : vG) (ad : Nat → Nat) (sz : Nat) : Nat → Prop := fun q => (∃ i, i < vsz G ∧ q = ad i) ∨ sz ≤ q
def vPc (G : vG) (D : va_G) (cA : Nat → ClassId) (ad : Nat → Nat) (ef : Value) (σ : vM) (as : List Value) (sz : Nat) : Array Value → State → Prop := fun v U => v = (as.map (vcv ad ef)).toArray ∧ U.heap.size = sz ∧ va_P D vwCl (vwd G ad cA σ) U.heap ∧ (∀ σ, va_D (vA G ad sz) (vwd G ad cA σ)) ∧ vKt G D cA U ∧ vCn G ad ef (vA G ad sz) U U.heap
def vQc (G : vG) (D : va_G) (cA : Nat → ClassId) (ad : Nat → Nat) (ef : Value) (Mid : vQ) (sz : Nat) : Array Value → State → Outcome → State → Prop := fun _ st oc t => (∃ (v : Option Value) (σ' : vM), oc = .returned (v.map (vcv ad ef)) ∧ Mid v σ' ∧ va_P D vwCl (vwd G ad cA σ') t.heap) ∧ va_F (vA G ad sz) st t
theorem vCn.same {G : vG} {ad : Nat → Nat} {ef : Value} {A : Nat → Prop} {u U : State} {H : Heap} (hv : U.vm = u.vm) (h : vCn G ad ef A u H) : vCn G ad ef A U H := by
  have hW : u.vm.Alike U.vm := by rw [hv]; exact Vm.Alike.refl _
  obtain ⟨h1, h2, h3, h4, h5, h6, h7, h8, h9, h10⟩ := h
  exact ⟨h1.moved hW, h2.same hv, h3.same hv, h4.moved hW, h5.moved hW, h6.moved hW, h7.moved hW, h8.moved hW, h9, fun r t n f hr => ⟨(h10 r t n f hr).1, (h10 r t n f hr).2.moved hW⟩⟩
theorem vPc_blind {G : vG} {D : va_G} {cA : Nat → ClassId} {ad : Nat → Nat} {ef : Value} {σ : vM} {as : List Value} {sz : Nat} : FrameBlind (vPc G D cA ad ef σ as sz) := by
  intro a U g mk q
  obtain ⟨q0, q1, q2, q3, q4, q5⟩ := q
  exact ⟨q0, q1, q2, q3, vKt.moved (u := U) (U := U.calling g mk a) (Vm.Alike.refl U.vm) q4, vCn.same (u := U) (U := U.calling g mk a) rfl q5⟩
theorem vfill_get {α : Type} {n : Nat} {l : vL} {i : Nat} {v : Value} (h : vget (vfill n l) i = some v) : vget l i = some v := by
  induction n generalizing l i with
  | zero => exact h
  | succ n ih =>
    cases l with
    | nil => cases i with
      | zero => cases h
      | succ i => exact absurd (ih (l := []) (i := i) h) (by simp [vget])
    | cons a l => cases i with
      | zero => exact h
      | succ i => exact ih (l := l) (i := i) h
theorem vfill_len {n : Nat} {l : vL} : l.length ≤ (vfill n l).length := by
  induction n generalizing l with
  | zero => exact Nat.le_refl _
  | succ n ih => cases l with
    | nil => exact Nat.zero_le _
    | cons a l => simp [vfill]; exact ih
theorem vnd_e {as : List Value} (h : vnd as = true) : ∀ v ∈ as, (∃ x, v = .long x) ∨ v.category = 1 := by
  intro v hv
  have := List.all_eq_true.mp h v hv
  cases v with
  | long x => exact Or.inl ⟨x, rfl⟩
  | double x => cases this
  | _ => exact Or.inr rfl
theorem vsl_args {ad : Nat → Nat} {ef : Value} (he : ef.category = 1) {as : List Value} (hnd : ∀ v ∈ as, (∃ x, v = .long x) ∨ v.category = 1) {i k : Nat} {v : Value} (h : vget (vsl as) i = some v) : (k + i, vcv ad ef v) ∈ lv_args k (as.map (vcv ad ef)) := by
  induction as generalizing i k with
  | nil => cases h
  | cons a as ih =>
    have ih := fun {i k} => ih (fun v hv => hnd v (List.mem_cons_of_mem _ hv)) (i := i) (k := k)
    rcases hnd a List.mem_cons_self with ⟨x, rfl⟩ | hc
    · match i, h with
      | 0, h => cases h; exact List.mem_cons_self
      | 1, h => cases h
      | i + 2, h =>
        have := ih (i := i) (k := k + 2) h
        rw [List.map_cons]
        show (k + (i + 2), _) ∈ _ :: lv_args (if (2 : Nat) = 2 then k + 2 else k + 1) _
        rw [if_pos rfl]
        refine List.mem_cons_of_mem _ ?_
        rw [show k + (i + 2) = k + 2 + i by omega]
        exact this
    · have hs : vsl (a :: as) = some a :: vsl as := by
        cases a with
        | long x => cases hc
        | _ => rfl
      rw [hs] at h
      match i, h with
      | 0, h => cases h; exact List.mem_cons_self
      | i + 1, h =>
        have := ih (i := i) (k := k + 1) h
        rw [List.map_cons]
        show (k + (i + 1), _) ∈ _ :: lv_args (if (vcv ad ef a).category = 2 then k + 2 else k + 1) _
        rw [if_neg (by rw [vcv_cat he]; omega)]
        refine List.mem_cons_of_mem _ ?_
        rw [show k + (i + 1) = k + 1 + i by omega]
        exact this
theorem vsl_len {ad : Nat → Nat} {ef : Value} (he : ef.category = 1) {as : List Value} (hnd : ∀ v ∈ as, (∃ x, v = .long x) ∨ v.category = 1) : (lg_sl (as.map (vcv ad ef))).length = (vsl as).length := by
  induction as with
  | nil => rfl
  | cons a as ih =>
    have ih := ih (fun v hv => hnd v (List.mem_cons_of_mem _ hv))
    rcases hnd a List.mem_cons_self with ⟨x, rfl⟩ | hc
    · simp only [List.map_cons, lg_sl, List.flatMap_cons, List.length_append, vsl, List.length_cons]
      have : (vcv ad ef (.long x)).category = 2 := rfl
      rw [if_pos this]
      unfold lg_sl at ih
      rw [ih]; simp; omega
    · have hs : vsl (a :: as) = some a :: vsl as := by
        cases a with
        | long x => cases hc
        | _ => rfl
      rw [hs]
      simp only [List.map_cons, lg_sl, List.flatMap_cons, List.length_append, List.length_cons]
      rw [if_neg (by rw [vcv_cat he]; omega)]
      unfold lg_sl at ih
      rw [ih]; simp; omega
theorem vYk_of {y : Nat} (h : y < 221) : vYk y ≤ 14 ∧ vYl y ≤ 40 ∧ vcn (vYk y) = (vYn y).cls := by
  have := List.all_eq_true.mp vYk_ok y (List.mem_range.mpr h)
  simp only [Bool.and_eq_true, decide_eq_true_eq] at this
  exact ⟨Nat.le_of_ble_eq_true this.1.1, Nat.le_of_ble_eq_true this.1.2, this.2⟩
set_option maxHeartbeats 4000000 in
theorem vS_met {l : Launch} {G : vG} {d y : Nat} {as : List Value} {σ : vM} {Mid : vQ} (hy : y < 221) (hpl : plainName (vYn y).cls = true) (hnd : vnd as = true) (hlen : (vfill (vYl y) (vsl as)).length = vYl y) (h : vS l G d y 0 (vfill (vYl y) (vsl as)) [] σ Mid) (D : va_G) (cA : Nat → ClassId) (ad : Nat → Nat) (ef : Value) (sz : Nat) :
    Met l (vYn y) (vws y) (vrm d) (vPc G D cA ad ef σ as sz) (vQc G D cA ad ef Mid sz) 0 0 (vA G ad sz) := by
  refine Met.ofW (cc := vYc y) (maxL := vYl y) (ret := vYr y) hpl rfl ?_
  intro p e s m args below meth c s₁ B hml hv
  obtain ⟨rfl, hsz, hP, hD, hK, hC⟩ := hv
  have hts0 := atoms_spec (ws := vws y) B.pre
  have hts : ∀ w ∈ wsL_law, w.before (as.map (vcv ad ef)).toArray s = true := fun w hw => hts0 w (List.mem_cons_of_mem _ hw)
  have hown : s.vm.findClass (vcn (vYk y)) = some m.cls := by rw [(vYk_of hy).2.2]; exact findClass_of_methodNamed B.named
  subst hsz
  have he := vef_cat hC
  have hnd' := vnd_e hnd
  have hl := lv_entry (as.map (vcv ad ef)) (n := vYl y) (by rw [vsl_len he hnd', ← hlen]; exact vfill_len)
  rw [lg_entry_eq]
  have hr := B.returns
  have hx := B.exec
  have hb := B.bytes
  refine h p e (headSpec (vws y) (vrm d)).room s m _ below meth c (vA G ad s.heap.size) ad cA D ef 0 0 _ ⟨hx, hb, hml, hown, hts, hK, hC, fun q hq => Or.inr hq, hD, ⟨Nat.le_refl _, Nat.le_refl _, Nat.zero_le _, Nat.zero_le _⟩⟩ ?_ s.heap [] _ hP va_S.rf ⟨by rw [hlen]; exact hl.1, hl.2.1, fun i v hv => ?_⟩ hlen
  · intro H locs L pc v σ' i hp hd hrt hP' hS'
    rcases hrt with ⟨rfl, x, ty, rfl, hty, hn⟩ | ⟨rfl, x, rfl, hty⟩ | ⟨rfl, r, rt, rfl, hrv, hty, hrr⟩ | ⟨rfl, rfl, hty⟩
    · exact W.zret (v := x) (ty := ty) hx hb (hr.trans hty) hn (fun t ht hW => ⟨⟨some (.int x), σ', rfl, hp, by rw [ht]; exact hP'⟩, hS'.F ht⟩) hS'.2.2 hd (hlocks := B.notSynchronized)
    · exact W.lret (v := x) hx hb (hr.trans hty) (fun t ht hW => ⟨⟨some (.long x), σ', rfl, hp, by rw [ht]; exact hP'⟩, hS'.F ht⟩) hS'.2.2 hd (hlocks := B.notSynchronized)
    · refine W.aret (v := vcv ad ef r) (rt := rt) hx hb (hr.trans hty) hrr ?_ (fun t ht hW => ⟨⟨some r, σ', rfl, hp, by rw [ht]; exact hP'⟩, hS'.F ht⟩) hS'.2.2 hd (hlocks := B.notSynchronized)
      rcases hrv with rfl | ⟨x, rfl⟩
      · exact Or.inl rfl
      · rw [vcv_r]
        cases Nat.beq x 1008 with
        | false => exact Or.inr ⟨_, rfl⟩
        | true =>
          obtain ⟨-, -, -, -, -, -, -, -, h9, -⟩ := hC
          exact h9
    · exact W.vret hx hb (hr.trans hty) (fun t ht hW => ⟨⟨none, σ', rfl, hp, by rw [ht]; exact hP'⟩, hS'.F ht⟩) hS'.2.2 hd (hlocks := B.notSynchronized)
  · have h1 := vsl_args (ad := ad) he hnd' (k := 0) (vfill_get (α := Value) hv)
    rw [Nat.zero_add] at h1
    exact hl.2.2 _ h1
