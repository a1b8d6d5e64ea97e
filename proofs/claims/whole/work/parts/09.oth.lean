theorem vPk_ok {c idx : Nat} {v : Value} (h : vfind (vPk c) idx = some v) : vPkC c (idx, v) = true := by
  have hm := vfind_mem h
  have hc : c < 15 := by
    rcases Nat.lt_or_ge c 15 with h1 | h1
    · exact h1
    · exfalso
      have e : vPk c = [] := by
        unfold vPk
        split <;> first | rfl | omega
      rw [e] at hm
      cases hm
  exact List.all_eq_true.mp (List.all_eq_true.mp vPk_ok0 c (List.mem_range.mpr hc)) _ hm
section SO
variable {l : Launch} {G : vG} {d y pc nx : Nat} {ls : vL} {st : List Value} {σ : vM} {post : vQ}
theorem vs_ldc {idx : Nat} (hd : decode (vYc y) pc = .ok (.ldc idx, 2)) (h : vldc (vYk y) idx st (fun r => vS l G d y (pc + 2) ls r σ post)) : vS l G d y pc ls st σ post := by
  unfold vldc at h
  split at h
  next x hx =>
    have hk := vPk_ok hx
    simp only [vPkC, decide_eq_true_eq] at hk
    intro p e R s m args below meth c A ad cA D ef cells slots Q hF hE H locs L hP hS hL hn
    exact lv_ldc hF.1 hF.2.1 hF.2.2.2.1 (hF.2.2.2.2.1 _ hk) hd (h p e R s m args below meth c A ad cA D ef cells slots Q hF hE H locs _ hP hS hL hn)
  next hne =>
    rcases hc : (Nat.beq (vYk y) 6 && Nat.beq idx 60) with _ | _
    · rw [hc] at h
      obtain ⟨hc2, hh⟩ := vcond (b := Nat.beq (vYk y) 2 && Nat.beq idx 106) h
      clear h
      have h := hh
      simp only [Bool.and_eq_true] at hc2
      have e1 := Nat.eq_of_beq_eq_true hc2.1
      have e2 := Nat.eq_of_beq_eq_true hc2.2
      subst e2
      intro p e R s m args below meth c A ad cA D ef cells slots Q hF hE H locs L hP hS hL hn
      have h2 := (h p e R s m args below meth c A ad cA D ef cells slots Q hF hE H locs _ hP hS hL hn)
      exact va_ldcS hF.1 hF.2.1 hF.2.2.2.1 (by rw [e1]; exact hF.2.2.2.2.2.2.1.2.2.1) hd h2
    · rw [hc] at h
      simp only [Bool.and_eq_true] at hc
      have e1 := Nat.eq_of_beq_eq_true hc.1
      have e2 := Nat.eq_of_beq_eq_true hc.2
      subst e2
      intro p e R s m args below meth c A ad cA D ef cells slots Q hF hE H locs L hP hS hL hn
      have h2 := (h p e R s m args below meth c A ad cA D ef cells slots Q hF hE H locs _ hP hS hL hn)
      exact va_ldcS hF.1 hF.2.1 hF.2.2.2.1 (by rw [e1]; exact hF.2.2.2.2.2.2.1.2.1) hd h2
theorem vs_ldc_w {idx : Nat} (hd : decode (vYc y) pc = .ok (.ldc_w idx, 3)) (h : match vfind (vPk (vYk y)) idx with | some (.int x) => vS l G d y (pc + 3) ls (.int x :: st) σ post | _ => False) : vS l G d y pc ls st σ post := by
  split at h
  next x hx =>
    have hk := vPk_ok hx
    simp only [vPkC, decide_eq_true_eq] at hk
    intro p e R s m args below meth c A ad cA D ef cells slots Q hF hE H locs L hP hS hL hn
    exact lv_ldcw hF.1 hF.2.1 hF.2.2.2.1 (hF.2.2.2.2.1 _ hk) hd (h p e R s m args below meth c A ad cA D ef cells slots Q hF hE H locs _ hP hS hL hn)
  next => cases h
theorem vs_ldc2_w {idx : Nat} (hd : decode (vYc y) pc = .ok (.ldc2_w idx, 3)) (h : vldc2 (vYk y) idx st (fun r => vS l G d y (pc + 3) ls r σ post)) : vS l G d y pc ls st σ post := by
  unfold vldc2 at h
  split at h
  next x hx =>
    have hk := vPk_ok hx
    simp only [vPkC, decide_eq_true_eq] at hk
    intro p e R s m args below meth c A ad cA D ef cells slots Q hF hE H locs L hP hS hL hn
    exact lv_ldc2 hF.1 hF.2.1 hF.2.2.2.1 (hF.2.2.2.2.1 _ hk) hd (h p e R s m args below meth c A ad cA D ef cells slots Q hF hE H locs _ hP hS hL hn)
  next => cases h
theorem vPs_ok {c idx : Nat} {v : Value} (h : vfind (vPs c) idx = some v) : (c = 6 ∧ idx = 87 ∧ v = .ref 1006) ∨ (c = 6 ∧ idx = 90 ∧ v = .ref 1005) ∨ (c = 6 ∧ idx = 301 ∧ v = .ref 1004) ∨ (c = 9 ∧ idx = 38 ∧ v = .int 1) ∨ (c = 9 ∧ idx = 1053 ∧ v = .ref 1008) := by
  have hm := vfind_mem h
  unfold vPs at hm
  split at hm
  · simp only [vPs6, List.mem_cons, Prod.mk.injEq, List.not_mem_nil, or_false] at hm
    rcases hm with ⟨rfl, rfl⟩ | ⟨rfl, rfl⟩ | ⟨rfl, rfl⟩ <;> simp
  · simp only [vPs9, List.mem_cons, Prod.mk.injEq, List.not_mem_nil, or_false] at hm
    rcases hm with ⟨rfl, rfl⟩ | ⟨rfl, rfl⟩ <;> simp
  · cases hm
theorem vs_getstatic {idx : Nat} (hd : decode (vYc y) pc = .ok (.getstatic idx, 3)) (h : match vfind (vPs (vYk y)) idx with | some v => vS l G d y (pc + 3) ls (v :: st) σ post | none => False) : vS l G d y pc ls st σ post := by
  split at h
  next v hv =>
    intro p e R s m args below meth c A ad cA D ef cells slots Q hF hE H locs L hP hS hL hn
    obtain ⟨-, -, -, z4, z5, z6, z7, z8, -, -⟩ := hF.2.2.2.2.2.2.1
    have h2 := (h p e R s m args below meth c A ad cA D ef cells slots Q hF hE H locs _ hP hS hL hn)
    rcases vPs_ok hv with ⟨hc, rfl, rfl⟩ | ⟨hc, rfl, rfl⟩ | ⟨hc, rfl, rfl⟩ | ⟨hc, rfl, rfl⟩ | ⟨hc, rfl, rfl⟩
    · exact va_gets hF.1 hF.2.1 z6 hS hF.2.2.2.1 (ref := "LightYearsAreOwed") (hF.2.2.2.2.1 _ (show Cond.fieldLink (vcn (vYk y)) 87 "LightYearsAreOwed" "MOST" "[I" ∈ wsL_law by rw [hc]; exact List.mem_of_getElem? (i := 278) (by decide +kernel))) (fun _ h9 => h9) hd h2
    · exact va_gets hF.1 hF.2.1 z5 hS hF.2.2.2.1 (ref := "LightYearsAreOwed") (hF.2.2.2.2.1 _ (show Cond.fieldLink (vcn (vYk y)) 90 "LightYearsAreOwed" "LEAST" "[I" ∈ wsL_law by rw [hc]; exact List.mem_of_getElem? (i := 279) (by decide +kernel))) (fun _ h9 => h9) hd h2
    · exact va_gets hF.1 hF.2.1 z4 hS hF.2.2.2.1 (ref := "LightYearsAreOwed") (hF.2.2.2.2.1 _ (show Cond.fieldLink (vcn (vYk y)) 301 "LightYearsAreOwed" "UNDER" "[I" ∈ wsL_law by rw [hc]; exact List.mem_of_getElem? (i := 1063) (by decide +kernel))) (fun _ h9 => h9) hd h2
    · exact va_gets hF.1 hF.2.1 z7 hS hF.2.2.2.1 (ref := "java/lang/String") (hF.2.2.2.2.1 _ (show Cond.fieldLink (vcn (vYk y)) 38 "java/lang/String" "COMPACT_STRINGS" "Z" ∈ wsL_law by rw [hc]; exact List.mem_of_getElem? (i := 92) (by decide +kernel))) (fun _ h9 => h9) hd h2
    · exact va_gets hF.1 hF.2.1 z8 hS hF.2.2.2.1 (ref := "jdk/internal/util/Preconditions") (hF.2.2.2.2.1 _ (show Cond.fieldLink (vcn (vYk y)) 1053 "jdk/internal/util/Preconditions" "SIOOBE_FORMATTER" "Ljava/util/function/BiFunction;" ∈ wsL_law by rw [hc]; exact List.mem_of_getElem? (i := 109) (by decide +kernel))) (fun _ h9 => h9) hd h2
  next => cases h
theorem vsw_cases {P : Nat → Prop} {x : Int32} {df : Nat} {l : List (Int32 × Nat)} (h : vswF P x df l) : (∃ (k : Nat) (q : Int32 × Nat), l[k]? = some q ∧ x = q.1 ∧ P q.2) ∨ ((∀ q ∈ l, ¬ x = q.1) ∧ P df) := by
  induction l with
  | nil => exact Or.inr ⟨fun q hq => absurd hq List.not_mem_nil, h⟩
  | cons a l ih =>
    obtain ⟨h1, h2⟩ := h
    by_cases e : x = a.1
    · exact Or.inl ⟨0, a, rfl, e, h1 e⟩
    · rcases ih (h2 e) with ⟨k, q, hk, he, hP⟩ | ⟨hn, hP⟩
      · exact Or.inl ⟨k + 1, q, hk, he, hP⟩
      · refine Or.inr ⟨fun q hq => ?_, hP⟩
        rcases List.mem_cons.mp hq with rfl | hq
        · exact e
        · exact hn q hq
theorem vs_tableswitch {dflt lo hi : Int} {offs : Array Int} {len tg : Nat} {im : Int32} (hd : decode (vYc y) pc = .ok (.tableswitch dflt lo hi offs, len)) (hk : vchk1 y pc (.tableswitch dflt lo hi offs) nx tg im = true) (h : vI1 st (fun a r => match vswfind vSw y pc with | some (l', df) => vswF (fun t => vS l G d y t ls r σ post) a df l' | none => False)) : vS l G d y pc ls st σ post := by
  obtain ⟨x, r, rfl, h⟩ := vI1_e h
  unfold vchk1 at hk
  dsimp only at hk
  split at hk
  next l' df hsw =>
    rw [hsw] at h
    simp only [Bool.and_eq_true, decide_eq_true_eq] at hk
    obtain ⟨hdf, hlen, hhi, hall⟩ := hk
    have hlen := Nat.eq_of_beq_eq_true hlen
    have key : ∀ (k : Nat) (q : Int32 × Nat), l'[k]? = some q → ∃ o, offs[k]? = some o ∧ q.1.toInt = lo + (k : Int) ∧ (pc : Int) + o = (q.2 : Int) := by
      intro k q hq
      have hk := (List.getElem?_eq_some_iff.mp hq).1
      have h1 := List.all_eq_true.mp hall k (List.mem_range.mpr hk)
      rw [hq] at h1
      cases ho : offs[k]? with
      | none => rw [ho] at h1; cases h1
      | some o =>
        rw [ho] at h1
        simp only [Bool.and_eq_true, decide_eq_true_eq] at h1
        exact ⟨o, rfl, h1.1, h1.2⟩
    rcases vsw_cases h with ⟨k, q, hq, hx, h⟩ | ⟨hne, h⟩
    · obtain ⟨o, ho, he, ht⟩ := key k q hq
      have hk := (List.getElem?_eq_some_iff.mp hq).1
      intro p e R s m args below meth c A ad cA D ef cells slots Q hF hE H locs L hP hS hL hn
      rw [← hx] at he
      exact lv_tableIn hF.1 hF.2.1 hd (by omega) (by omega) (off := o) (by rw [show (x.toInt - lo).toNat = k by omega]; exact ho) ht (h p e R s m args below meth c A ad cA D ef cells slots Q hF hE H locs _ hP hS hL hn)
    · have hout : x.toInt < lo ∨ hi < x.toInt := by
        by_cases h1 : x.toInt < lo
        · exact Or.inl h1
        · by_cases h2 : hi < x.toInt
          · exact Or.inr h2
          · exfalso
            have hk : (x.toInt - lo).toNat < l'.length := by omega
            obtain ⟨o, -, he, -⟩ := key _ _ (List.getElem?_eq_getElem hk)
            refine hne _ (List.getElem_mem hk) (Int32.toInt_inj.mp ?_)
            rw [he]; omega
      intro p e R s m args below meth c A ad cA D ef cells slots Q hF hE H locs L hP hS hL hn
      exact lv_tableOut hF.1 hF.2.1 hd hout hdf (h p e R s m args below meth c A ad cA D ef cells slots Q hF hE H locs _ hP hS hL hn)
  next => cases hk
theorem vlks_ok {P : Nat → Prop} {pc : Nat} {x : Int32} {df : Nat} {dflt : Int} (hdf : (pc : Int) + dflt = (df : Int)) {l' : List (Int32 × Nat)} {ps : List (Int × Int)} (hk : vlks pc l' ps = true) (h : vswF P x df l') : ∃ (o : Int) (t : Nat), Op.lookupswitch.offset ps dflt x.toInt = o ∧ (pc : Int) + o = (t : Int) ∧ P t := by
  induction l' generalizing ps with
  | nil =>
    cases ps with
    | nil => exact ⟨dflt, df, rfl, hdf, h⟩
    | cons _ _ => cases hk
  | cons q l' ih =>
    cases ps with
    | nil => cases hk
    | cons r ps =>
      obtain ⟨a, o⟩ := r
      simp only [vlks, Bool.and_eq_true, decide_eq_true_eq] at hk
      obtain ⟨⟨h1, h2⟩, h3⟩ := hk
      obtain ⟨k1, k2⟩ := h
      by_cases e : x = q.1
      · refine ⟨o, q.2, ?_, h2, k1 e⟩
        rw [Op.lookupswitch.offset_cons, if_pos]
        rw [e, h1]
      · obtain ⟨o', t, g1, g2, g3⟩ := ih h3 (k2 e)
        exact ⟨o', t, by rw [lv_osw e h1]; exact g1, g2, g3⟩
theorem vs_lookupswitch {dflt : Int} {ps : Array (Int × Int)} {len tg : Nat} {im : Int32} (hd : decode (vYc y) pc = .ok (.lookupswitch dflt ps, len)) (hk : vchk1 y pc (.lookupswitch dflt ps) nx tg im = true) (h : vI1 st (fun a r => match vswfind vSw y pc with | some (l', df) => vswF (fun t => vS l G d y t ls r σ post) a df l' | none => False)) : vS l G d y pc ls st σ post := by
  obtain ⟨x, r, rfl, h⟩ := vI1_e h
  unfold vchk1 at hk
  dsimp only at hk
  split at hk
  next l' df hsw =>
    rw [hsw] at h
    simp only [Bool.and_eq_true, decide_eq_true_eq] at hk
    obtain ⟨hdf, hlk, hsort⟩ := hk
    obtain ⟨o, t, h1, h2, h⟩ := vlks_ok hdf hlk h
    intro p e R s m args below meth c A ad cA D ef cells slots Q hF hE H locs L hP hS hL hn
    exact lv_lookup hF.1 hF.2.1 hd hsort h1 h2 (h p e R s m args below meth c A ad cA D ef cells slots Q hF hE H locs _ hP hS hL hn)
  next => cases hk
theorem vs_ireturn (hd : decode (vYc y) pc = .ok (.ireturn, 1)) (h : match st with | [.int x] => vretI y x (post (some (.int x)) σ) | _ => False) : vS l G d y pc ls st σ post := by
  split at h
  next x =>
    have key : post (some (.int x)) σ ∧ ∃ ty : FieldType, vYr y = some ty ∧ narrow ty (.int x) = .int x := by
      unfold vretI at h
      split at h
      next hr => exact ⟨h, _, hr, rfl⟩
      next hr => exact ⟨h.2, _, hr, by rcases h.1 with rfl | rfl <;> rfl⟩
      next hr => exact ⟨h.2, _, hr, h.1⟩
      next hr => exact ⟨h.2, _, hr, h.1⟩
      next => cases h
    obtain ⟨hp, ty, hr, hnw⟩ := key
    intro p e R s m args below meth c A ad cA D ef cells slots Q hF hE H locs L hP hS hL hn
    exact hE H locs L pc (some (.int x)) σ .ireturn hp hd (Or.inl ⟨rfl, x, ty, rfl, hr, hnw⟩) hP hS
  next => cases h
theorem vs_lreturn (hd : decode (vYc y) pc = .ok (.lreturn, 1)) (h : match st with | [.long x] => (match vYr y with | some .long => post (some (.long x)) σ | _ => False) | _ => False) : vS l G d y pc ls st σ post := by
  split at h
  next x =>
    split at h
    next hr =>
      intro p e R s m args below meth c A ad cA D ef cells slots Q hF hE H locs L hP hS hL hn
      exact hE H locs L pc (some (.long x)) σ .lreturn h hd (Or.inr (Or.inl ⟨rfl, x, rfl, hr⟩)) hP hS
    next => cases h
  next => cases h
theorem vs_areturn (hd : decode (vYc y) pc = .ok (.areturn, 1)) (h : match st with | [.ref x] => (match vYr y with | some (.object _) => post (some (.ref x)) σ | some (.array _) => post (some (.ref x)) σ | _ => False) | [.null] => (match vYr y with | some (.object _) => post (some .null) σ | some (.array _) => post (some .null) σ | _ => False) | _ => False) : vS l G d y pc ls st σ post := by
  split at h
  next x =>
    split at h
    next o hr =>
      intro p e R s m args below meth c A ad cA D ef cells slots Q hF hE H locs L hP hS hL hn
      exact hE H locs L pc (some (.ref x)) σ .areturn h hd (Or.inr (Or.inr (Or.inl ⟨rfl, _, _, rfl, Or.inr ⟨x, rfl⟩, hr, Or.inl ⟨o, rfl⟩⟩))) hP hS
    next o hr =>
      intro p e R s m args below meth c A ad cA D ef cells slots Q hF hE H locs L hP hS hL hn
      exact hE H locs L pc (some (.ref x)) σ .areturn h hd (Or.inr (Or.inr (Or.inl ⟨rfl, _, _, rfl, Or.inr ⟨x, rfl⟩, hr, Or.inr ⟨o, rfl⟩⟩))) hP hS
    next => cases h
  next =>
    split at h
    next o hr =>
      intro p e R s m args below meth c A ad cA D ef cells slots Q hF hE H locs L hP hS hL hn
      exact hE H locs L pc (some .null) σ .areturn h hd (Or.inr (Or.inr (Or.inl ⟨rfl, _, _, rfl, Or.inl rfl, hr, Or.inl ⟨o, rfl⟩⟩))) hP hS
    next o hr =>
      intro p e R s m args below meth c A ad cA D ef cells slots Q hF hE H locs L hP hS hL hn
      exact hE H locs L pc (some .null) σ .areturn h hd (Or.inr (Or.inr (Or.inl ⟨rfl, _, _, rfl, Or.inl rfl, hr, Or.inr ⟨o, rfl⟩⟩))) hP hS
    next => cases h
  next => cases h
theorem vs_return (hd : decode (vYc y) pc = .ok (.return_, 1)) (h : match st with | [] => (match vYr y with | none => post none σ | _ => False) | _ => False) : vS l G d y pc ls st σ post := by
  split at h
  next =>
    split at h
    next hr =>
      intro p e R s m args below meth c A ad cA D ef cells slots Q hF hE H locs L hP hS hL hn
      exact hE H locs L pc none σ .return_ h hd (Or.inr (Or.inr (Or.inr ⟨rfl, rfl, hr⟩))) hP hS
    next => cases h
  next => cases h
end SO
