def vrt (y : Nat) (i : Instr) (v : Option Value) : Prop :=
  (i = .ireturn ∧ ∃ (x : Int32) (ty : FieldType), v = some (.int x) ∧ vYr y = some ty ∧ narrow ty (.int x) = .int x) ∨ (i = .lreturn ∧ ∃ x : Int64, v = some (.long x) ∧ vYr y = some .long) ∨
  (i = .areturn ∧ ∃ (r : Value) (rt : FieldType), v = some r ∧ (r = .null ∨ ∃ x, r = .ref x) ∧ vYr y = some rt ∧ ((∃ n, rt = .object n) ∨ ∃ t, rt = .array t)) ∨ (i = .return_ ∧ v = none ∧ vYr y = none)
def vEnd (l : Launch) (G : vG) (p : Program) (e : Env) (R : Room) (s : State) (m : MethodId) (args : Array Value) (below : List Frame) (meth : Method) (c : Code) (A : Nat → Prop) (ad : Nat → Nat) (cA : Nat → ClassId) (D : va_G) (ef : Value) (cells slots : Nat) (Q : State → Prop) (y : Nat) (post : vQ) : Prop :=
  ∀ (H : Heap) (locs : List Loc) (L : Array Slot) (pc : Nat) (v : Option Value) (σ : vM) (i : Instr), post v σ → decode (vYc y) pc = .ok (i, 1) → vrt y i v → va_P D vwCl (vwd G ad cA σ) H → va_S A s.heap H locs → W p l e R s m args below meth c H locs cells slots Q (F0 m pc L (v.toList.map (vcv ad ef)))
def vCf (G : vG) (p : Program) (R : Room) (s : State) (m : MethodId) (args : Array Value) (c : Code) (A : Nat → Prop) (ad : Nat → Nat) (cA : Nat → ClassId) (D : va_G) (ef : Value) (cells slots d y : Nat) : Prop :=
  p.tables.exec = Jvm.exec ∧ c.code = vYc y ∧ c.maxLocals = vYl y ∧ s.vm.findClass (vcn (vYk y)) = some m.cls ∧ (∀ w ∈ wsL_law, w.before args s = true) ∧ vKt G D cA s ∧ vCn G ad ef A s s.heap ∧ (∀ q : Nat, s.heap.size ≤ q → A q) ∧ (∀ σ, va_D A (vwd G ad cA σ)) ∧ (d ≤ R.frames ∧ 64 * d ≤ R.locals ∧ cells ≤ R.cells ∧ slots ≤ R.slots)
def vS (l : Launch) (G : vG) : vP := fun d y pc ls st σ post =>
  ∀ (p : Program) (e : Env) (R : Room) (s : State) (m : MethodId) (args : Array Value) (below : List Frame) (meth : Method) (c : Code) (A : Nat → Prop) (ad : Nat → Nat) (cA : Nat → ClassId) (D : va_G) (ef : Value) (cells slots : Nat) (Q : State → Prop),
    vCf G p R s m args c A ad cA D ef cells slots d y → vEnd l G p e R s m args below meth c A ad cA D ef cells slots Q y post →
    ∀ (H : Heap) (locs : List Loc) (L : Array Slot), va_P D vwCl (vwd G ad cA σ) H → va_S A s.heap H locs → vlok ad ef L ls → ls.length = vYl y → W p l e R s m args below meth c H locs cells slots Q (F0 m pc L (st.map (vcv ad ef)))
theorem vef_cat {G : vG} {ad : Nat → Nat} {ef : Value} {A : Nat → Prop} {U : State} {H : Heap} (h : vCn G ad ef A U H) : ef.category = 1 := by
  obtain ⟨-, -, -, -, -, -, -, -, h9, -⟩ := h
  rcases h9 with rfl | ⟨t, rfl⟩ <;> rfl
theorem vI1_e {st : List Value} {k : Int32 → List Value → Prop} (h : vI1 st k) : ∃ a r, st = .int a :: r ∧ k a r := by
  unfold vI1 at h
  split at h
  · exact ⟨_, _, rfl, h⟩
  · cases h
theorem vI2_e {st : List Value} {k : Int32 → Int32 → List Value → Prop} (h : vI2 st k) : ∃ a b r, st = .int b :: .int a :: r ∧ k a b r := by
  unfold vI2 at h
  split at h
  · exact ⟨_, _, _, rfl, h⟩
  · cases h
theorem vL2_e {st : List Value} {k : Int64 → Int64 → List Value → Prop} (h : vL2 st k) : ∃ a b r, st = .long b :: .long a :: r ∧ k a b r := by
  unfold vL2 at h
  split at h
  · exact ⟨_, _, _, rfl, h⟩
  · cases h
theorem vldI_e {ls : vL} {i : Nat} {k : Value → Prop} (h : vldI ls i k) : ∃ x, vget ls i = some (.int x) ∧ k (.int x) := by
  unfold vldI at h
  split at h
  · exact ⟨_, by assumption, h⟩
  · cases h
theorem vldL_e {ls : vL} {i : Nat} {k : Value → Prop} (h : vldL ls i k) : ∃ x, vget ls i = some (.long x) ∧ k (.long x) := by
  unfold vldL at h
  split at h
  · exact ⟨_, by assumption, h⟩
  · cases h
theorem vldA_e {ls : vL} {i : Nat} {k : Value → Prop} (h : vldA ls i k) : (∃ x, vget ls i = some (.ref x) ∧ k (.ref x)) ∨ (vget ls i = some .null ∧ k .null) := by
  unfold vldA at h
  split at h
  · exact Or.inl ⟨_, by assumption, h⟩
  · exact Or.inr ⟨by assumption, h⟩
  · cases h
theorem vcond {b : Bool} {P : Prop} (h : bif b then P else False) : b = true ∧ P := by
  cases b
  · cases h
  · exact ⟨rfl, h⟩
theorem vstI_e {ls : vL} {st : List Value} {i : Nat} {k : vL → List Value → Prop} (h : vstI ls st i k) : ∃ x r, st = .int x :: r ∧ vfree ls i = true ∧ i < ls.length ∧ k (vset ls i (some (.int x))) r := by
  unfold vstI at h
  split at h
  · obtain ⟨h1, h2⟩ := vcond h
    simp only [Bool.and_eq_true] at h1
    exact ⟨_, _, rfl, h1.1, Nat.le_of_ble_eq_true h1.2, h2⟩
  · cases h
theorem vstL_e {ls : vL} {st : List Value} {i : Nat} {k : vL → List Value → Prop} (h : vstL ls st i k) : ∃ x r, st = .long x :: r ∧ vfree ls i = true ∧ i + 1 < ls.length ∧ k (vset (vset ls i (some (.long x))) (i + 1) none) r := by
  unfold vstL at h
  split at h
  · obtain ⟨h1, h2⟩ := vcond h
    simp only [Bool.and_eq_true] at h1
    exact ⟨_, _, rfl, h1.1, Nat.le_of_ble_eq_true h1.2, h2⟩
  · cases h
theorem vstA_e {ls : vL} {st : List Value} {i : Nat} {k : vL → List Value → Prop} (h : vstA ls st i k) : ∃ v r, st = v :: r ∧ (v = .null ∨ ∃ x, v = .ref x ∧ x ≤ 1007) ∧ vfree ls i = true ∧ i < ls.length ∧ k (vset ls i (some v)) r := by
  unfold vstA at h
  split at h
  · obtain ⟨h1, h2⟩ := vcond h
    simp only [Bool.and_eq_true] at h1
    exact ⟨_, _, rfl, Or.inr ⟨_, rfl, Nat.le_of_ble_eq_true h1.2.2⟩, h1.1, Nat.le_of_ble_eq_true h1.2.1, h2⟩
  · obtain ⟨h1, h2⟩ := vcond h
    simp only [Bool.and_eq_true] at h1
    exact ⟨_, _, rfl, Or.inl rfl, h1.1, Nat.le_of_ble_eq_true h1.2, h2⟩
  · cases h
theorem vcv_ref {ad : Nat → Nat} {ef : Value} {x : Nat} (h : x ≤ 1007) : vcv ad ef (.ref x) = .ref (ad x) := by
  rw [vcv_r]
  cases hb : Nat.beq x 1008 with
  | false => rfl
  | true => have := Nat.eq_of_beq_eq_true hb; omega
section SN
variable {l : Launch} {G : vG} {d y pc nx : Nat} {ls : vL} {st : List Value} {σ : vM} {post : vQ}
theorem vs_iconst {n : Int} {im : Int32} (hd : decode (vYc y) pc = .ok (.iconst n, 1)) (hi : Int32.ofInt n = im) (h : vS l G d y (pc + 1) ls (.int im :: st) σ post) : vS l G d y pc ls st σ post := fun p e R s m args below meth c A ad cA D ef cells slots Q hF hE H locs L hP hS hL hn => lv_iconst hF.1 hF.2.1 hd hi (h p e R s m args below meth c A ad cA D ef cells slots Q hF hE H locs _ hP hS hL hn)
theorem vs_bipush {n : Int} {im : Int32} (hd : decode (vYc y) pc = .ok (.bipush n, 2)) (hi : (Int8.ofInt n).toInt32 = im) (h : vS l G d y (pc + 2) ls (.int im :: st) σ post) : vS l G d y pc ls st σ post := fun p e R s m args below meth c A ad cA D ef cells slots Q hF hE H locs L hP hS hL hn => lv_bipush hF.1 hF.2.1 hd hi (h p e R s m args below meth c A ad cA D ef cells slots Q hF hE H locs _ hP hS hL hn)
theorem vs_sipush {n : Int} {im : Int32} (hd : decode (vYc y) pc = .ok (.sipush n, 3)) (hi : (Int16.ofInt n).toInt32 = im) (h : vS l G d y (pc + 3) ls (.int im :: st) σ post) : vS l G d y pc ls st σ post := fun p e R s m args below meth c A ad cA D ef cells slots Q hF hE H locs L hP hS hL hn => lv_sipush hF.1 hF.2.1 hd hi (h p e R s m args below meth c A ad cA D ef cells slots Q hF hE H locs _ hP hS hL hn)
theorem vs_lconst {n : Fin 2} (hd : decode (vYc y) pc = .ok (.lconst n, 1)) (h : vS l G d y (pc + 1) ls (.long (Int64.ofNat n.val) :: st) σ post) : vS l G d y pc ls st σ post := fun p e R s m args below meth c A ad cA D ef cells slots Q hF hE H locs L hP hS hL hn => lv_lconst hF.1 hF.2.1 hd rfl (h p e R s m args below meth c A ad cA D ef cells slots Q hF hE H locs _ hP hS hL hn)
theorem vs_aconst_null (hd : decode (vYc y) pc = .ok (.aconst_null, 1)) (h : vS l G d y (pc + 1) ls (.null :: st) σ post) : vS l G d y pc ls st σ post := fun p e R s m args below meth c A ad cA D ef cells slots Q hF hE H locs L hP hS hL hn => lv_null hF.1 hF.2.1 hd (h p e R s m args below meth c A ad cA D ef cells slots Q hF hE H locs _ hP hS hL hn)
theorem vs_iload {k : Nat} (hd : decode (vYc y) pc = .ok (.iload k, 2)) (h : vldI ls k (fun v => vS l G d y (pc + 2) ls (v :: st) σ post)) : vS l G d y pc ls st σ post := by
  obtain ⟨x, hx, h⟩ := vldI_e h
  intro p e R s m args below meth c A ad cA D ef cells slots Q hF hE H locs L hP hS hL hn
  exact lv_iload hF.1 hF.2.1 hd (hL.2.2 _ _ hx) (h p e R s m args below meth c A ad cA D ef cells slots Q hF hE H locs _ hP hS hL hn)
theorem vs_iload_n {k : Fin 4} (hd : decode (vYc y) pc = .ok (.iload_n k, 1)) (h : vldI ls k.val (fun v => vS l G d y (pc + 1) ls (v :: st) σ post)) : vS l G d y pc ls st σ post := by
  obtain ⟨x, hx, h⟩ := vldI_e h
  intro p e R s m args below meth c A ad cA D ef cells slots Q hF hE H locs L hP hS hL hn
  exact lv_iload_n hF.1 hF.2.1 hd rfl (hL.2.2 _ _ hx) (h p e R s m args below meth c A ad cA D ef cells slots Q hF hE H locs _ hP hS hL hn)
theorem vs_lload {k : Nat} (hd : decode (vYc y) pc = .ok (.lload k, 2)) (h : vldL ls k (fun v => vS l G d y (pc + 2) ls (v :: st) σ post)) : vS l G d y pc ls st σ post := by
  obtain ⟨x, hx, h⟩ := vldL_e h
  intro p e R s m args below meth c A ad cA D ef cells slots Q hF hE H locs L hP hS hL hn
  exact lv_lload hF.1 hF.2.1 hd (hL.2.2 _ _ hx) (h p e R s m args below meth c A ad cA D ef cells slots Q hF hE H locs _ hP hS hL hn)
theorem vs_lload_n {k : Fin 4} (hd : decode (vYc y) pc = .ok (.lload_n k, 1)) (h : vldL ls k.val (fun v => vS l G d y (pc + 1) ls (v :: st) σ post)) : vS l G d y pc ls st σ post := by
  obtain ⟨x, hx, h⟩ := vldL_e h
  intro p e R s m args below meth c A ad cA D ef cells slots Q hF hE H locs L hP hS hL hn
  exact lv_lload_n hF.1 hF.2.1 hd rfl (hL.2.2 _ _ hx) (h p e R s m args below meth c A ad cA D ef cells slots Q hF hE H locs _ hP hS hL hn)
theorem vs_aload {k : Nat} (hd : decode (vYc y) pc = .ok (.aload k, 2)) (h : vldA ls k (fun v => vS l G d y (pc + 2) ls (v :: st) σ post)) : vS l G d y pc ls st σ post := by
  rcases vldA_e h with ⟨x, hx, h⟩ | ⟨hx, h⟩
  · intro p e R s m args below meth c A ad cA D ef cells slots Q hF hE H locs L hP hS hL hn
    have h0 := hL.2.2 _ _ hx
    have h1 : W p l e R s m args below meth c H locs cells slots Q (F0 m (pc + 2) L (vcv ad ef (.ref x) :: st.map (vcv ad ef))) := (h p e R s m args below meth c A ad cA D ef cells slots Q hF hE H locs _ hP hS hL hn)
    have hC := hF.2.2.2.2.2.2.1
    revert h0 h1
    have hv : vcv ad ef (.ref x) = .null ∨ ∃ t, vcv ad ef (.ref x) = .ref t := by
      rw [vcv_r]
      cases Nat.beq x 1008 with
      | true =>
        obtain ⟨-, -, -, -, -, -, -, -, h9, -⟩ := hC
        exact h9
      | false => exact Or.inr ⟨_, rfl⟩
    rcases hv with hv | ⟨t, hv⟩ <;> rw [hv] <;> intro h0 h1
    · exact lv_aloadN hF.1 hF.2.1 hd h0 h1
    · exact lv_aload hF.1 hF.2.1 hd h0 h1
  · intro p e R s m args below meth c A ad cA D ef cells slots Q hF hE H locs L hP hS hL hn
    exact lv_aloadN hF.1 hF.2.1 hd (hL.2.2 _ _ hx) (h p e R s m args below meth c A ad cA D ef cells slots Q hF hE H locs _ hP hS hL hn)
theorem vs_aload_n {k : Fin 4} (hd : decode (vYc y) pc = .ok (.aload_n k, 1)) (h : vldA ls k.val (fun v => vS l G d y (pc + 1) ls (v :: st) σ post)) : vS l G d y pc ls st σ post := by
  rcases vldA_e h with ⟨x, hx, h⟩ | ⟨hx, h⟩
  · intro p e R s m args below meth c A ad cA D ef cells slots Q hF hE H locs L hP hS hL hn
    have h0 := hL.2.2 _ _ hx
    have h1 : W p l e R s m args below meth c H locs cells slots Q (F0 m (pc + 1) L (vcv ad ef (.ref x) :: st.map (vcv ad ef))) := (h p e R s m args below meth c A ad cA D ef cells slots Q hF hE H locs _ hP hS hL hn)
    have hC := hF.2.2.2.2.2.2.1
    revert h0 h1
    have hv : vcv ad ef (.ref x) = .null ∨ ∃ t, vcv ad ef (.ref x) = .ref t := by
      rw [vcv_r]
      cases Nat.beq x 1008 with
      | true =>
        obtain ⟨-, -, -, -, -, -, -, -, h9, -⟩ := hC
        exact h9
      | false => exact Or.inr ⟨_, rfl⟩
    rcases hv with hv | ⟨t, hv⟩ <;> rw [hv] <;> intro h0 h1
    · exact lv_aload_nN hF.1 hF.2.1 hd rfl h0 h1
    · exact lv_aload_n hF.1 hF.2.1 hd rfl h0 h1
  · intro p e R s m args below meth c A ad cA D ef cells slots Q hF hE H locs L hP hS hL hn
    exact lv_aload_nN hF.1 hF.2.1 hd rfl (hL.2.2 _ _ hx) (h p e R s m args below meth c A ad cA D ef cells slots Q hF hE H locs _ hP hS hL hn)
theorem vs_istore {k : Nat} (hd : decode (vYc y) pc = .ok (.istore k, 2)) (h : vstI ls st k (fun ls r => vS l G d y (pc + 2) ls r σ post)) : vS l G d y pc ls st σ post := by
  obtain ⟨x, r, rfl, hf, hk, h⟩ := vstI_e h
  intro p e R s m args below meth c A ad cA D ef cells slots Q hF hE H locs L hP hS hL hn
  exact lv_istore hF.1 hF.2.1 hd hL.has hk rfl (fun L' hL' => h p e R s m args below meth c A ad cA D ef cells slots Q hF hE H locs L' hP hS (vlok.st1 (vef_cat hF.2.2.2.2.2.2.1) (v := .int x) hf hL') (by rw [vset_len]; exact hn))
theorem vs_astore {k : Nat} (hd : decode (vYc y) pc = .ok (.astore k, 2)) (h : vstA ls st k (fun ls r => vS l G d y (pc + 2) ls r σ post)) : vS l G d y pc ls st σ post := by
  obtain ⟨v, r, rfl, hv, hf, hk, h⟩ := vstA_e h
  rcases hv with rfl | ⟨x, rfl, hx⟩
  · intro p e R s m args below meth c A ad cA D ef cells slots Q hF hE H locs L hP hS hL hn
    exact lv_astoreN hF.1 hF.2.1 hd hL.has hk rfl (fun L' hL' => h p e R s m args below meth c A ad cA D ef cells slots Q hF hE H locs L' hP hS (vlok.st1 (vef_cat hF.2.2.2.2.2.2.1) (v := .null) hf hL') (by rw [vset_len]; exact hn))
  · intro p e R s m args below meth c A ad cA D ef cells slots Q hF hE H locs L hP hS hL hn
    have e0 : ((Value.ref x) :: r).map (vcv ad ef) = .ref (ad x) :: r.map (vcv ad ef) := by rw [List.map_cons, vcv_ref hx]
    rw [e0]
    exact lv_astore hF.1 hF.2.1 hd hL.has hk rfl (fun L' hL' => h p e R s m args below meth c A ad cA D ef cells slots Q hF hE H locs L' hP hS (vlok.st1 (vef_cat hF.2.2.2.2.2.2.1) (v := .ref x) hf (by rw [vcv_ref hx]; exact hL')) (by rw [vset_len]; exact hn))
theorem vs_istore_n {k : Fin 4} (hd : decode (vYc y) pc = .ok (.istore_n k, 1)) (h : vstI ls st k.val (fun ls r => vS l G d y (pc + 1) ls r σ post)) : vS l G d y pc ls st σ post := by
  obtain ⟨x, r, rfl, hf, hk, h⟩ := vstI_e h
  intro p e R s m args below meth c A ad cA D ef cells slots Q hF hE H locs L hP hS hL hn
  exact lv_istore_n hF.1 hF.2.1 hd rfl hL.has hk rfl (fun L' hL' => h p e R s m args below meth c A ad cA D ef cells slots Q hF hE H locs L' hP hS (vlok.st1 (vef_cat hF.2.2.2.2.2.2.1) (v := .int x) hf hL') (by rw [vset_len]; exact hn))
theorem vs_astore_n {k : Fin 4} (hd : decode (vYc y) pc = .ok (.astore_n k, 1)) (h : vstA ls st k.val (fun ls r => vS l G d y (pc + 1) ls r σ post)) : vS l G d y pc ls st σ post := by
  obtain ⟨v, r, rfl, hv, hf, hk, h⟩ := vstA_e h
  rcases hv with rfl | ⟨x, rfl, hx⟩
  · intro p e R s m args below meth c A ad cA D ef cells slots Q hF hE H locs L hP hS hL hn
    exact lv_astore_nN hF.1 hF.2.1 hd rfl hL.has hk rfl (fun L' hL' => h p e R s m args below meth c A ad cA D ef cells slots Q hF hE H locs L' hP hS (vlok.st1 (vef_cat hF.2.2.2.2.2.2.1) (v := .null) hf hL') (by rw [vset_len]; exact hn))
  · intro p e R s m args below meth c A ad cA D ef cells slots Q hF hE H locs L hP hS hL hn
    have e0 : ((Value.ref x) :: r).map (vcv ad ef) = .ref (ad x) :: r.map (vcv ad ef) := by rw [List.map_cons, vcv_ref hx]
    rw [e0]
    exact lv_astore_n hF.1 hF.2.1 hd rfl hL.has hk rfl (fun L' hL' => h p e R s m args below meth c A ad cA D ef cells slots Q hF hE H locs L' hP hS (vlok.st1 (vef_cat hF.2.2.2.2.2.2.1) (v := .ref x) hf (by rw [vcv_ref hx]; exact hL')) (by rw [vset_len]; exact hn))
theorem vs_lstore {k : Nat} (hd : decode (vYc y) pc = .ok (.lstore k, 2)) (h : vstL ls st k (fun ls r => vS l G d y (pc + 2) ls r σ post)) : vS l G d y pc ls st σ post := by
  obtain ⟨x, r, rfl, hf, hk, h⟩ := vstL_e h
  intro p e R s m args below meth c A ad cA D ef cells slots Q hF hE H locs L hP hS hL hn
  exact lv_lstore hF.1 hF.2.1 hd hL.has hk rfl (fun L' hL' => h p e R s m args below meth c A ad cA D ef cells slots Q hF hE H locs L' hP hS (vlok.st2 (vef_cat hF.2.2.2.2.2.2.1) hf hL') (by rw [vset_len, vset_len]; exact hn))
theorem vs_iinc {k : Nat} {n : Int} {im : Int32} (hd : decode (vYc y) pc = .ok (.iinc k n, 3)) (hi : Int32.ofInt n = im) (h : match vget ls k with | some (.int x) => bif vfree ls k then vS l G d y (pc + 3) (vset ls k (some (.int (x + im)))) st σ post else False | _ => False) : vS l G d y pc ls st σ post := by
  split at h
  next x hx =>
    obtain ⟨hf, h⟩ := vcond h
    intro p e R s m args below meth c A ad cA D ef cells slots Q hF hE H locs L hP hS hL hn
    subst hi
    obtain ⟨j, hj⟩ := List.getElem?_of_mem (vprs_mem (ad := ad) (ef := ef) (q := (k, .int x)).mpr ⟨_, hx, rfl⟩)
    exact lv_iinc hF.1 hF.2.1 hd hL.has hj rfl (vget_lt hx) rfl (fun L' hL' => h p e R s m args below meth c A ad cA D ef cells slots Q hF hE H locs L' hP hS (vlok.st1 (vef_cat hF.2.2.2.2.2.2.1) (v := .int (x + Int32.ofInt n)) hf hL') (by rw [vset_len]; exact hn))
  · cases h
theorem vs_iadd (hd : decode (vYc y) pc = .ok (.iadd, 1)) (h : vI2 st (fun a b r => vS l G d y (pc + 1) ls (.int (a + b) :: r) σ post)) : vS l G d y pc ls st σ post := by
  obtain ⟨a, b, r, rfl, h⟩ := vI2_e h
  intro p e R s m args below meth c A ad cA D ef cells slots Q hF hE H locs L hP hS hL hn
  exact lv_iadd hF.1 hF.2.1 hd (h p e R s m args below meth c A ad cA D ef cells slots Q hF hE H locs _ hP hS hL hn)
theorem vs_isub (hd : decode (vYc y) pc = .ok (.isub, 1)) (h : vI2 st (fun a b r => vS l G d y (pc + 1) ls (.int (a - b) :: r) σ post)) : vS l G d y pc ls st σ post := by
  obtain ⟨a, b, r, rfl, h⟩ := vI2_e h
  intro p e R s m args below meth c A ad cA D ef cells slots Q hF hE H locs L hP hS hL hn
  exact lv_isub hF.1 hF.2.1 hd (h p e R s m args below meth c A ad cA D ef cells slots Q hF hE H locs _ hP hS hL hn)
theorem vs_imul (hd : decode (vYc y) pc = .ok (.imul, 1)) (h : vI2 st (fun a b r => vS l G d y (pc + 1) ls (.int (a * b) :: r) σ post)) : vS l G d y pc ls st σ post := by
  obtain ⟨a, b, r, rfl, h⟩ := vI2_e h
  intro p e R s m args below meth c A ad cA D ef cells slots Q hF hE H locs L hP hS hL hn
  exact lv_imul hF.1 hF.2.1 hd (h p e R s m args below meth c A ad cA D ef cells slots Q hF hE H locs _ hP hS hL hn)
theorem vs_iand (hd : decode (vYc y) pc = .ok (.iand, 1)) (h : vI2 st (fun a b r => vS l G d y (pc + 1) ls (.int (a &&& b) :: r) σ post)) : vS l G d y pc ls st σ post := by
  obtain ⟨a, b, r, rfl, h⟩ := vI2_e h
  intro p e R s m args below meth c A ad cA D ef cells slots Q hF hE H locs L hP hS hL hn
  exact lv_iand hF.1 hF.2.1 hd (h p e R s m args below meth c A ad cA D ef cells slots Q hF hE H locs _ hP hS hL hn)
theorem vs_ior (hd : decode (vYc y) pc = .ok (.ior, 1)) (h : vI2 st (fun a b r => vS l G d y (pc + 1) ls (.int (a ||| b) :: r) σ post)) : vS l G d y pc ls st σ post := by
  obtain ⟨a, b, r, rfl, h⟩ := vI2_e h
  intro p e R s m args below meth c A ad cA D ef cells slots Q hF hE H locs L hP hS hL hn
  exact lv_ior hF.1 hF.2.1 hd (h p e R s m args below meth c A ad cA D ef cells slots Q hF hE H locs _ hP hS hL hn)
theorem vs_ixor (hd : decode (vYc y) pc = .ok (.ixor, 1)) (h : vI2 st (fun a b r => vS l G d y (pc + 1) ls (.int (a ^^^ b) :: r) σ post)) : vS l G d y pc ls st σ post := by
  obtain ⟨a, b, r, rfl, h⟩ := vI2_e h
  intro p e R s m args below meth c A ad cA D ef cells slots Q hF hE H locs L hP hS hL hn
  exact lv_ixor hF.1 hF.2.1 hd (h p e R s m args below meth c A ad cA D ef cells slots Q hF hE H locs _ hP hS hL hn)
theorem vs_ishl (hd : decode (vYc y) pc = .ok (.ishl, 1)) (h : vI2 st (fun a b r => vS l G d y (pc + 1) ls (.int (a <<< (b &&& 31)) :: r) σ post)) : vS l G d y pc ls st σ post := by
  obtain ⟨a, b, r, rfl, h⟩ := vI2_e h
  intro p e R s m args below meth c A ad cA D ef cells slots Q hF hE H locs L hP hS hL hn
  exact lv_ishl hF.1 hF.2.1 hd (h p e R s m args below meth c A ad cA D ef cells slots Q hF hE H locs _ hP hS hL hn)
theorem vs_ishr (hd : decode (vYc y) pc = .ok (.ishr, 1)) (h : vI2 st (fun a b r => vS l G d y (pc + 1) ls (.int (a >>> (b &&& 31)) :: r) σ post)) : vS l G d y pc ls st σ post := by
  obtain ⟨a, b, r, rfl, h⟩ := vI2_e h
  intro p e R s m args below meth c A ad cA D ef cells slots Q hF hE H locs L hP hS hL hn
  exact lv_ishr hF.1 hF.2.1 hd (h p e R s m args below meth c A ad cA D ef cells slots Q hF hE H locs _ hP hS hL hn)
theorem vs_iushr (hd : decode (vYc y) pc = .ok (.iushr, 1)) (h : vI2 st (fun a b r => vS l G d y (pc + 1) ls (.int (a.toUInt32 >>> (b.toUInt32 &&& Int32.toUInt32 31)).toInt32 :: r) σ post)) : vS l G d y pc ls st σ post := by
  obtain ⟨a, b, r, rfl, h⟩ := vI2_e h
  intro p e R s m args below meth c A ad cA D ef cells slots Q hF hE H locs L hP hS hL hn
  exact lv_iushr hF.1 hF.2.1 hd rfl (h p e R s m args below meth c A ad cA D ef cells slots Q hF hE H locs _ hP hS hL hn)
theorem vs_idiv (hd : decode (vYc y) pc = .ok (.idiv, 1)) (h : vI2 st (fun a b r => ¬ b = 0 ∧ vS l G d y (pc + 1) ls (.int (a / b) :: r) σ post)) : vS l G d y pc ls st σ post := by
  obtain ⟨a, b, r, rfl, h0, h⟩ := vI2_e h
  intro p e R s m args below meth c A ad cA D ef cells slots Q hF hE H locs L hP hS hL hn
  exact lv_idiv hF.1 hF.2.1 hd h0 (h p e R s m args below meth c A ad cA D ef cells slots Q hF hE H locs _ hP hS hL hn)
theorem vs_irem (hd : decode (vYc y) pc = .ok (.irem, 1)) (h : vI2 st (fun a b r => ¬ b = 0 ∧ vS l G d y (pc + 1) ls (.int (a - a / b * b) :: r) σ post)) : vS l G d y pc ls st σ post := by
  obtain ⟨a, b, r, rfl, h0, h⟩ := vI2_e h
  intro p e R s m args below meth c A ad cA D ef cells slots Q hF hE H locs L hP hS hL hn
  exact lv_irem hF.1 hF.2.1 hd h0 (h p e R s m args below meth c A ad cA D ef cells slots Q hF hE H locs _ hP hS hL hn)
theorem vs_ladd (hd : decode (vYc y) pc = .ok (.ladd, 1)) (h : vL2 st (fun a b r => vS l G d y (pc + 1) ls (.long (a + b) :: r) σ post)) : vS l G d y pc ls st σ post := by
  obtain ⟨a, b, r, rfl, h⟩ := vL2_e h
  intro p e R s m args below meth c A ad cA D ef cells slots Q hF hE H locs L hP hS hL hn
  exact lv_ladd hF.1 hF.2.1 hd (h p e R s m args below meth c A ad cA D ef cells slots Q hF hE H locs _ hP hS hL hn)
theorem vs_lsub (hd : decode (vYc y) pc = .ok (.lsub, 1)) (h : vL2 st (fun a b r => vS l G d y (pc + 1) ls (.long (a - b) :: r) σ post)) : vS l G d y pc ls st σ post := by
  obtain ⟨a, b, r, rfl, h⟩ := vL2_e h
  intro p e R s m args below meth c A ad cA D ef cells slots Q hF hE H locs L hP hS hL hn
  exact lv_lsub hF.1 hF.2.1 hd (h p e R s m args below meth c A ad cA D ef cells slots Q hF hE H locs _ hP hS hL hn)
theorem vs_lmul (hd : decode (vYc y) pc = .ok (.lmul, 1)) (h : vL2 st (fun a b r => vS l G d y (pc + 1) ls (.long (a * b) :: r) σ post)) : vS l G d y pc ls st σ post := by
  obtain ⟨a, b, r, rfl, h⟩ := vL2_e h
  intro p e R s m args below meth c A ad cA D ef cells slots Q hF hE H locs L hP hS hL hn
  exact lv_lmul hF.1 hF.2.1 hd (h p e R s m args below meth c A ad cA D ef cells slots Q hF hE H locs _ hP hS hL hn)
theorem vs_ldiv (hd : decode (vYc y) pc = .ok (.ldiv, 1)) (h : vL2 st (fun a b r => ¬ b = 0 ∧ vS l G d y (pc + 1) ls (.long (a / b) :: r) σ post)) : vS l G d y pc ls st σ post := by
  obtain ⟨a, b, r, rfl, h0, h⟩ := vL2_e h
  intro p e R s m args below meth c A ad cA D ef cells slots Q hF hE H locs L hP hS hL hn
  exact lv_ldiv hF.1 hF.2.1 hd h0 (h p e R s m args below meth c A ad cA D ef cells slots Q hF hE H locs _ hP hS hL hn)
theorem vs_lrem (hd : decode (vYc y) pc = .ok (.lrem, 1)) (h : vL2 st (fun a b r => ¬ b = 0 ∧ vS l G d y (pc + 1) ls (.long (a - a / b * b) :: r) σ post)) : vS l G d y pc ls st σ post := by
  obtain ⟨a, b, r, rfl, h0, h⟩ := vL2_e h
  intro p e R s m args below meth c A ad cA D ef cells slots Q hF hE H locs L hP hS hL hn
  exact lv_lrem hF.1 hF.2.1 hd h0 (h p e R s m args below meth c A ad cA D ef cells slots Q hF hE H locs _ hP hS hL hn)
theorem vs_lcmp (hd : decode (vYc y) pc = .ok (.lcmp, 1)) (h : vL2 st (fun a b r => vS l G d y (pc + 1) ls (.int (lg_cmp a b) :: r) σ post)) : vS l G d y pc ls st σ post := by
  obtain ⟨a, b, r, rfl, h⟩ := vL2_e h
  intro p e R s m args below meth c A ad cA D ef cells slots Q hF hE H locs L hP hS hL hn
  exact W.lcmp hF.1 hF.2.1 hd (h p e R s m args below meth c A ad cA D ef cells slots Q hF hE H locs _ hP hS hL hn)
theorem vs_ineg (hd : decode (vYc y) pc = .ok (.ineg, 1)) (h : vI1 st (fun a r => vS l G d y (pc + 1) ls (.int (-a) :: r) σ post)) : vS l G d y pc ls st σ post := by
  obtain ⟨a, r, rfl, h⟩ := vI1_e h
  intro p e R s m args below meth c A ad cA D ef cells slots Q hF hE H locs L hP hS hL hn
  exact lv_ineg hF.1 hF.2.1 hd (h p e R s m args below meth c A ad cA D ef cells slots Q hF hE H locs _ hP hS hL hn)
theorem vs_i2l (hd : decode (vYc y) pc = .ok (.i2l, 1)) (h : vI1 st (fun a r => vS l G d y (pc + 1) ls (.long a.toInt64 :: r) σ post)) : vS l G d y pc ls st σ post := by
  obtain ⟨a, r, rfl, h⟩ := vI1_e h
  intro p e R s m args below meth c A ad cA D ef cells slots Q hF hE H locs L hP hS hL hn
  exact lv_i2l hF.1 hF.2.1 hd rfl (h p e R s m args below meth c A ad cA D ef cells slots Q hF hE H locs _ hP hS hL hn)
theorem vs_i2b (hd : decode (vYc y) pc = .ok (.i2b, 1)) (h : vI1 st (fun a r => vS l G d y (pc + 1) ls (.int a.toInt8.toInt32 :: r) σ post)) : vS l G d y pc ls st σ post := by
  obtain ⟨a, r, rfl, h⟩ := vI1_e h
  intro p e R s m args below meth c A ad cA D ef cells slots Q hF hE H locs L hP hS hL hn
  exact lv_i2b hF.1 hF.2.1 hd rfl (h p e R s m args below meth c A ad cA D ef cells slots Q hF hE H locs _ hP hS hL hn)
theorem vs_i2s (hd : decode (vYc y) pc = .ok (.i2s, 1)) (h : vI1 st (fun a r => vS l G d y (pc + 1) ls (.int a.toInt16.toInt32 :: r) σ post)) : vS l G d y pc ls st σ post := by
  obtain ⟨a, r, rfl, h⟩ := vI1_e h
  intro p e R s m args below meth c A ad cA D ef cells slots Q hF hE H locs L hP hS hL hn
  exact lv_i2s hF.1 hF.2.1 hd rfl (h p e R s m args below meth c A ad cA D ef cells slots Q hF hE H locs _ hP hS hL hn)
theorem vs_i2c (hd : decode (vYc y) pc = .ok (.i2c, 1)) (h : vI1 st (fun a r => vS l G d y (pc + 1) ls (.int (a.toUInt32 % 65536).toInt32 :: r) σ post)) : vS l G d y pc ls st σ post := by
  obtain ⟨a, r, rfl, h⟩ := vI1_e h
  intro p e R s m args below meth c A ad cA D ef cells slots Q hF hE H locs L hP hS hL hn
  exact lv_i2c hF.1 hF.2.1 hd rfl (h p e R s m args below meth c A ad cA D ef cells slots Q hF hE H locs _ hP hS hL hn)
theorem vs_l2i (hd : decode (vYc y) pc = .ok (.l2i, 1)) (h : match st with | .long a :: r => vS l G d y (pc + 1) ls (.int a.toInt32 :: r) σ post | _ => False) : vS l G d y pc ls st σ post := by
  split at h
  · intro p e R s m args below meth c A ad cA D ef cells slots Q hF hE H locs L hP hS hL hn
    exact lv_l2i hF.1 hF.2.1 hd rfl (h p e R s m args below meth c A ad cA D ef cells slots Q hF hE H locs _ hP hS hL hn)
  · cases h
theorem vs_dup (hd : decode (vYc y) pc = .ok (.dup, 1)) (h : match st with | v :: r => bif vone v then vS l G d y (pc + 1) ls (v :: v :: r) σ post else False | _ => False) : vS l G d y pc ls st σ post := by
  split at h
  · obtain ⟨h0, h⟩ := vcond h
    intro p e R s m args below meth c A ad cA D ef cells slots Q hF hE H locs L hP hS hL hn
    exact lv_dup hF.1 hF.2.1 hd (by rw [vcv_cat (vef_cat hF.2.2.2.2.2.2.1)]; exact Nat.eq_of_beq_eq_true h0) (h p e R s m args below meth c A ad cA D ef cells slots Q hF hE H locs _ hP hS hL hn)
  · cases h
theorem vs_pop (hd : decode (vYc y) pc = .ok (.pop, 1)) (h : match st with | v :: r => bif vone v then vS l G d y (pc + 1) ls r σ post else False | _ => False) : vS l G d y pc ls st σ post := by
  split at h
  · obtain ⟨h0, h⟩ := vcond h
    intro p e R s m args below meth c A ad cA D ef cells slots Q hF hE H locs L hP hS hL hn
    exact lv_pop hF.1 hF.2.1 hd (by rw [vcv_cat (vef_cat hF.2.2.2.2.2.2.1)]; exact Nat.eq_of_beq_eq_true h0) (h p e R s m args below meth c A ad cA D ef cells slots Q hF hE H locs _ hP hS hL hn)
  · cases h
theorem vs_dup2 (hd : decode (vYc y) pc = .ok (.dup2, 1)) (h : match st with | v :: w :: r => bif vone v && vone w then vS l G d y (pc + 1) ls (v :: w :: v :: w :: r) σ post else False | _ => False) : vS l G d y pc ls st σ post := by
  split at h
  · obtain ⟨h0, h⟩ := vcond h
    simp only [Bool.and_eq_true] at h0
    intro p e R s m args below meth c A ad cA D ef cells slots Q hF hE H locs L hP hS hL hn
    exact lv_dup2_11 hF.1 hF.2.1 hd (by rw [vcv_cat (vef_cat hF.2.2.2.2.2.2.1)]; exact Nat.eq_of_beq_eq_true h0.1) (by rw [vcv_cat (vef_cat hF.2.2.2.2.2.2.1)]; exact Nat.eq_of_beq_eq_true h0.2) (h p e R s m args below meth c A ad cA D ef cells slots Q hF hE H locs _ hP hS hL hn)
  · cases h
theorem vs_if_eq {o : Int} {tg : Nat} (hd : decode (vYc y) pc = .ok (.ifCond .eq o, 3)) (ht : (pc : Int) + o = (tg : Int)) (h : vI1 st (fun a r => (a = 0 → vS l G d y tg ls r σ post) ∧ (¬ a = 0 → vS l G d y (pc + 3) ls r σ post))) : vS l G d y pc ls st σ post := by
  obtain ⟨a, r, rfl, h1, h2⟩ := vI1_e h
  intro p e R s m args below meth c A ad cA D ef cells slots Q hF hE H locs L hP hS hL hn
  refine lv_if_eq hF.1 hF.2.1 hd ht (fun q => ?_) (fun q => ?_)
  · exact h1 q p e R s m args below meth c A ad cA D ef cells slots Q hF hE H locs _ hP hS hL hn
  · exact h2 q p e R s m args below meth c A ad cA D ef cells slots Q hF hE H locs _ hP hS hL hn
theorem vs_icmp_eq {o : Int} {tg : Nat} (hd : decode (vYc y) pc = .ok (.if_icmp .eq o, 3)) (ht : (pc : Int) + o = (tg : Int)) (h : vI2 st (fun a b r => (a = b → vS l G d y tg ls r σ post) ∧ (¬ a = b → vS l G d y (pc + 3) ls r σ post))) : vS l G d y pc ls st σ post := by
  obtain ⟨a, b, r, rfl, h1, h2⟩ := vI2_e h
  intro p e R s m args below meth c A ad cA D ef cells slots Q hF hE H locs L hP hS hL hn
  refine lv_icmp_eq hF.1 hF.2.1 hd ht (fun q => ?_) (fun q => ?_)
  · exact h1 q p e R s m args below meth c A ad cA D ef cells slots Q hF hE H locs _ hP hS hL hn
  · exact h2 q p e R s m args below meth c A ad cA D ef cells slots Q hF hE H locs _ hP hS hL hn
theorem vs_if_ne {o : Int} {tg : Nat} (hd : decode (vYc y) pc = .ok (.ifCond .ne o, 3)) (ht : (pc : Int) + o = (tg : Int)) (h : vI1 st (fun a r => (¬ a = 0 → vS l G d y tg ls r σ post) ∧ (a = 0 → vS l G d y (pc + 3) ls r σ post))) : vS l G d y pc ls st σ post := by
  obtain ⟨a, r, rfl, h1, h2⟩ := vI1_e h
  intro p e R s m args below meth c A ad cA D ef cells slots Q hF hE H locs L hP hS hL hn
  refine lv_if_ne hF.1 hF.2.1 hd ht (fun q => ?_) (fun q => ?_)
  · exact h1 q p e R s m args below meth c A ad cA D ef cells slots Q hF hE H locs _ hP hS hL hn
  · exact h2 q p e R s m args below meth c A ad cA D ef cells slots Q hF hE H locs _ hP hS hL hn
theorem vs_icmp_ne {o : Int} {tg : Nat} (hd : decode (vYc y) pc = .ok (.if_icmp .ne o, 3)) (ht : (pc : Int) + o = (tg : Int)) (h : vI2 st (fun a b r => (¬ a = b → vS l G d y tg ls r σ post) ∧ (a = b → vS l G d y (pc + 3) ls r σ post))) : vS l G d y pc ls st σ post := by
  obtain ⟨a, b, r, rfl, h1, h2⟩ := vI2_e h
  intro p e R s m args below meth c A ad cA D ef cells slots Q hF hE H locs L hP hS hL hn
  refine lv_icmp_ne hF.1 hF.2.1 hd ht (fun q => ?_) (fun q => ?_)
  · exact h1 q p e R s m args below meth c A ad cA D ef cells slots Q hF hE H locs _ hP hS hL hn
  · exact h2 q p e R s m args below meth c A ad cA D ef cells slots Q hF hE H locs _ hP hS hL hn
theorem vs_if_lt {o : Int} {tg : Nat} (hd : decode (vYc y) pc = .ok (.ifCond .lt o, 3)) (ht : (pc : Int) + o = (tg : Int)) (h : vI1 st (fun a r => (a < 0 → vS l G d y tg ls r σ post) ∧ (¬ a < 0 → vS l G d y (pc + 3) ls r σ post))) : vS l G d y pc ls st σ post := by
  obtain ⟨a, r, rfl, h1, h2⟩ := vI1_e h
  intro p e R s m args below meth c A ad cA D ef cells slots Q hF hE H locs L hP hS hL hn
  refine lv_if_lt hF.1 hF.2.1 hd ht (fun q => ?_) (fun q => ?_)
  · exact h1 q p e R s m args below meth c A ad cA D ef cells slots Q hF hE H locs _ hP hS hL hn
  · exact h2 q p e R s m args below meth c A ad cA D ef cells slots Q hF hE H locs _ hP hS hL hn
theorem vs_icmp_lt {o : Int} {tg : Nat} (hd : decode (vYc y) pc = .ok (.if_icmp .lt o, 3)) (ht : (pc : Int) + o = (tg : Int)) (h : vI2 st (fun a b r => (a < b → vS l G d y tg ls r σ post) ∧ (¬ a < b → vS l G d y (pc + 3) ls r σ post))) : vS l G d y pc ls st σ post := by
  obtain ⟨a, b, r, rfl, h1, h2⟩ := vI2_e h
  intro p e R s m args below meth c A ad cA D ef cells slots Q hF hE H locs L hP hS hL hn
  refine lv_icmp_lt hF.1 hF.2.1 hd ht (fun q => ?_) (fun q => ?_)
  · exact h1 q p e R s m args below meth c A ad cA D ef cells slots Q hF hE H locs _ hP hS hL hn
  · exact h2 q p e R s m args below meth c A ad cA D ef cells slots Q hF hE H locs _ hP hS hL hn
theorem vs_if_ge {o : Int} {tg : Nat} (hd : decode (vYc y) pc = .ok (.ifCond .ge o, 3)) (ht : (pc : Int) + o = (tg : Int)) (h : vI1 st (fun a r => (0 ≤ a → vS l G d y tg ls r σ post) ∧ (¬ 0 ≤ a → vS l G d y (pc + 3) ls r σ post))) : vS l G d y pc ls st σ post := by
  obtain ⟨a, r, rfl, h1, h2⟩ := vI1_e h
  intro p e R s m args below meth c A ad cA D ef cells slots Q hF hE H locs L hP hS hL hn
  refine lv_if_ge hF.1 hF.2.1 hd ht (fun q => ?_) (fun q => ?_)
  · exact h1 q p e R s m args below meth c A ad cA D ef cells slots Q hF hE H locs _ hP hS hL hn
  · exact h2 q p e R s m args below meth c A ad cA D ef cells slots Q hF hE H locs _ hP hS hL hn
theorem vs_icmp_ge {o : Int} {tg : Nat} (hd : decode (vYc y) pc = .ok (.if_icmp .ge o, 3)) (ht : (pc : Int) + o = (tg : Int)) (h : vI2 st (fun a b r => (b ≤ a → vS l G d y tg ls r σ post) ∧ (¬ b ≤ a → vS l G d y (pc + 3) ls r σ post))) : vS l G d y pc ls st σ post := by
  obtain ⟨a, b, r, rfl, h1, h2⟩ := vI2_e h
  intro p e R s m args below meth c A ad cA D ef cells slots Q hF hE H locs L hP hS hL hn
  refine lv_icmp_ge hF.1 hF.2.1 hd ht (fun q => ?_) (fun q => ?_)
  · exact h1 q p e R s m args below meth c A ad cA D ef cells slots Q hF hE H locs _ hP hS hL hn
  · exact h2 q p e R s m args below meth c A ad cA D ef cells slots Q hF hE H locs _ hP hS hL hn
theorem vs_if_gt {o : Int} {tg : Nat} (hd : decode (vYc y) pc = .ok (.ifCond .gt o, 3)) (ht : (pc : Int) + o = (tg : Int)) (h : vI1 st (fun a r => (0 < a → vS l G d y tg ls r σ post) ∧ (¬ 0 < a → vS l G d y (pc + 3) ls r σ post))) : vS l G d y pc ls st σ post := by
  obtain ⟨a, r, rfl, h1, h2⟩ := vI1_e h
  intro p e R s m args below meth c A ad cA D ef cells slots Q hF hE H locs L hP hS hL hn
  refine lv_if_gt hF.1 hF.2.1 hd ht (fun q => ?_) (fun q => ?_)
  · exact h1 q p e R s m args below meth c A ad cA D ef cells slots Q hF hE H locs _ hP hS hL hn
  · exact h2 q p e R s m args below meth c A ad cA D ef cells slots Q hF hE H locs _ hP hS hL hn
theorem vs_icmp_gt {o : Int} {tg : Nat} (hd : decode (vYc y) pc = .ok (.if_icmp .gt o, 3)) (ht : (pc : Int) + o = (tg : Int)) (h : vI2 st (fun a b r => (b < a → vS l G d y tg ls r σ post) ∧ (¬ b < a → vS l G d y (pc + 3) ls r σ post))) : vS l G d y pc ls st σ post := by
  obtain ⟨a, b, r, rfl, h1, h2⟩ := vI2_e h
  intro p e R s m args below meth c A ad cA D ef cells slots Q hF hE H locs L hP hS hL hn
  refine lv_icmp_gt hF.1 hF.2.1 hd ht (fun q => ?_) (fun q => ?_)
  · exact h1 q p e R s m args below meth c A ad cA D ef cells slots Q hF hE H locs _ hP hS hL hn
  · exact h2 q p e R s m args below meth c A ad cA D ef cells slots Q hF hE H locs _ hP hS hL hn
theorem vs_if_le {o : Int} {tg : Nat} (hd : decode (vYc y) pc = .ok (.ifCond .le o, 3)) (ht : (pc : Int) + o = (tg : Int)) (h : vI1 st (fun a r => (a ≤ 0 → vS l G d y tg ls r σ post) ∧ (¬ a ≤ 0 → vS l G d y (pc + 3) ls r σ post))) : vS l G d y pc ls st σ post := by
  obtain ⟨a, r, rfl, h1, h2⟩ := vI1_e h
  intro p e R s m args below meth c A ad cA D ef cells slots Q hF hE H locs L hP hS hL hn
  refine lv_if_le hF.1 hF.2.1 hd ht (fun q => ?_) (fun q => ?_)
  · exact h1 q p e R s m args below meth c A ad cA D ef cells slots Q hF hE H locs _ hP hS hL hn
  · exact h2 q p e R s m args below meth c A ad cA D ef cells slots Q hF hE H locs _ hP hS hL hn
theorem vs_icmp_le {o : Int} {tg : Nat} (hd : decode (vYc y) pc = .ok (.if_icmp .le o, 3)) (ht : (pc : Int) + o = (tg : Int)) (h : vI2 st (fun a b r => (a ≤ b → vS l G d y tg ls r σ post) ∧ (¬ a ≤ b → vS l G d y (pc + 3) ls r σ post))) : vS l G d y pc ls st σ post := by
  obtain ⟨a, b, r, rfl, h1, h2⟩ := vI2_e h
  intro p e R s m args below meth c A ad cA D ef cells slots Q hF hE H locs L hP hS hL hn
  refine lv_icmp_le hF.1 hF.2.1 hd ht (fun q => ?_) (fun q => ?_)
  · exact h1 q p e R s m args below meth c A ad cA D ef cells slots Q hF hE H locs _ hP hS hL hn
  · exact h2 q p e R s m args below meth c A ad cA D ef cells slots Q hF hE H locs _ hP hS hL hn
theorem vs_goto {o : Int} {tg : Nat} (hd : decode (vYc y) pc = .ok (.goto o, 3)) (ht : (pc : Int) + o = (tg : Int)) (h : vS l G d y tg ls st σ post) : vS l G d y pc ls st σ post := fun p e R s m args below meth c A ad cA D ef cells slots Q hF hE H locs L hP hS hL hn => lv_goto hF.1 hF.2.1 hd ht (h p e R s m args below meth c A ad cA D ef cells slots Q hF hE H locs _ hP hS hL hn)
theorem vs_ifnull {o : Int} {tg : Nat} (hd : decode (vYc y) pc = .ok (.ifnull o, 3)) (ht : (pc : Int) + o = (tg : Int)) (h : match st with | .null :: r => vS l G d y tg ls r σ post | .ref x :: r => bif Nat.ble x 1007 then vS l G d y (pc + 3) ls r σ post else False | _ => False) : vS l G d y pc ls st σ post := by
  split at h
  · intro p e R s m args below meth c A ad cA D ef cells slots Q hF hE H locs L hP hS hL hn
    exact lv_ifnullN hF.1 hF.2.1 hd ht (h p e R s m args below meth c A ad cA D ef cells slots Q hF hE H locs _ hP hS hL hn)
  · obtain ⟨h0, h⟩ := vcond h
    intro p e R s m args below meth c A ad cA D ef cells slots Q hF hE H locs L hP hS hL hn
    rw [List.map_cons, vcv_ref (Nat.le_of_ble_eq_true h0)]
    exact lv_ifnull hF.1 hF.2.1 hd (h p e R s m args below meth c A ad cA D ef cells slots Q hF hE H locs _ hP hS hL hn)
  · cases h
end SN
