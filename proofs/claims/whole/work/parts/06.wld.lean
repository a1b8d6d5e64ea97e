/-! ===== SOUND: what the virtual machine says holds of the machine ===== -/
/-- the actual value of a virtual one: ad gives each cell's (and each constant's) address, ef the one unknown reference -/
def vcv (ad : Nat → Nat) (ef : Value) : Value → Value
  | .ref r => bif Nat.beq r 1008 then ef else .ref (ad r)
  | v => v
theorem vcv_r {ad : Nat → Nat} {ef : Value} {r : Nat} : vcv ad ef (.ref r) = bif Nat.beq r 1008 then ef else .ref (ad r) := rfl
def vfld (ad : Nat → Nat) (σ : vM) (i k : Nat) (f : Nat × Nat) : Value := match f.1 with
  | 1 => .ref (ad f.2)
  | 2 => .long (σ.2 i k)
  | 3 => .ref (ad (σ.1 i k).toNatClampNeg)
  | _ => .int (σ.1 i k)
def vflds (ad : Nat → Nat) (σ : vM) (i : Nat) (fs : List (Nat × Nat)) : List Value := (List.range fs.length).map (fun k => vfld ad σ i k (fs.getD k (0, 0)))
def vcell (ad : Nat → Nat) (cA : Nat → ClassId) (σ : vM) (i : Nat) : va_E := match vlayT i with
  | .inl (t, n, es) => .inl (cA i, n, bif Nat.ble t 1 then .inl (σ.1 i) else .inr (.inr (.inr (.inr (fun k => some (ad (es.getD k 0)))))))
  | .inr (ci, fs) => .inr (ci, vflds ad σ i fs)
def vsz (G : vG) : Nat := bif G.1 then 83 else 58
def vwd (G : vG) (ad : Nat → Nat) (cA : Nat → ClassId) (σ : vM) : va_W := (List.range (vsz G)).map (fun i => (ad i, vcell ad cA σ i))
def vty (t : Nat) : FieldType := match t with
  | 0 => .int
  | 1 => .boolean
  | 2 => .object RX4
  | _ => .object RX3
def vKt (G : vG) (D : va_G) (cA : Nat → ClassId) (U : State) : Prop := va_K D vwCl [] U ∧ ∀ (i t n : Nat) (es : List Nat), vlay G i = some (.inl (t, n, es)) → ArrOfT U (cA i) (vty t) ∧ va_RA U (cA i) (vty t)
theorem vKt.moved {G : vG} {D : va_G} {cA : Nat → ClassId} {u U : State} (hvm : u.vm.Alike U.vm) (h : vKt G D cA u) : vKt G D cA U := ⟨h.1.moved hvm, fun i t n es hl => ⟨arrOfT_moved hvm (h.2 i t n es hl).1, (h.2 i t n es hl).2.moved hvm⟩⟩
theorem vKt.one {G : vG} {D : va_G} {cA : Nat → ClassId} {U : State} (h : vKt G D cA U) {i t n : Nat} {es : List Nat} (hl : vlay G i = some (.inl (t, n, es))) : va_K D vwCl [(cA i, vty t)] U := by
  refine ⟨h.1.1, fun k q hk => ?_⟩
  cases k with
  | zero => cases hk; exact h.2 i t n es hl
  | succ k => simp at hk
theorem vKt.two {G : vG} {D : va_G} {cA : Nat → ClassId} {U : State} (h : vKt G D cA U) {i t n i2 t2 n2 : Nat} {es es2 : List Nat} (hl : vlay G i = some (.inl (t, n, es))) (hl2 : vlay G i2 = some (.inl (t2, n2, es2))) : va_K D vwCl [(cA i, vty t), (cA i2, vty t2)] U := by
  refine ⟨h.1.1, fun k q hk => ?_⟩
  match k, hk with
  | 0, hk => cases hk; exact h.2 i t n es hl
  | 1, hk => cases hk; exact h.2 i2 t2 n2 es2 hl2
  | k + 2, hk => simp at hk
def vCn (G : vG) (ad : Nat → Nat) (ef : Value) (A : Nat → Prop) (U : State) (H : Heap) : Prop :=
  vk_S 2 [32, 68] [vFirst, vWords] (fun i => ad (1000 + i)) (fun i => ad (1002 + i)) A U H ∧ vk_R RX6 60 "dues years ; offs 0 ; extras 3 ;" (ad 1000) U ∧ vk_R RX2 106 "years nights number night cloudy lights dues offs extras or and not " (ad 1001) U ∧
  va_Z "LightYearsAreOwed" "UNDER" "[I" (.ref (ad 1004)) A U H ∧ va_Z "LightYearsAreOwed" "LEAST" "[I" (.ref (ad 1005)) A U H ∧ va_Z "LightYearsAreOwed" "MOST" "[I" (.ref (ad 1006)) A U H ∧
  va_Z "java/lang/String" "COMPACT_STRINGS" "Z" (.int 1) A U H ∧ va_Z "jdk/internal/util/Preconditions" "SIOOBE_FORMATTER" "Ljava/util/function/BiFunction;" ef A U H ∧ (ef = .null ∨ ∃ t, ef = .ref t) ∧
  ∀ (r t n : Nat) (f : Nat → Int32), vcon G r = some (t, n, f) → n < 2 ^ 31 ∧ va_T (if t = 1 then .byte else .int) (ad r) n (fun j => .int (f j)) A U H
theorem vCn.next {G : vG} {ad : Nat → Nat} {ef : Value} {A B : Nat → Prop} {s U : State} {H : Heap} (hW : s.WarmedH U.vm) (hq : ∀ a : Nat, a < s.heap.size → ¬ A a → H[a]? = s.heap[a]?) (hU : U.heap = H) (hAB : ∀ q, B q → A q) (h : vCn G ad ef A s s.heap) : vCn G ad ef B U U.heap := by
  obtain ⟨h1, h2, h3, h4, h5, h6, h7, h8, h9, h10⟩ := h
  subst hU
  exact ⟨((h1.moved hW.alike).kept hq).narrow hAB, h2.warm hW, h3.warm hW, ((h4.moved hW.alike).kept hq).narrow hAB, ((h5.moved hW.alike).kept hq).narrow hAB, ((h6.moved hW.alike).kept hq).narrow hAB, ((h7.moved hW.alike).kept hq).narrow hAB, ((h8.moved hW.alike).kept hq).narrow hAB, h9, fun r t n f hr => ⟨(h10 r t n f hr).1, (((h10 r t n f hr).2.moved hW.alike).kept hq).narrow hAB⟩⟩
def vlok (ad : Nat → Nat) (ef : Value) (L : Array Slot) (ls : vL) : Prop := L.size = ls.length ∧ lv_wf L ∧ ∀ (i : Nat) (v : Value), vget ls i = some v → L[i]? = some (.val (vcv ad ef v))
theorem vset_len {α : Type} (l : List (Option α)) (k : Nat) (v : Option α) : (vset l k v).length = l.length := by
  induction l generalizing k with
  | nil => rfl
  | cons a l ih => cases k with
    | zero => rfl
    | succ k => simp [vset, ih]
theorem vget_set {α : Type} (l : List (Option α)) (k : Nat) (v : Option α) (i : Nat) : vget (vset l k v) i = if i = k ∧ k < l.length then v else vget l i := by
  induction l generalizing k i with
  | nil => simp [vset, vget]
  | cons a l ih =>
    cases k with
    | zero => cases i with
      | zero => simp [vset, vget]
      | succ i => simp [vset, vget]
    | succ k => cases i with
      | zero => simp [vset, vget]
      | succ i => simp [vset, vget, ih]
theorem vget_lt {α : Type} {l : List (Option α)} {i : Nat} {v : α} (h : vget l i = some v) : i < l.length := by
  induction l generalizing i with
  | nil => cases h
  | cons a l ih => cases i with
    | zero => simp
    | succ i => have := ih (i := i) h; simp; omega
def vprs (ad : Nat → Nat) (ef : Value) (ls : vL) : List (Nat × Value) := (List.range ls.length).filterMap (fun i => (vget ls i).map (fun v => (i, vcv ad ef v)))
theorem vprs_mem {ad : Nat → Nat} {ef : Value} {ls : vL} {q : Nat × Value} : q ∈ vprs ad ef ls ↔ ∃ v, vget ls q.1 = some v ∧ q.2 = vcv ad ef v := by
  unfold vprs
  rw [List.mem_filterMap]
  constructor
  · rintro ⟨i, -, h⟩
    cases hv : vget ls i with
    | none => rw [hv] at h; cases h
    | some v => rw [hv] at h; cases h; exact ⟨v, hv, rfl⟩
  · rintro ⟨v, hv, e⟩
    exact ⟨q.1, List.mem_range.mpr (vget_lt hv), by rw [hv]; simp [← e]⟩
theorem vlok.has {ad : Nat → Nat} {ef : Value} {L : Array Slot} {ls : vL} (h : vlok ad ef L ls) : lv_has L ls.length (vprs ad ef ls) := by
  refine ⟨h.1, h.2.1, fun q hq => ?_⟩
  obtain ⟨v, hv, e⟩ := vprs_mem.mp hq
  rw [e]
  exact h.2.2 _ _ hv
theorem vcv_cat {ad : Nat → Nat} {ef : Value} (he : ef.category = 1) (v : Value) : (vcv ad ef v).category = v.category := by
  cases v with
  | ref r =>
    rw [vcv_r]
    cases Nat.beq r 1008 with
    | true => exact he
    | false => rfl
  | _ => rfl
theorem vlok.st1 {ad : Nat → Nat} {ef : Value} (he : ef.category = 1) {L : Array Slot} {ls : vL} {k : Nat} {v : Value} (hf : vfree ls k = true) (h : lv_has L ls.length ((k, vcv ad ef v) :: (vprs ad ef ls).filter (fun q => !(q.1 == k) && !(q.1 + 1 == k && q.2.category == 2)))) : vlok ad ef L (vset ls k (some v)) := by
  refine ⟨by rw [vset_len]; exact h.1, h.2.1, fun i w hw => ?_⟩
  rw [vget_set] at hw
  by_cases hi : i = k
  · subst hi
    by_cases hl : i < ls.length
    · rw [if_pos ⟨rfl, hl⟩] at hw
      cases hw
      exact h.2.2 (i, vcv ad ef v) List.mem_cons_self
    · rw [if_neg (fun q => hl q.2)] at hw
      exact absurd (vget_lt hw) hl
  · rw [if_neg (fun q => hi q.1)] at hw
    refine h.2.2 (i, vcv ad ef w) (List.mem_cons_of_mem _ (List.mem_filter.mpr ⟨vprs_mem.mpr ⟨w, hw, rfl⟩, ?_⟩))
    have h1 : ¬ (i + 1 = k ∧ (vcv ad ef w).category = 2) := by
      rintro ⟨e, h2⟩
      subst e
      unfold vfree at hf
      simp only [hw] at hf
      have := Nat.eq_of_beq_eq_true hf
      rw [vcv_cat he] at h2
      omega
    simp only [Bool.and_eq_true, Bool.not_eq_true', beq_eq_false_iff_ne, ne_eq, Bool.and_eq_false_iff]
    refine ⟨hi, ?_⟩
    by_cases e : i + 1 = k
    · exact Or.inr (fun q => h1 ⟨e, q⟩)
    · exact Or.inl e
theorem vlok.st2 {ad : Nat → Nat} {ef : Value} (he : ef.category = 1) {L : Array Slot} {ls : vL} {k : Nat} {x : Int64} (hf : vfree ls k = true) (h : lv_has L ls.length ((k, .long x) :: (vprs ad ef ls).filter (fun q => !(q.1 == k) && (!(q.1 == k + 1) && !(q.1 + 1 == k && q.2.category == 2))))) : vlok ad ef L (vset (vset ls k (some (.long x))) (k + 1) none) := by
  refine ⟨by rw [vset_len, vset_len]; exact h.1, h.2.1, fun i w hw => ?_⟩
  rw [vget_set, vset_len] at hw
  by_cases hi1 : i = k + 1
  · subst hi1
    by_cases hl : k + 1 < ls.length
    · rw [if_pos ⟨rfl, hl⟩] at hw; cases hw
    · rw [if_neg (fun q => hl q.2), vget_set, if_neg (fun q => by omega)] at hw
      exact absurd (vget_lt hw) hl
  rw [if_neg (fun q => hi1 q.1), vget_set] at hw
  by_cases hi : i = k
  · subst hi
    by_cases hl : i < ls.length
    · rw [if_pos ⟨rfl, hl⟩] at hw
      cases hw
      exact h.2.2 (i, .long x) List.mem_cons_self
    · rw [if_neg (fun q => hl q.2)] at hw
      exact absurd (vget_lt hw) hl
  · rw [if_neg (fun q => hi q.1)] at hw
    refine h.2.2 (i, vcv ad ef w) (List.mem_cons_of_mem _ (List.mem_filter.mpr ⟨vprs_mem.mpr ⟨w, hw, rfl⟩, ?_⟩))
    have h1 : ¬ (i + 1 = k ∧ (vcv ad ef w).category = 2) := by
      rintro ⟨e, h2⟩
      subst e
      unfold vfree at hf
      simp only [hw] at hf
      have := Nat.eq_of_beq_eq_true hf
      rw [vcv_cat he] at h2
      omega
    simp only [Bool.and_eq_true, Bool.not_eq_true', beq_eq_false_iff_ne, ne_eq, Bool.and_eq_false_iff]
    refine ⟨hi, hi1, ?_⟩
    by_cases e : i + 1 = k
    · exact Or.inr (fun q => h1 ⟨e, q⟩)
    · exact Or.inl e
/-- cells of the world -/
theorem vlay_some {G : vG} {i : Nat} {x : vC} (h : vlay G i = some x) : i < vsz G ∧ vlayT i = x := by
  unfold vlay at h
  cases hv : vok G i with
  | false => rw [hv] at h; cases h
  | true =>
    rw [hv] at h
    refine ⟨?_, Option.some.inj h⟩
    unfold vok at hv
    unfold vsz
    simp only [Bool.or_eq_true, Bool.and_eq_true] at hv
    rcases hv with h1 | ⟨h2, h1⟩
    · have := Nat.le_of_ble_eq_true h1
      cases G.1 <;> simp <;> omega
    · have := Nat.le_of_ble_eq_true h2
      rw [h1]; simp; omega
theorem vlay_ok {G : vG} {i : Nat} {x : vC} (h : vlay G i = some x) : vcellOk x = true := by
  obtain ⟨h1, h2⟩ := vlay_some h
  rw [← h2]
  refine List.all_eq_true.mp vcells_ok i (List.mem_range.mpr ?_)
  unfold vsz at h1
  cases hG : G.1 <;> rw [hG] at h1 <;> simp at h1 <;> omega
theorem vwd_get {G : vG} {ad : Nat → Nat} {cA : Nat → ClassId} {σ : vM} {i : Nat} (h : i < vsz G) : (vwd G ad cA σ)[i]? = some (ad i, vcell ad cA σ i) := by
  simp [vwd, h]
theorem vwd_set {G : vG} {ad : Nat → Nat} {cA : Nat → ClassId} {σ σ' : vM} {i : Nat} {e : va_E} (h0 : i < vsz G) (h1 : ∀ j, j ≠ i → vcell ad cA σ' j = vcell ad cA σ j) (h2 : vcell ad cA σ' i = e) : (vwd G ad cA σ).set i (ad i, e) = vwd G ad cA σ' := by
  apply List.ext_getElem?
  intro j
  by_cases hj : j < vsz G
  · rw [vwd_get hj, List.getElem?_set]
    by_cases e1 : i = j
    · subst e1
      simp [vwd, h0, h2]
    · rw [if_neg e1, vwd_get hj, h1 j (fun q => e1 q.symm)]
  · have e1 : (vwd G ad cA σ').length = vsz G := by simp [vwd]
    have e2 : ((vwd G ad cA σ).set i (ad i, e)).length = vsz G := by simp [vwd]
    rw [List.getElem?_eq_none (by omega), List.getElem?_eq_none (by omega)]
theorem vwd_D {G : vG} {ad : Nat → Nat} {cA : Nat → ClassId} {σ σ' : vM} {A : Nat → Prop} (h : va_D A (vwd G ad cA σ)) : va_D A (vwd G ad cA σ') := by
  have key : ∀ (k : Nat) (q : Nat × va_E), (vwd G ad cA σ')[k]? = some q → ∃ q', (vwd G ad cA σ)[k]? = some q' ∧ q'.1 = q.1 := by
    intro k q hk
    have hl : k < vsz G := by
      rcases Nat.lt_or_ge k (vsz G) with h | h
      · exact h
      · rw [List.getElem?_eq_none (by simp [vwd]; omega)] at hk; cases hk
    rw [vwd_get hl] at hk
    cases hk
    exact ⟨_, vwd_get hl, rfl⟩
  refine ⟨fun i j p q hi hj e => ?_, fun k q hk => ?_⟩
  · obtain ⟨p', h1, e1⟩ := key i p hi
    obtain ⟨q', h2, e2⟩ := key j q hj
    exact h.1 i j p' q' h1 h2 (by rw [e1, e2]; exact e)
  · obtain ⟨q', h1, e1⟩ := key k q hk
    rw [← e1]; exact h.2 k q' h1
theorem vcell_put {ad : Nat → Nat} {cA : Nat → ClassId} {σ : vM} {a k : Nat} {x : Int32} {j : Nat} (h : j ≠ a) : vcell ad cA (vput σ a k x) j = vcell ad cA σ j := by
  have e : ∀ k', (vput σ a k x).1 j k' = σ.1 j k' := fun k' => if_neg (fun q => h q.1)
  unfold vcell
  cases vlayT j with
  | inl t => simp only [show (vput σ a k x).1 j = σ.1 j from funext e]
  | inr o =>
    have : ∀ k' f, vfld ad (vput σ a k x) j k' f = vfld ad σ j k' f := by
      intro k' f
      unfold vfld
      rw [e k']
      rfl
    simp only [vflds, this]
theorem vcell_putL {ad : Nat → Nat} {cA : Nat → ClassId} {σ : vM} {a k : Nat} {x : Int64} {j : Nat} (h : j ≠ a) : vcell ad cA (vputL σ a k x) j = vcell ad cA σ j := by
  have e : ∀ k', (vputL σ a k x).2 j k' = σ.2 j k' := fun k' => if_neg (fun q => h q.1)
  unfold vcell
  cases vlayT j with
  | inl t => rfl
  | inr o =>
    have : ∀ k' f, vfld ad (vputL σ a k x) j k' f = vfld ad σ j k' f := by
      intro k' f
      unfold vfld
      rw [e k']
      rfl
    simp only [vflds, this]
theorem vcell_copy {ad : Nat → Nat} {cA : Nat → ClassId} {σ : vM} {a sp b dp n : Nat} {j : Nat} (h : j ≠ b) : vcell ad cA (vcopy σ a sp b dp n) j = vcell ad cA σ j := by
  have e : ∀ k', (vcopy σ a sp b dp n).1 j k' = σ.1 j k' := fun k' => if_neg (fun q => h q.1)
  unfold vcell
  cases vlayT j with
  | inl t => simp only [show (vcopy σ a sp b dp n).1 j = σ.1 j from funext e]
  | inr o =>
    have : ∀ k' f, vfld ad (vcopy σ a sp b dp n) j k' f = vfld ad σ j k' f := by
      intro k' f
      unfold vfld
      rw [e k']
      rfl
    simp only [vflds, this]
theorem vflds_get {ad : Nat → Nat} {σ : vM} {i : Nat} {fs : List (Nat × Nat)} {k : Nat} {f : Nat × Nat} (h : vnth fs k = some f) : (vflds ad σ i fs)[k]? = some (vfld ad σ i k f) := by
  have h1 : fs[k]? = some f := by
    induction fs generalizing k with
    | nil => cases h
    | cons a l ih => cases k with
      | zero => exact h
      | succ k => exact ih (k := k) h
  obtain ⟨hl, he⟩ := List.getElem?_eq_some_iff.mp h1
  simp [vflds, hl, he, h1]
theorem vflds_set {ad : Nat → Nat} {σ σ' : vM} {i : Nat} {fs : List (Nat × Nat)} {k : Nat} {f : Nat × Nat} {v : Value} (h : vnth fs k = some f) (h1 : ∀ j g, j ≠ k → vfld ad σ' i j g = vfld ad σ i j g) (h2 : vfld ad σ' i k f = v) : (vflds ad σ i fs).set k v = vflds ad σ' i fs := by
  apply List.ext_getElem?
  intro j
  have hk : fs[k]? = some f := by
    clear h1 h2
    induction fs generalizing k with
    | nil => cases h
    | cons a l ih => cases k with
      | zero => exact h
      | succ k => exact ih (k := k) h
  obtain ⟨hl, he⟩ := List.getElem?_eq_some_iff.mp hk
  rw [List.getElem?_set]
  by_cases e : k = j
  · subst e
    simp [vflds, hl, hk, he, h2]
  · rw [if_neg e]
    by_cases hj : j < fs.length
    · simp [vflds, hj, h1 j _ (fun q => e q.symm)]
    · rw [List.getElem?_eq_none (by simp [vflds]; omega), List.getElem?_eq_none (by simp [vflds]; omega)]
