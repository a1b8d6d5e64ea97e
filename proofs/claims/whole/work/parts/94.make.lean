/-! ===== MAKING OBJECTS: rows for constructors ===== -/
abbrev vtyC (cI cZ cU cO : ClassId) : List (ClassId × FieldType) := [(cI, .int), (cZ, .boolean), (cU, .object RX4), (cO, .object RX3)]
theorem vw_arrI : Cond.arrayClass .int ∈ wsL_law := List.mem_of_getElem? (i := 42) (by decide +kernel)
theorem vw_arrZ : Cond.arrayClass .boolean ∈ wsL_law := List.mem_of_getElem? (i := 264) (by decide +kernel)
theorem vw_oinst : Cond.instanceMethod objectInit ∈ wsL_law := List.mem_of_getElem? (i := 10) (by decide +kernel)
set_option maxRecDepth 100000 in
theorem vw_ocode : Cond.code objectInit ⟨#[0xb1]⟩ 1 none ∈ wsL_law := List.mem_of_getElem? (i := 11) rfl
/-- a constructor's frame -/
def vKf (y : Nat) (D : va_G) (tys : List (ClassId × FieldType)) (p : Program) (s : State) (m : MethodId) (args : Array Value) (c : Code) (A : Nat → Prop) : Prop :=
  p.tables.exec = Jvm.exec ∧ c.code = vYc y ∧ c.maxLocals = vYl y ∧ s.vm.findClass (vcn (vYk y)) = some m.cls ∧ (∀ w ∈ wsL_law, w.before args s = true) ∧ va_K D vwCl tys s ∧ (∀ q : Nat, s.heap.size ≤ q → A q)
def vWd (D : va_G) (ws : va_W) (A : Nat → Prop) (s : State) (H : Heap) (locs : List Loc) : Prop := va_P D vwCl ws H ∧ va_D A ws ∧ va_S A s.heap H locs
section MK
variable {p : Program} {l : Launch} {e : Env} {R : Room} {s : State} {m : MethodId} {args : Array Value} {below : List Frame} {meth : Method} {c : Code} {H : Heap} {locs : List Loc} {cells slots : Nat} {Q : State → Prop} {A : Nat → Prop} {D : va_G} {y pc : Nat} {ws tl : va_W} {cI cZ cU cO : ClassId} {ls : Array Slot} {rest : List Value}
theorem vk_newI {n : Int32} {N : Nat} (hF : vKf y D (vtyC cI cZ cU cO) p s m args c A) (hW : vWd D ws A s H locs) (hn : ¬ n < 0) (hN : n.toNatClampNeg = N) (hb : N * 4 ≤ 536870912) (hcells : cells + 1 ≤ R.cells) (hslots : slots + N ≤ R.slots) (hd : decode (vYc y) pc = .ok (.newarray .int, 2))
    (kk : ∀ (q : Nat) (H1 : Heap), vWd D (ws ++ [(q, .inl (cI, N, .inl (fun _ => 0)))]) A s H1 locs → W p l e R s m args below meth c H1 locs (cells + 1) (slots + N) Q (F0 m (pc + 2) ls (.ref q :: rest))) : W p l e R s m args below meth c H locs cells slots Q (F0 m pc ls (.int n :: rest)) := by
  obtain ⟨f1, f2, f3, f4, f5, f6, f7⟩ := hF
  refine va_newa (D := D) (cl := vwCl) (tys := vtyC cI cZ cU cO) (atype := .int) (ty := .int) (a0 := (N, .inl (fun _ => 0))) f1 f2 (f5 _ vw_arrI) rfl f6 hW.1 hW.2.1 hW.2.2 f7 (fun cA => rfl) hn hN hb hcells hslots hd (fun q cA H1 hK1 hP1 hD1 hS1 => ?_)
  have h1 : s.vm.findClass ("[" ++ FieldType.int.toString) = some cA := (hK1.2 4 (cA, .int) rfl).2
  have h2 : s.vm.findClass ("[" ++ FieldType.int.toString) = some cI := (f6.2 0 (cI, .int) rfl).2
  have e : cA = cI := Option.some.inj (h1.symm.trans h2)
  subst e
  exact kk q H1 ⟨hP1, hD1, hS1⟩
theorem vk_newZ {n : Int32} {N : Nat} (hF : vKf y D (vtyC cI cZ cU cO) p s m args c A) (hW : vWd D ws A s H locs) (hn : ¬ n < 0) (hN : n.toNatClampNeg = N) (hb : N * 1 ≤ 536870912) (hcells : cells + 1 ≤ R.cells) (hslots : slots + N ≤ R.slots) (hd : decode (vYc y) pc = .ok (.newarray .boolean, 2))
    (kk : ∀ (q : Nat) (H1 : Heap), vWd D (ws ++ [(q, .inl (cZ, N, .inl (fun _ => 0)))]) A s H1 locs → W p l e R s m args below meth c H1 locs (cells + 1) (slots + N) Q (F0 m (pc + 2) ls (.ref q :: rest))) : W p l e R s m args below meth c H locs cells slots Q (F0 m pc ls (.int n :: rest)) := by
  obtain ⟨f1, f2, f3, f4, f5, f6, f7⟩ := hF
  refine va_newa (D := D) (cl := vwCl) (tys := vtyC cI cZ cU cO) (atype := .boolean) (ty := .boolean) (a0 := (N, .inl (fun _ => 0))) f1 f2 (f5 _ vw_arrZ) rfl f6 hW.1 hW.2.1 hW.2.2 f7 (fun cA => rfl) hn hN hb hcells hslots hd (fun q cA H1 hK1 hP1 hD1 hS1 => ?_)
  have h1 : s.vm.findClass ("[" ++ FieldType.boolean.toString) = some cA := (hK1.2 4 (cA, .boolean) rfl).2
  have h2 : s.vm.findClass ("[" ++ FieldType.boolean.toString) = some cZ := (f6.2 1 (cZ, .boolean) rfl).2
  have e : cA = cZ := Option.some.inj (h1.symm.trans h2)
  subst e
  exact kk q H1 ⟨hP1, hD1, hS1⟩
theorem vk_newQ {n : Int32} {N idx t0 : Nat} {C : String} {c0 : ClassId} (hF : vKf y D (vtyC cI cZ cU cO) p s m args c A) (ht : (vtyC cI cZ cU cO)[t0]? = some (c0, .object C)) (hov : va_AO C s) (hlk : Cond.classLink (vcn (vYk y)) idx C ∈ wsL_law) (hW : vWd D ws A s H locs) (hn : ¬ n < 0) (hN : n.toNatClampNeg = N) (hb : N * 4 ≤ 536870912) (hcells : cells + 1 ≤ R.cells) (hslots : slots + N ≤ R.slots) (hd : decode (vYc y) pc = .ok (.anewarray idx, 3))
    (kk : ∀ (q : Nat) (H1 : Heap), vWd D (ws ++ [(q, .inl (c0, N, .inr (.inr (.inr (.inr (fun _ => none))))))]) A s H1 locs → W p l e R s m args below meth c H1 locs (cells + 1) (slots + N) Q (F0 m (pc + 3) ls (.ref q :: rest))) : W p l e R s m args below meth c H locs cells slots Q (F0 m pc ls (.int n :: rest)) := by
  obtain ⟨f1, f2, f3, f4, f5, f6, f7⟩ := hF
  refine va_newq (D := D) (cl := vwCl) (tys := vtyC cI cZ cU cO) (C := C) f1 f2 f4 (f5 _ hlk) hov f6 hW.1 hW.2.1 hW.2.2 f7 hn hN hb hcells hslots hd (fun q cA H1 hK1 hP1 hD1 hS1 => ?_)
  obtain ⟨kA, comp, -, -, -, h1⟩ : va_RA s cA (.object C) := (hK1.2 4 (cA, .object C) rfl).2
  obtain ⟨kA', comp', -, -, -, h2⟩ : va_RA s c0 (.object C) := (f6.2 t0 (c0, .object C) ht).2
  have e : cA = c0 := Option.some.inj (h1.symm.trans h2)
  subst e
  exact kk q H1 ⟨hP1, hD1, hS1⟩
theorem vk_putF {idx ci f a v : Nat} {fs : List Value} {ty : FieldType} (hF : vKf y D (vtyC cI cZ cU cO) p s m args c A) (hin : meth.name = "<init>") (hci : ci < 8) (hf : f < vfN ci) (hW : vWd D ((a, .inr (ci, fs)) :: tl) A s H locs) (hlk : Cond.fieldLink (vcn (vYk y)) idx (vfT ci f).1 (vfT ci f).2.1 (vfT ci f).2.2.1 ∈ wsL_law) (hfin : (vfT ci f).2.2.2 = true) (hdc : (vfT ci f).1 = vcn (vYk y)) (hd : parseFieldDescriptor (vfT ci f).2.2.1 = some ty) (hnar : narrow ty (.ref v) = .ref v) (hfit : fits ty (.ref v) = true) (hl : f < fs.length) (hdg : decode (vYc y) pc = .ok (.putfield idx, 3))
    (kk : ∀ (H1 : Heap) (locs1 : List Loc), vWd D ((a, .inr (ci, fs.set f (.ref v))) :: tl) A s H1 locs1 → W p l e R s m args below meth c H1 locs1 cells slots Q (F0 m (pc + 3) ls rest)) : W p l e R s m args below meth c H locs cells slots Q (F0 m pc ls (.ref v :: .ref a :: rest)) := by
  obtain ⟨f1, f2, f3, f4, f5, f6, f7⟩ := hF
  exact va_putF (D := D) (ci := ci) (C := vcn ci) (T := vfT ci) (N := vfN ci) (ref := (vfT ci f).1) f1 f2 f5 (vin_at hci) (vfY ci) (vty_at hci) (vnm_at hci) f4 f6 hW.1 hW.2.1 hW.2.2 0 rfl (vcl_at hci) f hf (f5 _ hlk) (fun _ h9 => h9) hfin hin hdc hd hnar hfit hl hdg (fun H1 locs1 h1 h2 h3 => kk H1 locs1 ⟨h1, h2, h3⟩)
theorem vk_put {idx ci f a : Nat} {fs : List Value} {ty : FieldType} {v : Value} (hF : vKf y D (vtyC cI cZ cU cO) p s m args c A) (hci : ci < 8) (hf : f < vfN ci) (hW : vWd D ((a, .inr (ci, fs)) :: tl) A s H locs) (hlk : Cond.fieldLink (vcn (vYk y)) idx (vfT ci f).1 (vfT ci f).2.1 (vfT ci f).2.2.1 ∈ wsL_law) (hfin : (vfT ci f).2.2.2 = false) (hd : parseFieldDescriptor (vfT ci f).2.2.1 = some ty) (hnar : narrow ty v = v) (hfit : fits ty v = true) (hl : f < fs.length) (hdg : decode (vYc y) pc = .ok (.putfield idx, 3))
    (kk : ∀ (H1 : Heap) (locs1 : List Loc), vWd D ((a, .inr (ci, fs.set f v)) :: tl) A s H1 locs1 → W p l e R s m args below meth c H1 locs1 cells slots Q (F0 m (pc + 3) ls rest)) : W p l e R s m args below meth c H locs cells slots Q (F0 m pc ls (v :: .ref a :: rest)) := by
  obtain ⟨f1, f2, f3, f4, f5, f6, f7⟩ := hF
  exact va_put (D := D) (ci := ci) (C := vcn ci) (T := vfT ci) (N := vfN ci) (ref := (vfT ci f).1) f1 f2 f5 (vin_at hci) (vfY ci) (vty_at hci) (vnm_at hci) f4 f6 hW.1 hW.2.1 hW.2.2 0 rfl (vcl_at hci) f hf (f5 _ hlk) (fun _ h9 => h9) hfin hd hnar hfit hl hdg (fun H1 locs1 h1 h2 h3 => kk H1 locs1 ⟨h1, h2, h3⟩)
/-- this.f = new int[n] -/
theorem vk_f4 {idx ci f a N pc2 nl : Nat} {n : Int32} {fs : List Value} {lv : List (Nat × Value)} (hF : vKf y D (vtyC cI cZ cU cO) p s m args c A) (hin : meth.name = "<init>") (hls : lv_has ls nl lv) (hlv : lv[0]? = some (0, .ref a)) (hci : ci < 8) (hf : f < vfN ci) (hW : vWd D ((a, .inr (ci, fs)) :: tl) A s H locs) (hlk : Cond.fieldLink (vcn (vYk y)) idx (vfT ci f).1 (vfT ci f).2.1 (vfT ci f).2.2.1 ∈ wsL_law) (hfin : (vfT ci f).2.2.2 = true) (hdc : (vfT ci f).1 = vcn (vYk y)) (hd : parseFieldDescriptor (vfT ci f).2.2.1 = some (.array .int)) (hl : f < fs.length)
    (hn : ¬ n < 0) (hN : n.toNatClampNeg = N) (hb : N * 4 ≤ 536870912) (hcells : cells + 1 ≤ R.cells) (hslots : slots + N ≤ R.slots)
    (hd0 : decode (vYc y) pc = .ok (.aload_n 0, 1)) (hpush : ∀ st : List Value, W p l e R s m args below meth c H locs cells slots Q (F0 m pc2 ls (.int n :: st)) → W p l e R s m args below meth c H locs cells slots Q (F0 m (pc + 1) ls st)) (hd2 : decode (vYc y) pc2 = .ok (.newarray .int, 2)) (hd3 : decode (vYc y) (pc2 + 2) = .ok (.putfield idx, 3))
    (kk : ∀ (q : Nat) (H1 : Heap) (locs1 : List Loc), vWd D ((a, .inr (ci, fs.set f (.ref q))) :: (tl ++ [(q, .inl (cI, N, .inl (fun _ => 0)))])) A s H1 locs1 → W p l e R s m args below meth c H1 locs1 (cells + 1) (slots + N) Q (F0 m (pc2 + 5) ls rest)) : W p l e R s m args below meth c H locs cells slots Q (F0 m pc ls rest) := by
  refine lv_aload_n hF.1 hF.2.1 hd0 rfl (lv_at hls 0 hlv) ?_
  refine hpush _ ?_
  refine vk_newI hF hW hn hN hb hcells hslots hd2 (fun q H1 hW1 => ?_)
  exact vk_putF (ty := .array .int) hF hin hci hf hW1 hlk hfin hdc hd rfl rfl hl hd3 (fun H2 locs2 hW2 => kk q H2 locs2 hW2)
end MK
/-- a constructor's contract: its world before, its world behind by the addresses of what it makes -/
def vkPc (D : va_G) (tys : List (ClassId × FieldType)) (as : List Value) (ws : va_W) (sz : Nat) (Ex : State → Prop) : Array Value → State → Prop := va_Pc as (fun U => U.heap.size = sz ∧ va_P D vwCl ws U.heap ∧ va_K D vwCl tys U ∧ va_D (fun _ => True) ws ∧ Ex U)
def vkQc {S : Type} (D : va_G) (ws : va_W) (sz : Nat) (good : S → Prop) (ws' : S → va_W) : Array Value → State → Outcome → State → Prop := va_Qv (S := S) good (fun u t => va_P D vwCl (ws' u) t.heap ∧ va_D (va_A ws sz) (ws' u)) (va_A ws sz)
set_option maxHeartbeats 4000000 in
theorem vk_met {l : Launch} {D : va_G} {tys : List (ClassId × FieldType)} {y oi sz h0 : Nat} {as : List Value} {ws : va_W} {S : Type} {good : S → Prop} {ws' : S → va_W} {rm : Room} {Ex : State → Prop} (hy : y < 221) (hpl : plainName (vYn y).cls = true) (hret : vYr y = none) (hnm : (vYn y).name = "<init>") (has : (lg_sl (.ref h0 :: as)).length ≤ vYl y) (hfr : 1 ≤ rm.frames) (hlo : 12 ≤ rm.locals) (hd0 : decode (vYc y) 0 = .ok (.aload_n 0, 1)) (hd1 : decode (vYc y) 1 = .ok (.invokespecial oi, 3)) (hoi : Cond.methodLink (vcn (vYk y)) oi objectInit ∈ wsL_law) {mc ms : Nat} (hmc : rm.cells = mc) (hms : rm.slots = ms)
    (body : ∀ (p : Program) (e : Env) (s : State) (m : MethodId) (args : Array Value) (below : List Frame) (meth : Method) (c : Code) (A : Nat → Prop) (Q : State → Prop) (ls : Array Slot), s.heap.size = sz → vKf y D tys p s m args c A → (∀ q, va_A ws sz q → A q) → (∀ q, A q → va_A ws sz q) → Ex s → meth.name = "<init>" → vWd D ws A s s.heap [] → lv_has ls (vYl y) (lv_args 0 (.ref h0 :: as)) →
      (∀ (H : Heap) (locs : List Loc) (ls : Array Slot) (pc : Nat) (u : S), good u → decode (vYc y) pc = .ok (.return_, 1) → vWd D (ws' u) A s H locs → W p l e rm s m args below meth c H locs mc ms Q (F0 m pc ls [])) → W p l e rm s m args below meth c s.heap [] 0 0 Q (F0 m 4 ls [])) :
    Met l (vYn y) (vws y) rm (vkPc D tys (.ref h0 :: as) ws sz Ex) (vkQc D ws sz good ws') mc ms (va_A ws sz) := by
  refine Met.ofW (cc := vYc y) (maxL := vYl y) (ret := vYr y) hpl rfl ?_
  intro p e s m args below meth c s₁ B hml hv
  obtain ⟨rfl, hsz, hP, hK, hD0, hE⟩ := hv
  have hts0 := atoms_spec (ws := vws y) B.pre
  have hts : ∀ w ∈ wsL_law, w.before (Value.ref h0 :: as).toArray s = true := fun w hw => hts0 w (List.mem_cons_of_mem _ hw)
  have hown : s.vm.findClass (vcn (vYk y)) = some m.cls := by rw [(vYk_of hy).2.2]; exact findClass_of_methodNamed B.named
  have hin : meth.name = "<init>" := (name_of_methodNamed B.named B.method).1.trans hnm
  have hx := B.exec
  have hb := B.bytes
  have hr := B.returns
  subst hsz
  have hl := lv_entry (.ref h0 :: as) (n := vYl y) has
  rw [lg_entry_eq]
  generalize (lg_sl (Value.ref h0 :: as) ++ List.replicate (vYl y - (lg_sl (Value.ref h0 :: as)).length) Slot.unset).toArray = ls at hl ⊢
  have hF : vKf y D tys p s m (Value.ref h0 :: as).toArray c (va_A ws s.heap.size) := ⟨hx, hb, hml, hown, hts, hK, fun q h => Or.inr h⟩
  have h0' : ls[0]? = some (.val (.ref h0)) := lv_at hl 0 rfl
  have hrm : (headSpec (vws y) rm).room = rm := rfl
  rw [hrm]
  refine lv_aload_n hx hb hd0 rfl h0' ?_
  refine W.objInit hx hb hown (hts _ hoi) (hts _ vw_oinst) (hts _ vw_ocode) rfl (by rw [hml]; exact hl.1) rfl hd1 hfr hlo ?_
  refine W.eq (g2 := F0 m 4 ls []) rfl ?_
  refine body p e s m _ below meth c (va_A ws s.heap.size) _ ls rfl hF (fun q h => h) (fun q h => h) hE hin ⟨hP, hD0.self, va_S.rf⟩ hl (fun H locs ls2 pc u hg hd hW => ?_)
  have hF2 := hW.2.2
  exact W.vret hx hb (hr.trans hret) (fun t ht hW' => ⟨⟨u, rfl, hg, by rw [ht]; exact hW.1, hW.2.1⟩, hF2.F ht⟩) hF2.2.2 hd (hlocks := B.notSynchronized)
