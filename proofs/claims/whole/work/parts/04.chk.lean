/-! ===== the tables hold: every entry against decode, every link against the law's words ===== -/
def vlks (pc : Nat) : List (Int32 × Nat) → List (Int × Int) → Bool
  | [], [] => true
  | q :: l, r :: t => decide (q.1.toInt = r.1) && decide ((pc : Int) + r.2 = (q.2 : Int)) && vlks pc l t
  | _, _ => false
def vchk1 (y pc : Nat) (i : Instr) (nx tg : Nat) (im : Int32) : Bool := match i with
  | .iconst n => Nat.beq nx (pc + 1) && decide (Int32.ofInt n = im)
  | .bipush n => Nat.beq nx (pc + 2) && decide ((Int8.ofInt n).toInt32 = im)
  | .sipush n => Nat.beq nx (pc + 3) && decide ((Int16.ofInt n).toInt32 = im)
  | .iinc _ n => Nat.beq nx (pc + 3) && decide (Int32.ofInt n = im)
  | .ifCond _ o => Nat.beq nx (pc + 3) && decide ((pc : Int) + o = (tg : Int))
  | .if_icmp _ o => Nat.beq nx (pc + 3) && decide ((pc : Int) + o = (tg : Int))
  | .goto o => Nat.beq nx (pc + 3) && decide ((pc : Int) + o = (tg : Int))
  | .ifnull o => Nat.beq nx (pc + 3) && decide ((pc : Int) + o = (tg : Int))
  | .tableswitch d lo hi offs => (match vswfind vSw y pc with
    | some (l, df) => decide ((pc : Int) + d = (df : Int)) && (Nat.beq l.length offs.size && (decide (hi = lo + (offs.size : Int) - 1) && (List.range l.length).all (fun k => match l[k]?, offs[k]? with
      | some q, some o => decide (q.1.toInt = lo + (k : Int)) && decide ((pc : Int) + o = (q.2 : Int))
      | _, _ => false)))
    | none => false)
  | .lookupswitch d ps => (match vswfind vSw y pc with
    | some (l, df) => decide ((pc : Int) + d = (df : Int)) && (vlks pc l ps.toList && (ps.toList.zip (ps.toList.drop 1)).all (fun (a, next) => a.1 < next.1))
    | none => false)
  | .iload _ => Nat.beq nx (pc + 2)
  | .lload _ => Nat.beq nx (pc + 2)
  | .aload _ => Nat.beq nx (pc + 2)
  | .istore _ => Nat.beq nx (pc + 2)
  | .lstore _ => Nat.beq nx (pc + 2)
  | .astore _ => Nat.beq nx (pc + 2)
  | .ldc _ => Nat.beq nx (pc + 2)
  | .getfield _ => Nat.beq nx (pc + 3)
  | .putfield _ => Nat.beq nx (pc + 3)
  | .getstatic _ => Nat.beq nx (pc + 3)
  | .invokestatic _ => Nat.beq nx (pc + 3)
  | .invokevirtual _ => Nat.beq nx (pc + 3)
  | .ldc_w _ => Nat.beq nx (pc + 3)
  | .ldc2_w _ => Nat.beq nx (pc + 3)
  | .invokespecial _ => true
  | .new _ => true
  | .newarray _ => true
  | .anewarray _ => true
  | _ => Nat.beq nx (pc + 1)
def vchk (y : Nat) (c : ByteArray) (tb : List (Nat × vI)) : Bool := tb.all (fun q => decide (decode c q.1 = .ok (q.2.1, q.2.2.1 - q.1)) && vchk1 y q.1 q.2.1 q.2.2.1 q.2.2.2.1 q.2.2.2.2)
set_option maxRecDepth 100000 in
theorem vckL_0 : vchk 205 (vYc 205) vtb205_0 = true := by decide +kernel
set_option maxRecDepth 100000 in
theorem vckL_1 : vchk 205 (vYc 205) vtb205_1 = true := by decide +kernel
set_option maxRecDepth 100000 in
theorem vckL_2 : vchk 205 (vYc 205) vtb205_2 = true := by decide +kernel
set_option maxRecDepth 100000 in
theorem vckL_3 : vchk 205 (vYc 205) vtb205_3 = true := by decide +kernel
set_option maxRecDepth 100000 in
theorem vckL_4 : vchk 205 (vYc 205) vtb205_4 = true := by decide +kernel
set_option maxRecDepth 100000 in
theorem vckL_5 : vchk 205 (vYc 205) vtb205_5 = true := by decide +kernel
set_option maxRecDepth 100000 in
theorem vckL_6 : vchk 205 (vYc 205) vtb205_6 = true := by decide +kernel
set_option maxRecDepth 100000 in
theorem vckL_7 : vchk 205 (vYc 205) vtb205_7 = true := by decide +kernel
set_option maxRecDepth 100000 in
theorem vckL_8 : vchk 205 (vYc 205) vtb205_8 = true := by decide +kernel
set_option maxRecDepth 100000 in
theorem vckL_9 : vchk 205 (vYc 205) vtb205_9 = true := by decide +kernel
theorem vchk_ap {y : Nat} {c : ByteArray} {a b : List (Nat × vI)} (ha : vchk y c a = true) (hb : vchk y c b = true) : vchk y c (a ++ b) = true := by
  unfold vchk at *
  rw [List.all_append, ha, hb]; rfl
theorem vckL : vchk 205 (vYc 205) (vTb 205) = true := vchk_ap vckL_0 (vchk_ap vckL_1 (vchk_ap vckL_2 (vchk_ap vckL_3 (vchk_ap vckL_4 (vchk_ap vckL_5 (vchk_ap vckL_6 (vchk_ap vckL_7 (vchk_ap vckL_8 vckL_9))))))))
set_option maxRecDepth 100000 in
theorem vck_0 : (List.range 10).all (fun j => vchk (0 + j) (vYc (0 + j)) (vTb (0 + j))) = true := by decide +kernel
set_option maxRecDepth 100000 in
theorem vck_1 : (List.range 10).all (fun j => vchk (10 + j) (vYc (10 + j)) (vTb (10 + j))) = true := by decide +kernel
set_option maxRecDepth 100000 in
theorem vck_2 : (List.range 10).all (fun j => vchk (20 + j) (vYc (20 + j)) (vTb (20 + j))) = true := by decide +kernel
set_option maxRecDepth 100000 in
theorem vck_3 : (List.range 10).all (fun j => vchk (30 + j) (vYc (30 + j)) (vTb (30 + j))) = true := by decide +kernel
set_option maxRecDepth 100000 in
theorem vck_4 : (List.range 10).all (fun j => vchk (40 + j) (vYc (40 + j)) (vTb (40 + j))) = true := by decide +kernel
set_option maxRecDepth 100000 in
theorem vck_5 : (List.range 10).all (fun j => vchk (50 + j) (vYc (50 + j)) (vTb (50 + j))) = true := by decide +kernel
set_option maxRecDepth 100000 in
theorem vck_6 : (List.range 10).all (fun j => vchk (60 + j) (vYc (60 + j)) (vTb (60 + j))) = true := by decide +kernel
set_option maxRecDepth 100000 in
theorem vck_7 : (List.range 10).all (fun j => vchk (70 + j) (vYc (70 + j)) (vTb (70 + j))) = true := by decide +kernel
set_option maxRecDepth 100000 in
theorem vck_8 : (List.range 10).all (fun j => vchk (80 + j) (vYc (80 + j)) (vTb (80 + j))) = true := by decide +kernel
set_option maxRecDepth 100000 in
theorem vck_9 : (List.range 10).all (fun j => vchk (90 + j) (vYc (90 + j)) (vTb (90 + j))) = true := by decide +kernel
set_option maxRecDepth 100000 in
theorem vck_10 : (List.range 10).all (fun j => vchk (100 + j) (vYc (100 + j)) (vTb (100 + j))) = true := by decide +kernel
set_option maxRecDepth 100000 in
theorem vck_11 : (List.range 10).all (fun j => vchk (110 + j) (vYc (110 + j)) (vTb (110 + j))) = true := by decide +kernel
set_option maxRecDepth 100000 in
theorem vck_12 : (List.range 10).all (fun j => vchk (120 + j) (vYc (120 + j)) (vTb (120 + j))) = true := by decide +kernel
set_option maxRecDepth 100000 in
theorem vck_13 : (List.range 10).all (fun j => vchk (130 + j) (vYc (130 + j)) (vTb (130 + j))) = true := by decide +kernel
set_option maxRecDepth 100000 in
theorem vck_14 : (List.range 10).all (fun j => vchk (140 + j) (vYc (140 + j)) (vTb (140 + j))) = true := by decide +kernel
set_option maxRecDepth 100000 in
theorem vck_15 : (List.range 10).all (fun j => vchk (150 + j) (vYc (150 + j)) (vTb (150 + j))) = true := by decide +kernel
set_option maxRecDepth 100000 in
theorem vck_16 : (List.range 10).all (fun j => vchk (160 + j) (vYc (160 + j)) (vTb (160 + j))) = true := by decide +kernel
set_option maxRecDepth 100000 in
theorem vck_17 : (List.range 10).all (fun j => vchk (170 + j) (vYc (170 + j)) (vTb (170 + j))) = true := by decide +kernel
set_option maxRecDepth 100000 in
theorem vck_18 : (List.range 10).all (fun j => vchk (180 + j) (vYc (180 + j)) (vTb (180 + j))) = true := by decide +kernel
set_option maxRecDepth 100000 in
theorem vck_19 : (List.range 10).all (fun j => vchk (190 + j) (vYc (190 + j)) (vTb (190 + j))) = true := by decide +kernel
set_option maxRecDepth 100000 in
theorem vck_20 : ∀ j ∈ List.range 10, vchk (200 + j) (vYc (200 + j)) (vTb (200 + j)) = true := by
  have h : ((List.range 10).filter (fun j => !Nat.beq (200 + j) 205)).all (fun j => vchk (200 + j) (vYc (200 + j)) (vTb (200 + j))) = true := by decide +kernel
  intro j hj
  by_cases e : j = 5
  · subst e; exact vckL
  · refine List.all_eq_true.mp h j (List.mem_filter.mpr ⟨hj, ?_⟩)
    cases hb : Nat.beq (200 + j) 205 with
    | false => rfl
    | true => have := Nat.eq_of_beq_eq_true hb; omega
set_option maxRecDepth 100000 in
theorem vck_21 : (List.range 10).all (fun j => vchk (210 + j) (vYc (210 + j)) (vTb (210 + j))) = true := by decide +kernel
set_option maxRecDepth 100000 in
theorem vck_22 : (List.range 10).all (fun j => vchk (220 + j) (vYc (220 + j)) (vTb (220 + j))) = true := by decide +kernel
theorem vTb_big {y : Nat} (h : 221 ≤ y) : vTb y = [] := by
  have h1 : Nat.ble y 220 = false := by
    cases hb : Nat.ble y 220 with
    | false => rfl
    | true => have := Nat.le_of_ble_eq_true hb; omega
  unfold vTb
  rw [h1]
  rfl
theorem vchk_all (y : Nat) : vchk y (vYc y) (vTb y) = true := by
  by_cases hy : 221 ≤ y
  · rw [vTb_big hy]; rfl
  · have hm : y % 10 ∈ List.range 10 := List.mem_range.mpr (Nat.mod_lt _ (by decide))
    have hk : y / 10 < 23 := by omega
    rcases (show y / 10 = 0 ∨ y / 10 = 1 ∨ y / 10 = 2 ∨ y / 10 = 3 ∨ y / 10 = 4 ∨ y / 10 = 5 ∨ y / 10 = 6 ∨ y / 10 = 7 ∨ y / 10 = 8 ∨ y / 10 = 9 ∨ y / 10 = 10 ∨ y / 10 = 11 ∨ y / 10 = 12 ∨ y / 10 = 13 ∨ y / 10 = 14 ∨ y / 10 = 15 ∨ y / 10 = 16 ∨ y / 10 = 17 ∨ y / 10 = 18 ∨ y / 10 = 19 ∨ y / 10 = 20 ∨ y / 10 = 21 ∨ y / 10 = 22 by omega) with h | h | h | h | h | h | h | h | h | h | h | h | h | h | h | h | h | h | h | h | h | h | h
    · have := List.all_eq_true.mp vck_0 _ hm;
       rw [show 0 + y % 10 = y by omega] at this; exact this
    · have := List.all_eq_true.mp vck_1 _ hm;
       rw [show 10 + y % 10 = y by omega] at this; exact this
    · have := List.all_eq_true.mp vck_2 _ hm;
       rw [show 20 + y % 10 = y by omega] at this; exact this
    · have := List.all_eq_true.mp vck_3 _ hm;
       rw [show 30 + y % 10 = y by omega] at this; exact this
    · have := List.all_eq_true.mp vck_4 _ hm;
       rw [show 40 + y % 10 = y by omega] at this; exact this
    · have := List.all_eq_true.mp vck_5 _ hm;
       rw [show 50 + y % 10 = y by omega] at this; exact this
    · have := List.all_eq_true.mp vck_6 _ hm;
       rw [show 60 + y % 10 = y by omega] at this; exact this
    · have := List.all_eq_true.mp vck_7 _ hm;
       rw [show 70 + y % 10 = y by omega] at this; exact this
    · have := List.all_eq_true.mp vck_8 _ hm;
       rw [show 80 + y % 10 = y by omega] at this; exact this
    · have := List.all_eq_true.mp vck_9 _ hm;
       rw [show 90 + y % 10 = y by omega] at this; exact this
    · have := List.all_eq_true.mp vck_10 _ hm;
       rw [show 100 + y % 10 = y by omega] at this; exact this
    · have := List.all_eq_true.mp vck_11 _ hm;
       rw [show 110 + y % 10 = y by omega] at this; exact this
    · have := List.all_eq_true.mp vck_12 _ hm;
       rw [show 120 + y % 10 = y by omega] at this; exact this
    · have := List.all_eq_true.mp vck_13 _ hm;
       rw [show 130 + y % 10 = y by omega] at this; exact this
    · have := List.all_eq_true.mp vck_14 _ hm;
       rw [show 140 + y % 10 = y by omega] at this; exact this
    · have := List.all_eq_true.mp vck_15 _ hm;
       rw [show 150 + y % 10 = y by omega] at this; exact this
    · have := List.all_eq_true.mp vck_16 _ hm;
       rw [show 160 + y % 10 = y by omega] at this; exact this
    · have := List.all_eq_true.mp vck_17 _ hm;
       rw [show 170 + y % 10 = y by omega] at this; exact this
    · have := List.all_eq_true.mp vck_18 _ hm;
       rw [show 180 + y % 10 = y by omega] at this; exact this
    · have := List.all_eq_true.mp vck_19 _ hm;
       rw [show 190 + y % 10 = y by omega] at this; exact this
    · have := vck_20 _ hm;
       rw [show 200 + y % 10 = y by omega] at this; exact this
    · have := List.all_eq_true.mp vck_21 _ hm;
       rw [show 210 + y % 10 = y by omega] at this; exact this
    · have := List.all_eq_true.mp vck_22 _ hm;
       rw [show 220 + y % 10 = y by omega] at this; exact this
theorem vfind_mem {α : Type} {l : List (Nat × α)} {i : Nat} {a : α} (h : vfind l i = some a) : (i, a) ∈ l := by
  induction l with
  | nil => cases h
  | cons q l ih =>
    unfold vfind at h
    cases hb : Nat.beq q.1 i with
    | true =>
      rw [hb] at h
      have e : q.1 = i := Nat.eq_of_beq_eq_true hb
      have e2 : q.2 = a := Option.some.inj h
      rw [← e, ← e2]
      exact List.mem_cons_self
    | false =>
      rw [hb] at h
      exact List.mem_cons_of_mem _ (ih h)
theorem vtb_ok {y pc : Nat} {i : Instr} {nx tg : Nat} {im : Int32} (h : vfind (vTb y) pc = some (i, nx, tg, im)) : decode (vYc y) pc = .ok (i, nx - pc) ∧ vchk1 y pc i nx tg im = true := by
  have h1 := List.all_eq_true.mp (vchk_all y) _ (vfind_mem h)
  simp only [Bool.and_eq_true, decide_eq_true_eq] at h1
  exact h1
/-- classes by number, their fields -/
def vfT (c : Nat) : u_T := match c with
  | 0 => TX0
  | 1 => TX1
  | 2 => TX2
  | 3 => TX3
  | 4 => TX4
  | 5 => TX5
  | 6 => TX6
  | _ => TX7
def vfN (c : Nat) : Nat := match c with
  | 0 => 9
  | 1 => 3
  | 2 => 8
  | 3 => 3
  | 4 => 4
  | 5 => 11
  | 6 => 9
  | _ => 50
def vfY (c : Nat) : Nat → FieldType := match c with
  | 0 => tyX0
  | 1 => tyX1
  | 2 => tyX2
  | 3 => tyX3
  | 4 => tyX4
  | 5 => tyX5
  | 6 => tyX6
  | _ => tyX7
theorem vcl_at {c : Nat} (h : c < 8) : vwCl[c]? = some (vcn c, vfT c, vfN c) := by
  rcases (show c = 0 ∨ c = 1 ∨ c = 2 ∨ c = 3 ∨ c = 4 ∨ c = 5 ∨ c = 6 ∨ c = 7 by omega) with rfl | rfl | rfl | rfl | rfl | rfl | rfl | rfl <;> rfl
theorem vin_at {c : Nat} (h : c < 8) : ∀ w ∈ u_ws (vcn c) (vfT c) (vfN c), w ∈ wsL_law := by
  rcases (show c = 0 ∨ c = 1 ∨ c = 2 ∨ c = 3 ∨ c = 4 ∨ c = 5 ∨ c = 6 ∨ c = 7 by omega) with rfl | rfl | rfl | rfl | rfl | rfl | rfl | rfl
  · exact inlX0
  · exact inlX1
  · exact inlX2
  · exact inlX3
  · exact inlX4
  · exact inlX5
  · exact inlX6
  · exact inlX7
theorem vty_at {c : Nat} (h : c < 8) : ∀ k, k < vfN c → parseFieldDescriptor (vfT c k).2.2.1 = some (vfY c k) := by
  rcases (show c = 0 ∨ c = 1 ∨ c = 2 ∨ c = 3 ∨ c = 4 ∨ c = 5 ∨ c = 6 ∨ c = 7 by omega) with rfl | rfl | rfl | rfl | rfl | rfl | rfl | rfl
  · exact tyX0_ok
  · exact tyX1_ok
  · exact tyX2_ok
  · exact tyX3_ok
  · exact tyX4_ok
  · exact tyX5_ok
  · exact tyX6_ok
  · exact tyX7_ok
theorem vnm_at {c : Nat} (h : c < 8) : ∀ a, a < vfN c → ∀ b, b < vfN c → a ≠ b → (vfT c a).2.1 ≠ (vfT c b).2.1 := by
  rcases (show c = 0 ∨ c = 1 ∨ c = 2 ∨ c = 3 ∨ c = 4 ∨ c = 5 ∨ c = 6 ∨ c = 7 by omega) with rfl | rfl | rfl | rfl | rfl | rfl | rfl | rfl
  · exact nmX0
  · exact nmX1
  · exact nmX2
  · exact nmX3
  · exact nmX4
  · exact nmX5
  · exact nmX6
  · exact nmX7
/-- the cells: classes below 8, as many fields as the class has, each of its kind's type -/
def vtagT (t : Nat) (ty : FieldType) (fin : Bool) : Bool := match t with
  | 0 => decide (ty = .int) && !fin
  | 1 => true
  | 2 => decide (ty = .long) && !fin
  | 3 => (match ty with | .object _ => !fin | _ => false)
  | 4 => decide (ty = .boolean) && !fin
  | _ => false
def vcellOk (x : vC) : Bool := match x with
  | .inl (t, _, es) => Nat.ble t 3 && (Nat.beq t 2 || Nat.beq t 3 || Nat.beq es.length 0) && es.all (fun e => Nat.ble e 57)
  | .inr (ci, fs) => Nat.ble ci 7 && Nat.beq fs.length (vfN ci) && (List.range (vfN ci)).all (fun k => match fs[k]? with
    | some (t, r) => vtagT t (vfY ci k) (vfT ci k).2.2.2 && Nat.ble r 82
    | none => false)
theorem vcells_ok : (List.range 83).all (fun i => vcellOk (vlayT i)) = true := by decide +kernel
def vpos : List Cond → List Nat → Bool
  | [], [] => true
  | w :: l, p :: r => decide (wsL_law[p]? = some w) && vpos l r
  | _, _ => false
theorem vpos_mem {l : List Cond} {r : List Nat} (h : vpos l r = true) : ∀ w ∈ l, w ∈ wsL_law := by
  induction l generalizing r with
  | nil => intro w hw; cases hw
  | cons a l ih =>
    cases r with
    | nil => cases h
    | cons p r =>
      simp only [vpos, Bool.and_eq_true, decide_eq_true_eq] at h
      intro w hw
      rcases List.mem_cons.mp hw with rfl | hw
      · exact List.mem_of_getElem? h.1
      · exact ih h.2 w hw
def vPfC (c : Nat) (q : Nat × Nat × Nat × Nat) : Bool := Nat.ble q.2.1 7 && Nat.ble (q.2.2.1 + 1) (vfN q.2.1) && vpos [.fieldLink (vcn c) q.1 (vfT q.2.1 q.2.2.1).1 (vfT q.2.1 q.2.2.1).2.1 (vfT q.2.1 q.2.2.1).2.2.1] [q.2.2.2]
set_option maxRecDepth 100000 in
theorem vPf_ok0 : (List.range 15).all (fun c => (vPf c).all (vPfC c)) = true := by decide +kernel
def vMw (c idx y : Nat) (kd : Nat) : List Cond := match kd with
  | 0 => [.methodLink (vcn c) idx (vYn y), .static (vYn y), .initialized (vYn y).cls]
  | 1 => [.methodLink (vcn c) idx (vYn y), .instanceMethod (vYn y), .selects (vYn y).cls (vYn y) (vYn y), .initialized (vYn y).cls]
  | _ => []
def vdn (y : Nat) : Option Nat := (parseMethodDescriptor (vYn y).desc).map (fun d => d.parameters.length)
def vPmC (c : Nat) (q : Nat × Nat × Nat × Nat × List Nat) : Bool := match q with
  | (idx, _, _, 3, ps) => vpos [.methodLink (vcn c) idx arraycopyName] ps
  | (idx, _, _, 4, ps) => vpos [.methodLink (vcn c) idx Lib.Math.max.name] ps
  | (idx, _, _, 5, ps) => vpos [.methodLink (vcn c) idx Lib.Math.min.name] ps
  | (idx, _, _, 6, ps) => vpos [.methodLink (vcn c) idx Lib.Math.abs.name] ps
  | (_, _, _, 2, _) => true
  | (idx, y, n, kd, ps) => Nat.ble kd 1 && (vpos (vMw c idx y kd) ps && (decide (vdn y = some (bif Nat.beq kd 0 then n else n - 1)) && (Nat.ble kd n && ( (plainName (vYn y).cls && (decide ((vYn y).cls ≠ "java/lang/invoke/MethodHandle") && (decide ((vYn y).cls ≠ "java/lang/invoke/VarHandle") && (Nat.ble (vYl y) 40 && (Nat.ble y 220 && (Nat.ble (vYp y) 9998 && decide (vcn (vYk y) = (vYn y).cls)))))))))))
set_option maxRecDepth 100000 in
theorem vPm_ok0 : (List.range 15).all (fun c => (vPm c).all (vPmC c)) = true := by decide +kernel
set_option maxRecDepth 100000 in
theorem vYk_ok : (List.range 221).all (fun y => Nat.ble (vYk y) 14 && Nat.ble (vYl y) 40 && decide (vcn (vYk y) = (vYn y).cls)) = true := by decide +kernel
def vPkC (c : Nat) (q : Nat × Value) : Bool := match q.2 with
  | .int v => decide (Cond.constant (vcn c) q.1 v ∈ wsL_law)
  | .long v => decide (Cond.constantLong (vcn c) q.1 v ∈ wsL_law)
  | _ => false
set_option maxRecDepth 100000 in
theorem vPk_ok0 : (List.range 15).all (fun c => (vPk c).all (vPkC c)) = true := by decide +kernel
