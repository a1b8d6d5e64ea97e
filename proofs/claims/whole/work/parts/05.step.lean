/-! ===== ONE STEP of the virtual machine ===== -/
def vI1 (st : List Value) (k : Int32 → List Value → Prop) : Prop := match st with
  | .int x :: r => k x r
  | _ => False
def vI2 (st : List Value) (k : Int32 → Int32 → List Value → Prop) : Prop := match st with
  | .int y :: .int x :: r => k x y r
  | _ => False
def vL2 (st : List Value) (k : Int64 → Int64 → List Value → Prop) : Prop := match st with
  | .long y :: .long x :: r => k x y r
  | _ => False
def vldI (ls : vL) (i : Nat) (k : Value → Prop) : Prop := match vget ls i with
  | some (.int x) => k (.int x)
  | _ => False
def vldL (ls : vL) (i : Nat) (k : Value → Prop) : Prop := match vget ls i with
  | some (.long x) => k (.long x)
  | _ => False
def vldA (ls : vL) (i : Nat) (k : Value → Prop) : Prop := match vget ls i with
  | some (.ref x) => k (.ref x)
  | some .null => k .null
  | _ => False
def vstI (ls : vL) (st : List Value) (i : Nat) (k : vL → List Value → Prop) : Prop := match st with
  | .int x :: r => bif vfree ls i && Nat.ble (i + 1) ls.length then k (vset ls i (some (.int x))) r else False
  | _ => False
def vstA (ls : vL) (st : List Value) (i : Nat) (k : vL → List Value → Prop) : Prop := match st with
  | .ref x :: r => bif vfree ls i && (Nat.ble (i + 1) ls.length && Nat.ble x 1007) then k (vset ls i (some (.ref x))) r else False
  | .null :: r => bif vfree ls i && Nat.ble (i + 1) ls.length then k (vset ls i (some .null)) r else False
  | _ => False
def vstL (ls : vL) (st : List Value) (i : Nat) (k : vL → List Value → Prop) : Prop := match st with
  | .long x :: r => bif vfree ls i && Nat.ble (i + 2) ls.length then k (vset (vset ls i (some (.long x))) (i + 1) none) r else False
  | _ => False
/-- the kind and size of the array at r that is ours, or a constant -/
def vald (G : vG) (σ : vM) (kd : Nat) (st : List Value) (k : Value → List Value → Prop) : Prop := match st with
  | .int i :: .ref a :: r => match vlay G a with
    | some (.inl (t, n, es)) => bif Nat.beq kd 2 then (bif Nat.ble 2 t then ∃ j : Nat, i = nI j ∧ j < n ∧ k (.ref (es.getD j 0)) r else False) else bif Nat.beq t kd then ∃ j : Nat, i = nI j ∧ j < n ∧ k (.int (σ.1 a j)) r else False
    | some (.inr _) => False
    | none => match vcon G a with
      | some (t, n, f) => bif Nat.beq t kd then ∃ j : Nat, i = nI j ∧ j < n ∧ k (.int (f j)) r else False
      | none => False
  | _ => False
def vast (G : vG) (σ : vM) (kd : Nat) (st : List Value) (k : vM → List Value → Prop) : Prop := match st with
  | .int x :: .int i :: .ref a :: r => match vlay G a with
    | some (.inl (t, n, _)) => bif Nat.beq t kd then (kd = 1 → x = 0 ∨ x = 1) ∧ ∃ j : Nat, i = nI j ∧ j < n ∧ k (vput σ a j x) r else False
    | _ => False
  | _ => False
def valen (G : vG) (st : List Value) (k : Int32 → List Value → Prop) : Prop := match st with
  | .ref a :: r => match vlay G a with
    | some (.inl (_, n, _)) => k (nI n) r
    | some (.inr _) => False
    | none => match vcon G a with
      | some (_, n, _) => k (nI n) r
      | none => False
  | _ => False
def vgetf (G : vG) (σ : vM) (c idx : Nat) (st : List Value) (k : Value → List Value → Prop) : Prop := match st with
  | .ref a :: r => match vlay G a with
    | some (.inr (ci, fs)) => match vfind (vPf c) idx with
      | some (ci', f, _) => bif Nat.beq ci ci' then (match vnth fs f with
        | some (0, _) => k (.int (σ.1 a f)) r
        | some (1, t) => k (.ref t) r
        | some (2, _) => k (.long (σ.2 a f)) r
        | some (3, _) => ∃ t : Nat, σ.1 a f = nI t ∧ t < 83 ∧ k (.ref t) r
        | some (4, _) => k (.int (σ.1 a f)) r
        | _ => False) else False
      | none => False
    | some (.inl _) => False
    | none => match vfind (vPj c) idx with
      | some 0 => bif Nat.beq a 1000 || Nat.beq a 1001 then k (.ref (a + 2)) r else False
      | some 1 => bif Nat.beq a 1000 || Nat.beq a 1001 then k (.int 0) r else False
      | _ => False
  | _ => False
def vputf (G : vG) (σ : vM) (c idx : Nat) (st : List Value) (k : vM → List Value → Prop) : Prop := match st with
  | v :: .ref a :: r => match vlay G a with
    | some (.inr (ci, fs)) => match vfind (vPf c) idx with
      | some (ci', f, _) => bif Nat.beq ci ci' then (match vnth fs f with
        | some (0, _) => (match v with | .int x => k (vput σ a f x) r | _ => False)
        | some (2, _) => (match v with | .long x => k (vputL σ a f x) r | _ => False)
        | some (3, _) => (match v with | .ref t => bif Nat.ble t 82 then k (vput σ a f (nI t)) r else False | _ => False)
        | some (4, _) => (match v with | .int x => (x = 0 ∨ x = 1) ∧ k (vput σ a f x) r | _ => False)
        | _ => False) else False
      | none => False
    | _ => False
  | _ => False
def vldc (c idx : Nat) (st : List Value) (k : List Value → Prop) : Prop := match vfind (vPk c) idx with
  | some (.int x) => k (.int x :: st)
  | _ => bif Nat.beq c 6 && Nat.beq idx 60 then k (.ref 1000 :: st) else bif Nat.beq c 2 && Nat.beq idx 106 then k (.ref 1001 :: st) else False
def vldc2 (c idx : Nat) (st : List Value) (k : List Value → Prop) : Prop := match vfind (vPk c) idx with
  | some (.long x) => k (.long x :: st)
  | _ => False
def vacopy (G : vG) (σ : vM) (st : List Value) (k : vM → List Value → Prop) : Prop := match st with
  | .int n :: .int j :: .ref b :: .int i :: .ref a :: r => match vlay G a with
    | some (.inl (0, na, _)) => match vlay G b with
      | some (.inl (0, nb, _)) => bif Nat.ble (vcats r) 8 then ∃ sp dp m : Nat, i = nI sp ∧ j = nI dp ∧ n = nI m ∧ sp + m ≤ na ∧ dp + m ≤ nb ∧ k (vcopy σ a sp b dp m) r else False
      | _ => False
    | _ => False
  | _ => False
/-- no double among them -/
def vnd (as : List Value) : Bool := as.all (fun v => match v with | .double _ => false | _ => true)
def vcall (G : vG) (P : vP) (d y nx c idx kd : Nat) (ls : vL) (st : List Value) (σ : vM) (post : vQ) : Prop := match d with
  | 0 => False
  | d' + 1 => (match vfind (vPm c) idx with
    | some (y', n, kd', _) => (match kd' with
      | 3 => bif Nat.beq kd 0 then vacopy G σ st (fun σ' r => P (d' + 1) y nx ls r σ' post) else False
      | 4 => bif Nat.beq kd 0 then vI2 st (fun a b r => bif Nat.ble (vcats r) 8 then P (d' + 1) y nx ls (.int (if a < b then b else a) :: r) σ post else False) else False
      | 5 => bif Nat.beq kd 0 then vI2 st (fun a b r => bif Nat.ble (vcats r) 8 then P (d' + 1) y nx ls (.int (if b < a then b else a) :: r) σ post else False) else False
      | 6 => bif Nat.beq kd 0 then vI1 st (fun a r => bif Nat.ble (vcats r) 8 then P (d' + 1) y nx ls (.int (if 0 ≤ a then a else 0 - a) :: r) σ post else False) else False
      | kd' => bif Nat.beq kd kd' then (match vpopn n [] st with
        | some (as, r) => bif vnd as && (Nat.ble (vcats r) 8 && (Nat.beq (vfill (vYl y') (vsl as)).length (vYl y') && (Nat.beq kd 0 || (match as with | .ref a :: _ => vrecv G a (vYk y') | _ => false)))) then
          (∃ Mid : vQ, P d' y' 0 (vfill (vYl y') (vsl as)) [] σ Mid ∧ ∀ (v : Option Value) (σ' : vM), Mid v σ' → P (d' + 1) y nx ls (vpush v r) σ' post) else False
        | none => False) else False)
    | none => False)
def vretI (y : Nat) (x : Int32) (k : Prop) : Prop := match vYr y with
  | some .int => k
  | some .boolean => (x = 0 ∨ x = 1) ∧ k
  | some .char => narrow .char (.int x) = .int x ∧ k
  | some .byte => narrow .byte (.int x) = .int x ∧ k
  | _ => False
def vX (G : vG) (P : vP) (d y : Nat) (ls : vL) (st : List Value) (σ : vM) (post : vQ) (pc nx tg : Nat) (im : Int32) (i : Instr) : Prop := match i with
  | .iconst _ => P d y nx ls (.int im :: st) σ post
  | .bipush _ => P d y nx ls (.int im :: st) σ post
  | .sipush _ => P d y nx ls (.int im :: st) σ post
  | .lconst n => P d y nx ls (.long (Int64.ofNat n.val) :: st) σ post
  | .aconst_null => P d y nx ls (.null :: st) σ post
  | .iload k => vldI ls k (fun v => P d y nx ls (v :: st) σ post)
  | .iload_n k => vldI ls k.val (fun v => P d y nx ls (v :: st) σ post)
  | .lload k => vldL ls k (fun v => P d y nx ls (v :: st) σ post)
  | .lload_n k => vldL ls k.val (fun v => P d y nx ls (v :: st) σ post)
  | .aload k => vldA ls k (fun v => P d y nx ls (v :: st) σ post)
  | .aload_n k => vldA ls k.val (fun v => P d y nx ls (v :: st) σ post)
  | .istore k => vstI ls st k (fun ls r => P d y nx ls r σ post)
  | .istore_n k => vstI ls st k.val (fun ls r => P d y nx ls r σ post)
  | .lstore k => vstL ls st k (fun ls r => P d y nx ls r σ post)
  | .astore k => vstA ls st k (fun ls r => P d y nx ls r σ post)
  | .astore_n k => vstA ls st k.val (fun ls r => P d y nx ls r σ post)
  | .iinc k _ => (match vget ls k with
    | some (.int x) => bif vfree ls k then P d y nx (vset ls k (some (.int (x + im)))) st σ post else False
    | _ => False)
  | .iadd => vI2 st (fun a b r => P d y nx ls (.int (a + b) :: r) σ post)
  | .isub => vI2 st (fun a b r => P d y nx ls (.int (a - b) :: r) σ post)
  | .imul => vI2 st (fun a b r => P d y nx ls (.int (a * b) :: r) σ post)
  | .idiv => vI2 st (fun a b r => ¬ b = 0 ∧ P d y nx ls (.int (a / b) :: r) σ post)
  | .irem => vI2 st (fun a b r => ¬ b = 0 ∧ P d y nx ls (.int (a - a / b * b) :: r) σ post)
  | .ineg => vI1 st (fun a r => P d y nx ls (.int (-a) :: r) σ post)
  | .iand => vI2 st (fun a b r => P d y nx ls (.int (a &&& b) :: r) σ post)
  | .ior => vI2 st (fun a b r => P d y nx ls (.int (a ||| b) :: r) σ post)
  | .ixor => vI2 st (fun a b r => P d y nx ls (.int (a ^^^ b) :: r) σ post)
  | .ishl => vI2 st (fun a b r => P d y nx ls (.int (a <<< (b &&& 31)) :: r) σ post)
  | .ishr => vI2 st (fun a b r => P d y nx ls (.int (a >>> (b &&& 31)) :: r) σ post)
  | .iushr => vI2 st (fun a b r => P d y nx ls (.int (a.toUInt32 >>> (b.toUInt32 &&& Int32.toUInt32 31)).toInt32 :: r) σ post)
  | .i2l => vI1 st (fun a r => P d y nx ls (.long a.toInt64 :: r) σ post)
  | .i2b => vI1 st (fun a r => P d y nx ls (.int a.toInt8.toInt32 :: r) σ post)
  | .i2s => vI1 st (fun a r => P d y nx ls (.int a.toInt16.toInt32 :: r) σ post)
  | .i2c => vI1 st (fun a r => P d y nx ls (.int (a.toUInt32 % 65536).toInt32 :: r) σ post)
  | .l2i => (match st with
    | .long a :: r => P d y nx ls (.int a.toInt32 :: r) σ post
    | _ => False)
  | .ladd => vL2 st (fun a b r => P d y nx ls (.long (a + b) :: r) σ post)
  | .lsub => vL2 st (fun a b r => P d y nx ls (.long (a - b) :: r) σ post)
  | .lmul => vL2 st (fun a b r => P d y nx ls (.long (a * b) :: r) σ post)
  | .ldiv => vL2 st (fun a b r => ¬ b = 0 ∧ P d y nx ls (.long (a / b) :: r) σ post)
  | .lrem => vL2 st (fun a b r => ¬ b = 0 ∧ P d y nx ls (.long (a - a / b * b) :: r) σ post)
  | .lcmp => vL2 st (fun a b r => P d y nx ls (.int (lg_cmp a b) :: r) σ post)
  | .dup => (match st with
    | v :: r => bif vone v then P d y nx ls (v :: v :: r) σ post else False
    | _ => False)
  | .dup2 => (match st with
    | v :: w :: r => bif vone v && vone w then P d y nx ls (v :: w :: v :: w :: r) σ post else False
    | _ => False)
  | .pop => (match st with
    | v :: r => bif vone v then P d y nx ls r σ post else False
    | _ => False)
  | .ifCond .eq _ => vI1 st (fun a r => (a = 0 → P d y tg ls r σ post) ∧ (¬ a = 0 → P d y nx ls r σ post))
  | .ifCond .ne _ => vI1 st (fun a r => (¬ a = 0 → P d y tg ls r σ post) ∧ (a = 0 → P d y nx ls r σ post))
  | .ifCond .lt _ => vI1 st (fun a r => (a < 0 → P d y tg ls r σ post) ∧ (¬ a < 0 → P d y nx ls r σ post))
  | .ifCond .ge _ => vI1 st (fun a r => (0 ≤ a → P d y tg ls r σ post) ∧ (¬ 0 ≤ a → P d y nx ls r σ post))
  | .ifCond .gt _ => vI1 st (fun a r => (0 < a → P d y tg ls r σ post) ∧ (¬ 0 < a → P d y nx ls r σ post))
  | .ifCond .le _ => vI1 st (fun a r => (a ≤ 0 → P d y tg ls r σ post) ∧ (¬ a ≤ 0 → P d y nx ls r σ post))
  | .if_icmp .eq _ => vI2 st (fun a b r => (a = b → P d y tg ls r σ post) ∧ (¬ a = b → P d y nx ls r σ post))
  | .if_icmp .ne _ => vI2 st (fun a b r => (¬ a = b → P d y tg ls r σ post) ∧ (a = b → P d y nx ls r σ post))
  | .if_icmp .lt _ => vI2 st (fun a b r => (a < b → P d y tg ls r σ post) ∧ (¬ a < b → P d y nx ls r σ post))
  | .if_icmp .ge _ => vI2 st (fun a b r => (b ≤ a → P d y tg ls r σ post) ∧ (¬ b ≤ a → P d y nx ls r σ post))
  | .if_icmp .gt _ => vI2 st (fun a b r => (b < a → P d y tg ls r σ post) ∧ (¬ b < a → P d y nx ls r σ post))
  | .if_icmp .le _ => vI2 st (fun a b r => (a ≤ b → P d y tg ls r σ post) ∧ (¬ a ≤ b → P d y nx ls r σ post))
  | .goto _ => P d y tg ls st σ post
  | .ifnull _ => (match st with
    | .null :: r => P d y tg ls r σ post
    | .ref x :: r => bif Nat.ble x 1007 then P d y nx ls r σ post else False
    | _ => False)
  | .tableswitch _ _ _ _ => vI1 st (fun a r => match vswfind vSw y pc with
    | some (l, df) => vswF (fun t => P d y t ls r σ post) a df l
    | none => False)
  | .lookupswitch _ _ => vI1 st (fun a r => match vswfind vSw y pc with
    | some (l, df) => vswF (fun t => P d y t ls r σ post) a df l
    | none => False)
  | .iaload => vald G σ 0 st (fun v r => P d y nx ls (v :: r) σ post)
  | .baload => vald G σ 1 st (fun v r => P d y nx ls (v :: r) σ post)
  | .aaload => vald G σ 2 st (fun v r => P d y nx ls (v :: r) σ post)
  | .iastore => vast G σ 0 st (fun σ r => P d y nx ls r σ post)
  | .bastore => vast G σ 1 st (fun σ r => P d y nx ls r σ post)
  | .arraylength => valen G st (fun n r => P d y nx ls (.int n :: r) σ post)
  | .getfield idx => vgetf G σ (vYk y) idx st (fun v r => P d y nx ls (v :: r) σ post)
  | .putfield idx => vputf G σ (vYk y) idx st (fun σ r => P d y nx ls r σ post)
  | .getstatic idx => (match vfind (vPs (vYk y)) idx with
    | some v => P d y nx ls (v :: st) σ post
    | none => False)
  | .ldc idx => vldc (vYk y) idx st (fun r => P d y nx ls r σ post)
  | .ldc_w idx => (match vfind (vPk (vYk y)) idx with
    | some (.int x) => P d y nx ls (.int x :: st) σ post
    | _ => False)
  | .ldc2_w idx => vldc2 (vYk y) idx st (fun r => P d y nx ls r σ post)
  | .invokestatic idx => vcall G P d y nx (vYk y) idx 0 ls st σ post
  | .invokevirtual idx => vcall G P d y nx (vYk y) idx 1 ls st σ post
  | .ireturn => (match st with
    | [.int x] => vretI y x (post (some (.int x)) σ)
    | _ => False)
  | .lreturn => (match st with
    | [.long x] => (match vYr y with | some .long => post (some (.long x)) σ | _ => False)
    | _ => False)
  | .areturn => (match st with
    | [.ref x] => (match vYr y with | some (.object _) => post (some (.ref x)) σ | some (.array _) => post (some (.ref x)) σ | _ => False)
    | [.null] => (match vYr y with | some (.object _) => post (some .null) σ | some (.array _) => post (some .null) σ | _ => False)
    | _ => False)
  | .return_ => (match st with
    | [] => (match vYr y with | none => post none σ | _ => False)
    | _ => False)
  | _ => False
def vF (G : vG) (P : vP) : vP := fun d y pc ls st σ post => match vfind (vTb y) pc with
  | some (i, nx, tg, im) => vX G P d y ls st σ post pc nx tg im i
  | none => False
/-- the virtual machine comes from this configuration to the method's end, with 'post': the least such predicate -/
def VM (G : vG) : vP := fun d y pc ls st σ post => ∀ P : vP, (∀ d y pc ls st σ post, vF G P d y pc ls st σ post → P d y pc ls st σ post) → P d y pc ls st σ post
def vle (P Q : vP) : Prop := ∀ d y pc ls st σ post, P d y pc ls st σ post → Q d y pc ls st σ post
