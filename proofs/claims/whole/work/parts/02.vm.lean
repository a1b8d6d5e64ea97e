/-! ===== THE VIRTUAL MACHINE: every cell of the class and of the reference has a fixed number 0 .. 82; 1000 .. are constants ===== -/
/-- memory: what the int slots hold, what the long slots hold: by cell and place -/
abbrev vM : Type := (Nat → Nat → Int32) × (Nat → Nat → Int64)
abbrev vL : Type := List (Option Value)
abbrev vQ : Type := Option Value → vM → Prop
abbrev vP : Type := Nat → Nat → Nat → vL → List Value → vM → vQ → Prop
/-- instruction, the next pc, the jump's target, the constant -/
abbrev vI : Type := Instr × Nat × Nat × Int32
/-- an array (kind 0 ints, 1 booleans, 2 Rules, 3 Rows; size; elements where they are references), or an object (class; fields: 0 int, 1 a fixed reference, 2 long, 3 a reference held as a number, 4 boolean) -/
abbrev vC : Type := (Nat × Nat × List Nat) ⊕ (Nat × List (Nat × Nat))
/-- are the reference's cells there; the script's length; the script -/
abbrev vG : Type := Bool × Nat × (Nat → Int32)
def vfind {α : Type} : List (Nat × α) → Nat → Option α
  | [], _ => none
  | q :: l, i => bif Nat.beq q.1 i then some q.2 else vfind l i
def vget {α : Type} : List (Option α) → Nat → Option α
  | [], _ => none
  | v :: _, 0 => v
  | _ :: l, k + 1 => vget l k
def vset {α : Type} : List (Option α) → Nat → Option α → List (Option α)
  | [], _, _ => []
  | _ :: l, 0, v => v :: l
  | a :: l, k + 1, v => a :: vset l k v
def vnth {α : Type} : List α → Nat → Option α
  | [], _ => none
  | v :: _, 0 => some v
  | _ :: l, k + 1 => vnth l k
def vput (σ : vM) (a k : Nat) (v : Int32) : vM := (fun a' k' => if a' = a ∧ k' = k then v else σ.1 a' k', σ.2)
def vputL (σ : vM) (a k : Nat) (v : Int64) : vM := (σ.1, fun a' k' => if a' = a ∧ k' = k then v else σ.2 a' k')
def vcopy (σ : vM) (a sp b dp n : Nat) : vM := (fun a' k' => if a' = b ∧ dp ≤ k' ∧ k' < dp + n then σ.1 a (sp + (k' - dp)) else σ.1 a' k', σ.2)
def vlc0 : vC := .inr (6, [(1, 1), (1, 10), (4, 0), (1, 19), (0, 0), (1, 38), (1, 40), (1, 47), (1, 49)])
def vlc1 : vC := .inr (5, [(0, 0), (0, 0), (0, 0), (1, 2), (1, 3), (1, 4), (1, 5), (1, 6), (1, 7), (1, 8), (1, 9)])
def vlc2 : vC := .inl (0, 6, [])
def vlc3 : vC := .inl (0, 6, [])
def vlc4 : vC := .inl (0, 6, [])
def vlc5 : vC := .inl (0, 30, [])
def vlc6 : vC := .inl (0, 5, [])
def vlc7 : vC := .inl (0, 5, [])
def vlc8 : vC := .inl (0, 4, [])
def vlc9 : vC := .inl (0, 4, [])
def vlc10 : vC := .inr (5, [(0, 0), (0, 0), (0, 0), (1, 11), (1, 12), (1, 13), (1, 14), (1, 15), (1, 16), (1, 17), (1, 18)])
def vlc11 : vC := .inl (0, 6, [])
def vlc12 : vC := .inl (0, 6, [])
def vlc13 : vC := .inl (0, 6, [])
def vlc14 : vC := .inl (0, 30, [])
def vlc15 : vC := .inl (0, 5, [])
def vlc16 : vC := .inl (0, 5, [])
def vlc17 : vC := .inl (0, 4, [])
def vlc18 : vC := .inl (0, 4, [])
def vlc19 : vC := .inl (2, 6, [20, 23, 26, 29, 32, 35])
def vlc20 : vC := .inr (4, [(4, 0), (1, 21), (1, 22), (0, 0)])
def vlc21 : vC := .inl (0, 160, [])
def vlc22 : vC := .inl (0, 3, [])
def vlc23 : vC := .inr (4, [(4, 0), (1, 24), (1, 25), (0, 0)])
def vlc24 : vC := .inl (0, 160, [])
def vlc25 : vC := .inl (0, 3, [])
def vlc26 : vC := .inr (4, [(4, 0), (1, 27), (1, 28), (0, 0)])
def vlc27 : vC := .inl (0, 160, [])
def vlc28 : vC := .inl (0, 3, [])
def vlc29 : vC := .inr (4, [(4, 0), (1, 30), (1, 31), (0, 0)])
def vlc30 : vC := .inl (0, 160, [])
def vlc31 : vC := .inl (0, 3, [])
def vlc32 : vC := .inr (4, [(4, 0), (1, 33), (1, 34), (0, 0)])
def vlc33 : vC := .inl (0, 160, [])
def vlc34 : vC := .inl (0, 3, [])
def vlc35 : vC := .inr (4, [(4, 0), (1, 36), (1, 37), (0, 0)])
def vlc36 : vC := .inl (0, 160, [])
def vlc37 : vC := .inl (0, 3, [])
def vlc38 : vC := .inr (2, [(0, 0), (1, 39), (3, 0), (0, 0), (0, 0), (0, 0), (0, 0), (0, 0)])
def vlc39 : vC := .inl (0, 160, [])
def vlc40 : vC := .inr (0, [(0, 0), (3, 0), (1, 41), (1, 42), (1, 43), (1, 44), (0, 0), (1, 45), (1, 46)])
def vlc41 : vC := .inl (0, 6, [])
def vlc42 : vC := .inl (0, 6, [])
def vlc43 : vC := .inl (0, 6, [])
def vlc44 : vC := .inl (0, 6, [])
def vlc45 : vC := .inl (0, 6, [])
def vlc46 : vC := .inl (0, 40, [])
def vlc47 : vC := .inr (1, [(0, 0), (0, 0), (1, 48)])
def vlc48 : vC := .inl (0, 4, [])
def vlc49 : vC := .inl (3, 4, [50, 52, 54, 56])
def vlc50 : vC := .inr (3, [(0, 0), (0, 0), (1, 51)])
def vlc51 : vC := .inl (0, 40, [])
def vlc52 : vC := .inr (3, [(0, 0), (0, 0), (1, 53)])
def vlc53 : vC := .inl (0, 40, [])
def vlc54 : vC := .inr (3, [(0, 0), (0, 0), (1, 55)])
def vlc55 : vC := .inl (0, 40, [])
def vlc56 : vC := .inr (3, [(0, 0), (0, 0), (1, 57)])
def vlc57 : vC := .inl (0, 40, [])
def vlc58 : vC := .inr (7, [(0, 0), (1, 59), (1, 60), (0, 0), (0, 0), (1, 61), (0, 0), (0, 0), (1, 62), (1, 63), (1, 64), (0, 0), (1, 65), (1, 66), (1, 67), (1, 68), (1, 69), (0, 0), (0, 0), (0, 0), (0, 0), (0, 0), (0, 0), (0, 0), (0, 0), (0, 0), (0, 0), (0, 0), (2, 0), (0, 0), (4, 0), (0, 0), (1, 70), (0, 0), (0, 0), (1, 71), (1, 72), (1, 73), (1, 74), (1, 75), (1, 76), (1, 77), (1, 78), (0, 0), (0, 0), (0, 0), (1, 79), (1, 80), (1, 81), (1, 82)])
def vlc59 : vC := .inl (0, 960, [])
def vlc60 : vC := .inl (0, 6, [])
def vlc61 : vC := .inl (0, 160, [])
def vlc62 : vC := .inl (0, 6, [])
def vlc63 : vC := .inl (0, 6, [])
def vlc64 : vC := .inl (0, 6, [])
def vlc65 : vC := .inl (0, 30, [])
def vlc66 : vC := .inl (0, 5, [])
def vlc67 : vC := .inl (0, 5, [])
def vlc68 : vC := .inl (0, 4, [])
def vlc69 : vC := .inl (0, 4, [])
def vlc70 : vC := .inl (0, 4000, [])
def vlc71 : vC := .inl (0, 6, [])
def vlc72 : vC := .inl (0, 6, [])
def vlc73 : vC := .inl (0, 6, [])
def vlc74 : vC := .inl (0, 30, [])
def vlc75 : vC := .inl (0, 5, [])
def vlc76 : vC := .inl (0, 5, [])
def vlc77 : vC := .inl (0, 4, [])
def vlc78 : vC := .inl (0, 4, [])
def vlc79 : vC := .inl (1, 4, [])
def vlc80 : vC := .inl (0, 4, [])
def vlc81 : vC := .inl (0, 4, [])
def vlc82 : vC := .inl (0, 160, [])
def vlayT (i : Nat) : vC := (bif Nat.ble i 40 then (bif Nat.ble i 19 then (bif Nat.ble i 9 then (bif Nat.ble i 4 then (bif Nat.ble i 1 then (bif Nat.ble i 0 then vlc0 else vlc1) else (bif Nat.ble i 2 then vlc2 else (bif Nat.ble i 3 then vlc3 else vlc4))) else (bif Nat.ble i 6 then (bif Nat.ble i 5 then vlc5 else vlc6) else (bif Nat.ble i 7 then vlc7 else (bif Nat.ble i 8 then vlc8 else vlc9)))) else (bif Nat.ble i 14 then (bif Nat.ble i 11 then (bif Nat.ble i 10 then vlc10 else vlc11) else (bif Nat.ble i 12 then vlc12 else (bif Nat.ble i 13 then vlc13 else vlc14))) else (bif Nat.ble i 16 then (bif Nat.ble i 15 then vlc15 else vlc16) else (bif Nat.ble i 17 then vlc17 else (bif Nat.ble i 18 then vlc18 else vlc19))))) else (bif Nat.ble i 29 then (bif Nat.ble i 24 then (bif Nat.ble i 21 then (bif Nat.ble i 20 then vlc20 else vlc21) else (bif Nat.ble i 22 then vlc22 else (bif Nat.ble i 23 then vlc23 else vlc24))) else (bif Nat.ble i 26 then (bif Nat.ble i 25 then vlc25 else vlc26) else (bif Nat.ble i 27 then vlc27 else (bif Nat.ble i 28 then vlc28 else vlc29)))) else (bif Nat.ble i 34 then (bif Nat.ble i 31 then (bif Nat.ble i 30 then vlc30 else vlc31) else (bif Nat.ble i 32 then vlc32 else (bif Nat.ble i 33 then vlc33 else vlc34))) else (bif Nat.ble i 37 then (bif Nat.ble i 35 then vlc35 else (bif Nat.ble i 36 then vlc36 else vlc37)) else (bif Nat.ble i 38 then vlc38 else (bif Nat.ble i 39 then vlc39 else vlc40)))))) else (bif Nat.ble i 61 then (bif Nat.ble i 50 then (bif Nat.ble i 45 then (bif Nat.ble i 42 then (bif Nat.ble i 41 then vlc41 else vlc42) else (bif Nat.ble i 43 then vlc43 else (bif Nat.ble i 44 then vlc44 else vlc45))) else (bif Nat.ble i 47 then (bif Nat.ble i 46 then vlc46 else vlc47) else (bif Nat.ble i 48 then vlc48 else (bif Nat.ble i 49 then vlc49 else vlc50)))) else (bif Nat.ble i 55 then (bif Nat.ble i 52 then (bif Nat.ble i 51 then vlc51 else vlc52) else (bif Nat.ble i 53 then vlc53 else (bif Nat.ble i 54 then vlc54 else vlc55))) else (bif Nat.ble i 58 then (bif Nat.ble i 56 then vlc56 else (bif Nat.ble i 57 then vlc57 else vlc58)) else (bif Nat.ble i 59 then vlc59 else (bif Nat.ble i 60 then vlc60 else vlc61))))) else (bif Nat.ble i 71 then (bif Nat.ble i 66 then (bif Nat.ble i 63 then (bif Nat.ble i 62 then vlc62 else vlc63) else (bif Nat.ble i 64 then vlc64 else (bif Nat.ble i 65 then vlc65 else vlc66))) else (bif Nat.ble i 68 then (bif Nat.ble i 67 then vlc67 else vlc68) else (bif Nat.ble i 69 then vlc69 else (bif Nat.ble i 70 then vlc70 else vlc71)))) else (bif Nat.ble i 76 then (bif Nat.ble i 73 then (bif Nat.ble i 72 then vlc72 else vlc73) else (bif Nat.ble i 74 then vlc74 else (bif Nat.ble i 75 then vlc75 else vlc76))) else (bif Nat.ble i 79 then (bif Nat.ble i 77 then vlc77 else (bif Nat.ble i 78 then vlc78 else vlc79)) else (bif Nat.ble i 80 then vlc80 else (bif Nat.ble i 81 then vlc81 else vlc82)))))))
/-- which cells there are -/
def vok (G : vG) (i : Nat) : Bool := Nat.ble i 57 || (Nat.ble i 82 && G.1)
def vlay (G : vG) (i : Nat) : Option vC := bif vok G i then some (vlayT i) else none
/-- constants: byte arrays and int arrays (1 bytes, 0 ints), their sizes, what they hold -/
def vFirst : List Int32 := [100, 117, 101, 115, 32, 121, 101, 97, 114, 115, 32, 59, 32, 111, 102, 102, 115, 32, 48, 32, 59, 32, 101, 120, 116, 114, 97, 115, 32, 51, 32, 59]
def vWords : List Int32 := [121, 101, 97, 114, 115, 32, 110, 105, 103, 104, 116, 115, 32, 110, 117, 109, 98, 101, 114, 32, 110, 105, 103, 104, 116, 32, 99, 108, 111, 117, 100, 121, 32, 108, 105, 103, 104, 116, 115, 32, 100, 117, 101, 115, 32, 111, 102, 102, 115, 32, 101, 120, 116, 114, 97, 115, 32, 111, 114, 32, 97, 110, 100, 32, 110, 111, 116, 32]
def vUnder : List Int32 := [-1, 0, 0, 1, 2, 0]
def vLeast : List Int32 := [0, 0, 1, 0, 1, 0]
def vMost : List Int32 := [4095, 9, 999, 99, 99, 20]
def vcon (G : vG) (r : Nat) : Option (Nat × Nat × (Nat → Int32)) := match r with
  | 1002 => some (1, 32, fun k => vFirst.getD k 0)
  | 1003 => some (1, 68, fun k => vWords.getD k 0)
  | 1004 => some (0, 6, fun k => vUnder.getD k 0)
  | 1005 => some (0, 6, fun k => vLeast.getD k 0)
  | 1006 => some (0, 6, fun k => vMost.getD k 0)
  | 1007 => some (0, G.2.1, G.2.2)
  | _ => none
def vone (v : Value) : Bool := Nat.beq v.category 1
/-- no long stands just ahead of place k -/
def vfree (ls : vL) (k : Nat) : Bool := match k with
  | 0 => true
  | k + 1 => match vget ls k with
    | some v => vone v
    | none => true
def vcats : List Value → Nat
  | [] => 0
  | v :: l => v.category + vcats l
def vsl : List Value → vL
  | [] => []
  | .long x :: l => some (.long x) :: none :: vsl l
  | v :: l => some v :: vsl l
def vfill : Nat → vL → vL
  | 0, l => l
  | n + 1, [] => none :: vfill n []
  | n + 1, v :: l => v :: vfill n l
def vpopn : Nat → List Value → List Value → Option (List Value × List Value)
  | 0, acc, st => some (acc, st)
  | n + 1, acc, v :: st => vpopn n (v :: acc) st
  | _ + 1, _, [] => none
def vpush (r : Option Value) (st : List Value) : List Value := match r with
  | some v => v :: st
  | none => st
def vswF (P : Nat → Prop) (x : Int32) (dflt : Nat) : List (Int32 × Nat) → Prop
  | [] => P dflt
  | q :: l => (x = q.1 → P q.2) ∧ (¬ x = q.1 → vswF P x dflt l)
def vswfind : List (Nat × Nat × List (Int32 × Nat) × Nat) → Nat → Nat → Option (List (Int32 × Nat) × Nat)
  | [], _, _ => none
  | q :: l, y, pc => bif Nat.beq q.1 y && Nat.beq q.2.1 pc then some q.2.2 else vswfind l y pc
/-- the class of an object that a call goes to -/
def vrecv (G : vG) (r c : Nat) : Bool := match vlay G r with
  | some (.inr q) => Nat.beq q.1 c
  | _ => (Nat.beq c 9 && (Nat.beq r 1000 || Nat.beq r 1001))
