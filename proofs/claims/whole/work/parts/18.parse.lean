/-! ===== HOW A TEXT IS READ, as a function: next, token, value, place, fault, code ===== -/
abbrev vPS : Type := Nat × Int32 × Nat × Nat × Option Nat × List Int32
abbrev vpN (s : vPS) : Nat := s.1
abbrev vpT (s : vPS) : Int32 := s.2.1
abbrev vpV (s : vPS) : Nat := s.2.2.1
abbrev vpP (s : vPS) : Nat := s.2.2.2.1
abbrev vpF (s : vPS) : Option Nat := s.2.2.2.2.1
abbrev vpC (s : vPS) : List Int32 := s.2.2.2.2.2
/-- from i on as long as P holds of the bytes -/
def vspan (P : Nat → Bool) (b : List Nat) : Nat → Nat → Nat
  | 0, i => i
  | n + 1, i => match b[i]? with
    | some c => if P c then vspan P b n (i + 1) else i
    | none => i
def vblank (c : Nat) : Bool := Nat.beq c 32 || Nat.beq c 10
def vletter (c : Nat) : Bool := Nat.ble 97 c && Nat.ble c 122
def vdigit (c : Nat) : Bool := Nat.ble 48 c && Nat.ble c 57
def vsign (c : Nat) : Bool := Nat.beq c 40 || (Nat.beq c 41 || (Nat.beq c 59 || (Nat.beq c 43 || (Nat.beq c 45 || (Nat.beq c 42 || (Nat.beq c 60 || Nat.beq c 61))))))
/-- years nights number night cloudy lights dues offs extras or and not -/
def vwords : List (List Nat) := [[121, 101, 97, 114, 115], [110, 105, 103, 104, 116, 115], [110, 117, 109, 98, 101, 114], [110, 105, 103, 104, 116], [99, 108, 111, 117, 100, 121], [108, 105, 103, 104, 116, 115], [100, 117, 101, 115], [111, 102, 102, 115], [101, 120, 116, 114, 97, 115], [111, 114], [97, 110, 100], [110, 111, 116]]
def vwordIx (w : List Nat) : Nat := vwords.findIdx (fun v => decide (v = w))
def vnumV (l : List Nat) : Nat := l.foldl (fun v c => 10 * v + (c - 48)) 0
/-- token, value, place, next, from i on -/
def vlex (b : List Nat) (i : Nat) : Int32 × Nat × Nat × Nat :=
  let p := vspan vblank b b.length i
  match b[p]? with
  | none => (0, 0, p, p)
  | some c =>
    if vletter c then
      let j := vspan vletter b b.length p
      let w := vwordIx ((b.drop p).take (j - p))
      (if w < 6 then 2 else if w < 12 then nI w else -1, w, p, j)
    else if vdigit c then
      let j := vspan vdigit b b.length p
      (if 4 < j - p then -1 else 1, vnumV ((b.drop p).take (j - p)), p, j)
    else (if vsign c then nI c else -1, 0, p, p + 1)
def vpAdv (b : List Nat) (s : vPS) : vPS := match vpF s with
  | some _ => (vpN s, -1, vpV s, vpP s, vpF s, vpC s)
  | none => let x := vlex b (vpN s); (x.2.2.2, x.1, x.2.1, x.2.2.1, none, vpC s)
def vpFail (s : vPS) : vPS := (vpN s, -1, vpV s, vpP s, (match vpF s with | none => some (vpP s) | some f => some f), vpC s)
def vpExp (b : List Nat) (t : Int32) (s : vPS) : vPS := if vpT s = t then vpAdv b s else vpFail s
def vpAdd (c : Int32) (s : vPS) : vPS := (vpN s, vpT s, vpV s, vpP s, vpF s, if (vpC s).length < 160 then vpC s ++ [c] else vpC s)
def vpLoop (p : vPS → Bool) (f : vPS → vPS) : Nat → vPS → vPS
  | 0, s => s
  | n + 1, s => if p s then vpLoop p f n (f s) else s
/-- what is read with one more open: a ONE, an E, a NOT; none: no more may be open -/
abbrev vpLo : Type := Option ((vPS → vPS) × (vPS → vPS) × (vPS → vPS))
def vpOne (b : List Nat) (lo : vpLo) (s : vPS) : vPS :=
  if vpT s = 1 then vpAdv b (vpAdd (nI (vpV s)) s)
  else if vpT s = 2 then vpAdv b (vpAdd (-1 - nI (vpV s)) s)
  else if vpT s = 45 then (match lo with | none => vpFail s | some l => vpAdd (-12) (l.1 (vpAdv b s)))
  else if vpT s = 40 then (match lo with | none => vpFail s | some l => vpExp b 41 (l.2.1 (vpAdv b s)))
  else vpFail s
def vpTerm (b : List Nat) (lo : vpLo) (s : vPS) : vPS := vpLoop (fun s => decide (vpT s = 42)) (fun s => vpAdd (-42) (vpOne b lo (vpAdv b s))) 160 (vpOne b lo s)
def vpSum (b : List Nat) (lo : vpLo) (s : vPS) : vPS := vpLoop (fun s => decide (vpT s = 43) || decide (vpT s = 45)) (fun s => vpAdd (-(vpT s)) (vpTerm b lo (vpAdv b s))) 160 (vpTerm b lo s)
def vpNot (b : List Nat) (lo : vpLo) (s : vPS) : vPS :=
  if vpT s = 11 then (match lo with | none => vpFail s | some l => vpAdd (-11) (l.2.2 (vpAdv b s)))
  else
    let s1 := vpSum b lo s
    if vpT s1 = 60 ∨ vpT s1 = 61 then vpAdd (-(vpT s1)) (vpSum b lo (vpAdv b s1)) else s1
def vpBoth (b : List Nat) (lo : vpLo) (s : vPS) : vPS := vpLoop (fun s => decide (vpT s = 10)) (fun s => vpAdd (-10) (vpNot b lo (vpAdv b s))) 160 (vpNot b lo s)
def vpEither (b : List Nat) (lo : vpLo) (s : vPS) : vPS := vpLoop (fun s => decide (vpT s = 9)) (fun s => vpAdd (-9) (vpBoth b lo (vpAdv b s))) 160 (vpBoth b lo s)
/-- the readers with r more that may be open -/
def vpLev (b : List Nat) : Nat → vpLo
  | 0 => none
  | r + 1 => some (vpOne b (vpLev b r), vpEither b (vpLev b r), vpNot b (vpLev b r))
def vpPart (b : List Nat) (k : Nat) (s : vPS) : vPS := vpExp b 59 (vpEither b (vpLev b 5) (vpExp b (nI (6 + k)) s))
def vp0 (b : List Nat) : vPS := vpAdv b (0, 0, 0, 0, none, [])
def vp1 (b : List Nat) : vPS := vpPart b 0 (vp0 b)
def vp2 (b : List Nat) : vPS := vpPart b 1 (vp1 b)
def vp3 (b : List Nat) : vPS := vpPart b 2 (vp2 b)
def vpEnd (b : List Nat) : vPS := if vpT (vp3 b) = 0 then vp3 b else vpFail (vp3 b)
/-- where the text's fault is -/
def vfault (b : List Nat) : Option Nat := vpF (vpEnd b)
/-- the code of its parts -/
def vcomp (b : List Nat) (p : Nat) : List Int32 := match p with
  | 0 => vpC (vp1 b)
  | 1 => (vpC (vp2 b)).drop (vpC (vp1 b)).length
  | _ => (vpC (vp3 b)).drop (vpC (vp2 b)).length
/-- does it name the night -/
def vnn (b : List Nat) : Nat := if (-4 : Int32) ∈ vpC (vp3 b) then 1 else 0
theorem vp_try : (List.range 3).map (vcomp [100, 117, 101, 115, 32, 121, 101, 97, 114, 115, 32, 59, 32, 111, 102, 102, 115, 32, 48, 32, 59, 32, 101, 120, 116, 114, 97, 115, 32, 51, 32, 59]) = [[-1], [0], [3]] := by decide +kernel
