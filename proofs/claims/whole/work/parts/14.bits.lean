/-! ===== nights as bits ===== -/
def vpopN : Nat → Nat → Nat
  | 0, _ => 0
  | k + 1, m => m % 2 + vpopN k (m / 2)
/-- how many nights -/
def vpop (m : Nat) : Nat := vpopN 12 m
/-- the nights of s that have no cloud of c -/
def vmask (s c : Nat) : Nat := s &&& (c ^^^ 4095)
def vbcF (x : Int32) : Int32 :=
  let a := x - ((x.toUInt32 >>> ((1 : Int32).toUInt32 &&& Int32.toUInt32 31)).toInt32 &&& 1431655765)
  let b := (a &&& 858993459) + ((a.toUInt32 >>> ((2 : Int32).toUInt32 &&& Int32.toUInt32 31)).toInt32 &&& 858993459)
  let c := b + (b.toUInt32 >>> ((4 : Int32).toUInt32 &&& Int32.toUInt32 31)).toInt32 &&& 252645135
  let e := c + (c.toUInt32 >>> ((8 : Int32).toUInt32 &&& Int32.toUInt32 31)).toInt32
  let f := e + (e.toUInt32 >>> ((16 : Int32).toUInt32 &&& Int32.toUInt32 31)).toInt32
  f &&& 63
set_option maxRecDepth 100000 in
theorem vbc_0 : (List.range 512).all (fun i => decide (vbcF (nI (0 + i)) = nI (vpop (0 + i)))) = true := by decide +kernel
set_option maxRecDepth 100000 in
theorem vbc_1 : (List.range 512).all (fun i => decide (vbcF (nI (512 + i)) = nI (vpop (512 + i)))) = true := by decide +kernel
set_option maxRecDepth 100000 in
theorem vbc_2 : (List.range 512).all (fun i => decide (vbcF (nI (1024 + i)) = nI (vpop (1024 + i)))) = true := by decide +kernel
set_option maxRecDepth 100000 in
theorem vbc_3 : (List.range 512).all (fun i => decide (vbcF (nI (1536 + i)) = nI (vpop (1536 + i)))) = true := by decide +kernel
set_option maxRecDepth 100000 in
theorem vbc_4 : (List.range 512).all (fun i => decide (vbcF (nI (2048 + i)) = nI (vpop (2048 + i)))) = true := by decide +kernel
set_option maxRecDepth 100000 in
theorem vbc_5 : (List.range 512).all (fun i => decide (vbcF (nI (2560 + i)) = nI (vpop (2560 + i)))) = true := by decide +kernel
set_option maxRecDepth 100000 in
theorem vbc_6 : (List.range 512).all (fun i => decide (vbcF (nI (3072 + i)) = nI (vpop (3072 + i)))) = true := by decide +kernel
set_option maxRecDepth 100000 in
theorem vbc_7 : (List.range 512).all (fun i => decide (vbcF (nI (3584 + i)) = nI (vpop (3584 + i)))) = true := by decide +kernel
theorem vbc {m : Nat} (h : m < 4096) : vbcF (nI m) = nI (vpop m) := by
  have hm : m % 512 ∈ List.range 512 := List.mem_range.mpr (Nat.mod_lt _ (by decide))
  rcases (show m / 512 = 0 ∨ m / 512 = 1 ∨ m / 512 = 2 ∨ m / 512 = 3 ∨ m / 512 = 4 ∨ m / 512 = 5 ∨ m / 512 = 6 ∨ m / 512 = 7 by omega) with h | h | h | h | h | h | h | h
  · have := of_decide_eq_true (List.all_eq_true.mp vbc_0 _ hm)
    rw [show 0 + m % 512 = m by omega] at this
    exact this
  · have := of_decide_eq_true (List.all_eq_true.mp vbc_1 _ hm)
    rw [show 512 + m % 512 = m by omega] at this
    exact this
  · have := of_decide_eq_true (List.all_eq_true.mp vbc_2 _ hm)
    rw [show 1024 + m % 512 = m by omega] at this
    exact this
  · have := of_decide_eq_true (List.all_eq_true.mp vbc_3 _ hm)
    rw [show 1536 + m % 512 = m by omega] at this
    exact this
  · have := of_decide_eq_true (List.all_eq_true.mp vbc_4 _ hm)
    rw [show 2048 + m % 512 = m by omega] at this
    exact this
  · have := of_decide_eq_true (List.all_eq_true.mp vbc_5 _ hm)
    rw [show 2560 + m % 512 = m by omega] at this
    exact this
  · have := of_decide_eq_true (List.all_eq_true.mp vbc_6 _ hm)
    rw [show 3072 + m % 512 = m by omega] at this
    exact this
  · have := of_decide_eq_true (List.all_eq_true.mp vbc_7 _ hm)
    rw [show 3584 + m % 512 = m by omega] at this
    exact this
theorem vb_bitCount {G : vG} {d : Nat} {v : Int32} {σ : vM} {post : vQ} (h : post (some (.int (vbcF v))) σ) : VM G d iJ6_bitCount_0f7a4 0 [some (.int v)] [] σ post := VM.go [] h
theorem vpopN_le (k m : Nat) : vpopN k m ≤ k := by
  induction k generalizing m with
  | zero => exact Nat.le_refl 0
  | succ k ih => have := ih (m / 2); show m % 2 + vpopN k (m / 2) ≤ k + 1; omega
theorem vpop_le (m : Nat) : vpop m ≤ 12 := vpopN_le 12 m
theorem vpopN_0 (k : Nat) : vpopN k 0 = 0 := by
  induction k with
  | zero => rfl
  | succ k ih => show 0 % 2 + vpopN k (0 / 2) = 0; rw [Nat.zero_div, ih]
theorem vpopN_pos {k m : Nat} (h0 : 0 < m) (h : m < 2 ^ k) : 0 < vpopN k m := by
  induction k generalizing m with
  | zero => omega
  | succ k ih =>
    show 0 < m % 2 + vpopN k (m / 2)
    by_cases h2 : m / 2 = 0
    · omega
    · have := ih (m := m / 2) (by omega) (by rw [Nat.pow_succ] at h; omega)
      omega
theorem vpop_0 {m : Nat} (h : m < 4096) : vpop m = 0 ↔ m = 0 := by
  constructor
  · intro hp
    rcases Nat.eq_zero_or_pos m with e | e
    · exact e
    · have := vpopN_pos (k := 12) e h
      unfold vpop at hp
      omega
  · rintro rfl
    exact vpopN_0 12
theorem vmask_lt {s c : Nat} (h : s < 4096) : vmask s c < 4096 := Nat.lt_of_le_of_lt Nat.and_le_left h
theorem nI_bits {n : Nat} (h : n < 2 ^ 32) (i : Nat) (hi : i < 32) : (nI n).toBitVec.getLsbD i = n.testBit i := by
  rw [BitVec.getLsbD, pk_tn h]
theorem i32_bits {x y : Int32} (h : ∀ i, i < 32 → x.toBitVec.getLsbD i = y.toBitVec.getLsbD i) : x = y := by
  apply Int32.toBitVec_inj.mp
  apply BitVec.eq_of_getLsbD_eq
  intro i hi
  exact h i hi
theorem nI_and {a b : Nat} (ha : a < 2 ^ 32) (hb : b < 2 ^ 32) : nI a &&& nI b = nI (a &&& b) := by
  apply i32_bits
  intro i hi
  rw [Int32.toBitVec_and, BitVec.getLsbD_and, nI_bits ha i hi, nI_bits hb i hi, nI_bits (Nat.lt_of_le_of_lt Nat.and_le_left ha) i hi, Nat.testBit_and]
theorem nI_or {a b : Nat} (ha : a < 2 ^ 32) (hb : b < 2 ^ 32) : nI a ||| nI b = nI (a ||| b) := by
  apply i32_bits
  intro i hi
  rw [Int32.toBitVec_or, BitVec.getLsbD_or, nI_bits ha i hi, nI_bits hb i hi, nI_bits (Nat.or_lt_two_pow ha hb) i hi, Nat.testBit_or]
theorem nI_mask {s c : Nat} (hs : s < 4096) (hc : c < 4096) : nI s &&& (nI c ^^^ -1) = nI (vmask s c) := by
  apply i32_bits
  intro i hi
  rw [Int32.toBitVec_and, BitVec.getLsbD_and, Int32.toBitVec_xor, BitVec.getLsbD_xor, nI_bits (by omega) i hi, nI_bits (by omega) i hi, nI_bits (by have := vmask_lt (c := c) hs; omega) i hi]
  have h1 : (-1 : Int32).toBitVec.getLsbD i = true := by
    have : (-1 : Int32).toBitVec = BitVec.allOnes 32 := by decide
    rw [this, BitVec.getLsbD_allOnes]
    exact decide_eq_true hi
  rw [h1]
  unfold vmask
  rw [Nat.testBit_and, Nat.testBit_xor]
  by_cases h12 : i < 12
  · have : (4095 : Nat).testBit i = true := by
      rw [show (4095 : Nat) = 2 ^ 12 - 1 by decide, Nat.testBit_two_pow_sub_one]
      exact decide_eq_true h12
    rw [this]
  · have : s.testBit i = false := Nat.testBit_lt_two_pow (Nat.lt_of_lt_of_le hs (Nat.pow_le_pow_right (n := 2) (by decide) (show 12 ≤ i by omega)))
    rw [this]
    rfl
theorem vmask_0 {s c : Nat} (hs : s < 4096) (hc : c < 4096) : nI s &&& (nI c ^^^ -1) = 0 ↔ vmask s c = 0 := by
  rw [nI_mask hs hc, show (0 : Int32) = nI 0 from nI_0.symm, nI_eq (by have := vmask_lt (c := c) hs; omega) (by decide)]
/-- night t is one of m -/
abbrev vnight (m t : Nat) : Prop := m / 2 ^ t % 2 = 1
theorem nI_smod : ∀ t, t < 32 → ((nI t).toBitVec.smod 32).toNat = t := by decide +kernel
theorem nI_night {m t : Nat} (hm : m < 4096) (ht : t < 32) : nI m >>> (nI t &&& 31) &&& 1 = nI (m / 2 ^ t % 2) := by
  have h1 : (nI t &&& 31) = nI t := by
    rw [show (31 : Int32) = nI 31 from rfl, nI_and (by omega) (by decide)]
    have : t &&& 31 = t % 32 := Nat.and_two_pow_sub_one_eq_mod t 5
    rw [this, Nat.mod_eq_of_lt ht]
  rw [h1, pk_shrN (by omega) (nI t) t (nI_smod t ht)]
  rw [pk_andN (k := 1) (by have : m / 2 ^ t ≤ m := Nat.div_le_self _ _; omega) (by decide)]
