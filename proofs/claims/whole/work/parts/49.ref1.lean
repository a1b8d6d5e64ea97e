/-! ===== THE REFERENCE: small methods, what is owed ===== -/
/-- memories that agree off the places of S, longs aside -/
def vagI (S : Nat → Nat → Bool) (σ σ' : vM) : Prop := ∀ a k, S a k = false → σ'.1 a k = σ.1 a k
theorem vagI.rf {S : Nat → Nat → Bool} {σ : vM} : vagI S σ σ := fun _ _ _ => rfl
theorem vagI.tr {S : Nat → Nat → Bool} {σ σ1 σ2 : vM} (h : vagI S σ σ1) (h2 : vagI S σ1 σ2) : vagI S σ σ2 := fun a k hs => (h2 a k hs).trans (h a k hs)
theorem vagI.up {S S' : Nat → Nat → Bool} {σ σ' : vM} (h : vagI S σ σ') (hS : ∀ a k, S' a k = false → S a k = false) : vagI S' σ σ' := fun a k hs => h a k (hS a k hs)
theorem vagI.get {S : Nat → Nat → Bool} {σ σ' : vM} (h : vagI S σ σ') {a k : Nat} (hs : S a k = false) : σ'.1 a k = σ.1 a k := h a k hs
theorem vagI.put {S : Nat → Nat → Bool} {σ σ' : vM} (h : vagI S σ σ') {a k : Nat} {v : Int32} (hs : S a k = true) : vagI S σ (vput σ' a k v) := by
  intro a' k' h'
  rw [vput_ne, h a' k' h']
  by_cases e : a' = a
  · subst e
    exact Or.inr (fun q => by subst q; rw [hs] at h'; cases h')
  · exact Or.inl e
/-- the reference's scratch -/
def vMs (c k : Nat) : Bool := Nat.beq c 58 && (Nat.ble 17 k && Nat.ble k 31)
theorem vMs_no {c k : Nat} (h : ¬ c = 58 ∨ k < 17 ∨ 31 < k) : vMs c k = false := by
  cases hb : vMs c k with
  | false => rfl
  | true => exfalso; simp only [vMs, Bool.and_eq_true, Nat.ble_eq, vbq] at hb; omega
theorem lgc_lt {a b : Int64} : lg_cmp a b < 0 ↔ a < b := by
  unfold lg_cmp
  by_cases h : a > b
  · rw [if_pos h]
    exact ⟨fun q => absurd q (by decide), fun q => absurd (Int64.lt_trans q h) Int64.lt_irrefl⟩
  · rw [if_neg h]
    by_cases e : a = b
    · rw [if_pos e]
      exact ⟨fun q => absurd q (by decide), fun q => absurd q (by rw [e]; exact Int64.lt_irrefl)⟩
    · rw [if_neg e]
      refine ⟨fun _ => ?_, fun _ => by decide⟩
      rcases Int64.lt_or_eq_of_le (Int64.not_lt.mp h) with q | q
      · exact q
      · exact absurd q e
theorem lgc_gt {a b : Int64} : 0 < lg_cmp a b ↔ b < a := by
  unfold lg_cmp
  by_cases h : a > b
  · rw [if_pos h]
    exact ⟨fun _ => h, fun _ => by decide⟩
  · rw [if_neg h]
    refine ⟨fun q => ?_, fun q => absurd q h⟩
    split at q <;> exact absurd q (by decide)
theorem i64_le {x y : Int32} : x.toInt64 ≤ y.toInt64 ↔ x ≤ y := by
  rw [Int64.le_iff_toInt_le, Int32.le_iff_toInt_le, Int32.toInt_toInt64, Int32.toInt_toInt64]
section RF
variable {Gx : Nat × (Nat → Int32)} {d : Nat} {σ : vM} {post : vQ}
theorem vm_in {v lo hi : Int64} (h1 : lo ≤ v → v ≤ hi → post (some (.int 1)) σ) (h0 : ¬ (lo ≤ v ∧ v ≤ hi) → post (some (.int 0)) σ) : VM (true, Gx) d iX7_in 0 [some (.long v), none, some (.long lo), none, some (.long hi), none] [] σ post := by
  refine VM.go [] ⟨fun q => ⟨Or.inl rfl, h0 (fun z => ?_)⟩, fun q => ⟨fun q2 => ⟨Or.inl rfl, h0 (fun z => ?_)⟩, fun q2 => ⟨Or.inr rfl, h1 ?_ ?_⟩⟩⟩
  · exact absurd (lgc_lt.mp q) (Int64.not_lt.mpr z.1)
  · exact absurd (lgc_gt.mp q2) (Int64.not_lt.mpr z.2)
  · exact Int64.not_lt.mp (fun z => q (lgc_lt.mpr z))
  · exact Int64.not_lt.mp (fun z => q2 (lgc_gt.mpr z))
/-- in() of ints -/
theorem vm_inI {v a b : Int32} {lo hi : Int64} (hlo : lo = a.toInt64) (hhi : hi = b.toInt64) (h1 : a ≤ v → v ≤ b → post (some (.int 1)) σ) (h0 : ¬ (a ≤ v ∧ v ≤ b) → post (some (.int 0)) σ) : VM (true, Gx) d iX7_in 0 [some (.long v.toInt64), none, some (.long lo), none, some (.long hi), none] [] σ post := by
  subst hlo; subst hhi
  exact vm_in (fun q1 q2 => h1 (i64_le.mp q1) (i64_le.mp q2)) (fun q => h0 (fun z => q ⟨i64_le.mpr z.1, i64_le.mpr z.2⟩))
/-- in(), 0 .. m -/
theorem vm_in0 {v : Int32} {m : Nat} {hi : Int64} (hm : m < 2 ^ 30) (hhi : hi = (nI m).toInt64) (h1 : ∀ x, vix v (m + 1) = some x → x ≤ m → v = nI x → post (some (.int 1)) σ) (h0 : vix v (m + 1) = none → post (some (.int 0)) σ) : VM (true, Gx) d iX7_in 0 [some (.long v.toInt64), none, some (.long 0), none, some (.long hi), none] [] σ post := by
  refine vm_inI (a := 0) (b := nI m) (by decide) hhi (fun b1 b2 => ?_) (fun hno => h0 (vix_btw hm hno))
  obtain ⟨x, hx, rfl⟩ := vnat (by omega) b1 b2
  exact h1 x (vix_nI (by omega) (by omega)) hx rfl
theorem vm_isLooker {v : Int32} (h1 : ∀ p, vix v 5 = some p → p < 5 → v = nI p → post (some (.int 1)) σ) (h0 : vix v 5 = none → post (some (.int 0)) σ) : VM (true, Gx) (d + 1) iX7_isLooker 0 [some (.int v)] [] σ post :=
  VM.go [] ⟨_, VM.at (vm_in0 (m := 4) (by decide) (by decide) (fun x e hx e2 => by exact ⟨Or.inr rfl, h1 x e (by omega) e2⟩) (fun e => by exact ⟨Or.inl rfl, h0 e⟩)), fun _ _ hh => hh⟩
theorem vm_isSheet {v : Int32} (h1 : ∀ p, vix v 4 = some p → p < 4 → v = nI p → post (some (.int 1)) σ) (h0 : vix v 4 = none → post (some (.int 0)) σ) : VM (true, Gx) (d + 1) iX7_isSheet 0 [some (.int v)] [] σ post :=
  VM.go [] ⟨_, VM.at (vm_in0 (m := 3) (by decide) (by decide) (fun x e hx e2 => by exact ⟨Or.inr rfl, h1 x e (by omega) e2⟩) (fun e => by exact ⟨Or.inl rfl, h0 e⟩)), fun _ _ hh => hh⟩
theorem vm_isLight {n : Nat} {v : Int32} (hn : σ.1 58 11 = nI n) (hn6 : n ≤ 6) (h1 : ∀ l, vix v n = some l → l < n → v = nI l → post (some (.int 1)) σ) (h0 : vix v n = none → post (some (.int 0)) σ) : VM (true, Gx) (d + 1) iX7_isLight 0 [some (.ref 58), some (.int v)] [] σ post := by
  refine VM.go [] ⟨_, VM.at (vm_inI (a := 0) (b := σ.1 58 11 - 1) (by decide) rfl (fun b1 b2 => ?_) (fun hno => ?_)), fun _ _ hh => hh⟩
  · obtain ⟨l, hl, rfl⟩ := nI_of (x := v) (Int32.not_lt.mpr b1)
    have hln : l < n := by
      rw [hn] at b2
      cases n with
      | zero => exact absurd (Int32.le_trans b1 b2) (by decide)
      | succ n => rw [nI_pred, nIle hl (by omega)] at b2; omega
    exact ⟨Or.inr rfl, h1 l (vix_nI hln (by omega)) hln rfl⟩
  · refine ⟨Or.inl rfl, h0 (vix_no (by omega) (fun j hj e => hno ⟨?_, ?_⟩))⟩
    · rw [e]; exact Int32.not_lt.mp (nI_pos (by omega))
    · rw [hn, e, show n = (n - 1) + 1 by omega, nI_pred]; exact nI_le (by omega) (by omega)
theorem vm_within {v : Int32} {m : Nat} (hm : m < 2 ^ 31) (h : post (some (.int (nI (vcl v m)))) σ) : VM (true, Gx) d iX7_within 0 [some (.int v), some (.int 0), some (.int (nI m))] [] σ post := by
  unfold vcl at h
  refine VM.go [] ⟨fun q => ⟨fun q2 => ?_, fun q2 => ?_⟩, fun q => ?_⟩
  · have q2' : v ≤ nI m := q2
    rw [if_neg (Int32.not_lt.mpr q), if_neg (Int32.not_lt.mpr q2')] at h
    obtain ⟨j, hj, rfl⟩ := nI_of (Int32.not_lt.mpr q)
    rw [nI_clamp hj] at h
    exact h
  · have q2' : ¬ v ≤ nI m := q2
    rw [if_neg (Int32.not_lt.mpr q), if_pos (Int32.not_le.mp q2')] at h
    exact h
  · rw [if_pos (Int32.not_le.mp q)] at h
    exact h
def vpopQ (m : Nat) : Bool := Nat.beq m 0 || (Nat.beq (vpop (m &&& (m - 1)) + 1) (vpop m) && Nat.blt (m &&& (m - 1)) m)
theorem vpq_0 : (List.range 512).all (fun i => vpopQ (0 + i)) = true := by decide +kernel
theorem vpq_1 : (List.range 512).all (fun i => vpopQ (512 + i)) = true := by decide +kernel
theorem vpq_2 : (List.range 512).all (fun i => vpopQ (1024 + i)) = true := by decide +kernel
theorem vpq_3 : (List.range 512).all (fun i => vpopQ (1536 + i)) = true := by decide +kernel
theorem vpq_4 : (List.range 512).all (fun i => vpopQ (2048 + i)) = true := by decide +kernel
theorem vpq_5 : (List.range 512).all (fun i => vpopQ (2560 + i)) = true := by decide +kernel
theorem vpq_6 : (List.range 512).all (fun i => vpopQ (3072 + i)) = true := by decide +kernel
theorem vpq_7 : (List.range 512).all (fun i => vpopQ (3584 + i)) = true := by decide +kernel
theorem vpop_dn (m : Nat) (hm : m < 4096) (h0 : 0 < m) : vpop (m &&& (m - 1)) + 1 = vpop m ∧ m &&& (m - 1) < m := by
  have key : vpopQ m = true := by
    have go : ∀ c, (List.range 512).all (fun i => vpopQ (c + i)) = true → c ≤ m → m < c + 512 → vpopQ m = true := fun c h h1 h2 => by
      have := List.all_eq_true.mp h (m - c) (List.mem_range.mpr (by omega))
      rwa [show c + (m - c) = m by omega] at this
    rcases (show m < 512 ∨ (512 ≤ m ∧ m < 1024) ∨ (1024 ≤ m ∧ m < 1536) ∨ (1536 ≤ m ∧ m < 2048) ∨ (2048 ≤ m ∧ m < 2560) ∨ (2560 ≤ m ∧ m < 3072) ∨ (3072 ≤ m ∧ m < 3584) ∨ 3584 ≤ m by omega) with h | h | h | h | h | h | h | h
    · exact go 0 vpq_0 (Nat.zero_le _) h
    · exact go 512 vpq_1 h.1 h.2
    · exact go 1024 vpq_2 h.1 h.2
    · exact go 1536 vpq_3 h.1 h.2
    · exact go 2048 vpq_4 h.1 h.2
    · exact go 2560 vpq_5 h.1 h.2
    · exact go 3072 vpq_6 h.1 h.2
    · exact go 3584 vpq_7 h (by omega)
  unfold vpopQ at key
  rw [Bool.or_eq_true, Bool.and_eq_true, vbq, vbq] at key
  rcases key with k | ⟨k1, k2⟩
  · omega
  · exact ⟨k1, by simpa [Nat.blt_eq] using k2⟩
theorem vm_bitsOf {m : Nat} (hm : m < 4096) (h : post (some (.int (nI (vpop m)))) σ) : VM (true, Gx) d iX7_bitsOf 0 [some (.int (nI m)), none, none] [] σ post := by
  have key : ∀ b x, x < b → x < 4096 → ∀ n, n + vpop x = vpop m → VM (true, Gx) d iX7_bitsOf 4 [some (.int (nI m)), some (.int (nI n)), some (.int (nI x))] [] σ post := by
    intro b
    induction b with
    | zero => intro x hx; omega
    | succ b ih =>
      intro x hx hx4 n hn
      rcases Nat.eq_zero_or_pos x with e | e
      · subst e
        rw [show vpop 0 = 0 from rfl, Nat.add_zero] at hn
        rw [← hn] at h
        exact VM.go [] ⟨fun _ => h, fun q => absurd rfl q⟩
      · obtain ⟨g1, g2⟩ := vpop_dn x hx4 e
        have hne : ¬ nI x = 0 := fun q => by
          have := (nI_eq (b := 0) (by omega) (by decide)).mp q; omega
        have := ih (x &&& (x - 1)) (by omega) (by omega) (n + 1) (by omega)
        rw [← nI_and (by omega) (by omega), ← pk_sub (show 1 ≤ x from e), ← nI_1] at this
        exact VM.go [4] ⟨fun q => absurd q hne, fun _ => this⟩
  exact VM.go [4] (key (m + 1) m (Nat.lt_succ_self _) hm 0 (Nat.zero_add _))
/-- what the reference holds of clouds, lights, the rule's number, nights -/
def vMB (c n t : Nat) (kd nu ye lk : Nat → Nat) (σ : vM) : Prop := σ.1 58 7 = nI c ∧ σ.1 58 11 = nI n ∧ σ.1 58 4 = nI t ∧ (∀ k, k < n → σ.1 62 k = nI (kd k)) ∧ (∀ k, k < n → σ.1 63 k = nI (nu k)) ∧ (∀ k, k < n → σ.1 64 k = nI (ye k)) ∧ ∀ k, k < 30 → σ.1 65 k = nI (lk k)
def vMr (c n t : Nat) (kd nu ye lk : Nat → Nat) : Prop := c < 4096 ∧ n ≤ 6 ∧ t < 6 ∧ (∀ k, k < n → kd k < 6) ∧ (∀ k, k < n → nu k ≤ 9) ∧ (∀ k, k < n → ye k ≤ 999) ∧ ∀ k, k < 30 → lk k < 4096
theorem vMB.ag {c n t : Nat} {kd nu ye lk : Nat → Nat} {σ' : vM} (h : vMB c n t kd nu ye lk σ) (hs : vagI vMs σ σ') : vMB c n t kd nu ye lk σ' := by
  obtain ⟨h1, h2, h3, h4, h5, h6, h7⟩ := h
  exact ⟨(hs.get rfl).trans h1, (hs.get rfl).trans h2, (hs.get rfl).trans h3, fun k hk => (hs.get rfl).trans (h4 k hk), fun k hk => (hs.get rfl).trans (h5 k hk), fun k hk => (hs.get rfl).trans (h6 k hk), fun k hk => (hs.get rfl).trans (h7 k hk)⟩
/-- nights of looker p -/
abbrev vlk (lk : Nat → Nat) (p : Nat) : Nat → Nat := fun l => lk (6 * p + l)
/-- reading the rule t tells T of the names in memory -/
def vMT (Gx : Nat × (Nat → Int32)) (D t : Nat) (T : Nat → (Nat → Int32) → Int32) (σ : vM) : Prop := ∀ (σ' : vM) (w : Nat) (post : vQ), w < 3 → vagI vMs σ σ' → (∀ σ'', vagI vMs σ' σ'' → post (some (.int (T w (fun i => σ'.1 58 (17 + i))))) σ'') → VM (true, Gx) D iX7_read 0 [some (.ref 58), some (.int (nI t)), some (.int (nI w)), none, none, none] [] σ' post
theorem vMT.ag {D t : Nat} {T : Nat → (Nat → Int32) → Int32} {σ' : vM} (h : vMT Gx D t T σ) (hs : vagI vMs σ σ') : vMT Gx D t T σ' := fun s2 w post hw hs2 h2 => h s2 w post hw (hs.tr hs2) h2
variable {c n t : Nat} {kd nu ye lk : Nat → Nat}
theorem vm_nightsOf {p l : Nat} (hp : p < 5) (hl : l < 6) (hw : vMr c n t kd nu ye lk) (hB : vMB c n t kd nu ye lk σ) (h : post (some (.int (nI (vpop (vmask (lk (6 * p + l)) c))))) σ) : VM (true, Gx) (d + 1) iX7_nightsOf 0 [some (.ref 58), some (.int (nI p)), some (.int (nI l))] [] σ post := by
  have ix : (6 : Int32) * nI p + nI l = nI (6 * p + l) := by rw [show (6 : Int32) = nI 6 from rfl, pk_mul, nI_add]
  have e1 : σ.1 65 (6 * p + l) = nI (lk (6 * p + l)) := hB.2.2.2.2.2.2 _ (by omega)
  have hlk := hw.2.2.2.2.2.2 (6 * p + l) (by omega)
  refine VM.go [18] ⟨6 * p + l, ix, by omega, ?_⟩
  show VM (true, Gx) (d + 1) iX7_nightsOf 18 _ _ _ _
  rw [e1, hB.1, nI_mask hlk hw.1]
  exact VM.go [] ⟨_, VM.at (vm_bitsOf (vmask_lt hlk) (by exact h)), fun _ _ hh => hh⟩
theorem vm_lightMany {p : Nat} (hp : p < 5) (hw : vMr c n t kd nu ye lk) (hB : vMB c n t kd nu ye lk σ) (h : post (some (.int (nI (vlitS c (vlk lk p) n)))) σ) : VM (true, Gx) (d + 2) iX7_lightMany 0 [some (.ref 58), some (.int (nI p)), none, none] [] σ post := by
  have hn6 := hw.2.1
  have key : ∀ i, i ≤ n → VM (true, Gx) (d + 2) iX7_lightMany 4 [some (.ref 58), some (.int (nI p)), some (.int (nI (vlitS c (vlk lk p) i))), some (.int (nI i))] [] σ post := by
    refine vloop _ ?_ ?_
    · refine VM.go [] ⟨fun _ => h, fun q => absurd ?_ q⟩
      rw [hB.2.1]; exact nI_le (Nat.le_refl _) (by omega)
    · intro i hi ih
      have hlk := hw.2.2.2.2.2.2 (6 * p + i) (by omega)
      have es : vlitS c (vlk lk p) (i + 1) = vlitS c (vlk lk p) i + (if vmask (vlk lk p i) c = 0 then 0 else 1) := rfl
      have hm := vmask_lt (c := c) hlk
      have hz := vpop_0 hm
      have hle := vpop_le (vmask (lk (6 * p + i)) c)
      refine VM.go [4] ⟨fun q => absurd q (by rw [hB.2.1]; exact nI_ge hi (by omega)), fun _ => ⟨_, VM.at (vm_nightsOf hp (show i < 6 by omega) hw hB ?_), fun _ _ hh => hh⟩⟩
      refine ⟨fun q => ?_, fun q => ?_⟩
      · have q' : nI (vpop (vmask (lk (6 * p + i)) c)) ≤ nI 0 := q
        rw [nIle (by omega) (by decide)] at q'
        rw [es, if_pos (hz.mp (by omega)), ← nI_add, ← nI_1 i] at ih
        exact ih
      · have q' : ¬ nI (vpop (vmask (lk (6 * p + i)) c)) ≤ nI 0 := q
        rw [nIle (by omega) (by decide)] at q'
        rw [es, if_neg (fun z => q' (by rw [hz.mpr z]; exact Nat.le_refl _)), ← nI_add, ← nI_1 i] at ih
        exact ih
  exact VM.go [4] (key 0 (Nat.zero_le _))
end RF
