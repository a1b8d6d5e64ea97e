/-! ===== THE REFERENCE: dues ===== -/
section RO
variable {Gx : Nat × (Nat → Int32)} {d : Nat} {σ : vM} {post : vQ} {c n t : Nat} {kd nu ye lk : Nat → Nat} {T : Nat → (Nat → Int32) → Int32} {nn : Nat}
theorem vm_asks {w p l t1 : Nat} (hT : vTok T nn) (hw3 : w < 3) (hp : p < 5) (hl : l < n) (hw : vMr c n t kd nu ye lk) (hB : vMB c n t kd nu ye lk σ) (hM : vMT Gx (d + 3) t T σ) (h : ∀ σ', vagI vMs σ σ' → post (some (.int (nI (vcl (T w (vnames c nu ye (vlk lk p) n l t1)) 99)))) σ') : VM (true, Gx) (d + 4) iX7_asks 0 [some (.ref 58), some (.int (nI w)), some (.int (nI p)), some (.int (nI l)), some (.int (nI t1))] [] σ post := by
  have hl6 : l < 6 := by have := hw.2.1; omega
  have e64 : σ.1 64 l = nI (ye l) := hB.2.2.2.2.2.1 l hl
  have e63 : σ.1 63 l = nI (nu l) := hB.2.2.2.2.1 l hl
  obtain ⟨m, hm⟩ : ∃ m, m = vpop (vmask (lk (6 * p + l)) c) := ⟨_, rfl⟩
  have s1 : vagI vMs σ (vput σ 58 17 (nI (ye l))) := vagI.rf.put rfl
  have s2 : vagI vMs σ (vput (vput σ 58 17 (nI (ye l))) 58 18 (nI m)) := s1.put rfl
  have s3 : vagI vMs σ (vput (vput (vput σ 58 17 (nI (ye l))) 58 18 (nI m)) 58 19 (nI (nu l))) := s2.put rfl
  have s4 : vagI vMs σ (vput (vput (vput (vput σ 58 17 (nI (ye l))) 58 18 (nI m)) 58 19 (nI (nu l))) 58 20 (nI t1)) := s3.put rfl
  refine VM.go [14] ⟨l, rfl, hl6, ?_⟩
  show VM (true, Gx) (d + 4) iX7_asks 14 _ _ _ _
  rw [e64]
  refine VM.go [41] ⟨_, VM.at (vm_nightsOf (d := d + 2) hp hl6 hw (hB.ag s1) ?_), fun _ _ hh => hh⟩
  rw [← hm]
  refine VM.at (VM.go [41] ⟨l, rfl, hl6, ?_⟩)
  show VM (true, Gx) (d + 4) iX7_asks 41 _ _ _ _
  rw [show (vput (vput (vput σ 58 17 (nI (ye l))) 58 18 (nI m)) 58 19 ((vput (vput σ 58 17 (nI (ye l))) 58 18 (nI m)).1 63 l)) = vput (vput (vput σ 58 17 (nI (ye l))) 58 18 (nI m)) 58 19 (nI (nu l)) from by rw [show (vput (vput σ 58 17 (nI (ye l))) 58 18 (nI m)).1 63 l = nI (nu l) from e63]]
  rw [(hB.ag s4).1]
  refine VM.go [62] ⟨_, VM.at (vm_bitsOf hw.1 ?_), fun _ _ hh => hh⟩
  have s5 : vagI vMs σ (vput (vput (vput (vput (vput σ 58 17 (nI (ye l))) 58 18 (nI m)) 58 19 (nI (nu l))) 58 20 (nI t1)) 58 21 (nI (vpop c))) := s4.put rfl
  refine ⟨_, VM.at (vm_lightMany (d := d + 1) hp hw (hB.ag s5) ?_), fun _ _ hh => hh⟩
  have s6 : vagI vMs σ (vput (vput (vput (vput (vput (vput σ 58 17 (nI (ye l))) 58 18 (nI m)) 58 19 (nI (nu l))) 58 20 (nI t1)) 58 21 (nI (vpop c))) 58 22 (nI (vlitS c (vlk lk p) n))) := s5.put rfl
  obtain ⟨S, hS⟩ : ∃ S, S = vput (vput (vput (vput (vput (vput σ 58 17 (nI (ye l))) 58 18 (nI m)) 58 19 (nI (nu l))) 58 20 (nI t1)) 58 21 (nI (vpop c))) 58 22 (nI (vlitS c (vlk lk p) n)) := ⟨_, rfl⟩
  have hnm : T w (fun i => S.1 58 (17 + i)) = T w (vnames c nu ye (vlk lk p) n l t1) := by
    refine hT w _ _ (fun i hi _ => ?_)
    rw [hS]
    rcases (show i = 0 ∨ i = 1 ∨ i = 2 ∨ i = 3 ∨ i = 4 ∨ i = 5 by omega) with rfl | rfl | rfl | rfl | rfl | rfl
    · rfl
    · show nI m = nI (vpop (vmask (lk (6 * p + l)) c))
      rw [hm]
    · rfl
    · rfl
    · rfl
    · rfl
  rw [← hS] at s6
  have e4 : S.1 58 4 = nI t := (hB.ag s6).2.2.1
  refine VM.at (VM.go [62] ?_)
  show VM (true, Gx) (d + 4) iX7_asks 62 _ _ _ _
  rw [← hS, e4]
  refine VM.go [] ⟨_, VM.at (hM S w _ hw3 s6 (fun s7 hs7 => ?_)), fun _ _ hh => hh⟩
  rw [hnm]
  exact ⟨_, VM.at (vm_within (by decide) (by exact h s7 (s6.tr hs7))), fun _ _ hh => hh⟩
theorem vm_dueOf {p l t1 : Nat} (hT : vTok T nn) (hp : p < 5) (hl : l < n) (hw : vMr c n t kd nu ye lk) (hB : vMB c n t kd nu ye lk σ) (hM : vMT Gx (d + 3) t T σ) (h : ∀ σ', vagI vMs σ σ' → post (some (.int (nI (vdt T c n kd nu ye (vlk lk p) l t1)))) σ') : VM (true, Gx) (d + 5) iX7_dueOf 0 [some (.ref 58), some (.int (nI p)), some (.int (nI l)), some (.int (nI t1)), none, none, none] [] σ post := by
  have hl6 : l < 6 := by have := hw.2.1; omega
  have e62 : σ.1 62 l = nI (kd l) := hB.2.2.2.1 l hl
  have e63 : σ.1 63 l = nI (nu l) := hB.2.2.2.2.1 l hl
  have hk := hw.2.2.2.1 l hl
  have hnu := hw.2.2.2.2.1 l hl
  have hye := hw.2.2.2.2.2.1 l hl
  have hpc := vpop_le (vmask (lk (6 * p + l)) c)
  obtain ⟨v, hv⟩ : ∃ v, v = vcl (T 0 (vnames c nu ye (vlk lk p) n l t1)) 99 := ⟨_, rfl⟩
  have hv99 : v ≤ 99 := by rw [hv]; exact vcl_le (by decide)
  have ek : ∀ j : Nat, j < 100 → (nI (kd l) = nI j ↔ kd l = j) := fun j hj => nI_eq (by omega) (by omega)
  unfold vdt at h
  rw [← hv] at h
  have fin : ∀ w : Nat, w < 2 ^ 30 → min w 999 = vdueS (kd l) (nu l) (ye l) (vpop (vmask (vlk lk p l) c)) v → ∀ s2 (y : Option Value), vagI vMs σ s2 → VM (true, Gx) (d + 5) iX7_dueOf 114 [some (.ref 58), some (.int (nI p)), some (.int (nI l)), some (.int (nI t1)), some (.int (nI (kd l))), some (.int (nI v)), y] [.int (nI w)] s2 post := fun w hw2 e s2 y hs2 => by
    refine VM.go [] ⟨_, VM.at (vm_within (by decide) ?_), fun _ _ hh => hh⟩
    rw [vcl_nI (by omega) (by decide), e]
    exact h s2 hs2
  have go47 : kd l ≠ 5 → ¬ (kd l = 3 ∧ nu l ≤ vpop (vmask (lk (6 * p + l)) c)) → VM (true, Gx) (d + 5) iX7_dueOf 47 [some (.ref 58), some (.int (nI p)), some (.int (nI l)), some (.int (nI t1)), some (.int (nI (kd l))), none, none] [] σ post := fun h5 h3 => by
    refine VM.go [114] ⟨_, VM.at (vm_asks (w := 0) hT (by decide) hp hl hw hB hM (fun s2 hs2 => ?_)), fun _ _ hh => hh⟩
    rw [← hv]
    have e64 : s2.1 64 l = nI (ye l) := (hs2.get rfl).trans (hB.2.2.2.2.2.1 l hl)
    refine VM.at (VM.go [114] ⟨fun q1 => ?_, fun q1 => ⟨fun q2 => ⟨fun q3 => ⟨fun q4 => ?_, fun q4 => ⟨by decide, ⟨l, rfl, hl6, by decide, ?_⟩⟩⟩, fun q3 => ⟨by decide, ?_⟩⟩, fun q2 => ?_⟩⟩)
    · have q1' := (ek 1 (by decide)).mp q1
      show VM (true, Gx) (d + 5) iX7_dueOf 114 _ _ _ _
      rw [nI_2]
      refine fin (2 * v) (by omega) ?_ s2 none hs2
      rw [q1']; rfl
    · have q1' : ¬ kd l = 1 := fun z => q1 ((ek 1 (by decide)).mpr z)
      have q2' : ¬ kd l = 3 := fun z => q2 ((ek 3 (by decide)).mpr z)
      have q3' : ¬ kd l = 2 := fun z => q3 ((ek 2 (by decide)).mpr z)
      have q4' : ¬ kd l = 4 := fun z => q4 ((ek 4 (by decide)).mpr z)
      refine fin v (by omega) ?_ s2 none hs2
      rw [show kd l = 0 by omega]; rfl
    · have q4' := (ek 4 (by decide)).mp q4
      show VM (true, Gx) (d + 5) iX7_dueOf 114 _ _ _ _
      rw [e64, nI_d2 (by omega), nI_d100 (by omega), nI_add]
      refine fin (v / 2 + ye l / 100) (by omega) ?_ s2 none hs2
      rw [q4']; rfl
    · have q3' := (ek 2 (by decide)).mp q3
      show VM (true, Gx) (d + 5) iX7_dueOf 114 _ _ _ _
      rw [nI_d2 (by omega)]
      refine fin (v / 2) (by omega) ?_ s2 none hs2
      rw [q3']; rfl
    · have q2' := (ek 3 (by decide)).mp q2
      show VM (true, Gx) (d + 5) iX7_dueOf 114 _ _ _ _
      rw [nI_2]
      refine fin (2 * v) (by omega) ?_ s2 none hs2
      rw [q2']
      have hge : ¬ nu l ≤ vpop (vmask (vlk lk p l) c) := fun z => h3 ⟨q2', z⟩
      show min (2 * v) 999 = if nu l ≤ vpop (vmask (vlk lk p l) c) then 0 else min (2 * v) 999
      rw [if_neg hge]
  refine VM.go [8] ⟨l, rfl, hl6, ?_⟩
  show VM (true, Gx) (d + 5) iX7_dueOf 8 _ _ _ _
  rw [e62]
  refine VM.go [35, 47] ⟨fun q => ?_, fun q => ⟨fun q2 => ?_, fun q2 => ?_⟩⟩
  · have q' := (ek 5 (by decide)).mp q
    refine VM.go [] ⟨fun z => absurd q z, fun _ => ?_⟩
    have := h σ vagI.rf
    rw [q'] at this
    exact this
  · have q' : ¬ kd l = 5 := fun z => q ((ek 5 (by decide)).mpr z)
    have q2' : ¬ kd l = 3 := fun z => q2 ((ek 3 (by decide)).mpr z)
    exact go47 q' (fun z => q2' z.1)
  · have q' : ¬ kd l = 5 := fun z => q ((ek 5 (by decide)).mpr z)
    have q2' := (ek 3 (by decide)).mp q2
    refine ⟨_, VM.at (vm_nightsOf (d := d + 3) hp hl6 hw hB ?_), fun _ _ hh => hh⟩
    refine ⟨l, rfl, hl6, fun z => ?_, fun z => ?_⟩
    · have z' : nI (vpop (vmask (lk (6 * p + l)) c)) < σ.1 63 l := z
      rw [e63, nIlt (by omega) (by omega)] at z'
      exact go47 q' (fun y => by omega)
    · have z' : ¬ nI (vpop (vmask (lk (6 * p + l)) c)) < σ.1 63 l := z
      rw [e63, nIlt (by omega) (by omega)] at z'
      have := h σ vagI.rf
      rw [q2'] at this
      have e0 : vdueS 3 (nu l) (ye l) (vpop (vmask (vlk lk p l) c)) v = 0 := if_pos (Nat.le_of_not_lt z')
      rw [e0] at this
      exact VM.at (VM.go [] ⟨fun _ => this, fun y => absurd y q⟩)
theorem vm_offOf {p l : Nat} (hT : vTok T nn) (hp : p < 5) (hl : l < n) (hw : vMr c n t kd nu ye lk) (hB : vMB c n t kd nu ye lk σ) (hM : vMT Gx (d + 3) t T σ) (h : ∀ σ', vagI vMs σ σ' → post (some (.int (nI (voffS (kd l) (nu l) (vcl (T 1 (vnames c nu ye (vlk lk p) n l 0)) 99))))) σ') : VM (true, Gx) (d + 5) iX7_offOf 0 [some (.ref 58), some (.int (nI p)), some (.int (nI l)), none, none] [] σ post := by
  have hl6 : l < 6 := by have := hw.2.1; omega
  have e62 : σ.1 62 l = nI (kd l) := hB.2.2.2.1 l hl
  have hk := hw.2.2.2.1 l hl
  have hnu := hw.2.2.2.2.1 l hl
  obtain ⟨v, hv⟩ : ∃ v, v = vcl (T 1 (vnames c nu ye (vlk lk p) n l 0)) 99 := ⟨_, rfl⟩
  have hv99 : v ≤ 99 := by rw [hv]; exact vcl_le (by decide)
  have ek : ∀ j : Nat, j < 100 → (nI (kd l) = nI j ↔ kd l = j) := fun j hj => nI_eq (by omega) (by omega)
  rw [← hv] at h
  refine VM.go [7] ⟨l, rfl, hl6, ?_⟩
  show VM (true, Gx) (d + 5) iX7_offOf 7 _ _ _ _
  rw [e62]
  refine VM.go [14] ⟨fun q => ?_, fun q => ?_⟩
  · have q' : ¬ kd l = 3 := fun z => q ((ek 3 (by decide)).mpr z)
    refine VM.go [34, 48] ⟨_, VM.at (vm_asks (w := 1) (t1 := 0) hT (by decide) hp hl hw hB hM (fun s2 hs2 => ?_)), fun _ _ hh => hh⟩
    rw [← hv]
    have e63 : s2.1 63 l = nI (nu l) := (hs2.get rfl).trans (hB.2.2.2.2.1 l hl)
    have fin : ∀ w : Nat, w < 2 ^ 30 → min w 999 = voffS (kd l) (nu l) v → VM (true, Gx) (d + 5) iX7_offOf 48 [some (.ref 58), some (.int (nI p)), some (.int (nI l)), some (.int (nI (kd l))), some (.int (nI v))] [.int (nI w)] s2 post := fun w hw2 e => by
      refine VM.go [] ⟨_, VM.at (vm_within (by decide) ?_), fun _ _ hh => hh⟩
      rw [vcl_nI (by omega) (by decide), e]
      exact h s2 hs2
    have add : voffS (kd l) (nu l) v = min (v + nu l) 999 → VM (true, Gx) (d + 5) iX7_offOf 34 [some (.ref 58), some (.int (nI p)), some (.int (nI l)), some (.int (nI (kd l))), some (.int (nI v))] [] s2 post := fun e => by
      refine VM.go [48] ⟨l, rfl, hl6, ?_⟩
      show VM (true, Gx) (d + 5) iX7_offOf 48 _ _ _ _
      rw [e63, nI_add]
      exact fin (v + nu l) (by omega) e.symm
    refine VM.at (VM.go [34, 48] ⟨fun q1 => ?_, fun q1 => ⟨fun q2 => ?_, fun q2 => ?_⟩⟩)
    · have q1' := (ek 2 (by decide)).mp q1
      exact add (by rw [q1']; rfl)
    · have q1' : ¬ kd l = 2 := fun z => q1 ((ek 2 (by decide)).mpr z)
      have q2' : ¬ kd l = 4 := fun z => q2 ((ek 4 (by decide)).mpr z)
      refine fin v (by omega) ?_
      rcases (show kd l = 0 ∨ kd l = 1 ∨ kd l = 5 by omega) with z | z | z <;> rw [z] <;> rfl
    · have q2' := (ek 4 (by decide)).mp q2
      exact add (by rw [q2']; rfl)
  · have q' := (ek 3 (by decide)).mp q
    have := h σ vagI.rf
    rw [q'] at this
    exact this
theorem vm_extraOf {p l : Nat} (hT : vTok T nn) (hp : p < 5) (hl : l < n) (hw : vMr c n t kd nu ye lk) (hB : vMB c n t kd nu ye lk σ) (hM : vMT Gx (d + 3) t T σ) (h : ∀ σ', vagI vMs σ σ' → post (some (.int (nI (vextraS (kd l) (vpop (vmask (vlk lk p l) c)) (vcl (T 2 (vnames c nu ye (vlk lk p) n l 0)) 99))))) σ') : VM (true, Gx) (d + 5) iX7_extraOf 0 [some (.ref 58), some (.int (nI p)), some (.int (nI l)), none, none] [] σ post := by
  have hl6 : l < 6 := by have := hw.2.1; omega
  have e62 : σ.1 62 l = nI (kd l) := hB.2.2.2.1 l hl
  have hk := hw.2.2.2.1 l hl
  have hpc := vpop_le (vmask (lk (6 * p + l)) c)
  obtain ⟨v, hv⟩ : ∃ v, v = vcl (T 2 (vnames c nu ye (vlk lk p) n l 0)) 99 := ⟨_, rfl⟩
  have hv99 : v ≤ 99 := by rw [hv]; exact vcl_le (by decide)
  have ek : ∀ j : Nat, j < 100 → (nI (kd l) = nI j ↔ kd l = j) := fun j hj => nI_eq (by omega) (by omega)
  rw [← hv] at h
  refine VM.go [7] ⟨l, rfl, hl6, ?_⟩
  show VM (true, Gx) (d + 5) iX7_extraOf 7 _ _ _ _
  rw [e62]
  refine VM.go [14] ⟨fun q => ?_, fun q => ?_⟩
  · have q' : ¬ kd l = 5 := fun z => q ((ek 5 (by decide)).mpr z)
    refine VM.go [34, 60] ⟨_, VM.at (vm_asks (w := 2) (t1 := 0) hT (by decide) hp hl hw hB hM (fun s2 hs2 => ?_)), fun _ _ hh => hh⟩
    rw [← hv]
    have fin : ∀ w : Nat, w < 2 ^ 30 → min w 999 = vextraS (kd l) (vpop (vmask (vlk lk p l) c)) v → VM (true, Gx) (d + 5) iX7_extraOf 60 [some (.ref 58), some (.int (nI p)), some (.int (nI l)), some (.int (nI (kd l))), some (.int (nI v))] [.int (nI w)] s2 post := fun w hw2 e => by
      refine VM.go [] ⟨_, VM.at (vm_within (by decide) ?_), fun _ _ hh => hh⟩
      rw [vcl_nI (by omega) (by decide), e]
      exact h s2 hs2
    have add : vextraS (kd l) (vpop (vmask (vlk lk p l) c)) v = min (v + vpop (vmask (vlk lk p l) c)) 999 → VM (true, Gx) (d + 5) iX7_extraOf 34 [some (.ref 58), some (.int (nI p)), some (.int (nI l)), some (.int (nI (kd l))), some (.int (nI v))] [] s2 post := fun e => by
      refine VM.go [60] ⟨_, VM.at (vm_nightsOf (d := d + 3) hp hl6 hw (hB.ag hs2) ?_), fun _ _ hh => hh⟩
      refine VM.at (VM.go [60] ?_)
      show VM (true, Gx) (d + 5) iX7_extraOf 60 _ _ _ _
      rw [nI_add]
      exact fin (v + vpop (vmask (lk (6 * p + l)) c)) (by omega) e.symm
    refine VM.at (VM.go [34, 60] ⟨fun q1 => ?_, fun q1 => ⟨fun q2 => ⟨fun q3 => ?_, fun q3 => ?_⟩, fun q2 => ?_⟩⟩)
    · have q1' := (ek 1 (by decide)).mp q1
      exact add (by rw [q1']; rfl)
    · have q1' : ¬ kd l = 1 := fun z => q1 ((ek 1 (by decide)).mpr z)
      have q2' : ¬ kd l = 3 := fun z => q2 ((ek 3 (by decide)).mpr z)
      have q3' : ¬ kd l = 4 := fun z => q3 ((ek 4 (by decide)).mpr z)
      refine fin v (by omega) ?_
      rcases (show kd l = 0 ∨ kd l = 2 by omega) with z | z <;> rw [z] <;> rfl
    · have q3' := (ek 4 (by decide)).mp q3
      show VM (true, Gx) (d + 5) iX7_extraOf 60 _ _ _ _
      rw [nI_2]
      refine fin (2 * v) (by omega) ?_
      rw [q3']; rfl
    · have q2' := (ek 3 (by decide)).mp q2
      exact add (by rw [q2']; rfl)
  · have q' := (ek 5 (by decide)).mp q
    have := h σ vagI.rf
    rw [q'] at this
    exact this
theorem vnight_and {m t : Nat} : m &&& 2 ^ t = 0 ↔ ¬ vnight m t := by
  have e : m.testBit t = true ↔ vnight m t := by
    rw [Nat.testBit_eq_decide_div_mod_eq, decide_eq_true_eq]
  rw [← e]
  constructor
  · intro h q
    have : (m &&& 2 ^ t).testBit t = (0 : Nat).testBit t := by rw [h]
    rw [Nat.testBit_and, q, Nat.testBit_two_pow_self, Nat.zero_testBit] at this
    cases this
  · intro h
    refine Nat.eq_of_testBit_eq (fun i => ?_)
    rw [Nat.testBit_and, Nat.zero_testBit, Nat.testBit_two_pow]
    by_cases q : t = i
    · subst q
      rw [Bool.eq_false_iff.mpr h]; rfl
    · rw [decide_eq_false q, Bool.and_false]
theorem vm_owesFor {p l : Nat} (hT : vTok T nn) (hp : p < 5) (hl : l < n) (hw : vMr c n t kd nu ye lk) (hB : vMB c n t kd nu ye lk σ) (hM : vMT Gx (d + 3) t T σ) (h : ∀ σ', vagI vMs σ σ' → post (some (.int (nI (vowes T c n kd nu ye (vlk lk p) l)))) σ') : VM (true, Gx) (d + 6) iX7_owesFor 0 [some (.ref 58), some (.int (nI p)), some (.int (nI l)), none, none, none] [] σ post := by
  have hl6 : l < 6 := by have := hw.2.1; omega
  have hlk := hw.2.2.2.2.2.2 (6 * p + l) (by omega)
  obtain ⟨m, hm⟩ : ∃ m, m = vmask (lk (6 * p + l)) c := ⟨_, rfl⟩
  have hm4 : m < 4096 := by rw [hm]; exact vmask_lt hlk
  have hz := vpop_0 hm4
  have hle := vpop_le m
  have hm' : vmask (vlk lk p l) c = m := by rw [hm]
  obtain ⟨O, hO⟩ : ∃ O, O = voffS (kd l) (nu l) (vcl (T 1 (vnames c nu ye (vlk lk p) n l 0)) 99) := ⟨_, rfl⟩
  have hO999 : O ≤ 999 := by rw [hO]; exact voffS_le _ _ _
  have ix : (6 : Int32) * nI p + nI l = nI (6 * p + l) := by rw [show (6 : Int32) = nI 6 from rfl, pk_mul, nI_add]
  refine VM.go [13] ⟨_, VM.at (vm_nightsOf (d := d + 4) hp hl6 hw hB ?_), fun _ _ hh => hh⟩
  rw [← hm]
  refine VM.at (VM.go [13] ⟨fun q => ?_, fun q => ?_⟩)
  · have hpos : ¬ vpop m = 0 := fun z => q (by rw [z]; rfl)
    have hm0 : ¬ m = 0 := fun z => hpos (hz.mpr z)
    obtain ⟨E, hE⟩ : ∃ E, E = (if 2 < vpop m then vextraS (kd l) (vpop m) (vcl (T 2 (vnames c nu ye (vlk lk p) n l 0)) 99) else 0) := ⟨_, rfl⟩
    have hE999 : E ≤ 999 := by
      rw [hE]; split
      · exact vextraS_le _ _ _
      · omega
    have es : ∀ i, vdues T c n kd nu ye (vlk lk p) l (i + 1) = vdues T c n kd nu ye (vlk lk p) l i + (if vnight m i then vdt T c n kd nu ye (vlk lk p) l i else 0) := fun i => by rw [← hm']; rfl
    have eo : vowes T c n kd nu ye (vlk lk p) l = vdues T c n kd nu ye (vlk lk p) l 12 + E - O := by
      rw [vowes_eq (by rw [hm']; exact hm0), hm', hE, hO]
    rw [eo] at h
    have dle : ∀ i, i ≤ 12 → vdues T c n kd nu ye (vlk lk p) l i ≤ 12 * 999 := fun i hi => Nat.le_trans (vdues_le (T := T)) (Nat.mul_le_mul_right _ hi)
    have key : ∀ i, i ≤ 12 → ∀ s2, vagI vMs σ s2 → VM (true, Gx) (d + 6) iX7_owesFor 40 [some (.ref 58), some (.int (nI p)), some (.int (nI l)), some (.int (nI (vpop m))), some (.int (nI (vdues T c n kd nu ye (vlk lk p) l i + E) - nI O)), some (.int (nI i))] [] s2 post := by
      refine vloop _ ?_ ?_
      · intro s2 hs2
        have h' := h s2 hs2
        have hd := dle 12 (Nat.le_refl _)
        rw [← vmax0 (by omega) (by omega)] at h'
        refine VM.go [] ⟨fun _ => ⟨fun q2 => ?_, fun q2 => ?_⟩, fun z => absurd (by decide) z⟩
        · rw [if_neg (Int32.not_lt.mpr q2)] at h'
          exact h'
        · rw [if_pos (Int32.not_le.mp q2)] at h'
          exact h'
      · intro i hi ih s2 hs2
        have hd := dle i (by omega)
        have e65 : s2.1 65 (6 * p + l) = nI (lk (6 * p + l)) := (hs2.get rfl).trans (hB.2.2.2.2.2.2 _ (by omega))
        have e7 : s2.1 58 7 = nI c := (hs2.get rfl).trans hB.1
        refine VM.go [67] ⟨fun z => absurd z (nI_ge hi (by decide)), fun _ => ⟨6 * p + l, ix, by omega, ?_⟩⟩
        show VM (true, Gx) (d + 6) iX7_owesFor 67 _ _ _ _
        rw [e65, e7, nI_mask hlk hw.1, ← hm]
        refine VM.go [72] ?_
        show VM (true, Gx) (d + 6) iX7_owesFor 72 _ _ _ _
        rw [nI_shl1 i hi, nI_and (by omega) (Nat.lt_of_lt_of_le (Nat.pow_lt_pow_right (by decide) hi) (by decide))]
        have hand : m &&& 2 ^ i < 2 ^ 31 := Nat.lt_of_le_of_lt Nat.and_le_left (by omega)
        have nx : ∀ (x : Nat) s3, x ≤ 999 → vagI vMs σ s3 → x = (if vnight m i then vdt T c n kd nu ye (vlk lk p) l i else 0) → VM (true, Gx) (d + 6) iX7_owesFor 87 [some (.ref 58), some (.int (nI p)), some (.int (nI l)), some (.int (nI (vpop m))), some (.int (nI (vdues T c n kd nu ye (vlk lk p) l i + E) - nI O)), some (.int (nI i))] [.int (nI x), .int (nI (vdues T c n kd nu ye (vlk lk p) l i + E) - nI O)] s3 post := fun x s3 hx hs3 ex => by
          refine VM.go [40] ?_
          show VM (true, Gx) (d + 6) iX7_owesFor 40 _ _ _ _
          rw [nI_1, show nI (vdues T c n kd nu ye (vlk lk p) l i + E) - nI O + nI x = nI (vdues T c n kd nu ye (vlk lk p) l (i + 1) + E) - nI O from by
            rw [es, ← ex, show vdues T c n kd nu ye (vlk lk p) l i + x + E = (vdues T c n kd nu ye (vlk lk p) l i + E) + x by omega, ← nI_add _ x, Int32.sub_eq_add_neg, Int32.sub_eq_add_neg, Int32.add_assoc, Int32.add_comm (-nI O), ← Int32.add_assoc]]
          exact ih s3 hs3
        refine VM.go [87] ⟨fun q2 => ?_, fun q2 => ?_⟩
        · have q2' : nI (m &&& 2 ^ i) = nI 0 := q2
          rw [nI_eq hand (by decide)] at q2'
          have hn := vnight_and.mp q2'
          exact nx 0 s2 (Nat.zero_le _) hs2 (by rw [if_neg hn])
        · have q2' : ¬ nI (m &&& 2 ^ i) = nI 0 := q2
          rw [nI_eq hand (by decide)] at q2'
          have hn : vnight m i := Classical.byContradiction (fun z => q2' (vnight_and.mpr z))
          refine ⟨_, VM.at (vm_dueOf hT hp hl hw (hB.ag hs2) (hM.ag hs2) (fun s3 hs3 => ?_)), fun _ _ hh => hh⟩
          have hdl : vdt T c n kd nu ye (vlk lk p) l i ≤ 999 := vdueS_le _ _ _ _ _
          exact VM.at (VM.go [87] (nx _ s3 hdl (hs2.tr hs3) (by rw [if_pos hn])))
    have off : ∀ s2, vagI vMs σ s2 → VM (true, Gx) (d + 6) iX7_owesFor 28 [some (.ref 58), some (.int (nI p)), some (.int (nI l)), some (.int (nI (vpop m))), none, none] [.int (nI E)] s2 post := fun s2 hs2 => by
      refine VM.go [40] ⟨_, VM.at (vm_offOf hT hp hl hw (hB.ag hs2) (hM.ag hs2) (fun s3 hs3 => ?_)), fun _ _ hh => hh⟩
      rw [← hO]
      have k0 := key 0 (Nat.zero_le _) s3 (hs2.tr hs3)
      rw [show vdues T c n kd nu ye (vlk lk p) l 0 + E = E from Nat.zero_add E] at k0
      exact VM.at (VM.go [40] k0)
    refine VM.go [28] ⟨fun q2 => ?_, fun q2 => ?_⟩
    · have q2' : nI (vpop m) ≤ nI 2 := q2
      rw [nIle (by omega) (by decide)] at q2'
      rw [if_neg (by omega)] at hE
      have := off σ vagI.rf
      rw [hE] at this
      exact this
    · have q2' : ¬ nI (vpop m) ≤ nI 2 := q2
      rw [nIle (by omega) (by decide)] at q2'
      rw [if_pos (by omega)] at hE
      refine ⟨_, VM.at (vm_extraOf hT hp hl hw hB hM (fun s2 hs2 => ?_)), fun _ _ hh => hh⟩
      rw [hm', ← hE]
      exact VM.at (VM.go [28] (off s2 hs2))
  · have q' : nI (vpop m) = nI 0 := q
    rw [nI_eq (by omega) (by decide)] at q'
    have e0 : vowes T c n kd nu ye (vlk lk p) l = 0 := by
      unfold vowes
      dsimp only
      rw [hm', if_pos (hz.mp q')]
    have := h σ vagI.rf
    rw [e0] at this
    exact this
theorem vcl_sub {a b m : Nat} (ha : a < 2 ^ 30) (hb : b < 2 ^ 30) (hm : m < 2 ^ 30) : vcl (nI a - nI b) m = min (a - b) m := by
  by_cases h : a < b
  · have hneg : nI a - nI b < 0 := pk_sneg hb h
    unfold vcl
    rw [if_pos hneg]; omega
  · rw [pk_sub (by omega), vcl_nI (by omega) (by omega)]
def vplR (T : Nat → (Nat → Int32) → Int32) (c n : Nat) (kd nu ye lk : Nat → Nat) (p : Nat) : Nat := vsumN n (vowes T c n kd nu ye (vlk lk p))
theorem vplR_le (hn : n ≤ 6) (p : Nat) : vplR T c n kd nu ye lk p ≤ 77922 := by
  have h1 := vsumN_le (n := n) (f := vowes T c n kd nu ye (vlk lk p)) (b := 12987) (fun i _ => vowes_le)
  have h2 : n * 12987 ≤ 6 * 12987 := Nat.mul_le_mul_right _ hn
  exact Nat.le_trans h1 h2
theorem vm_plainOf {p : Nat} (hT : vTok T nn) (hp : p < 5) (hw : vMr c n t kd nu ye lk) (hB : vMB c n t kd nu ye lk σ) (hM : vMT Gx (d + 3) t T σ) (h : ∀ σ', vagI vMs σ σ' → post (some (.int (nI (vplR T c n kd nu ye lk p)))) σ') : VM (true, Gx) (d + 7) iX7_plainOf 0 [some (.ref 58), some (.int (nI p)), none, none] [] σ post := by
  have hn6 := hw.2.1
  have key : ∀ i, i ≤ n → ∀ s2, vagI vMs σ s2 → VM (true, Gx) (d + 7) iX7_plainOf 4 [some (.ref 58), some (.int (nI p)), some (.int (nI (vsumN i (vowes T c n kd nu ye (vlk lk p))))), some (.int (nI i))] [] s2 post := by
    refine vloop _ ?_ ?_
    · intro s2 hs2
      refine VM.go [] ⟨fun _ => h s2 hs2, fun q => absurd ?_ q⟩
      rw [(hB.ag hs2).2.1]; exact nI_le (Nat.le_refl _) (by omega)
    · intro i hi ih s2 hs2
      refine VM.go [4] ⟨fun q => absurd q (by rw [(hB.ag hs2).2.1]; exact nI_ge hi (by omega)), fun _ => ⟨_, VM.at (vm_owesFor hT hp hi hw (hB.ag hs2) (hM.ag hs2) (fun s3 hs3 => ?_)), fun _ _ hh => hh⟩⟩
      have := ih s3 (hs2.tr hs3)
      rw [show vsumN (i + 1) (vowes T c n kd nu ye (vlk lk p)) = vsumN i (vowes T c n kd nu ye (vlk lk p)) + vowes T c n kd nu ye (vlk lk p) i from rfl, ← nI_add, ← nI_1] at this
      exact this
  exact VM.go [4] (key 0 (Nat.zero_le _) σ vagI.rf)
theorem vm_allOf {p : Nat} {pd : Nat → Nat} (hT : vTok T nn) (hp : p < 5) (hw : vMr c n t kd nu ye lk) (hB : vMB c n t kd nu ye lk σ) (hM : vMT Gx (d + 3) t T σ) (hpd : ∀ p, p < 5 → σ.1 67 p = nI (pd p) ∧ pd p ≤ 900000) (h : ∀ σ', vagI vMs σ σ' → post (some (.int (nI (vplR T c n kd nu ye lk p - pd p)))) σ') : VM (true, Gx) (d + 8) iX7_allOf 0 [some (.ref 58), some (.int (nI p))] [] σ post := by
  have hle := vplR_le (T := T) (c := c) (kd := kd) (nu := nu) (ye := ye) (lk := lk) hw.2.1 p
  obtain ⟨e67, hp9⟩ := hpd p hp
  refine VM.go [11] ⟨_, VM.at (vm_plainOf hT hp hw hB hM (fun s2 hs2 => ?_)), fun _ _ hh => hh⟩
  have e : s2.1 67 p = nI (pd p) := (hs2.get rfl).trans e67
  refine VM.at (VM.go [11] ⟨p, rfl, hp, ?_⟩)
  show VM (true, Gx) (d + 8) iX7_allOf 11 _ _ _ _
  rw [e]
  refine VM.go [] ⟨_, VM.at (vm_within (m := 999999) (by decide) ?_), fun _ _ hh => hh⟩
  rw [vcl_sub (by omega) (by omega) (by decide), Nat.min_eq_left (by omega)]
  exact h s2 hs2
theorem vm_allSum {pd : Nat → Nat} (hT : vTok T nn) (hw : vMr c n t kd nu ye lk) (hB : vMB c n t kd nu ye lk σ) (hM : vMT Gx (d + 3) t T σ) (hpd : ∀ p, p < 5 → σ.1 67 p = nI (pd p) ∧ pd p ≤ 900000) (h : ∀ σ', vagI vMs σ σ' → post (some (.int (nI (vsumN 5 (fun p => vplR T c n kd nu ye lk p - pd p))))) σ') : VM (true, Gx) (d + 9) iX7_allSum 0 [some (.ref 58), none, none] [] σ post := by
  have key : ∀ i, i ≤ 5 → ∀ s2, vagI vMs σ s2 → VM (true, Gx) (d + 9) iX7_allSum 4 [some (.ref 58), some (.int (nI (vsumN i (fun p => vplR T c n kd nu ye lk p - pd p)))), some (.int (nI i))] [] s2 post := by
    refine vloop _ ?_ ?_
    · intro s2 hs2
      exact VM.go [] ⟨fun _ => h s2 hs2, fun q => absurd (by decide) q⟩
    · intro i hi ih s2 hs2
      refine VM.go [4] ⟨fun q => absurd q (nI_ge hi (by decide)), fun _ => ⟨_, VM.at (vm_allOf hT hi hw (hB.ag hs2) (hM.ag hs2) (fun p hp => ⟨(hs2.get rfl).trans (hpd p hp).1, (hpd p hp).2⟩) (fun s3 hs3 => ?_)), fun _ _ hh => hh⟩⟩
      have := ih s3 (hs2.tr hs3)
      rw [show vsumN (i + 1) (fun p => vplR T c n kd nu ye lk p - pd p) = vsumN i (fun p => vplR T c n kd nu ye lk p - pd p) + (vplR T c n kd nu ye lk i - pd i) from rfl, ← nI_add, ← nI_1] at this
      exact this
  exact VM.go [4] (key 0 (Nat.zero_le _) σ vagI.rf)
end RO
