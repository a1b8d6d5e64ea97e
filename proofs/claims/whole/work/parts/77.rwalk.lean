/-! ===== THE REFERENCE: walk ===== -/
section WP
variable {P : Nat → Bool} {m : Nat → Nat}
theorem vown_0 {n : Nat} (h : vown P n = 0) : ∀ j, j < n → ¬ P j = true := by
  induction n with
  | zero => intro j hj; omega
  | succ n ih =>
    unfold vown at h
    intro j hj
    by_cases e : P n = true
    · rw [if_pos e] at h; omega
    · rw [if_neg e] at h
      rcases Nat.lt_succ_iff_lt_or_eq.mp hj with q | q
      · exact ih h j q
      · rw [q]; exact e
theorem vlom_min {n j : Nat} (hj : j < n) (h : P j = true) : vlom P m n ≤ m j := by
  induction n with
  | zero => omega
  | succ n ih =>
    unfold vlom
    by_cases q : j = n
    · subst q; rw [if_pos h]; exact Nat.min_le_right _ _
    · have := ih (by omega)
      split <;> omega
theorem vhim_ge {n j : Nat} (hj : j < n) (h : P j = true) : m j ≤ vhim P m n := by
  induction n with
  | zero => omega
  | succ n ih =>
    unfold vhim
    by_cases q : j = n
    · subst q; rw [if_pos h]; exact Nat.le_max_right _ _
    · have := ih (by omega)
      split <;> omega
theorem vown_no {n : Nat} (h : vown P n = 0) : vlom P m n = 99 ∧ vhim P m n = 0 := by
  induction n with
  | zero => exact ⟨rfl, rfl⟩
  | succ n ih =>
    have e := vown_0 h n (by omega)
    unfold vown at h
    rw [if_neg e] at h
    unfold vlom vhim
    rw [if_neg e, if_neg e]
    exact ih h
theorem vfat_at {x L : Nat} (hP : P L = true) (hm : m L = x) : ∀ n p, p ≤ L → L < p + n → (∀ j, p ≤ j → j < L → P j = true → ¬ m j = x) → vfat P m x n p = nI L := by
  intro n
  induction n with
  | zero => intro p h1 h2; omega
  | succ n ih =>
    intro p h1 h2 h3
    unfold vfat
    by_cases e : p = L
    · subst e; rw [if_pos ⟨hP, hm⟩]
    · rw [if_neg (fun q => h3 p (Nat.le_refl _) (by omega) q.1 q.2)]
      exact ih (p + 1) (by omega) (by omega) (fun j h4 h5 => h3 j (by omega) h5)
/-- who owes so far: the first at the least mile, the first at the most -/
def vWI (P : Nat → Bool) (m : Nat → Nat) (i L H : Nat) : Prop := L < i ∧ H < i ∧ P L = true ∧ P H = true ∧ m L = vlom P m i ∧ m H = vhim P m i ∧ (∀ j, j < L → P j = true → ¬ m j = vlom P m i) ∧ ∀ j, j < H → P j = true → ¬ m j = vhim P m i
theorem vWI.first {i : Nat} (h0 : vown P i = 0) (hP : P i = true) (hm : m i ≤ 99) : vWI P m (i + 1) i i := by
  obtain ⟨e1, e2⟩ := vown_no (m := m) h0
  have z := vown_0 h0
  have f1 : vlom P m (i + 1) = m i := by
    unfold vlom; rw [if_pos hP, e1]; omega
  have f2 : vhim P m (i + 1) = m i := by
    unfold vhim; rw [if_pos hP, e2]; omega
  exact ⟨by omega, by omega, hP, hP, f1.symm, f2.symm, fun j hj q => absurd q (z j hj), fun j hj q => absurd q (z j hj)⟩
theorem vWI.no {i L H : Nat} (h : vWI P m i L H) (hP : ¬ P i = true) : vWI P m (i + 1) L H := by
  obtain ⟨h1, h2, h3, h4, h5, h6, h7, h8⟩ := h
  have f1 : vlom P m (i + 1) = vlom P m i := by
    rw [vlom]; rw [if_neg hP]
  have f2 : vhim P m (i + 1) = vhim P m i := by
    rw [vhim]; rw [if_neg hP]
  refine ⟨by omega, by omega, h3, h4, by rw [f1]; exact h5, by rw [f2]; exact h6, by rw [f1]; exact h7, by rw [f2]; exact h8⟩
theorem vWI.yes {i L H : Nat} (h : vWI P m i L H) (hP : P i = true) : vWI P m (i + 1) (if m i < m L then i else L) (if m H < m i then i else H) := by
  obtain ⟨h1, h2, h3, h4, h5, h6, h7, h8⟩ := h
  have f1 : vlom P m (i + 1) = min (vlom P m i) (m i) := by
    rw [vlom]; rw [if_pos hP]
  have f2 : vhim P m (i + 1) = max (vhim P m i) (m i) := by
    rw [vhim]; rw [if_pos hP]
  have A : (if m i < m L then i else L) < i + 1 ∧ P (if m i < m L then i else L) = true ∧ m (if m i < m L then i else L) = vlom P m (i + 1) ∧ ∀ j, j < (if m i < m L then i else L) → P j = true → ¬ m j = vlom P m (i + 1) := by
    by_cases q : m i < m L
    · rw [if_pos q, f1]
      refine ⟨by omega, hP, by omega, fun j hj z => ?_⟩
      have := vlom_min (m := m) hj z
      omega
    · rw [if_neg q, f1]
      refine ⟨by omega, h3, by omega, fun j hj z => ?_⟩
      have := h7 j hj z
      omega
  have B : (if m H < m i then i else H) < i + 1 ∧ P (if m H < m i then i else H) = true ∧ m (if m H < m i then i else H) = vhim P m (i + 1) ∧ ∀ j, j < (if m H < m i then i else H) → P j = true → ¬ m j = vhim P m (i + 1) := by
    by_cases q : m H < m i
    · rw [if_pos q, f2]
      refine ⟨by omega, hP, by omega, fun j hj z => ?_⟩
      have := vhim_ge (m := m) hj z
      omega
    · rw [if_neg q, f2]
      refine ⟨by omega, h4, by omega, fun j hj z => ?_⟩
      have := h8 j hj z
      omega
  exact ⟨A.1, B.1, A.2.1, B.2.1, A.2.2.1, B.2.2.1, A.2.2.2, B.2.2.2⟩
end WP
section RW
variable {Gx : Nat × (Nat → Int32)} {d D : Nat} {σ : vM} {post : vQ} {a : vα}
theorem vm_apart {x y : Nat} (hx : x < 2 ^ 31) (hy : y < 2 ^ 31) (h : post (some (.int (nI (vdis x y)))) σ) : VM (true, Gx) d iX7_apart 0 [some (.int (nI x)), some (.int (nI y))] [] σ post := by
  unfold vdis at h
  refine VM.go [] ⟨fun c => ?_, fun c => ?_⟩
  · have c' : nI x ≤ nI y := c
    rw [nIle hx hy] at c'
    rw [show x - y = 0 by omega, Nat.zero_add, ← pk_sub c'] at h
    exact h
  · have c' : ¬ nI x ≤ nI y := c
    rw [nIle hx hy] at c'
    rw [show y - x = 0 by omega, Nat.add_zero, ← pk_sub (by omega)] at h
    exact h
theorem vr_walk {x0 k0 w0 : Int32} (hR : vRM a σ) (hW : vWF a) (hA : vAc a) (h : ∀ σ', vagI vMs σ σ' → post (some (.int (sWalk a x0 k0 w0))) σ') : VM (true, Gx) (D + 47) iX7_walk 0 [some (.ref 58), some (.int x0), some (.int k0), some (.int w0), none, none, none, none, none] [] σ post := by
  have bad : sWalk a x0 k0 w0 = -2 → post (some (.int (-2))) σ := fun e => by
    have := h σ vagI.rf
    rw [e] at this
    exact this
  refine VM.go [39] ⟨_, VM.at (vm_in0 (m := 99) (by decide) (by decide) (fun x ex hx e1 => ?_) (fun ex => ?_)), fun _ _ hh => hh⟩
  · refine ⟨fun c => absurd c (by decide), fun _ => ⟨_, VM.at (vm_in0 (m := 99999) (by decide) (by decide) (fun K ek hK e2 => ?_) (fun ek => ?_)), fun _ _ hh => hh⟩⟩
    · refine ⟨fun c => absurd c (by decide), fun _ => ⟨_, VM.at (vm_in0 (m := 2) (by decide) (by decide) (fun w ew hw e3 => ?_) (fun ew => ?_)), fun _ _ hh => hh⟩⟩
      · refine ⟨fun _ => ?_, fun c => absurd c (by decide)⟩
        obtain ⟨P, hP⟩ : ∃ P, P = vowP a K := ⟨_, rfl⟩
        obtain ⟨m, hm⟩ : ∃ m, m = a.1 6 := ⟨_, rfl⟩
        have es : sWalk a x0 k0 w0 = vwalk P m x w := by
          unfold sWalk
          rw [ex, ek, ew, hP, hm]
        rw [es] at h
        have m9 : ∀ p, p < 5 → m p ≤ 99 := fun p hp => by rw [hm]; exact (hW.2.2.2.2.1 p hp).1
        have m66 : ∀ s, vagI vMs σ s → ∀ p, s.1 66 p = nI (m p) := fun s hs p => by rw [hs.get rfl, hm]; exact (hR.2.2.1 p).2.2.2.1
        have own5 : ∀ i, vown P i ≤ i := by
          intro i
          induction i with
          | zero => exact Nat.le_refl _
          | succ i ih => unfold vown; split <;> omega
        subst e1; subst e2; subst e3
        -- the end
        have fin : ∀ s lo hi (y7 y8 : Option Value), vagI vMs σ s → ((vown P 5 = 0 ∧ lo = -1 ∧ hi = -1) ∨ (¬ vown P 5 = 0 ∧ ∃ L H, lo = nI L ∧ hi = nI H ∧ vWI P m 5 L H)) → VM (true, Gx) (D + 47) iX7_walk 140 [some (.ref 58), some (.int (nI x)), some (.int (nI K)), some (.int (nI w)), some (.int (nI (vown P 5))), some (.int lo), some (.int hi), y7, y8] [] s post := by
          intro s lo hi y7 y8 hs hc
          have h' := h s hs
          unfold vwalk at h'
          have o5 := own5 5
          by_cases w2 : w = 2
          · rw [if_pos w2] at h'
            subst w2
            exact VM.go [] ⟨fun _ => ⟨fun _ => h', fun q => absurd q (by decide)⟩, fun q => absurd rfl q⟩
          · rw [if_neg w2] at h'
            have nw2 : ¬ nI w = 2 := fun q => w2 ((nI_eq (b := 2) (by omega) (by decide)).mp q)
            rcases hc with ⟨z, hlo, hhi⟩ | ⟨z, L, H, hlo, hhi, hWI⟩
            · rw [if_pos z] at h'
              by_cases w0 : w = 0
              · subst w0
                rw [if_pos rfl] at h'
                have : nI (vown P 5) = 0 := by rw [z]; rfl
                refine VM.go [] ⟨fun q => absurd q nw2, fun _ => ⟨fun q => absurd this q, fun _ => ⟨fun _ => ?_, fun q => absurd q (by decide)⟩⟩⟩
                rw [z]
                exact h'
              · have w1 : w = 1 := by omega
                subst w1
                rw [if_neg (by decide)] at h'
                have : nI (vown P 5) = 0 := by rw [z]; rfl
                exact VM.go [] ⟨fun q => absurd q nw2, fun _ => ⟨fun q => absurd this q, fun _ => ⟨fun q => absurd rfl q, fun _ => h'⟩⟩⟩
            · rw [if_neg z] at h'
              obtain ⟨h1, h2, h3, h4, h5, h6, h7, h8⟩ := hWI
              have nz : ¬ nI (vown P 5) = 0 := fun q => z ((nI_eq (b := 0) (by omega) (by decide)).mp q)
              have mL := m66 s hs L
              have mH := m66 s hs H
              have bL := m9 L h1
              have bH := m9 H h2
              subst hlo; subst hhi
              obtain ⟨dl, hdl⟩ : ∃ dl, dl = vdis x (vlom P m 5) := ⟨_, rfl⟩
              obtain ⟨dh, hdh⟩ : ∃ dh, dh = vdis x (vhim P m 5) := ⟨_, rfl⟩
              have bdl : dl ≤ 99 := by rw [hdl, ← h5]; unfold vdis; omega
              have bdh : dh ≤ 99 := by rw [hdh, ← h6]; unfold vdis; omega
              rw [← hdl, ← hdh] at h'
              refine VM.go [170] ⟨fun q => absurd q nw2, fun _ => ⟨fun _ => ⟨L, rfl, h1, ?_⟩, fun q => absurd q nz⟩⟩
              show VM (true, Gx) (D + 47) iX7_walk 170 _ _ _ _
              rw [mL]
              refine VM.go [183] ⟨_, VM.at (vm_apart (by omega) (by omega) ?_), fun _ _ hh => hh⟩
              refine VM.at (VM.go [183] ⟨H, rfl, h2, ?_⟩)
              show VM (true, Gx) (D + 47) iX7_walk 183 _ _ _ _
              rw [mH, h5, ← hdl]
              refine VM.go [188] ⟨_, VM.at (vm_apart (by omega) (by omega) ?_), fun _ _ hh => hh⟩
              rw [h6, ← hdh]
              refine VM.at (VM.go [188] ?_)
              by_cases w1 : w = 1
              · subst w1
                rw [if_neg (by decide)] at h'
                refine VM.go [] ⟨fun q => absurd rfl q, fun _ => ⟨fun c => ?_, fun c => ?_⟩⟩
                · have c' : nI dl ≤ nI dh := c
                  rw [nIle (by omega) (by omega)] at c'
                  rw [if_pos c', vfat_at h3 h5 5 0 (by omega) (by omega) (fun j _ hj q => h7 j hj q)] at h'
                  exact h'
                · have c' : ¬ nI dl ≤ nI dh := c
                  rw [nIle (by omega) (by omega)] at c'
                  rw [if_neg c', vfat_at h4 h6 5 0 (by omega) (by omega) (fun j _ hj q => h8 j hj q)] at h'
                  exact h'
              · have w0 : w = 0 := by omega
                subst w0
                rw [if_pos rfl] at h'
                have sw : ∀ x y z : Int32, x + y - z = y - z + x := fun x y z => by
                  rw [Int32.sub_eq_add_neg, Int32.sub_eq_add_neg, Int32.add_assoc, Int32.add_comm]
                refine VM.go [] ⟨fun _ => ⟨H, rfl, h2, L, rfl, h1, fun c => ?_, fun c => ?_⟩, fun q => absurd q (by decide)⟩
                · have c' : nI dl ≤ nI dh := c
                  rw [nIle (by omega) (by omega)] at c'
                  rw [Nat.min_eq_left c', ← h5, ← h6, ← mL, ← mH, sw] at h'
                  exact h'
                · have c' : ¬ nI dl ≤ nI dh := c
                  rw [nIle (by omega) (by omega)] at c'
                  rw [Nat.min_eq_right (by omega), ← h5, ← h6, ← mL, ← mH, sw] at h'
                  exact h'
        have key : ∀ i, i ≤ 5 → ∀ s lo hi (y8 : Option Value), vagI vMs σ s → ((vown P i = 0 ∧ lo = -1 ∧ hi = -1) ∨ (¬ vown P i = 0 ∧ ∃ L H, lo = nI L ∧ hi = nI H ∧ vWI P m i L H)) → VM (true, Gx) (D + 47) iX7_walk 51 [some (.ref 58), some (.int (nI x)), some (.int (nI K)), some (.int (nI w)), some (.int (nI (vown P i))), some (.int lo), some (.int hi), some (.int (nI i)), y8] [] s post := by
          refine vloop _ ?_ ?_
          · intro s lo hi y8 hs hc
            exact VM.go [140] ⟨fun _ => fin s lo hi _ y8 hs hc, fun q => absurd (by decide) q⟩
          · intro i hi ih s lo hih y8 hs hc
            have bv : vallA a (a.1 1 0) i ≤ 77922 := vallA_le hW
            have hPi : P i = true ↔ K ≤ vallA a (a.1 1 0) i := by rw [hP]; exact decide_eq_true_iff
            refine VM.go [51] ⟨fun c => absurd c (nI_ge hi (by decide)), fun _ => ⟨_, VM.at (vr_allOf (hR.ag (hs.up vMo_s)) hW hA hi (fun s2 hs2 => ?_)), fun _ _ hh => hh⟩⟩
            have hs2' := hs.tr hs2
            have mi := m66 s2 hs2' i
            refine VM.at (VM.go [51] ⟨fun c => ?_, fun c => ?_⟩)
            · have c' : nI (vallA a (a.1 1 0) i) < nI K := c
              rw [nIlt (by omega) (by omega)] at c'
              have nP : ¬ P i = true := fun q => by have := hPi.mp q; omega
              have eo : vown P (i + 1) = vown P i := if_neg nP
              have := ih s2 lo hih y8 hs2' (by
                rw [eo]
                rcases hc with z | ⟨z, L, H, q1, q2, q3⟩
                · exact Or.inl z
                · exact Or.inr ⟨z, L, H, q1, q2, q3.no nP⟩)
              rw [eo, ← nI_1] at this
              exact this
            · have c' : ¬ nI (vallA a (a.1 1 0) i) < nI K := c
              rw [nIlt (by omega) (by omega)] at c'
              have hPt : P i = true := hPi.mpr (by omega)
              have eo : vown P (i + 1) = vown P i + 1 := if_pos hPt
              have nz : ¬ vown P (i + 1) = 0 := by omega
              have b9 := m9 i hi
              rcases hc with ⟨z, q1, q2⟩ | ⟨z, L, H, q1, q2, q3⟩
              · have := ih s2 (nI i) (nI i) y8 hs2' (Or.inr ⟨nz, i, i, rfl, rfl, vWI.first z hPt b9⟩)
                rw [eo, ← nI_1 (vown P i), ← nI_1 i] at this
                subst q1; subst q2
                exact ⟨fun _ => ⟨fun _ => this, fun q => absurd rfl q⟩, fun q => absurd rfl q⟩
              · have hw := vWI.yes q3 hPt
                obtain ⟨g1, g2, -⟩ := q3
                have n1 : ∀ j : Nat, j < 5 → ¬ nI j = -1 := fun j hj z => absurd (show nI j < 0 by rw [z]; decide) (nI_pos (by omega))
                have bL := m9 L (by omega)
                have bH := m9 H (by omega)
                have mL := m66 s2 hs2' L
                have mH := m66 s2 hs2' H
                have leaf : ∀ L' H', vWI P m (i + 1) L' H' → VM (true, Gx) (D + 47) iX7_walk 131 [some (.ref 58), some (.int (nI x)), some (.int (nI K)), some (.int (nI w)), some (.int (nI (vown P i))), some (.int (nI L')), some (.int (nI H')), some (.int (nI i)), y8] [] s2 post := fun L' H' hw' => by
                  have := ih s2 (nI L') (nI H') y8 hs2' (Or.inr ⟨nz, L', H', rfl, rfl, hw'⟩)
                  rw [eo, ← nI_1 (vown P i), ← nI_1 i] at this
                  exact VM.go [51] this
                subst q1; subst q2
                refine VM.at (VM.go [131] ⟨fun q => absurd q (n1 L (by omega)), fun _ => ⟨i, rfl, hi, L, rfl, by omega, fun c1 => ⟨fun q => absurd q (n1 H (by omega)), fun _ => ⟨i, rfl, hi, H, rfl, by omega, fun c2 => ?_, fun c2 => ?_⟩⟩, fun c1 => ⟨fun q => absurd q (n1 H (by omega)), fun _ => ⟨i, rfl, hi, H, rfl, by omega, fun c2 => ?_, fun c2 => ?_⟩⟩⟩⟩)
                all_goals
                  first
                  | have c1' : s2.1 66 L ≤ s2.1 66 i := c1
                    rw [mL, mi, nIle (by omega) (by omega)] at c1'
                    rw [if_neg (show ¬ m i < m L by omega)] at hw
                  | have c1' : ¬ s2.1 66 L ≤ s2.1 66 i := c1
                    rw [mL, mi, nIle (by omega) (by omega)] at c1'
                    rw [if_pos (show m i < m L by omega)] at hw
                  first
                  | have c2' : s2.1 66 i ≤ s2.1 66 H := c2
                    rw [mH, mi, nIle (by omega) (by omega)] at c2'
                    rw [if_neg (show ¬ m H < m i by omega)] at hw
                  | have c2' : ¬ s2.1 66 i ≤ s2.1 66 H := c2
                    rw [mH, mi, nIle (by omega) (by omega)] at c2'
                    rw [if_pos (show m H < m i by omega)] at hw
                  exact leaf _ _ hw
        exact VM.at (VM.go [51] (key 0 (Nat.zero_le _) σ (-1) (-1) none vagI.rf (Or.inl ⟨rfl, rfl, rfl⟩)))
      · refine ⟨fun c => absurd rfl c, fun _ => bad ?_⟩
        unfold sWalk
        rw [ew]
        cases vix x0 100 <;> cases vix k0 100000 <;> rfl
    · refine ⟨fun _ => bad ?_, fun c => absurd rfl c⟩
      unfold sWalk
      rw [ek]
      cases vix x0 100 <;> rfl
  · refine ⟨fun _ => bad ?_, fun c => absurd rfl c⟩
    unfold sWalk
    rw [ex]
end RW
