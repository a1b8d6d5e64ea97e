/-! ===== THE REFERENCE: the fewest pieces, row by row ===== -/
/-- the least of g 0 .. g (n - 1), never more than NEVER -/
def vmnB (g : Nat → Nat) : Nat → Nat
  | 0 => 1000000
  | n + 1 => min (vmnB g n) (g n)
/-- the last of 0 .. n - 1 where g is m -/
def vlst (g : Nat → Nat) (m : Nat) : Nat → Nat
  | 0 => 0
  | n + 1 => if g n = m then n else vlst g m n
def vfw (a : vα) : Nat → Nat → Nat
  | 0, x => vmnB (fun c => if x - c * a.1 8 0 = 0 then c else 1000000) (vmp a 0 x + 1)
  | k + 1, x => vmnB (fun c => vfw a k (x - c * a.1 8 (k + 1)) + c) (vmp a (k + 1) x + 1)
/-- what can be paid with the first k + 1 sorts -/
def vPy (a : vα) : Nat → Nat → Prop
  | 0, y => y - vmp a 0 y * a.1 8 0 = 0
  | k + 1, y => ∃ i, i ≤ vmp a (k + 1) y ∧ vPy a k (y - i * a.1 8 (k + 1))
theorem vmnB_N (g : Nat → Nat) (n : Nat) : vmnB g n ≤ 1000000 := by
  induction n with
  | zero => exact Nat.le_refl _
  | succ n ih => exact Nat.le_trans (Nat.min_le_left _ _) ih
theorem vmnB_le {g : Nat → Nat} {n i : Nat} (h : i < n) : vmnB g n ≤ g i := by
  induction n with
  | zero => omega
  | succ n ih =>
    by_cases e : i = n
    · subst e; exact Nat.min_le_right _ _
    · exact Nat.le_trans (Nat.min_le_left _ _) (ih (by omega))
theorem vmnB_ge {g : Nat → Nat} {n z : Nat} (hz : z ≤ 1000000) (h : ∀ i, i < n → z ≤ g i) : z ≤ vmnB g n := by
  induction n with
  | zero => exact hz
  | succ n ih => exact Nat.le_min.mpr ⟨ih (fun i hi => h i (by omega)), h n (by omega)⟩
theorem vmnB_at {g : Nat → Nat} {n : Nat} (h : vmnB g n < 1000000) : ∃ i, i < n ∧ g i = vmnB g n := by
  induction n with
  | zero => exact absurd h (Nat.lt_irrefl _)
  | succ n ih =>
    by_cases e : g n ≤ vmnB g n
    · exact ⟨n, by omega, (Nat.min_eq_right e).symm⟩
    · have e2 : vmnB g (n + 1) = vmnB g n := Nat.min_eq_left (by omega)
      rw [e2] at h ⊢
      obtain ⟨i, hi, q⟩ := ih h
      exact ⟨i, by omega, q⟩
theorem vlst_at {g : Nat → Nat} {m n i : Nat} (hi : i < n) (h : g i = m) : vlst g m n < n ∧ g (vlst g m n) = m := by
  induction n with
  | zero => omega
  | succ n ih =>
    unfold vlst
    by_cases e : g n = m
    · rw [if_pos e]; exact ⟨by omega, e⟩
    · rw [if_neg e]
      have := ih (by
        rcases Nat.lt_succ_iff_lt_or_eq.mp hi with q | q
        · exact q
        · subst q; exact absurd h e)
      exact ⟨by omega, this.2⟩
/-- strict betterings, from above -/
theorem vfold_kw {S W : Type} {K : S → Nat} {V : S → W} {f : Nat → S → S} {R : Nat → S → S} {g : Nat → Nat} {k N : Nat} {w : Nat → W} (R0 : ∀ st, R 0 st = st) (Rs : ∀ n st, R (n + 1) st = R n (f n st))
    (hf : ∀ i, i < N → ∀ st, K st ≤ 1000000 → K (f i st) = min (K st) (g i + k) ∧ V (f i st) = if g i + k < K st then w i else V st) :
    ∀ n, n ≤ N → ∀ st, K st ≤ 1000000 → K (R n st) = min (K st) (vmnB g n + k) ∧ V (R n st) = if vmnB g n + k < K st then w (vlst g (vmnB g n) n) else V st := by
  intro n
  induction n with
  | zero =>
    intro _ st hK
    rw [R0]
    refine ⟨(Nat.min_eq_left (by show K st ≤ 1000000 + k; omega)).symm, ?_⟩
    rw [if_neg (by show ¬ 1000000 + k < K st; omega)]
  | succ n ih =>
    intro hn st hK
    obtain ⟨f1, f2⟩ := hf n (by omega) st hK
    obtain ⟨r1, r2⟩ := ih (by omega) (f n st) (by rw [f1]; exact Nat.le_trans (Nat.min_le_left _ _) hK)
    have hm : vmnB g (n + 1) = min (vmnB g n) (g n) := rfl
    rw [Rs]
    refine ⟨by rw [r1, f1, hm]; omega, ?_⟩
    rw [r2, f1, f2]
    by_cases e : g n ≤ vmnB g n
    · have e1 : vmnB g (n + 1) = g n := by rw [hm]; exact Nat.min_eq_right e
      rw [if_neg (by omega), e1, show vlst g (g n) (n + 1) = n from if_pos rfl]
    · have e1 : vmnB g (n + 1) = vmnB g n := by rw [hm]; exact Nat.min_eq_left (by omega)
      rw [e1, show vlst g (vmnB g n) (n + 1) = vlst g (vmnB g n) n from if_neg (by omega)]
      by_cases e2 : vmnB g n + k < K st
      · rw [if_pos (by omega), if_pos e2]
      · rw [if_neg (by omega), if_neg e2, if_neg (by omega)]
/-- what falls short grows less -/
theorem vfold_le {S : Type} {M : S → Nat} {f : Nat → S → S} {R : Nat → S → S} {N z i : Nat} (R0 : ∀ st, R 0 st = st) (Rs : ∀ n st, R (n + 1) st = R n (f n st))
    (hf : ∀ j, j < N → ∀ st, M (f j st) ≤ M st) (hi : ∀ st, M (f i st) ≤ z) : ∀ n, n ≤ N → ∀ st, M (R n st) ≤ M st ∧ (i < n → M (R n st) ≤ z) := by
  intro n
  induction n with
  | zero => intro _ st; rw [R0]; exact ⟨Nat.le_refl _, fun q => absurd q (Nat.not_lt_zero _)⟩
  | succ n ih =>
    intro hn st
    obtain ⟨r1, r2⟩ := ih (by omega) (f n st)
    rw [Rs]
    refine ⟨Nat.le_trans r1 (hf n (by omega) st), fun hin => ?_⟩
    by_cases e : i = n
    · subst e; exact Nat.le_trans r1 (hi st)
    · exact r2 (by omega)
theorem vmp_iff {a : vα} {k x c : Nat} (hb : 1 ≤ a.1 8 k) : c ≤ vmp a k x ↔ c ≤ a.1 9 k ∧ c * a.1 8 k ≤ x := by
  unfold vmp
  rw [Nat.le_min, Nat.le_div_iff_mul_le (by omega)]
theorem vfw_0 {a : vα} {x : Nat} (hb : 1 ≤ a.1 8 0) (hs : a.1 9 0 ≤ 20) : vfw a 0 x = if x - vmp a 0 x * a.1 8 0 = 0 then vmp a 0 x else 1000000 := by
  have hm := vmp_mul (a := a) (k := 0) (x := x) (Nat.le_refl _)
  have hl : vmp a 0 x ≤ 20 := Nat.le_trans (Nat.min_le_left _ _) hs
  unfold vfw
  by_cases e : x - vmp a 0 x * a.1 8 0 = 0
  · rw [if_pos e]
    refine Nat.le_antisymm ?_ (vmnB_ge (by omega) (fun i hi => ?_))
    · have := vmnB_le (g := fun c => if x - c * a.1 8 0 = 0 then c else 1000000) (n := vmp a 0 x + 1) (i := vmp a 0 x) (by omega)
      rw [if_pos e] at this
      exact this
    · split
      · next q =>
        have hi' := vmp_mul (a := a) (k := 0) (x := x) (n := i) (by omega)
        have : vmp a 0 x * a.1 8 0 ≤ i * a.1 8 0 := by omega
        exact Nat.le_of_mul_le_mul_right this (by omega)
      · omega
  · rw [if_neg e]
    refine Nat.le_antisymm (vmnB_N _ _) (vmnB_ge (Nat.le_refl _) (fun i hi => ?_))
    rw [if_neg]
    · exact Nat.le_refl _
    · have : i * a.1 8 0 ≤ vmp a 0 x * a.1 8 0 := Nat.mul_le_mul_right _ (by omega)
      omega
section DP
variable {a : vα}
theorem vfw_py (hW : vWF a) : ∀ k, k < 4 → ∀ y, (vPy a k y → vfw a k y ≤ 20 * (k + 1)) ∧ (¬ vPy a k y → vfw a k y = 1000000) := by
  intro k
  induction k with
  | zero =>
    intro hk y
    obtain ⟨w1, w2, w3⟩ := hW.br hk
    rw [vfw_0 w1 w3]
    exact ⟨fun q => by rw [if_pos (show y - vmp a 0 y * a.1 8 0 = 0 from q)]; have := vmp_le hW (k := 0) (x := y) hk; omega, fun q => if_neg q⟩
  | succ k ih =>
    intro hk y
    have hm := vmp_le hW (k := k + 1) (x := y) hk
    refine ⟨fun ⟨i, hi, q⟩ => ?_, fun q => ?_⟩
    · have h1 := (ih (by omega) _).1 q
      have h2 := vmnB_le (g := fun c => vfw a k (y - c * a.1 8 (k + 1)) + c) (n := vmp a (k + 1) y + 1) (i := i) (by omega)
      have h3 : vfw a (k + 1) y ≤ vfw a k (y - i * a.1 8 (k + 1)) + i := h2
      omega
    · refine Nat.le_antisymm (vmnB_N _ _) (vmnB_ge (Nat.le_refl _) (fun i hi => ?_))
      have := (ih (by omega) (y - i * a.1 8 (k + 1))).2 (fun z => q ⟨i, by omega, z⟩)
      omega
theorem vfw_lt (hW : vWF a) {k y : Nat} (hk : k < 4) : vfw a k y < 1000000 ↔ vPy a k y := by
  obtain ⟨h1, h2⟩ := vfw_py hW k hk y
  constructor
  · intro q
    refine Classical.byContradiction (fun z => ?_)
    have := h2 z
    omega
  · intro q
    have := h1 q
    omega
theorem vPy_0 (hW : vWF a) {i : Nat} (hi : i ≤ a.1 9 0) : vPy a 0 (i * a.1 8 0) := by
  obtain ⟨w1, w2, w3⟩ := hW.br (k := 0) (by decide)
  have : i ≤ vmp a 0 (i * a.1 8 0) := (vmp_iff w1).mpr ⟨hi, Nat.le_refl _⟩
  have h2 := Nat.mul_le_mul_right (a.1 8 0) this
  show _ - _ = 0
  omega
theorem vPy_s (hW : vWF a) {k y i : Nat} (hk : k + 1 < 4) (hi : i ≤ a.1 9 (k + 1)) (h : vPy a k y) : vPy a (k + 1) (y + i * a.1 8 (k + 1)) := by
  obtain ⟨w1, w2, w3⟩ := hW.br hk
  exact ⟨i, (vmp_iff w1).mpr ⟨hi, by omega⟩, by rw [Nat.add_sub_cancel]; exact h⟩
theorem vPy_z (hW : vWF a) : ∀ k, k < 4 → vPy a k 0 := by
  intro k
  induction k with
  | zero => intro _; exact Nat.zero_sub _
  | succ k ih => intro hk; exact ⟨0, Nat.zero_le _, by rw [Nat.zero_sub]; exact ih (by omega)⟩
theorem vmp_mono {k x y : Nat} (h : y ≤ x) : vmp a k y ≤ vmp a k x := by
  unfold vmp
  have : y / a.1 8 k ≤ x / a.1 8 k := Nat.div_le_div_right h
  omega
theorem vpk_M {st : vQS} {A b c e l : Nat} : (vpk st A b c e l).2.1 = min st.2.1 l := by unfold vpk; split <;> rfl
theorem vskB_low {c e X y : Nat} (hW : vWF a) (hy : y ≤ X) (h : vPy a 1 y) (st : vQS) : (vskB a c e X (vmp a 1 X + 1) st).2.1 ≤ st.2.1 ∧ (vskB a c e X (vmp a 1 X + 1) st).2.1 ≤ X - y := by
  obtain ⟨b, hb, h0⟩ := h
  have hb' := vmp_mul hb
  have hbX : b ≤ vmp a 1 X := Nat.le_trans hb (vmp_mono hy)
  have h00 : y - b * a.1 8 1 - vmp a 0 (y - b * a.1 8 1) * a.1 8 0 = 0 := h0
  have m1 : vmp a 0 (y - b * a.1 8 1) * a.1 8 0 ≤ vmp a 0 (X - b * a.1 8 1) * a.1 8 0 := Nat.mul_le_mul_right _ (vmp_mono (by omega))
  have := vfold_le (S := vQS) (M := fun st => st.2.1) (f := fun n st => vpk st (vmp a 0 (X - n * a.1 8 1)) n c e (X - n * a.1 8 1 - vmp a 0 (X - n * a.1 8 1) * a.1 8 0)) (R := fun n st => vskB a c e X n st) (N := vmp a 1 X + 1) (z := X - y) (i := b) (fun _ => rfl) (fun _ _ => rfl) (fun j _ st => by rw [vpk_M]; exact Nat.min_le_left _ _) (fun st => by rw [vpk_M]; omega) _ (Nat.le_refl _) st
  exact ⟨this.1, this.2 (by omega)⟩
theorem vskB_M {c e X : Nat} (hW : vWF a) (st : vQS) : (vskB a c e X (vmp a 1 X + 1) st).2.1 ≤ st.2.1 := (vskB_low hW (Nat.zero_le _) (vPy_z hW 1 (by decide)) st).1
theorem vskC_low {e X y : Nat} (hW : vWF a) (hy : y ≤ X) (h : vPy a 2 y) (st : vQS) : (vskC a e X (vmp a 2 X + 1) st).2.1 ≤ st.2.1 ∧ (vskC a e X (vmp a 2 X + 1) st).2.1 ≤ X - y := by
  obtain ⟨c, hc, h0⟩ := h
  have hc' := vmp_mul hc
  have hcX : c ≤ vmp a 2 X := Nat.le_trans hc (vmp_mono hy)
  have := vfold_le (S := vQS) (M := fun st => st.2.1) (f := fun n st => vskB a n e (X - n * a.1 8 2) (vmp a 1 (X - n * a.1 8 2) + 1) st) (R := fun n st => vskC a e X n st) (N := vmp a 2 X + 1) (z := X - y) (i := c) (fun _ => rfl) (fun _ _ => rfl) (fun j _ st => vskB_M hW st) (fun st => by have := (vskB_low (c := c) (e := e) hW (show y - c * a.1 8 2 ≤ X - c * a.1 8 2 by omega) h0 st).2; omega) _ (Nat.le_refl _) st
  exact ⟨this.1, this.2 (by omega)⟩
theorem vskC_M {e X : Nat} (hW : vWF a) (st : vQS) : (vskC a e X (vmp a 2 X + 1) st).2.1 ≤ st.2.1 := (vskC_low hW (Nat.zero_le _) (vPy_z hW 2 (by decide)) st).1
theorem vseek_low {x y : Nat} (hW : vWF a) (hy : y ≤ x) (h : vPy a 3 y) : (vseek a x).2.1 ≤ x - y := by
  obtain ⟨e, he, h0⟩ := h
  have he' := vmp_mul he
  have heX : e ≤ vmp a 3 x := Nat.le_trans he (vmp_mono hy)
  have := vfold_le (S := vQS) (M := fun st => st.2.1) (f := fun n st => vskC a n (x - n * a.1 8 3) (vmp a 2 (x - n * a.1 8 3) + 1) st) (R := fun n st => vskD a x n st) (N := vmp a 3 x + 1) (z := x - y) (i := e) (fun _ => rfl) (fun _ _ => rfl) (fun j _ st => vskC_M hW st) (fun st => by have := (vskC_low (e := e) hW (show y - e * a.1 8 3 ≤ x - e * a.1 8 3 by omega) h0 st).2; omega) _ (Nat.le_refl _) (0, x, fun _ => 0)
  exact this.2 (by omega)
theorem vseek_py {x : Nat} (hW : vWF a) : vPy a 3 (x - (vseek a x).2.1) := by
  refine vseek_ind (I := fun st => vPy a 3 (x - st.2.1)) (by rw [Nat.sub_self]; exact vPy_z hW 3 (by decide)) (fun st e c b he hc hb hI => ?_)
  have h1 := vmp_mul he
  have h2 := vmp_mul hc
  have h3 := vmp_mul hb
  obtain ⟨Z, hZ⟩ : ∃ Z, Z = x - e * a.1 8 3 - c * a.1 8 2 - b * a.1 8 1 := ⟨_, rfl⟩
  rw [← hZ]
  obtain ⟨A, hA⟩ : ∃ A, A = vmp a 0 Z := ⟨_, rfl⟩
  have h4 := vmp_mul (show A ≤ vmp a 0 Z by omega)
  rw [← hA]
  rw [vpk_M]
  by_cases q : st.2.1 ≤ Z - A * a.1 8 0
  · rw [Nat.min_eq_left q]; exact hI
  · rw [Nat.min_eq_right (by omega)]
    have := vPy_s hW (k := 2) (by decide) (vmp_le9 he) (vPy_s hW (k := 1) (by decide) (vmp_le9 hc) (vPy_s hW (k := 0) (by decide) (vmp_le9 hb) (vPy_0 hW (i := A) (by rw [hA]; exact vmp_le9 (Nat.le_refl _)))))
    rw [show x - (Z - A * a.1 8 0) = A * a.1 8 0 + b * a.1 8 1 + c * a.1 8 2 + e * a.1 8 3 by omega]
    exact this
/-- the fewest found, else NEVER -/
def vKq (st : vQS) : Nat := if st.1 = 0 then 1000000 else st.1 - 1
def vBs (a : vα) (X : Nat) : Nat := vlst (fun b => vfw a 0 (X - b * a.1 8 1) + b) (vfw a 1 X) (vmp a 1 X + 1)
def vCs2 (a : vα) (X : Nat) : Nat := vlst (fun c => vfw a 1 (X - c * a.1 8 2) + c) (vfw a 2 X) (vmp a 2 X + 1)
def vEs (a : vα) (X : Nat) : Nat := vlst (fun e => vfw a 2 (X - e * a.1 8 3) + e) (vfw a 3 X) (vmp a 3 X + 1)
def vwB (a : vα) (c e X : Nat) : Nat → Nat := vway (vmp a 0 (X - vBs a X * a.1 8 1)) (vBs a X) c e
def vwC (a : vα) (e X : Nat) : Nat → Nat := vwB a (vCs2 a X) e (X - vCs2 a X * a.1 8 2)
def vwD (a : vα) (x : Nat) : Nat → Nat := vwC a (vEs a x) (x - vEs a x * a.1 8 3)
theorem vpk_K {st : vQS} {A b c e l : Nat} (hA : A ≤ 20) (hb : b ≤ 20) (hc : c ≤ 20) (he : e ≤ 20) (hK : vKq st ≤ 1000000) : vKq (vpk st A b c e l) = min (vKq st) ((if l = 0 then A else 1000000) + b + (c + e)) ∧ (vpk st A b c e l).2.2 = if (if l = 0 then A else 1000000) + b + (c + e) < vKq st then vway A b c e else st.2.2 := by
  by_cases hl : l = 0
  · rw [if_pos hl]
    by_cases q : st.1 = 0 ∨ A + b + c + e + 1 < st.1
    · have e1 : vpk st A b c e l = (A + b + c + e + 1, min st.2.1 l, vway A b c e) := if_pos ⟨hl, q⟩
      rw [e1]
      have e2 : vKq (A + b + c + e + 1, min st.2.1 l, vway A b c e) = A + b + c + e := by unfold vKq; rw [if_neg (by dsimp only; omega)]; dsimp only; omega
      have e3 : A + b + (c + e) < vKq st := by
        unfold vKq
        rcases q with q | q
        · rw [if_pos q]; omega
        · rw [if_neg (by omega)]; omega
      rw [e2, if_pos e3]
      exact ⟨by omega, rfl⟩
    · have e1 : vpk st A b c e l = (st.1, min st.2.1 l, st.2.2) := if_neg (fun z => q z.2)
      rw [e1]
      have e2 : vKq (st.1, min st.2.1 l, st.2.2) = vKq st := rfl
      have e3 : ¬ A + b + (c + e) < vKq st := by
        unfold vKq
        rw [if_neg (by omega)]; omega
      rw [e2, if_neg e3]
      exact ⟨by omega, rfl⟩
  · rw [if_neg hl]
    have e1 : vpk st A b c e l = (st.1, min st.2.1 l, st.2.2) := if_neg (fun z => hl z.1)
    rw [e1]
    have e2 : vKq (st.1, min st.2.1 l, st.2.2) = vKq st := rfl
    rw [e2, if_neg (by omega)]
    exact ⟨by omega, rfl⟩
theorem vskB_K {c e X : Nat} (hW : vWF a) (hc : c ≤ 20) (he : e ≤ 20) {st : vQS} (hK : vKq st ≤ 1000000) : vKq (vskB a c e X (vmp a 1 X + 1) st) = min (vKq st) (vfw a 1 X + (c + e)) ∧ (vskB a c e X (vmp a 1 X + 1) st).2.2 = if vfw a 1 X + (c + e) < vKq st then vwB a c e X else st.2.2 := by
  obtain ⟨w1, w2, w3⟩ := hW.br (k := 0) (by decide)
  exact vfold_kw (S := vQS) (K := vKq) (V := fun st => st.2.2) (f := fun n st => vpk st (vmp a 0 (X - n * a.1 8 1)) n c e (X - n * a.1 8 1 - vmp a 0 (X - n * a.1 8 1) * a.1 8 0)) (R := fun n st => vskB a c e X n st) (g := fun b => vfw a 0 (X - b * a.1 8 1) + b) (k := c + e) (N := vmp a 1 X + 1) (w := fun b => vway (vmp a 0 (X - b * a.1 8 1)) b c e) (fun _ => rfl) (fun _ _ => rfl) (fun i hi st hK => by
    have hm := vmp_le hW (k := 1) (x := X) (by decide)
    rw [vfw_0 w1 w3]
    exact vpk_K (vmp_le hW (by decide)) (by omega) hc he hK) _ (Nat.le_refl _) st hK
theorem vskC_K {e X : Nat} (hW : vWF a) (he : e ≤ 20) {st : vQS} (hK : vKq st ≤ 1000000) : vKq (vskC a e X (vmp a 2 X + 1) st) = min (vKq st) (vfw a 2 X + e) ∧ (vskC a e X (vmp a 2 X + 1) st).2.2 = if vfw a 2 X + e < vKq st then vwC a e X else st.2.2 :=
  vfold_kw (S := vQS) (K := vKq) (V := fun st => st.2.2) (f := fun n st => vskB a n e (X - n * a.1 8 2) (vmp a 1 (X - n * a.1 8 2) + 1) st) (R := fun n st => vskC a e X n st) (g := fun c => vfw a 1 (X - c * a.1 8 2) + c) (k := e) (N := vmp a 2 X + 1) (w := fun c => vwB a c e (X - c * a.1 8 2)) (fun _ => rfl) (fun _ _ => rfl) (fun i hi st hK => by
    have hm := vmp_le hW (k := 2) (x := X) (by decide)
    have := vskB_K (X := X - i * a.1 8 2) hW (show i ≤ 20 by omega) he hK
    rw [← Nat.add_assoc] at this
    exact this) _ (Nat.le_refl _) st hK
theorem vseek_K {x : Nat} (hW : vWF a) : vKq (vseek a x) = vfw a 3 x ∧ (vfw a 3 x < 1000000 → (vseek a x).2.2 = vwD a x) := by
  have e0 : vKq (0, x, fun _ => 0) = 1000000 := rfl
  have := vfold_kw (S := vQS) (K := vKq) (V := fun st => st.2.2) (f := fun n st => vskC a n (x - n * a.1 8 3) (vmp a 2 (x - n * a.1 8 3) + 1) st) (R := fun n st => vskD a x n st) (g := fun e => vfw a 2 (x - e * a.1 8 3) + e) (k := 0) (N := vmp a 3 x + 1) (w := fun e => vwC a e (x - e * a.1 8 3)) (fun _ => rfl) (fun _ _ => rfl) (fun i hi st hK => by
    have hm := vmp_le hW (k := 3) (x := x) (by decide)
    have := vskC_K (X := x - i * a.1 8 3) hW (show i ≤ 20 by omega) hK
    exact this) _ (Nat.le_refl _) (0, x, fun _ => 0) (by rw [e0]; exact Nat.le_refl _)
  obtain ⟨q1, q2⟩ := this
  rw [e0] at q1 q2
  refine ⟨q1.trans (Nat.min_eq_right (vmnB_N _ _)), fun hlt => ?_⟩
  have : (vseek a x).2.2 = if vfw a 3 x + 0 < 1000000 then vwD a x else fun _ => 0 := q2
  rw [Nat.add_zero, if_pos hlt] at this
  exact this
end DP
