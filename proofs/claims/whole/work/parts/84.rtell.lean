/-! ===== THE REFERENCE: tells, its parts ===== -/
/-- the lowest is the last to be tried -/
theorem vts_front {sm : Bool} {F : Nat → Bool} {lo : Nat} : ∀ K, vts sm F lo (K + 1) = if F lo then (if sm then 2 ^ lo ||| (vts sm F (lo + 1) K).1 else (vts sm F (lo + 1) K).1, (vts sm F (lo + 1) K).2.1 + 1, lo + 1) else vts sm F (lo + 1) K := by
  intro K
  induction K with
  | zero =>
    unfold vts
    unfold vts
    cases F lo <;> cases sm <;> simp
  | succ K ih =>
    have e1 : vts sm F lo (K + 1 + 1) = if F (lo + (K + 1)) then (if sm then (vts sm F lo (K + 1)).1 ||| 2 ^ (lo + (K + 1)) else (vts sm F lo (K + 1)).1, (vts sm F lo (K + 1)).2.1 + 1, if (vts sm F lo (K + 1)).2.1 = 0 then lo + (K + 1) + 1 else (vts sm F lo (K + 1)).2.2) else vts sm F lo (K + 1) := rfl
    have e2 : vts sm F (lo + 1) (K + 1) = if F (lo + 1 + K) then (if sm then (vts sm F (lo + 1) K).1 ||| 2 ^ (lo + 1 + K) else (vts sm F (lo + 1) K).1, (vts sm F (lo + 1) K).2.1 + 1, if (vts sm F (lo + 1) K).2.1 = 0 then lo + 1 + K + 1 else (vts sm F (lo + 1) K).2.2) else vts sm F (lo + 1) K := rfl
    rw [e1, e2, ih, show lo + 1 + K = lo + (K + 1) by omega]
    obtain ⟨x1, x2, x3⟩ := vts sm F (lo + 1) K
    cases F lo <;> cases F (lo + (K + 1)) <;> cases sm <;> simp [Nat.or_assoc]
theorem vts_bits {P : Nat → Bool} : ∀ n, (vts true P 0 n).1 = vowb P n := by
  intro n
  induction n with
  | zero => rfl
  | succ n ih =>
    unfold vts vowb
    rw [Nat.zero_add]
    split
    · dsimp only
      rw [if_pos rfl, ih]
    · exact ih
theorem vts_cg {sm : Bool} {F G : Nat → Bool} {lo : Nat} : ∀ K, (∀ j, lo ≤ j → j < lo + K → F j = G j) → vts sm F lo K = vts sm G lo K := by
  intro K
  induction K with
  | zero => exact fun _ => rfl
  | succ K ih =>
    intro h
    unfold vts
    rw [h (lo + K) (by omega) (by omega), ih (fun j h1 h2 => h j h1 (by omega))]
theorem vaput_row {a : vα} {c l v : Nat} : (vaput a c l v).1 c = vupd (a.1 c) l v := by
  funext k
  show (if c = c ∧ k = l then v else a.1 c k) = if k = l then v else a.1 c k
  by_cases e : k = l
  · rw [if_pos ⟨rfl, e⟩, if_pos e]
  · rw [if_neg (fun q => e q.2), if_neg e]
theorem vowA_T {a b : vα} {c t p : Nat} {tr : vT3} (h2 : b.2 = a.2) (hn : b.1 1 2 = a.1 1 2) (h3 : b.1 2 = tr.1) (h4 : b.1 3 = tr.2.1) (h5 : b.1 4 = tr.2.2) (h6 : b.1 5 = a.1 5) : vowA b c t p = vowT a t c p tr := by
  funext l
  unfold vowA vowT vse
  rw [h2, hn, h3, h4, h5, h6]
/-- b is a but for clouds, rule or a trait, and in range -/
def vB (a b : vα) : Prop := b.2 = a.2 ∧ (∀ c k, ¬ (1 ≤ c ∧ c ≤ 4) → b.1 c k = a.1 c k) ∧ b.1 1 2 = a.1 1 2 ∧ b.1 1 1 < a.1 0 4 ∧ vMr (b.1 1 0) (b.1 1 2) (b.1 1 1) (b.1 2) (b.1 3) (b.1 4) (b.1 5)
theorem vWF.trait {a : vα} (hW : vWF a) {c l v : Nat} (h : (c = 1 ∧ l = 0 ∧ v < 4096) ∨ (c = 1 ∧ l = 1 ∧ v < a.1 0 4) ∨ (c = 2 ∧ v < 6) ∨ (c = 3 ∧ v ≤ 9) ∨ (c = 4 ∧ v ≤ 999)) : vB a (vaput a c l v) := by
  obtain ⟨m1, m2, m3, m4, m5, m6, m7⟩ := hW.mr
  have hT := hW.2.1
  have hr := hW.1.2.1
  have e1 : ∀ k, ¬ (c = 1 ∧ k = l) → (vaput a c l v).1 1 k = a.1 1 k := fun k hk => vaput_ne (by omega)
  have eo : ∀ c' k, ¬ c' = c → (vaput a c l v).1 c' k = a.1 c' k := fun c' k e => vaput_ne (Or.inl e)
  have eq : ∀ k, (vaput a c l v).1 c k = if k = l then v else a.1 c k := fun k => by rw [vaput_row]; rfl
  have n2 : (vaput a c l v).1 1 2 = a.1 1 2 := e1 2 (by omega)
  refine ⟨rfl, fun c' k hc => eo c' k (by omega), n2, ?_, ?_, by rw [n2]; exact m2, ?_, fun k hk => ?_, fun k hk => ?_, fun k hk => ?_, fun k hk => ?_⟩
  · by_cases z : c = 1 ∧ 1 = l
    · rw [z.1] at eq ⊢; rw [eq, if_pos z.2]; omega
    · rw [e1 1 z]; exact hr
  · by_cases z : c = 1 ∧ 0 = l
    · rw [z.1] at eq ⊢; rw [eq, if_pos z.2]; omega
    · rw [e1 0 z]; exact m1
  · by_cases z : c = 1 ∧ 1 = l
    · rw [z.1] at eq ⊢; rw [eq, if_pos z.2]; omega
    · rw [e1 1 z]; exact m3
  · rw [n2] at hk
    by_cases z : c = 2
    · rw [z] at eq ⊢; rw [eq]
      split
      · omega
      · exact m4 k hk
    · rw [eo 2 k (by omega)]; exact m4 k hk
  · rw [n2] at hk
    by_cases z : c = 3
    · rw [z] at eq ⊢; rw [eq]
      split
      · omega
      · exact m5 k hk
    · rw [eo 3 k (by omega)]; exact m5 k hk
  · rw [n2] at hk
    by_cases z : c = 4
    · rw [z] at eq ⊢; rw [eq]
      split
      · omega
      · exact m6 k hk
    · rw [eo 4 k (by omega)]; exact m6 k hk
  · rw [eo 5 k (by omega)]; exact m7 k hk
theorem vB.rf {a : vα} (hW : vWF a) : vB a a := ⟨rfl, fun _ _ _ => rfl, rfl, hW.1.2.1, hW.mr⟩
section RTE
variable {Gx : Nat × (Nat → Int32)} {d D : Nat} {σ : vM} {post : vQ} {a b : vα}
theorem vRM.kd2 {k v : Nat} (h : vRM a σ) : vRM (vaput a 2 k v) (vput σ 62 k (nI v)) := by
  obtain ⟨⟨p1, p2, p3, p4, p5⟩, h2, h3, h4, ⟨k1, k2, k3, k4⟩, h6⟩ := h
  have na : ∀ c' k', ¬ c' = 2 → (vaput a 2 k v).1 c' k' = a.1 c' k' := fun c' k' e => vaput_ne (Or.inl e)
  have ns : ∀ c' k', ¬ c' = 62 → (vput σ 62 k (nI v)).1 c' k' = σ.1 c' k' := fun c' k' e => vput_ne (Or.inl e)
  refine ⟨⟨?_, ?_, ?_, ?_, ?_⟩, fun k' hk' => ?_, fun k' => ?_, fun t ht => ?_, ⟨?_, ?_, ?_, fun k' => ?_⟩, fun s hs => ?_⟩
  · rw [ns _ _ (by decide), na _ _ (by decide)]; exact p1
  · rw [ns _ _ (by decide), na _ _ (by decide)]; exact p2
  · rw [ns _ _ (by decide), na _ _ (by decide)]; exact p3
  · rw [ns _ _ (by decide), na _ _ (by decide)]; exact p4
  · rw [ns _ _ (by decide), na _ _ (by decide)]; exact p5
  · rw [na 1 2 (by decide)] at hk'
    rw [vput_get, vaput_get]
    by_cases z : k' = k
    · rw [if_pos ⟨rfl, z⟩, if_pos ⟨rfl, z⟩]
    · rw [if_neg (fun q => z q.2), if_neg (fun q => z q.2)]; exact h2 k' hk'
  · rw [ns _ _ (by decide), ns _ _ (by decide), ns _ _ (by decide), ns _ _ (by decide), ns _ _ (by decide), ns _ _ (by decide), ns _ _ (by decide), ns _ _ (by decide), na _ _ (by decide), na _ _ (by decide), na _ _ (by decide), na _ _ (by decide), na _ _ (by decide), na _ _ (by decide), na _ _ (by decide), na _ _ (by decide), na _ _ (by decide)]
    exact h3 k'
  · rw [na 0 4 (by decide)] at ht
    exact ⟨(ns _ _ (by decide)).trans (h4 t ht).1, fun k' hk => (ns _ _ (by decide)).trans ((h4 t ht).2 k' hk)⟩
  · rw [ns _ _ (by decide), na _ _ (by decide), na _ _ (by decide)]; exact k1
  · rw [ns _ _ (by decide), na _ _ (by decide)]; exact k2
  · rw [ns _ _ (by decide), na _ _ (by decide)]; exact k3
  · rw [ns _ _ (by decide), ns _ _ (by decide), ns _ _ (by decide), ns _ _ (by decide), ns _ _ (by decide), ns _ _ (by decide), ns _ _ (by decide), na _ _ (by decide), na _ _ (by decide), na _ _ (by decide), na _ _ (by decide), na _ _ (by decide), na _ _ (by decide), na _ _ (by decide)]
    exact k4 k'
  · rw [ns _ _ (by decide), ns _ _ (by decide), ns _ _ (by decide), na _ _ (by omega), na _ _ (by omega)]
    obtain ⟨q1, q2⟩ := h6 s hs
    refine ⟨q1, fun z => ?_⟩
    obtain ⟨r1, r2, r3⟩ := q2 z
    exact ⟨r1, r2, fun k' hk => (ns _ _ (by decide)).trans (r3 k' hk)⟩
theorem vRM.tellB {t : Nat} (hR : vRM b σ) (hb : vB a b) (hW : vWF a) (hA : vAc a) (ht : t < a.1 0 4) : vMT Gx (D + 41) t (vTof (vcomp (a.2.2 t))) σ := by
  intro s2 w post hw hs2 hp
  obtain ⟨-, -, hlen, hbyte⟩ := hW.2.2.2.2.2.2.2.2.1 t ht
  have h04 : b.1 0 4 = a.1 0 4 := hb.2.1 0 4 (by omega)
  obtain ⟨e1, e2⟩ := hR.2.2.2.1 t (by rw [h04]; exact ht)
  rw [hb.1] at e1 e2
  have ht6 : t < 6 := by have := hW.2.1.2; omega
  refine vm_read (b := a.2.2 t) (nm := fun i => s2.1 58 (17 + i)) hlen hbyte ht6 hw (fun i _ => rfl) ((hs2.get rfl).trans e1) (fun k hk => (hs2.get rfl).trans (e2 k hk)) (fun s3 v hs3 h1 _ => ?_)
  rw [(h1 (hA t ht)).2]
  exact hp s3 hs3
theorem vr_owesB {p l : Nat} (hR : vRM b σ) (hb : vB a b) (hW : vWF a) (hA : vAc a) (hp : p < 5) (hl : l < a.1 1 2) (h : ∀ σ', vagI vMs σ σ' → post (some (.int (nI (vowA b (b.1 1 0) (b.1 1 1) p l)))) σ') : VM (true, Gx) (D + 44) iX7_owesFor 0 [some (.ref 58), some (.int (nI p)), some (.int (nI l)), none, none, none] [] σ post := by
  have hM := hR.tellB (Gx := Gx) (D := D) hb hW hA hb.2.2.2.1
  rw [← hb.1] at hM
  have htk := hW.tok hb.2.2.2.1
  rw [← hb.1] at htk
  exact vm_owesFor (d := D + 38) htk hp (by rw [hb.2.2.1]; exact hl) hb.2.2.2.2 hR.mb hM h
theorem vr_firstO {p s : Nat} {it : Nat → Int32} (hR : vRM b σ) (hb : vB a b) (hW : vWF a) (hA : vAc a) (hp : p < 5) (hs : s < 4) (h82 : ∀ l, l < a.1 1 2 → σ.1 82 (40 * s + l) = it l) (h : ∀ σ', vagI vMs σ σ' → post (some (.int (vfo (vowA b (b.1 1 0) (b.1 1 1) p) it 7 (a.1 1 2) 0))) σ') : VM (true, Gx) (D + 45) iX7_firstOther 0 [some (.ref 58), some (.int (nI s)), some (.int (nI p)), none] [] σ post := by
  have hn6 := hW.1.2.2
  obtain ⟨n, hn⟩ : ∃ n, n = a.1 1 2 := ⟨_, rfl⟩
  rw [← hn] at hn6 h82 h
  have m11 : ∀ s2, vagI vMs σ s2 → s2.1 58 11 = nI n := fun s2 hs2 => by rw [hs2.get rfl, hR.1.2.2.2.2, hb.2.2.1, hn]
  have key : ∀ i, i ≤ n → ∀ s2, vagI vMs σ s2 → (∀ σ', vagI vMs σ σ' → post (some (.int (vfo (vowA b (b.1 1 0) (b.1 1 1) p) it 7 (n - i) i))) σ') → VM (true, Gx) (D + 45) iX7_firstOther 2 [some (.ref 58), some (.int (nI s)), some (.int (nI p)), some (.int (nI i))] [] s2 post := by
    refine vloop _ ?_ ?_
    · intro s2 hs2 h'
      rw [Nat.sub_self] at h'
      exact VM.go [] ⟨fun _ => h' s2 hs2, fun q => absurd (by rw [m11 s2 hs2]; exact nI_le (Nat.le_refl _) (by omega)) q⟩
    · intro i hi ih s2 hs2 h'
      rw [show n - i = (n - (i + 1)) + 1 by omega] at h'
      unfold vfo at h'
      have ix : (40 : Int32) * nI s + nI i = nI (40 * s + i) := by rw [show (40 : Int32) = nI 40 from rfl, pk_mul, nI_add]
      refine VM.go [2] ⟨fun q => absurd q (by rw [m11 s2 hs2]; exact nI_ge hi (by omega)), fun _ => ⟨_, VM.at (vr_owesB (hR.ag (hs2.up vMo_s)) hb hW hA hp (by rw [← hn]; exact hi) (fun s3 hs3 => ?_)), fun _ _ hh => hh⟩⟩
      have hs3' := hs2.tr hs3
      have ev : s3.1 82 (40 * s + i) = it i := (hs3'.get rfl).trans (h82 i hi)
      refine ⟨40 * s + i, ix, by omega, fun c => ?_, fun c => ?_⟩
      · have c' : nI (vowA b (b.1 1 0) (b.1 1 1) p i) = s3.1 82 (40 * s + i) := c
        rw [ev] at c'
        rw [if_neg (fun q => q.2 c')] at h'
        have := ih s3 hs3' h'
        rw [← nI_1] at this
        exact VM.at (VM.go [2] this)
      · have c' : ¬ nI (vowA b (b.1 1 0) (b.1 1 1) p i) = s3.1 82 (40 * s + i) := c
        rw [ev] at c'
        rw [if_pos ⟨by omega, c'⟩] at h'
        exact h' s3 hs3'
  exact VM.go [2] (key 0 (Nat.zero_le _) σ vagI.rf h)
theorem vm_lays6 {j : Nat} {v0 : Int32} (hj : j < 6) (h : post none (vput σ 62 j v0)) : VM (true, Gx) d iX7_lays 0 [some (.ref 58), some (.int (nI 6)), some (.int (nI j)), some (.int v0)] [] σ post := VM.go [] ⟨fun _ => ⟨fun _ => ⟨fun _ => ⟨fun _ => ⟨fun _ => ⟨fun _ => ⟨fun q => absurd rfl q, fun _ => ⟨nofun, j, rfl, hj, h⟩⟩, fun q => absurd q (by decide)⟩, fun q => absurd q (by decide)⟩, fun q => absurd q (by decide)⟩, fun q => absurd q (by decide)⟩, fun q => absurd q (by decide)⟩, fun q => absurd q (by decide)⟩
theorem vm_lays7 {j0 : Int32} {v0 : Int32} (h : post none (vput σ 58 4 v0)) : VM (true, Gx) d iX7_lays 0 [some (.ref 58), some (.int (nI 7)), some (.int j0), some (.int v0)] [] σ post := VM.go [] ⟨fun _ => ⟨fun _ => ⟨fun _ => ⟨fun _ => ⟨fun _ => ⟨fun _ => ⟨fun _ => h, fun q => absurd q (by decide)⟩, fun q => absurd q (by decide)⟩, fun q => absurd q (by decide)⟩, fun q => absurd q (by decide)⟩, fun q => absurd q (by decide)⟩, fun q => absurd q (by decide)⟩, fun q => absurd q (by decide)⟩
end RTE
