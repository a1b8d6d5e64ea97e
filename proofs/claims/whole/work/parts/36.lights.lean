/-! ===== in range still; lights, taken ===== -/
theorem vWF.put {a : vα} {c k v : Nat} (hW : vWF a) (hc : (1 ≤ c ∧ c ≤ 9) ∨ c = 38 ∨ c = 39) (h1 : c = 1 → (k = 0 ∧ v < 4096) ∨ (k = 1 ∧ v < a.1 0 4) ∨ (k = 2 ∧ v ≤ 6 ∧ a.1 1 2 ≤ v)) (h2 : c = 2 → v < 6 ∧ a.1 1 2 ≤ k) (h3 : c = 3 → v ≤ 9) (h4 : c = 4 → v ≤ 999) (h5 : c = 5 → v < 4096) (h6 : c = 6 → v ≤ 99) (h7 : c = 7 → v ≤ 900000) (h8 : c = 8 → 1 ≤ v ∧ v ≤ 99) (h9 : c = 9 → v ≤ 20) (h38 : c = 38 → v ≤ 160) (h39 : c = 39 → v < 256) : vWF (vaput a c k v) := by
  obtain ⟨⟨w11, w12, w13⟩, w2, w3, w4, w5, w6, ⟨w71, w72⟩, w8, w9, ⟨w10, w11'⟩⟩ := hW
  have ne : ∀ c' k', ¬ c' = c → (vaput a c k v).1 c' k' = a.1 c' k' := fun c' k' e => vaput_ne (Or.inl e)
  have e0 : ∀ k', (vaput a c k v).1 0 k' = a.1 0 k' := fun k' => ne 0 k' (by clear h1 h2 h3 h4 h5 h6 h7 h8 h9 h38 h39; omega)
  have e10 : ∀ c' k', 10 ≤ c' → c' ≤ 18 → (vaput a c k v).1 c' k' = a.1 c' k' := fun c' k' _ _ => ne c' k' (by clear h1 h2 h3 h4 h5 h6 h7 h8 h9 h38 h39; omega)
  unfold vWF
  refine ⟨⟨?_, ?_, ?_⟩, ?_, fun j hj => ⟨?_, ?_, ?_⟩, fun j hj => ?_, fun j hj => ⟨?_, ?_⟩, fun j hj => ⟨?_, ?_, ?_⟩, ⟨?_, fun j hj => ?_⟩, fun s hs => ?_, ?_, ?_, fun hi => ?_⟩
  · rw [vaput_get]; split
    · next q => rcases h1 q.1.symm with e | e | e
                · exact e.2
                · exact absurd (q.2.trans e.1) (by decide)
                · exact absurd (q.2.trans e.1) (by decide)
    · exact w11
  · rw [e0, vaput_get]; split
    · next q => rcases h1 q.1.symm with e | e | e
                · exact absurd (q.2.trans e.1) (by decide)
                · exact e.2
                · exact absurd (q.2.trans e.1) (by decide)
    · exact w12
  · rw [vaput_get]; split
    · next q => rcases h1 q.1.symm with e | e | e
                · exact absurd (q.2.trans e.1) (by decide)
                · exact absurd (q.2.trans e.1) (by decide)
                · exact e.2.1
    · exact w13
  · rw [e0]; exact w2
  · rw [vaput_get]; split
    · next q => exact (h2 q.1.symm).1
    · exact (w3 j hj).1
  · rw [vaput_get]; split
    · next q => exact h3 q.1.symm
    · exact (w3 j hj).2.1
  · rw [vaput_get]; split
    · next q => exact h4 q.1.symm
    · exact (w3 j hj).2.2
  · rw [vaput_get]; split
    · next q => exact h5 q.1.symm
    · exact w4 j hj
  · rw [vaput_get]; split
    · next q => exact h6 q.1.symm
    · exact (w5 j hj).1
  · rw [vaput_get]; split
    · next q => exact h7 q.1.symm
    · exact (w5 j hj).2
  · rw [vaput_get]; split
    · next q => exact (h8 q.1.symm).1
    · exact (w6 j hj).1
  · rw [vaput_get]; split
    · next q => exact (h8 q.1.symm).2
    · exact (w6 j hj).2.1
  · rw [vaput_get]; split
    · next q => exact h9 q.1.symm
    · exact (w6 j hj).2.2
  · rw [vaput_get]; split
    · next q => exact h38 q.1.symm
    · exact w71
  · rw [vaput_get]; split
    · next q => exact h39 q.1.symm
    · exact w72 j hj
  · have q1 : ¬ 50 + 2 * s = c := by clear h1 h2 h3 h4 h5 h6 h7 h8 h9 h38 h39; omega
    rw [ne _ _ q1, ne _ _ q1]; exact w8 s hs
  · intro t ht
    rw [e0] at ht
    exact w9 t ht
  · rw [e0]; exact w10
  · rw [e0] at hi
    obtain ⟨⟨x1, x2, x3⟩, x4, x5, x6, x7, x8⟩ := w11' hi
    refine ⟨⟨?_, ?_, ?_⟩, fun j hj => ?_, fun j hj => ?_, fun j hj => ?_, fun j hj => ?_, fun j hj => ?_⟩
    · rw [e10 _ _ (by decide) (by decide)]; exact x1
    · rw [e10 _ _ (by decide) (by decide), e0]; exact x2
    · rw [e10 _ _ (by decide) (by decide), vaput_get]; split
      · next q => rcases h1 q.1.symm with e | e | e
                  · exact absurd (q.2.trans e.1) (by decide)
                  · exact absurd (q.2.trans e.1) (by decide)
                  · exact Nat.le_trans x3 e.2.2
      · exact x3
    · rw [e10 _ _ (by decide) (by decide), e10 _ _ (by decide) (by decide), e10 _ _ (by decide) (by decide)]; exact x4 j hj
    · rw [e10 _ _ (by decide) (by decide)]; exact x5 j hj
    · rw [e10 _ _ (by decide) (by decide), e10 _ _ (by decide) (by decide)]; exact x6 j hj
    · rw [e10 _ _ (by decide) (by decide), e10 _ _ (by decide) (by decide)]; exact x7 j hj
    · rw [e10 _ _ (by decide) (by decide)] at hj
      rw [e10 _ _ (by decide) (by decide), vaput_ne]
      · exact x8 j hj
      · by_cases e : 2 = c
        · exact Or.inr (fun e2 => absurd (Nat.lt_of_lt_of_le hj x3) (Nat.not_lt.mpr (by rw [e2]; exact (h2 e.symm).2)))
        · exact Or.inl e
theorem vWF.seen0 {a : vα} {n : Nat} (hW : vWF a) (i : Nat) : vWF (vseen0 a n i) := by
  induction i with
  | zero => exact hW
  | succ i ih => exact ih.put (Or.inl (by decide)) nofun nofun nofun nofun (fun _ => by decide) nofun nofun nofun nofun nofun nofun
theorem vWF.light {a : vα} {k m y : Nat} (hW : vWF a) (hk : k < 6) (hm : m ≤ 9) (hy : y ≤ 999) (hn : a.1 1 2 < 6) : vWF (vlight a k m y) := by
  unfold vlight
  have w1 := hW.put (c := 2) (k := a.1 1 2) (v := k) (Or.inl (by decide)) nofun (fun _ => ⟨hk, Nat.le_refl _⟩) nofun nofun nofun nofun nofun nofun nofun nofun nofun
  have w2 := w1.put (c := 3) (k := a.1 1 2) (v := m) (Or.inl (by decide)) nofun nofun (fun _ => hm) nofun nofun nofun nofun nofun nofun nofun nofun
  have w3 := w2.put (c := 4) (k := a.1 1 2) (v := y) (Or.inl (by decide)) nofun nofun nofun (fun _ => hy) nofun nofun nofun nofun nofun nofun nofun
  refine (w3.seen0 5).put (Or.inl (by decide)) (fun _ => Or.inr (Or.inr ⟨rfl, by omega, ?_⟩)) nofun nofun nofun nofun nofun nofun nofun nofun nofun nofun
  rw [vseen0_ne (by decide), vaput_ne (Or.inl (by decide)), vaput_ne (Or.inl (by decide)), vaput_ne (Or.inl (by decide))]
  omega
theorem sLight_cs (a : vα) (k0 m0 y0 : Int32) : sLight a k0 m0 y0 = (-2, a) ∨ sLight a k0 m0 y0 = (-4, a) ∨ ∃ k m y, k < 6 ∧ m ≤ 9 ∧ y ≤ 999 ∧ 1 ≤ y ∧ ¬ a.1 1 2 = 6 ∧ sLight a k0 m0 y0 = (nI (a.1 1 2), vlight a k m y) := by
  unfold sLight
  cases hk : vix k0 6 with
  | none => exact Or.inl rfl
  | some k =>
    cases hm : vix m0 10 with
    | none => exact Or.inl rfl
    | some m =>
      cases hy : vix y0 1000 with
      | none => exact Or.inl rfl
      | some y =>
        dsimp only
        have := vix_some (by decide) hk
        have := vix_some (by decide) hm
        have := vix_some (by decide) hy
        by_cases e : y = 0
        · rw [if_pos e]; exact Or.inl rfl
        · rw [if_neg e]
          by_cases e2 : a.1 1 2 = 6
          · rw [if_pos e2]; exact Or.inr (Or.inl rfl)
          · rw [if_neg e2]
            exact Or.inr (Or.inr ⟨k, m, y, by omega, by omega, by omega, by omega, e2, rfl⟩)
theorem vWF.sLight {a : vα} (hW : vWF a) (k0 m0 y0 : Int32) : vWF (sLight a k0 m0 y0).2 := by
  rcases sLight_cs a k0 m0 y0 with e | e | ⟨k, m, y, h1, h2, h3, h4, h5, e⟩
  · rw [e]; exact hW
  · rw [e]; exact hW
  · rw [e]; exact hW.light h1 h2 h3 (by have := hW.1.2.2; omega)
theorem vlight_keep {a : vα} {k m y : Nat} : (vlight a k m y).2 = a.2 ∧ ∀ c j, (10 ≤ c ∨ c = 0) → (vlight a k m y).1 c j = a.1 c j := by
  unfold vlight
  refine ⟨vseen0_2, fun c j hc => ?_⟩
  rw [vaput_ne (Or.inl (by omega)), vseen0_ne (by omega), vaput_ne (Or.inl (by omega)), vaput_ne (Or.inl (by omega)), vaput_ne (Or.inl (by omega))]
theorem sLight_keep (a : vα) (k0 m0 y0 : Int32) : (sLight a k0 m0 y0).2.2 = a.2 ∧ ∀ c j, (10 ≤ c ∨ c = 0) → (sLight a k0 m0 y0).2.1 c j = a.1 c j := by
  rcases sLight_cs a k0 m0 y0 with e | e | ⟨k, m, y, h1, h2, h3, h4, h5, e⟩
  · rw [e]; exact ⟨rfl, fun _ _ _ => rfl⟩
  · rw [e]; exact ⟨rfl, fun _ _ _ => rfl⟩
  · rw [e]; exact vlight_keep
def vltL (it : Nat → Int32) (sz : Nat) : Nat → Nat → Nat → vα → vR2
  | 0, _, came, a => (nI came, a)
  | m + 1, p, came, a => if p + 3 ≤ sz then vltL it sz m (p + 3) (if 0 ≤ (sLight a (it p) (it (p + 1)) (it (p + 2))).1 then came + 1 else came) (sLight a (it p) (it (p + 1)) (it (p + 2))).2 else (-12, a)
def sLights (a : vα) (s0 o0 at0 n0 : Int32) : vR2 := match vix s0 4, vix o0 3, vix n0 7 with
  | some s, some so, some n => if ¬ a.1 (50 + 2 * s) 0 = 0 ∧ ¬ a.1 (50 + 2 * s) 0 = so + 1 then (-13, a) else if a.1 (50 + 2 * s) 0 = 0 then (-11, a) else if n = 0 then (0, a) else match vix at0 41 with
    | none => (-12, a)
    | some p => vltL (a.2.1 s) (a.1 (50 + 2 * s) 1) n p 0 a
  | _, _, _ => (-2, a)
section LI
variable {G : vG} {d : Nat} {σ : vM} {post : vQ} {a : vα}
theorem vb_lightsL {s sz n : Nat} {it : Nat → Int32} {x0 x1 : Int32} (hs : s < 4) (hn : n ≤ 6) (hz : sz ≤ 40) {at' : Nat} (hat : at' ≤ 40) : ∀ m i p came b s2 (y8 : Option Value), i + m = n → p = at' + 3 * i → vRC b s2 → vWF b → b.2.1 s = it → b.1 (50 + 2 * s) 1 = sz → vag vKl σ s2 → (∀ σ', vag vKl σ σ' → vRC (vltL it sz m p came b).2 σ' → post (some (.int (vltL it sz m p came b).1)) σ') → VM G (d + 2) iX6_lights 77 [some (.ref 0), some (.int x0), some (.int x1), some (.int (nI at')), some (.int (nI n)), some (.ref (50 + 2 * s)), some (.int (nI came)), some (.int (nI i)), y8] [] s2 post := by
  intro m
  induction m with
  | zero =>
    intro i p came b s2 y8 him hp hC2 hW2 hit hsz hs2 h
    refine VM.go [77] ⟨fun _ => h s2 hs2 hC2, fun q => absurd ?_ q⟩
    exact nI_le (show n ≤ i by omega) (by omega)
  | succ m ih =>
    intro i p came b s2 y8 him hp hC2 hW2 hit hsz hs2 h
    have ep : nI at' + 3 * nI i = nI p := by
      rw [show (3 : Int32) = nI 3 from rfl, pk_mul, nI_add, hp]
    have z1 : s2.1 (50 + 2 * s) 1 = nI sz := by rw [← hsz]; exact hC2.sz hs
    refine VM.go [92] ⟨fun q => absurd q (nI_ge (show i < n by omega) (by omega)), fun _ => ?_⟩
    show VM G (d + 2) iX6_lights 92 _ _ _ _
    rw [ep]
    unfold vltL at h
    have hr := vrow_of hs
    by_cases hq : p + 3 ≤ sz
    · rw [if_pos hq] at h
      have hv : vhas sz (nI p) 3 = some (p, 3) := vhas_nI hz hq
      have i1 : s2.1 (50 + 2 * s + 1) p = it p := by rw [← hit, show 50 + 2 * s + 1 = 51 + 2 * s by omega]; exact hC2.2.2.1 s p hs (by omega)
      have i2 : s2.1 (50 + 2 * s + 1) (p + 1) = it (p + 1) := by rw [← hit, show 50 + 2 * s + 1 = 51 + 2 * s by omega]; exact hC2.2.2.1 s (p + 1) hs (by omega)
      have i3 : s2.1 (50 + 2 * s + 1) (p + 2) = it (p + 2) := by rw [← hit, show 50 + 2 * s + 1 = 51 + 2 * s by omega]; exact hC2.2.2.1 s (p + 2) hs (by omega)
      have call : VM G (d + 1) iX6_light 0 [some (.ref 0), some (.int (it p)), some (.int (it (p + 1))), some (.int (it (p + 2)))] [] s2 (fun v s3 => ∃ r, v = some (.int r) ∧ VM G (d + 2) iX6_lights 135 [some (.ref 0), some (.int x0), some (.int x1), some (.int (nI at')), some (.int (nI n)), some (.ref (50 + 2 * s)), some (.int (nI came)), some (.int (nI i)), some (.int (nI p))] [.int r] s3 post) := by
        refine vc_light hC2 hW2 (fun s3 hs3 hC3 => ⟨_, rfl, ?_⟩)
        have hk := sLight_keep b (it p) (it (p + 1)) (it (p + 2))
        have hW3 := hW2.sLight (it p) (it (p + 1)) (it (p + 2))
        have next : VM G (d + 2) iX6_lights 141 [some (.ref 0), some (.int x0), some (.int x1), some (.int (nI at')), some (.int (nI n)), some (.ref (50 + 2 * s)), some (.int (nI (if 0 ≤ (sLight b (it p) (it (p + 1)) (it (p + 2))).1 then came + 1 else came))), some (.int (nI i)), some (.int (nI p))] [] s3 post := by
          refine VM.go [77] ?_
          show VM G (d + 2) iX6_lights 77 _ _ _ _
          rw [nI_1]
          exact ih (i + 1) (p + 3) _ _ s3 _ (by omega) (by omega) hC3 hW3 (by rw [hk.1]; exact hit) (by rw [hk.2 _ _ (Or.inl (by omega))]; exact hsz) (hs2.tr hs3) h
        refine VM.go [141] ⟨fun q => ?_, fun q => ?_⟩
        · rw [if_neg (Int32.not_le.mpr q)] at next
          exact next
        · rw [if_pos (Int32.not_lt.mp q), ← nI_1] at next
          exact next
      have ca : VM G (d + 1) iX3_has 0 [some (.ref (50 + 2 * s)), some (.int (nI p)), some (.int 3)] [] s2 (fun v s3 => v = some (.int 1) ∧ s3 = s2) := vb_has hs z1 hz (fun _ _ _ => ⟨rfl, rfl⟩) (fun e => by rw [hv] at e; cases e)
      have cb : VM G (d + 1) iX3_item 0 [some (.ref (50 + 2 * s)), some (.int (nI p))] [] s2 (fun v s3 => v = some (.int (it p)) ∧ s3 = s2) := vb_item hr z1 (by omega) hz (by rw [i1]; exact ⟨rfl, rfl⟩)
      have cc : VM G (d + 1) iX3_item 0 [some (.ref (50 + 2 * s)), some (.int (nI p + 1))] [] s2 (fun v s3 => v = some (.int (it (p + 1))) ∧ s3 = s2) := by rw [nI_1]; exact vb_item hr z1 (by omega) hz (by rw [i2]; exact ⟨rfl, rfl⟩)
      have cd : VM G (d + 1) iX3_item 0 [some (.ref (50 + 2 * s)), some (.int (nI p + 2))] [] s2 (fun v s3 => v = some (.int (it (p + 2))) ∧ s3 = s2) := by rw [show nI p + 2 = nI (p + 2) from nI_add p 2]; exact vb_item hr z1 (by omega) hz (by rw [i3]; exact ⟨rfl, rfl⟩)
      rcases (show s = 0 ∨ s = 1 ∨ s = 2 ∨ s = 3 by omega) with rfl | rfl | rfl | rfl
      all_goals exact VM.go [135] ⟨_, VM.at ca, fun _ _ hh => by
        obtain ⟨rfl, rfl⟩ := hh
        exact ⟨fun _ => ⟨_, VM.at cb, fun _ _ hh => by
          obtain ⟨rfl, rfl⟩ := hh
          exact ⟨_, VM.at cc, fun _ _ hh => by
            obtain ⟨rfl, rfl⟩ := hh
            exact ⟨_, VM.at cd, fun _ _ hh => by
              obtain ⟨rfl, rfl⟩ := hh
              exact ⟨_, VM.at call, fun _ _ hh => by
                obtain ⟨r, rfl, hh⟩ := hh
                exact VM.at hh⟩⟩⟩⟩, fun c => absurd c (by decide)⟩⟩
    · rw [if_neg hq] at h
      have hv : vhas sz (nI p) 3 = none := vhas_no hz (fun i' n' e e' r => by
        rw [nI_eq (by omega) (by omega)] at e
        rw [show (3 : Int32) = nI 3 from rfl, nI_eq (by decide) (by omega)] at e'
        omega)
      have ca : VM G (d + 1) iX3_has 0 [some (.ref (50 + 2 * s)), some (.int (nI p)), some (.int 3)] [] s2 (fun v s3 => v = some (.int 0) ∧ s3 = s2) := vb_has hs z1 hz (fun i n e => by rw [hv] at e; cases e) (fun _ => ⟨rfl, rfl⟩)
      rcases (show s = 0 ∨ s = 1 ∨ s = 2 ∨ s = 3 by omega) with rfl | rfl | rfl | rfl
      all_goals exact VM.go [135] ⟨_, VM.at ca, fun _ _ hh => by
        obtain ⟨rfl, rfl⟩ := hh
        exact ⟨fun c => absurd rfl c, fun _ => h _ hs2 hC2⟩⟩
theorem vc_lights {s0 o0 at0 n0 : Int32} (hC : vRC a σ) (hW : vWF a) (h : ∀ σ', vag vKl σ σ' → vRC (sLights a s0 o0 at0 n0).2 σ' → post (some (.int (sLights a s0 o0 at0 n0).1)) σ') : VM G (d + 2) iX6_lights 0 [some (.ref 0), some (.int s0), some (.int o0), some (.int at0), some (.int n0), none, none, none, none] [] σ post := by
  have bad : ∀ v, sLights a s0 o0 at0 n0 = (v, a) → post (some (.int v)) σ := fun v e => by
    have := h σ vag.rf (by rw [e]; exact hC)
    rw [e] at this
    exact this
  refine VM.go [30] ⟨_, VM.at (vb_isSheet (fun s hs e1 => ?_) (fun hno => ?_)), fun _ _ hh => hh⟩
  · refine ⟨fun c => absurd c (by decide), fun _ => ⟨_, VM.at (vb_between (fun b1 b2 => ?_) (fun hno => ?_)), fun _ _ hh => hh⟩⟩
    · obtain ⟨so, hso, e2⟩ := vnat (m := 2) (by decide) b1 b2
      refine ⟨fun c => absurd c (by decide), fun _ => ⟨_, VM.at (vb_between (fun b1 b2 => ?_) (fun hno => ?_)), fun _ _ hh => hh⟩⟩
      · obtain ⟨n, hn, e3⟩ := vnat (m := 6) (by decide) b1 b2
        refine ⟨fun _ => ?_, fun c => absurd c (by decide)⟩
        subst e1; subst e2; subst e3
        have es : sLights a (nI s) (nI so) at0 (nI n) = if ¬ a.1 (50 + 2 * s) 0 = 0 ∧ ¬ a.1 (50 + 2 * s) 0 = so + 1 then ((-13 : Int32), a) else if a.1 (50 + 2 * s) 0 = 0 then (-11, a) else if n = 0 then (0, a) else match vix at0 41 with
          | none => (-12, a)
          | some p => vltL (a.2.1 s) (a.1 (50 + 2 * s) 1) n p 0 a := by
          unfold sLights; rw [vix_nI hs (by decide), vix_nI (show so < 3 by omega) (by decide), vix_nI (show n < 7 by omega) (by decide)]
        have s1 := hC.2.1 s hs
        have z1 := hC.sz hs
        obtain ⟨r1, r2, r3⟩ := hW.2.2.2.2.2.2.2.1 s hs
        have f1 : σ.1 (50 + 2 * s) 0 = -1 ↔ a.1 (50 + 2 * s) 0 = 0 := by rw [s1, nI_m1e (by omega)]
        have f2 : ¬ σ.1 (50 + 2 * s) 0 = -1 → (σ.1 (50 + 2 * s) 0 = nI so ↔ a.1 (50 + 2 * s) 0 = so + 1) := fun q => by
          rw [f1] at q
          rw [s1, show a.1 (50 + 2 * s) 0 = (a.1 (50 + 2 * s) 0 - 1) + 1 by omega, nI_pred, nI_eq (by omega) (by omega)]
          omega
        have k1 : σ.1 (50 + 2 * s) 0 = -1 → post (some (.int (-11))) σ := fun q => by
          rw [f1] at q
          rw [if_neg (fun z => z.1 q), if_pos q] at es
          exact bad _ es
        have k3 : ¬ σ.1 (50 + 2 * s) 0 = -1 → ¬ σ.1 (50 + 2 * s) 0 = nI so → post (some (.int (-13))) σ := fun q q2 => by
          rw [f2 q] at q2
          rw [f1] at q
          rw [if_pos ⟨q, q2⟩] at es
          exact bad _ es
        have k4 : ¬ σ.1 (50 + 2 * s) 0 = -1 → σ.1 (50 + 2 * s) 0 = nI so → VM G (d + 2) iX6_lights 77 [some (.ref 0), some (.int (nI s)), some (.int (nI so)), some (.int at0), some (.int (nI n)), some (.ref (50 + 2 * s)), some (.int (nI 0)), some (.int (nI 0)), none] [] σ post := fun q q2 => by
          rw [f2 q] at q2
          rw [f1] at q
          rw [if_neg (fun z => z.2 q2), if_neg q] at es
          by_cases hn0 : n = 0
          · rw [if_pos hn0] at es
            subst hn0
            exact VM.go [] ⟨fun _ => bad _ es, fun q => absurd (Int32.le_refl _) q⟩
          · rw [if_neg hn0] at es
            cases hv : vix at0 41 with
            | some p =>
              rw [hv] at es
              obtain ⟨hp, rfl⟩ := vix_some (by decide) hv
              dsimp only at es
              rw [es] at h
              exact vb_lightsL (it := a.2.1 s) (sz := a.1 (50 + 2 * s) 1) hs hn r2 (show p ≤ 40 by omega) n 0 p 0 a σ none (by omega) (by omega) hC hW rfl rfl vag.rf h
            | none =>
              rw [hv] at es
              have hvh : vhas (a.1 (50 + 2 * s) 1) at0 3 = none := vhas_no r2 (fun i' n' e e' r => vix_none (by decide) hv i' (by omega) e)
              have ca : VM G (d + 1) iX3_has 0 [some (.ref (50 + 2 * s)), some (.int at0), some (.int 3)] [] σ (fun v s3 => v = some (.int 0) ∧ s3 = σ) := vb_has hs z1 r2 (fun i n e => by rw [hvh] at e; cases e) (fun _ => ⟨rfl, rfl⟩)
              refine VM.go [92] ⟨fun q => absurd q (nI_ge (show 0 < n by omega) (by omega)), fun _ => ?_⟩
              show VM G (d + 2) iX6_lights 92 _ _ _ _
              rw [show at0 + 3 * nI 0 = at0 from by rw [show (3 : Int32) * nI 0 = 0 by decide, Int32.add_zero]]
              rcases (show s = 0 ∨ s = 1 ∨ s = 2 ∨ s = 3 by omega) with rfl | rfl | rfl | rfl
              all_goals exact VM.go [] ⟨_, VM.at ca, fun _ _ hh => by
                obtain ⟨rfl, rfl⟩ := hh
                exact ⟨fun c => absurd rfl c, fun _ => bad _ es⟩⟩
        rcases (show s = 0 ∨ s = 1 ∨ s = 2 ∨ s = 3 by omega) with rfl | rfl | rfl | rfl
        · exact VM.go [77] ⟨0, rfl, by decide, fun q => ⟨fun z => absurd q z, fun _ => k1 q⟩, fun q => ⟨fun q2 => ⟨fun _ => k4 q q2, fun z => absurd z q⟩, fun q2 => k3 q q2⟩⟩
        · exact VM.go [77] ⟨1, rfl, by decide, fun q => ⟨fun z => absurd q z, fun _ => k1 q⟩, fun q => ⟨fun q2 => ⟨fun _ => k4 q q2, fun z => absurd z q⟩, fun q2 => k3 q q2⟩⟩
        · exact VM.go [77] ⟨2, rfl, by decide, fun q => ⟨fun z => absurd q z, fun _ => k1 q⟩, fun q => ⟨fun q2 => ⟨fun _ => k4 q q2, fun z => absurd z q⟩, fun q2 => k3 q q2⟩⟩
        · exact VM.go [77] ⟨3, rfl, by decide, fun q => ⟨fun z => absurd q z, fun _ => k1 q⟩, fun q => ⟨fun q2 => ⟨fun _ => k4 q q2, fun z => absurd z q⟩, fun q2 => k3 q q2⟩⟩
      · refine ⟨fun c => absurd rfl c, fun _ => bad _ ?_⟩
        unfold sLights
        rw [vix_btw (x := n0) (m := 6) (by decide) hno]
        cases vix s0 4 <;> cases vix o0 3 <;> rfl
    · refine ⟨fun _ => bad _ ?_, fun c => absurd rfl c⟩
      unfold sLights
      rw [vix_btw (x := o0) (m := 2) (by decide) hno]
      cases vix s0 4 <;> rfl
  · refine ⟨fun _ => bad _ ?_, fun c => absurd rfl c⟩
    unfold sLights
    rw [vix_no (x := s0) (by decide) hno]
end LI
/-! ===== taken ===== -/
def vundr (kd k : Nat) : Bool := match kd with
  | 0 => Nat.beq k 0
  | 1 => Nat.beq k 1 || Nat.beq k 0
  | 2 => Nat.beq k 2 || Nat.beq k 0
  | 3 => Nat.beq k 3 || (Nat.beq k 1 || Nat.beq k 0)
  | 4 => Nat.beq k 4 || (Nat.beq k 2 || Nat.beq k 0)
  | _ => Nat.beq k 5 || Nat.beq k 0
def sTaken (a : vα) (light kind : Int32) : Int32 := match vix kind 6 with
  | none => -2
  | some k => match vix light (a.1 1 2) with
    | none => -11
    | some l => if vundr (a.1 2 l) k then nI (a.1 3 l) else -13
section TK
variable {G : vG} {d : Nat} {σ : vM} {post : vQ} {a : vα}
theorem vc_taken {l0 k0 : Int32} (hC : vRC a σ) (hW : vWF a) (h : post (some (.int (sTaken a l0 k0))) σ) : VM G (d + 1) iX6_taken 0 [some (.ref 0), some (.int l0), some (.int k0), none, none] [] σ post := by
  have hn6 := hW.1.2.2
  refine VM.go [] ⟨_, VM.at (vb_between (fun b1 b2 => ?_) (fun hno => ?_)), fun _ _ hh => hh⟩
  · obtain ⟨k, hk, e1⟩ := vnat (m := 5) (by decide) b1 b2
    refine VM.at (VM.go [36] ⟨fun _ => ⟨_, VM.at (vb_isLight hC hW (fun l hl e2 => ?_) (fun hno => ?_)), fun _ _ hh => hh⟩, fun c => absurd c (by decide)⟩)
    · refine ⟨fun _ => ?_, fun c => absurd c (by decide)⟩
      subst e1; subst e2
      unfold sTaken at h
      rw [vix_nI (show k < 6 by omega) (by decide), vix_nI hl (by omega)] at h
      dsimp only at h
      have hl6 : l < 6 := by omega
      have e2 : σ.1 2 l = nI (a.1 2 l) := hC.num 2 l rfl
      have e3 : σ.1 3 l = nI (a.1 3 l) := hC.num 3 l rfl
      have hkd := (hW.2.2.1 l hl6).1
      rw [← e3] at h
      have yes : ∀ x i, k = x → x < 6 → i < 6 → vundr (a.1 2 l) k = true → VM G (d + 1) iX6_taken 36 [some (.ref 0), some (.int (nI l)), some (.int (nI k)), some (.int (nI x)), some (.int (nI i))] [] σ post := fun x i e hx hi hu => by
        rw [if_pos hu] at h
        subst e
        refine VM.go [] ⟨fun q => absurd q (nI_ge hi (by decide)), fun _ => ⟨fun q => absurd q (nI_pos (by omega)), fun _ => ⟨fun q => absurd q (nI_ge hx (by decide)), fun _ => ⟨fun q => absurd rfl q, fun _ => ⟨l, rfl, hl6, h⟩⟩⟩⟩⟩
      have step : ∀ x i, ¬ k = x → x < 6 → i < 6 → VM G (d + 1) iX6_taken 36 [some (.ref 0), some (.int (nI l)), some (.int (nI k)), some (.int (vUnder.getD x 0)), some (.int (nI (i + 1)))] [] σ post → VM G (d + 1) iX6_taken 36 [some (.ref 0), some (.int (nI l)), some (.int (nI k)), some (.int (nI x)), some (.int (nI i))] [] σ post := fun x i e hx hi g => by
        rw [← nI_1] at g
        exact VM.go [36] ⟨fun q => absurd q (nI_ge hi (by decide)), fun _ => ⟨fun q => absurd q (nI_pos (by omega)), fun _ => ⟨fun q => absurd q (nI_ge hx (by decide)), fun _ => ⟨fun _ => ⟨x, rfl, hx, g⟩, fun q => absurd ((nI_eq (by omega) (by omega)).mp q).symm e⟩⟩⟩⟩
      have last : ∀ i, i < 6 → vundr (a.1 2 l) k = false → VM G (d + 1) iX6_taken 36 [some (.ref 0), some (.int (nI l)), some (.int (nI k)), some (.int (-1)), some (.int (nI i))] [] σ post := fun i hi hu => by
        rw [if_neg (by rw [hu]; decide)] at h
        exact VM.go [] ⟨fun _ => h, fun _ => ⟨fun _ => h, fun q => absurd (by decide) q⟩⟩
      have t0 : ∀ i, i < 5 → (vundr (a.1 2 l) k = Nat.beq k 0) → VM G (d + 1) iX6_taken 36 [some (.ref 0), some (.int (nI l)), some (.int (nI k)), some (.int (nI 0)), some (.int (nI i))] [] σ post := fun i hi hu => by
        by_cases e : k = 0
        · exact yes 0 i e (by decide) (by omega) (by rw [hu, e]; rfl)
        · exact step 0 i e (by decide) (by omega) (last (i + 1) (by omega) (by rw [hu]; cases hb : Nat.beq k 0 with
            | false => rfl
            | true => exact absurd (Nat.eq_of_beq_eq_true hb) e))
      have bne : ∀ x, ¬ k = x → Nat.beq k x = false := fun x e => by
        cases hb : Nat.beq k x with
        | false => rfl
        | true => exact absurd (Nat.eq_of_beq_eq_true hb) e
      refine VM.at (VM.go [36] ⟨l, rfl, hl6, ?_⟩)
      show VM G (d + 1) iX6_taken 36 _ _ _ _
      rw [e2]
      rcases (show a.1 2 l = 0 ∨ a.1 2 l = 1 ∨ a.1 2 l = 2 ∨ a.1 2 l = 3 ∨ a.1 2 l = 4 ∨ a.1 2 l = 5 by omega) with ek | ek | ek | ek | ek | ek
      all_goals rw [ek] at yes last t0 ⊢
      · exact t0 0 (by decide) rfl
      · by_cases e : k = 1
        · exact yes 1 0 e (by decide) (by decide) (by rw [e]; rfl)
        · exact step 1 0 e (by decide) (by decide) (t0 1 (by decide) (by show (Nat.beq k 1 || Nat.beq k 0) = _; rw [bne 1 e]; rfl))
      · by_cases e : k = 2
        · exact yes 2 0 e (by decide) (by decide) (by rw [e]; rfl)
        · exact step 2 0 e (by decide) (by decide) (t0 1 (by decide) (by show (Nat.beq k 2 || Nat.beq k 0) = _; rw [bne 2 e]; rfl))
      · by_cases e : k = 3
        · exact yes 3 0 e (by decide) (by decide) (by rw [e]; rfl)
        · refine step 3 0 e (by decide) (by decide) ?_
          by_cases e' : k = 1
          · exact yes 1 1 e' (by decide) (by decide) (by rw [e']; rfl)
          · exact step 1 1 e' (by decide) (by decide) (t0 2 (by decide) (by show (Nat.beq k 3 || (Nat.beq k 1 || Nat.beq k 0)) = _; rw [bne 3 e, bne 1 e']; rfl))
      · by_cases e : k = 4
        · exact yes 4 0 e (by decide) (by decide) (by rw [e]; rfl)
        · refine step 4 0 e (by decide) (by decide) ?_
          by_cases e' : k = 2
          · exact yes 2 1 e' (by decide) (by decide) (by rw [e']; rfl)
          · exact step 2 1 e' (by decide) (by decide) (t0 2 (by decide) (by show (Nat.beq k 4 || (Nat.beq k 2 || Nat.beq k 0)) = _; rw [bne 4 e, bne 2 e']; rfl))
      · by_cases e : k = 5
        · exact yes 5 0 e (by decide) (by decide) (by rw [e]; rfl)
        · exact step 5 0 e (by decide) (by decide) (t0 1 (by decide) (by show (Nat.beq k 5 || Nat.beq k 0) = _; rw [bne 5 e]; rfl))
    · refine ⟨fun c => absurd rfl c, fun _ => ?_⟩
      unfold sTaken at h
      rw [e1, vix_nI (show k < 6 by omega) (by decide), vix_no (x := l0) (by omega) hno] at h
      exact h
  · refine ⟨fun c => absurd rfl c, fun _ => ?_⟩
    unfold sTaken at h
    rw [vix_btw (x := k0) (m := 5) (by decide) hno] at h
    exact h
end TK
