/-! ===== THE REFERENCE: read ===== -/
theorem vfault_some {b : List Nat} {f : Nat} (hFT : vFT (vpsk b 3)) (h : vpF (vpsk b 3) = some f) : vfault b = some f := by
  unfold vfault
  rw [vpEnd_sk, if_neg (by rw [hFT f h]; decide), vpFail_F, h]
theorem vfault_noT {b : List Nat} (h : vpF (vpsk b 3) = none) (hT : ¬ vpT (vpsk b 3) = 0) : vfault b = some (vpP (vpsk b 3)) := by
  unfold vfault
  rw [vpEnd_sk, if_neg hT, vpFail_F, h]
theorem vfault_0 {b : List Nat} (h : vpF (vpsk b 3) = none) (hT : vpT (vpsk b 3) = 0) : vfault b = none := by
  unfold vfault
  rw [vpEnd_sk, if_pos hT, h]
theorem vTof_run {cs : Nat → List Int32} {p : Nat} {nm : Nat → Int32} {v : Int32} (h : vrunC nm (cs p) [] = some [v]) : vTof cs p nm = v := by
  unfold vTof; rw [h]
theorem vEv_run {nm : Nat → Int32} {S S' : vPS} {v : Int32} (h : vEv nm 31 S S' v) (hf : vpF S' = none) : vrunC nm ((vpC S').drop (vpC S).length) [] = some [v] := by
  obtain ⟨c, e, r⟩ := h hf
  rw [e, List.drop_left]
  exact r [] (by decide)
theorem vFT_part (b : List Nat) (k : Nat) (s : vPS) : vFT (vpPart b k s) := by unfold vpPart; exact vFT_exp b _ _
theorem vpsk_FT (b : List Nat) : ∀ k, vFT (vpsk b k) := by
  intro k
  cases k with
  | zero => rw [vpsk_0]; unfold vp0; exact vFT_adv b _
  | succ k => rw [vpsk_s]; exact vFT_part b k _
theorem vpsk_J (b : List Nat) : ∀ k, vJ 0 (vpsk b k) := by
  intro k
  induction k with
  | zero =>
    have j00 : vJ 0 ((0, 0, 0, 0, none, []) : vPS) := ⟨Nat.le_refl _, fun q => absurd rfl q.1⟩
    rw [vpsk_0]; unfold vp0; exact (vJ_adv j00).1
  | succ k ih => rw [vpsk_s]; exact vJ_part (vJ_exp ih)
theorem vpsk_E1 (b : List Nat) : vpsk b 1 = vpExp b 59 (vpEither b (vpLev b 5) (vpExp b (nI (6 + 0)) (vpsk b 0))) := by rw [vpsk_1, vpsk_0]; unfold vpPart; rfl
theorem vpsk_E2 (b : List Nat) : vpsk b 2 = vpExp b 59 (vpEither b (vpLev b 5) (vpExp b (nI (6 + 1)) (vpsk b 1))) := by rw [vpsk_2]; unfold vpPart; rfl
theorem vpsk_E3 (b : List Nat) : vpsk b 3 = vpExp b 59 (vpEither b (vpLev b 5) (vpExp b (nI (6 + 2)) (vpsk b 2))) := by rw [vpsk_3]; unfold vpPart; rfl
theorem vpst_E {b : List Nat} {S S' : vPS} {k f : Nat} (e : S' = vpExp b 59 (vpEither b (vpLev b 5) (vpExp b (nI (6 + k)) S))) (h : vpF (vpExp b (nI (6 + k)) S) = some f) : vpF S' = some f := by
  rw [e]; exact (vp_stick b).2.1 59 _ f ((vp_stick b).1 5 _ f h)
theorem vpst_S {b : List Nat} {S S' : vPS} {k f : Nat} (e : S' = vpExp b 59 (vpEither b (vpLev b 5) (vpExp b (nI (6 + k)) S))) (h : vpF S = some f) : vpF S' = some f := vpst_E e ((vp_stick b).2.1 _ _ f h)
theorem vpsk0_F (b : List Nat) : vpF (vpsk b 0) = none := by rw [vpsk_0]; exact vp0_F b
section RR
variable {Gx : Nat × (Nat → Int32)} {b : List Nat} {t : Nat} {nm : Nat → Int32} {D : Nat} {σ : vM} {post : vQ}
theorem vMd.fin {op : Nat} {s : vPS} (h : vMd b t op nm s σ) (hf : vpF s = none) : σ.1 58 26 = 0 ↔ vpT s = 0 := by
  obtain ⟨g1, g2⟩ := h.2.2.2.2.1 hf
  rcases g2 with k | k | k | ⟨c', k1, k2, k3, k4, k5, k6⟩ | k
  · exact ⟨fun _ => k.1, fun _ => k.2⟩
  · rw [k.2.2.1, k.1]; exact ⟨fun q => absurd q (by decide), fun q => absurd q (by decide)⟩
  · rw [k.2.2.2.2.2.1]
    refine ⟨fun q => absurd q (by decide), fun q => ?_⟩
    rw [k.2.2.2.1] at q
    rcases vwtk_sm (vwordIx ((b.drop (vpP s)).take (vpN s - vpP s))) with w | ⟨w1, w2, w⟩ | w
    · rw [w] at q; exact absurd q (by decide)
    · rw [w] at q
      have := (nI_eq (b := 0) (by omega) (by decide)).mp q; omega
    · rw [w] at q; exact absurd q (by decide)
  · have := vsign_c k2
    rw [k4]
    refine ⟨fun q => absurd q (by decide), fun q => ?_⟩
    rw [k3] at q
    have := (nI_eq (b := 0) (by omega) (by decide)).mp q; omega
  · rw [k.2, k.1]; exact ⟨fun q => absurd q (by decide), fun q => absurd q (by decide)⟩
theorem vm_read {w : Nat} (hb : b.length ≤ 160) (hb2 : ∀ x ∈ b, x < 256) (ht : t < 6) (hw3 : w < 3) (hnm : ∀ i, i < 6 → σ.1 58 (17 + i) = nm i) (h60 : σ.1 60 t = nI b.length) (h59 : ∀ k, k < b.length → σ.1 59 (160 * t + k) = nI (b.getD k 0)) (h : ∀ σ' v, vagI vMs σ σ' → (vfault b = none → σ'.1 58 30 = 0 ∧ v = vTof (vcomp b) w nm) → (∀ f, vfault b = some f → ¬ σ'.1 58 30 = 0 ∧ σ'.1 58 31 = nI f) → post (some (.int v)) σ') : VM (true, Gx) (D + 41) iX7_read 0 [some (.ref 58), some (.int (nI t)), some (.int (nI w)), none, none, none] [] σ post := by
  have hFT := vpsk_FT b
  have hJs := vpsk_J b
  have hpls := vpl_sk b
  have hfN := vfault_noT (b := b)
  have hf0 := vfault_0 (b := b)
  have hfS := fun f => vfault_some (b := b) (f := f) (hFT 3)
  have vc0 := vcomp_0 b
  have vc1 := vcomp_1 b
  have vc2 := vcomp_2 b
  have eS1 := vpsk_E1 b
  have eS2 := vpsk_E2 b
  have eS3 := vpsk_E3 b
  have h00 := vpsk0_F b
  have c00 : vpC (vpsk b 0) = [] := by rw [vpsk_0]; unfold vp0; rw [vpAdv_C]
  have e00 : vpsk b 0 = vpAdv b (0, 0, 0, 0, none, []) := by rw [vpsk_0]; unfold vp0; rfl
  have jj0 := hJs 0
  have jj1 := hJs 1
  have jj2 := hJs 2
  have ft1 := hFT 1
  have ft2 := hFT 2
  have ft3 := hFT 3
  have pl0 := hpls 0
  have pl1 := hpls 1
  have pl2 := hpls 2
  have pl3 := hpls 3
  have ft0 := hFT 0
  clear hFT hJs hpls
  generalize vpsk b 0 = S0 at *
  generalize vpsk b 1 = S1 at *
  generalize vpsk b 2 = S2 at *
  generalize vpsk b 3 = S3 at *
  have fin : ∀ σ' v0 v1 v2, vagI vMs σ σ' → vMd b t 0 nm S3 σ' → (vpF S3 = none → vTof (vcomp b) 0 nm = v0 ∧ vTof (vcomp b) 1 nm = v1 ∧ vTof (vcomp b) 2 nm = v2) → VM (true, Gx) (D + 41) iX7_read 127 [some (.ref 58), some (.int (nI t)), some (.int (nI w)), some (.int v0), some (.int v1), some (.int v2)] [] σ' post := by
    intro s2 v0 v1 v2 hs2 hM2 hv
    have ret : ∀ s3, (∀ v, (v = if w = 0 then v0 else if w = 1 then v1 else v2) → post (some (.int v)) s3) → VM (true, Gx) (D + 41) iX7_read 145 [some (.ref 58), some (.int (nI t)), some (.int (nI w)), some (.int v0), some (.int v1), some (.int v2)] [] s3 post := fun s3 hp => by
      rcases (show w = 0 ∨ w = 1 ∨ w = 2 by omega) with e | e | e
      · subst e
        exact VM.go [] ⟨fun q => absurd rfl q, fun _ => hp v0 rfl⟩
      · subst e
        exact VM.go [] ⟨fun _ => ⟨fun q => absurd rfl q, fun _ => hp v1 rfl⟩, fun q => absurd q (by decide)⟩
      · subst e
        exact VM.go [] ⟨fun _ => ⟨fun _ => hp v2 rfl, fun q => absurd q (by decide)⟩, fun q => absurd q (by decide)⟩
    cases hF : vpF S3 with
    | some f =>
      have e30 : s2.1 58 30 = 1 := hM2.2.2.2.1.trans (vbad_1 hF)
      have ef := hfS f hF
      have n30 : ¬ s2.1 58 30 = 0 := by rw [e30]; decide
      refine VM.go [145] ⟨fun _ => ret s2 (fun v _ => h s2 v hs2 (fun q => by rw [ef] at q; cases q) (fun g q => ?_)), fun q => absurd q n30⟩
      rw [ef] at q; cases q
      exact ⟨n30, hM2.2.2.2.2.2.1 f hF⟩
    | none =>
      have e30 : s2.1 58 30 = 0 := hM2.2.2.2.1.trans (vbad_0 hF)
      obtain ⟨g0, g1, g2⟩ := hv hF
      have hend := hM2.fin hF
      by_cases hT : vpT S3 = 0
      · have ef := hf0 hF hT
        refine VM.go [145] ⟨fun q => absurd e30 q, fun _ => ⟨fun _ => ret s2 (fun v hv' => h s2 v hs2 (fun _ => ⟨e30, ?_⟩) (fun g q => by rw [ef] at q; cases q)), fun q => absurd (hend.mpr hT) q⟩⟩
        rw [hv']
        rcases (show w = 0 ∨ w = 1 ∨ w = 2 by omega) with e | e | e
        · subst e; exact g0.symm
        · subst e; exact g1.symm
        · subst e; exact g2.symm
      · have ef := hfN hF hT
        refine VM.go [145] ⟨fun q => absurd e30 q, fun _ => ⟨fun q => absurd (hend.mp q) hT, fun _ => ⟨_, VM.at (vm_fail hM2 (fun s3 hs3 hM3 => ?_)), fun _ _ hh => hh⟩⟩⟩
        have eFf : vpF (vpFail S3) = some (vpP S3) := by rw [vpFail_F, hF]
        have n30 : ¬ s3.1 58 30 = 0 := fun q => vpFail_no S3 (vbad_i.mp (hM3.2.2.2.1.symm.trans q))
        refine VM.at (ret s3 (fun v _ => h s3 v (hs2.tr (hs3.up (fun c k => vMp_s))) (fun q => by rw [ef] at q; cases q) (fun g q => ?_)))
        rw [ef] at q; cases q
        exact ⟨n30, hM3.2.2.2.2.2.1 _ eFf⟩
  have st3 : ∀ f, vpF S2 = some f → vpF S3 = some f := fun f => vpst_S eS3
  have st2 : ∀ f, vpF S1 = some f → vpF S2 = some f := fun f => vpst_S eS2
  have n32 : vpF S3 = none → vpF S2 = none := fun q => by
    cases hF : vpF S2 with
    | none => rfl
    | some f => rw [st3 f hF] at q; cases q
  have n21 : vpF S2 = none → vpF S1 = none := fun q => by
    cases hF : vpF S1 with
    | none => rfl
    | some f => rw [st2 f hF] at q; cases q
  have run : ∀ {p : Nat} {S S' : vPS} {v : Int32}, vcomp b p = (vpC S').drop (vpC S).length → vEv nm 31 S S' v → vpF S' = none → vTof (vcomp b) p nm = v := fun e hE hF => vTof_run (by rw [e]; exact vEv_run hE hF)
  have key2 : ∀ σ' v0 v1, vagI vMs σ σ' → vMd b t 0 nm S2 σ' → (vpF S2 = none → vTof (vcomp b) 0 nm = v0 ∧ vTof (vcomp b) 1 nm = v1) → VM (true, Gx) (D + 41) iX7_read 92 [some (.ref 58), some (.int (nI t)), some (.int (nI w)), some (.int v0), some (.int v1), none] [] σ' post := by
    intro s2 v0 v1 hs2 hM2 hv
    cases hF : vpF S2 with
    | some f =>
      have e30 : s2.1 58 30 = 1 := hM2.2.2.2.1.trans (vbad_1 hF)
      have n30 : ¬ s2.1 58 30 = 0 := by rw [e30]; decide
      have f3 := st3 f hF
      exact VM.go [127] ⟨fun q => absurd q n30, fun _ => fin s2 v0 v1 0 hs2 (hM2.same hF f3 ft3 pl3) (fun q => by rw [f3] at q; cases q)⟩
    | none =>
      have e30 : s2.1 58 30 = 0 := hM2.2.2.2.1.trans (vbad_0 hF)
      obtain ⟨g0, g1⟩ := hv hF
      have go : ∀ x : Int32, ((x = 1 ∧ vpT S2 = nI (6 + 2)) ∨ (x = 0 ∧ ¬ vpT S2 = nI (6 + 2))) → VM (true, Gx) (D + 40) iX7_part 0 [some (.ref 58), some (.int x), none] [] s2 (fun v s3 => ∃ y, v = some (.int y) ∧ VM (true, Gx) (D + 41) iX7_read 127 [some (.ref 58), some (.int (nI t)), some (.int (nI w)), some (.int v0), some (.int v1), some (.int y)] [] s3 post) := fun x hx => vm_part (k := 2) (by decide) eS3 (fun f => vpst_E eS3) ft3 pl3 hx hF jj2 hM2 (fun s3 v2 hs3 hM3 hE3 => ⟨v2, rfl, fin s3 v0 v1 v2 (hs2.tr (hs3.up (fun c k => vMp_s))) hM3 (fun q => ⟨g0, g1, run vc2 hE3 q⟩)⟩)
      refine VM.go [127] ⟨fun _ => ⟨_, VM.at (vm_isWord (d := D + 38) (j := 8) (by decide) hM2 (fun q1 q2 => ?_) (fun q => ?_)), fun _ _ hh => hh⟩, fun q => absurd e30 q⟩
      · exact ⟨_, VM.at (go 1 (Or.inl ⟨rfl, vkt_T q2 (by decide)⟩)), fun _ _ hh => by obtain ⟨y, rfl, hh⟩ := hh; exact VM.at (VM.go [127] hh)⟩
      · exact ⟨_, VM.at (go 0 (Or.inr ⟨rfl, vkt_no hM2 q (by decide) (by decide)⟩)), fun _ _ hh => by obtain ⟨y, rfl, hh⟩ := hh; exact VM.at (VM.go [127] hh)⟩
  have key1 : ∀ σ' v0, vagI vMs σ σ' → vMd b t 0 nm S1 σ' → (vpF S1 = none → vTof (vcomp b) 0 nm = v0) → VM (true, Gx) (D + 41) iX7_read 59 [some (.ref 58), some (.int (nI t)), some (.int (nI w)), some (.int v0), none, none] [] σ' post := by
    intro s2 v0 hs2 hM2 hv
    cases hF : vpF S1 with
    | some f =>
      have e30 : s2.1 58 30 = 1 := hM2.2.2.2.1.trans (vbad_1 hF)
      have n30 : ¬ s2.1 58 30 = 0 := by rw [e30]; decide
      have f2 := st2 f hF
      exact VM.go [92] ⟨fun q => absurd q n30, fun _ => key2 s2 v0 0 hs2 (hM2.same hF f2 ft2 pl2) (fun q => by rw [f2] at q; cases q)⟩
    | none =>
      have e30 : s2.1 58 30 = 0 := hM2.2.2.2.1.trans (vbad_0 hF)
      have g0 := hv hF
      have go : ∀ x : Int32, ((x = 1 ∧ vpT S1 = nI (6 + 1)) ∨ (x = 0 ∧ ¬ vpT S1 = nI (6 + 1))) → VM (true, Gx) (D + 40) iX7_part 0 [some (.ref 58), some (.int x), none] [] s2 (fun v s3 => ∃ y, v = some (.int y) ∧ VM (true, Gx) (D + 41) iX7_read 92 [some (.ref 58), some (.int (nI t)), some (.int (nI w)), some (.int v0), some (.int y), none] [] s3 post) := fun x hx => vm_part (k := 1) (by decide) eS2 (fun f => vpst_E eS2) ft2 pl2 hx hF jj1 hM2 (fun s3 v1 hs3 hM3 hE3 => ⟨v1, rfl, key2 s3 v0 v1 (hs2.tr (hs3.up (fun c k => vMp_s))) hM3 (fun q => ⟨g0, run vc1 hE3 q⟩)⟩)
      refine VM.go [92] ⟨fun _ => ⟨_, VM.at (vm_isWord (d := D + 38) (j := 7) (by decide) hM2 (fun q1 q2 => ?_) (fun q => ?_)), fun _ _ hh => hh⟩, fun q => absurd e30 q⟩
      · exact ⟨_, VM.at (go 1 (Or.inl ⟨rfl, vkt_T q2 (by decide)⟩)), fun _ _ hh => by obtain ⟨y, rfl, hh⟩ := hh; exact VM.at (VM.go [92] hh)⟩
      · exact ⟨_, VM.at (go 0 (Or.inr ⟨rfl, vkt_no hM2 q (by decide) (by decide)⟩)), fun _ _ hh => by obtain ⟨y, rfl, hh⟩ := hh; exact VM.at (VM.go [92] hh)⟩
  have key0 : ∀ σ', vagI vMs σ σ' → vMd b t 0 nm S0 σ' → VM (true, Gx) (D + 41) iX7_read 38 [some (.ref 58), some (.int (nI t)), some (.int (nI w)), none, none, none] [] σ' post := by
    intro s2 hs2 hM2
    have go : ∀ x : Int32, ((x = 1 ∧ vpT S0 = nI (6 + 0)) ∨ (x = 0 ∧ ¬ vpT S0 = nI (6 + 0))) → VM (true, Gx) (D + 40) iX7_part 0 [some (.ref 58), some (.int x), none] [] s2 (fun v s3 => ∃ y, v = some (.int y) ∧ VM (true, Gx) (D + 41) iX7_read 59 [some (.ref 58), some (.int (nI t)), some (.int (nI w)), some (.int y), none, none] [] s3 post) := fun x hx => vm_part (k := 0) (by decide) eS1 (fun f => vpst_E eS1) ft1 pl1 hx h00 jj0 hM2 (fun s3 v0 hs3 hM3 hE3 => ⟨v0, rfl, key1 s3 v0 (hs2.tr (hs3.up (fun c k => vMp_s))) hM3 (fun q => run (by rw [vc0, c00]; rfl) hE3 q)⟩)
    refine VM.go [59] ⟨_, VM.at (vm_isWord (d := D + 38) (j := 6) (by decide) hM2 (fun q1 q2 => ?_) (fun q => ?_)), fun _ _ hh => hh⟩
    · exact ⟨_, VM.at (go 1 (Or.inl ⟨rfl, vkt_T q2 (by decide)⟩)), fun _ _ hh => by obtain ⟨y, rfl, hh⟩ := hh; exact VM.at (VM.go [59] hh)⟩
    · exact ⟨_, VM.at (go 0 (Or.inr ⟨rfl, vkt_no hM2 q (by decide) (by decide)⟩)), fun _ _ hh => by obtain ⟨y, rfl, hh⟩ := hh; exact VM.at (VM.go [59] hh)⟩
  obtain ⟨A, hA⟩ : ∃ A, A = vput (vput (vput (vput (vput σ 58 23 (nI (160 * t))) 58 24 (nI b.length)) 58 25 0) 58 29 0) 58 30 0 := ⟨_, rfl⟩
  have hsA : vagI vMs σ A := by rw [hA]; exact ((((vagI.rf.put rfl).put rfl).put rfl).put rfl).put rfl
  have hXA : vMx b t A := ⟨hb, hb2, ht, by rw [hA]; rfl, by rw [hA]; rfl, fun k hk => (hsA.get rfl).trans (h59 k hk)⟩
  have nxt : VM (true, Gx) (D + 40) iX7_next 0 [some (.ref 58), none, none] [] A (fun v s3 => v = none ∧ VM (true, Gx) (D + 41) iX7_read 38 [some (.ref 58), some (.int (nI t)), some (.int (nI w)), none, none, none] [] s3 post) := by
    refine vm_next (d := D + 39) (s := (0, 0, 0, 0, none, [])) rfl hXA (Nat.zero_le _) (by rw [hA]; rfl) (fun s2 hs2 k27 kk kf => ⟨rfl, key0 s2 (hsA.tr (hs2.up (fun c k => vMp_s))) ?_⟩)
    rw [← e00] at k27 kk
    refine ⟨hXA.ag hs2, fun i hi => (kf _ (by omega)).trans ((by rw [hA, vput_ne (Or.inr (by omega)), vput_ne (Or.inr (by omega)), vput_ne (Or.inr (by omega)), vput_ne (Or.inr (by omega)), vput_ne (Or.inr (by omega))]; exact hnm i hi)), (kf 29 (by decide)).trans (by rw [hA]; rfl), (kf 30 (by decide)).trans (by rw [hA, vbad_0 h00]; rfl), fun _ => ⟨k27, kk⟩, fun f q => (by rw [h00] at q; cases q), ft0, pl0⟩
  refine VM.go [38, 34] ⟨t, rfl, ht, Or.inl rfl, ?_⟩
  show VM (true, Gx) (D + 41) iX7_read 34 _ _ _ _
  have eA : vput (vput (vput (vput (vput σ 58 23 (160 * nI t)) 58 24 ((vput σ 58 23 (160 * nI t)).1 60 t)) 58 25 0) 58 29 0) 58 30 0 = A := by
    rw [hA, show (160 : Int32) * nI t = nI (160 * t) from by rw [show (160 : Int32) = nI 160 from rfl, pk_mul], show (vput σ 58 23 (nI (160 * t))).1 60 t = nI b.length from h60]
  rw [eA]
  exact VM.go [38] ⟨_, VM.at nxt, fun _ _ hh => by rcases hh with ⟨rfl, hh⟩; exact VM.at hh⟩
end RR
