/-! ===== THE REFERENCE: tells ===== -/
section RTM
variable {Gx : Nat × (Nat → Int32)} {d D : Nat} {σ : vM} {post : vQ} {a b : vα}
/-- what tells() answers, on a sheet that is there -/
def vtA (a : vα) (s p w : Nat) : Int32 :=
  if w = 0 then vfo (vowA a (a.1 1 0) (a.1 1 1) p) (a.2.1 s) 7 (a.1 1 2) 0
  else if w = 1 then nI (vowb (fun t => vfit (vowA a (a.1 1 0) t p) (a.2.1 s) (a.1 1 2)) (a.1 0 4))
  else if w = 2 then nI (vowb (fun t => vfit (vowA a (if t = 12 then 0 else 2 ^ t) (a.1 1 1) p) (a.2.1 s) (a.1 1 2)) 13)
  else if w / 10 ≤ 2 then nI (vtsO a s p (w % 10) (w / 10)).1 else if w / 10 = 3 then nI (vtsO a s p (w % 10) (w / 10)).2.1 else nI (vtsO a s p (w % 10) (w / 10)).2.2 - 1
/-- a trait of a light is tried -/
theorem vr_tellsT {so tc mc K lo tcl p s l w : Nat} {x4 x8 : Int32} {sm : Bool} (hc : (so = 6 ∧ tc = 2 ∧ mc = 62 ∧ K = 6 ∧ lo = 0 ∧ tcl = 41) ∨ (so = 1 ∧ tc = 3 ∧ mc = 63 ∧ K = 10 ∧ lo = 0 ∧ tcl = 42) ∨ (so = 2 ∧ tc = 4 ∧ mc = 64 ∧ K = 999 ∧ lo = 1 ∧ tcl = 43)) (hsm : sm = true → lo + K ≤ 10) (hl : l < a.1 1 2) (hW : vWF a) (hA : vAc a) (hp : p < 5) (hs4 : s < 4) (hw : w < 50) {s2 : vM} (hs2 : vagI vRf σ s2) (hR2 : vRM a s2) (h82 : ∀ l, l < a.1 1 2 → s2.1 82 (40 * s + l) = a.2.1 s l)
    (h : ∀ s3, vagI vRf σ s3 → vRM a s3 → ∀ S : Int32, (sm = true → S = nI (vts sm (fun v => vfit (vowT a (a.1 1 1) (a.1 1 0) p (vtrT tcl l v (vtr0 a))) (a.2.1 s) (a.1 1 2)) lo K).1) → post (some (.int (if w < 30 then S else if w < 40 then nI (vts sm (fun v => vfit (vowT a (a.1 1 1) (a.1 1 0) p (vtrT tcl l v (vtr0 a))) (a.2.1 s) (a.1 1 2)) lo K).2.1 else nI (vts sm (fun v => vfit (vowT a (a.1 1 1) (a.1 1 0) p (vtrT tcl l v (vtr0 a))) (a.2.1 s) (a.1 1 2)) lo K).2.2 - 1))) s3) :
    VM (true, Gx) (D + 48) iX7_tells 228 [some (.ref 58), some (.int (nI s)), some (.int (nI p)), some (.int (nI w)), some (.int x4), some (.int (nI l)), some (.int (nI so)), some (.int (nI (a.1 tc l))), some (.int x8), some (.int 0), some (.int 0), some (.int (-1)), some (.int (nI (lo + K) - 1))] [] s2 post := by
  have hn6 := hW.1.2.2
  obtain ⟨F, hF⟩ : ∃ F, F = (fun v => vfit (vowT a (a.1 1 1) (a.1 1 0) p (vtrT tcl l v (vtr0 a))) (a.2.1 s) (a.1 1 2)) := ⟨_, rfl⟩
  rw [← hF] at h
  have tl := vr_tellL (D := D) (Gx := Gx) (σ := σ) (post := post) (so := so) (tc := tc) (tj := l) (mc := mc) (mj := l) (p := p) (s := s) (K := K) (lo := lo) (w := w) (l0 := nI l) (x4 := x4) (x8 := x8) (it := a.2.1 s) (F := F) (sm := sm) hW hA hp hs4 (by omega) hsm (by rcases hc with ⟨rfl, -, -, -, rfl, -⟩ | ⟨rfl, -, -, -, rfl, -⟩ | ⟨rfl, -, -, -, rfl, -⟩ <;> rfl) (by omega)
    (fun s2 v => by rcases hc with ⟨-, -, rfl, -, -, -⟩ | ⟨-, -, rfl, -, -, -⟩ | ⟨-, -, rfl, -, -, -⟩ <;> exact vagI.rf.put rfl)
    (fun s2 v k => vput_ne (Or.inl (by omega)))
    (fun d s2 v Q hq => by
      rcases hc with ⟨rfl, -, rfl, -, -, -⟩ | ⟨rfl, -, rfl, -, -, -⟩ | ⟨rfl, -, rfl, -, -, -⟩
      · exact vm_lays6 (by omega) hq
      · exact vm_lays1 (by omega) hq
      · exact vm_lays2 (by omega) hq)
    (fun b s2 v hb => by
      rcases hc with ⟨-, rfl, rfl, -, -, -⟩ | ⟨-, rfl, rfl, -, -, -⟩ | ⟨-, rfl, rfl, -, -, -⟩
      · exact hb.kd2
      · exact hb.put (Or.inl ⟨by decide, by decide, rfl⟩)
      · exact hb.put (Or.inl ⟨by decide, by decide, rfl⟩))
    (fun v h1 h2 => hW.trait (by omega))
    (fun v h1 h2 => by
      have ev : vowA (vaput a tc l v) (a.1 1 0) (a.1 1 1) p = vowT a (a.1 1 1) (a.1 1 0) p (vtrT tcl l v (vtr0 a)) := by
        rcases hc with ⟨-, rfl, -, -, -, rfl⟩ | ⟨-, rfl, -, -, -, rfl⟩ | ⟨-, rfl, -, -, -, rfl⟩
        · exact vowA_T rfl rfl vaput_row (vaput_c (by decide)) (vaput_c (by decide)) (vaput_c (by decide))
        · exact vowA_T rfl rfl (vaput_c (by decide)) vaput_row (vaput_c (by decide)) (vaput_c (by decide))
        · exact vowA_T rfl rfl (vaput_c (by decide)) (vaput_c (by decide)) vaput_row (vaput_c (by decide))
      rw [vaput_ne (show (1 : Nat) ≠ tc ∨ (0 : Nat) ≠ l by omega), vaput_ne (show (1 : Nat) ≠ tc ∨ (1 : Nat) ≠ l by omega), ev, hF])
    (fun S s3 hs3 hR3 hS => by
      have h' := h s3 hs3 hR3 S hS
      by_cases c1 : w < 30
      · rw [if_pos c1] at h'
        exact VM.go [] ⟨fun q => absurd q (by rw [show (30 : Int32) = nI 30 from rfl, nIle (by decide) (by omega)]; omega), fun _ => h'⟩
      · rw [if_neg c1] at h'
        by_cases c2 : w < 40
        · rw [if_pos c2] at h'
          exact VM.go [] ⟨fun _ => ⟨fun q => absurd q (by rw [show (40 : Int32) = nI 40 from rfl, nIle (by decide) (by omega)]; omega), fun _ => h'⟩, fun q => absurd (nI_le (show 30 ≤ w by omega) (by omega)) q⟩
        · rw [if_neg c2] at h'
          exact VM.go [] ⟨fun _ => ⟨fun _ => h', fun q => absurd (nI_le (show 40 ≤ w by omega) (by omega)) q⟩, fun q => absurd (nI_le (show 30 ≤ w by omega) (by omega)) q⟩)
    K (Nat.le_refl _) 0 s2 hs2 ⟨a.1 tc l, by rw [vaput_id]; exact hR2⟩ h82 (fun _ => by rw [Nat.sub_self]; rfl)
  rw [Nat.sub_self] at tl
  exact tl
theorem vr_tells94 {s p w : Nat} {x4 : Int32} (hR : vRM a σ) (hW : vWF a) (hA : vAc a) (hp : p < 5) (hs4 : s < 4) (hw : w ≤ 2 ∨ (10 ≤ w ∧ w < 50 ∧ w % 10 < a.1 1 2)) (h82 : ∀ l, l < a.1 1 2 → σ.1 82 (40 * s + l) = a.2.1 s l) (h : ∀ σ', vagI vRf σ σ' → vRM a σ' → post (some (.int (vtA a s p w))) σ') : VM (true, Gx) (D + 48) iX7_tells 94 [some (.ref 58), some (.int (nI s)), some (.int (nI p)), some (.int (nI w)), some (.int x4), none, none, none, none, none, none, none, none] [] σ post := by
  have hn6 := hW.1.2.2
  obtain ⟨hT1, hT6⟩ := hW.2.1
  have hw50 : w < 50 := by omega
  have ne : ∀ x : Nat, x < 100 → ¬ w = x → ¬ nI w = nI x := fun x hx q e => q ((nI_eq (by omega) (by omega)).mp e)
  by_cases w0 : w = 0
  · subst w0
    exact VM.go [] ⟨fun q => absurd rfl q, fun _ => ⟨_, VM.at (vr_firstO hR (vB.rf hW) hW hA hp hs4 h82 (fun s2 hs2 => by exact h s2 ((hs2.up vMo_s).up vRf_o) (hR.ag (hs2.up vMo_s)))), fun _ _ hh => hh⟩⟩
  by_cases w2 : w = 2
  · subst w2
    exact VM.go [] ⟨fun _ => ⟨fun q => absurd rfl q, fun _ => ⟨_, VM.at (vr_cloudsBy (D := D + 1) hR hW hA hp hs4 h82 (by exact h)), fun _ _ hh => hh⟩⟩, fun q => absurd q (by decide)⟩
  have n0 := ne 0 (by decide) w0
  have n2 := ne 2 (by decide) w2
  have em : nI w - nI w / nI 10 * nI 10 = nI (w % 10) := pk_rem (by omega) (by decide) (by decide)
  have g0 : nI (w % 10) = nI (w % 10) := rfl
  refine VM.go [121] ⟨fun _ => ⟨fun _ => ⟨by decide, ?_⟩, fun q => absurd q n2⟩, fun q => absurd q n0⟩
  show VM (true, Gx) (D + 48) iX7_tells 121 _ _ _ _
  rw [show nI w - nI w / 10 * 10 = nI (w % 10) from em]
  by_cases w1 : w = 1
  · subst w1
    have hE := h82
    have tl := vr_tellL (D := D) (Gx := Gx) (σ := σ) (post := post) (so := 7) (tc := 1) (tj := 1) (mc := 58) (mj := 4) (p := p) (s := s) (K := a.1 0 4) (lo := 0) (w := 1) (l0 := nI 1) (x4 := x4) (x8 := nI (a.1 0 4 - 1)) (it := a.2.1 s) (F := fun t => vfit (vowA a (a.1 1 0) t p) (a.2.1 s) (a.1 1 2)) (sm := true) hW hA hp hs4 (by omega) (fun _ => by omega) rfl (by decide) (fun s2 v => vagI.rf.put rfl) (fun s2 v k => rfl) (fun d s2 v Q hq => vm_lays7 hq) (fun b s2 v hb => hb.putF (Or.inr (Or.inl ⟨rfl, rfl, rfl⟩))) (fun v _ hv => hW.trait (Or.inr (Or.inl ⟨rfl, rfl, by omega⟩))) (fun v _ hv => by
        have e1 : (vaput a 1 1 v).1 1 1 = v := by rw [vaput_get]; exact if_pos ⟨rfl, rfl⟩
        have e2 : (vaput a 1 1 v).1 1 0 = a.1 1 0 := rfl
        have e3 : vowA (vaput a 1 1 v) (a.1 1 0) v p = vowA a (a.1 1 0) v p := vowA_T (tr := vtr0 a) rfl rfl (vaput_c (by decide)) (vaput_c (by decide)) (vaput_c (by decide)) (vaput_c (by decide))
        rw [e1, e2, e3]) (fun S s3 hs3 hR3 hS => by
        have h' := h s3 hs3 hR3
        have ea : vtA a s p 1 = S := by rw [hS rfl, vts_bits]; rfl
        rw [ea] at h'
        exact VM.go [] ⟨fun q => absurd q (by decide), fun _ => h'⟩) (a.1 0 4) (Nat.le_refl _) 0 σ vagI.rf ⟨a.1 1 1, by rw [vaput_id]; exact hR⟩ h82 (fun _ => by rw [Nat.sub_self]; rfl)
    rw [Nat.sub_self] at tl
    have e4 : σ.1 58 4 = nI (a.1 1 1) := hR.1.2.1
    have e3 : σ.1 58 3 - 1 = nI (a.1 0 4 - 1) := by rw [hR.1.1]; exact pk_sub (b := 1) hT1
    rw [Nat.zero_add, ← hR.1.1, ← e3, ← e4] at tl
    exact VM.go [228] ⟨fun q => absurd rfl q, fun _ => ⟨fun q => absurd rfl q, fun _ => ⟨fun q => absurd rfl q, fun _ => tl⟩⟩⟩
  · have hw10 : 10 ≤ w := by omega
    have hl : w % 10 < a.1 1 2 := by omega
    have n1 := ne 1 (by decide) w1
    obtain ⟨l, hl'⟩ : ∃ l, l = w % 10 := ⟨_, rfl⟩
    have ea : vtA a s p w = if w / 10 ≤ 2 then nI (vtsO a s p (w % 10) (w / 10)).1 else if w / 10 = 3 then nI (vtsO a s p (w % 10) (w / 10)).2.1 else nI (vtsO a s p (w % 10) (w / 10)).2.2 - 1 := by
      unfold vtA
      rw [if_neg w0, if_neg w1, if_neg w2]
    rw [ea, ← hl'] at h
    rw [← hl'] at hl ⊢
    have vl : vix (nI l) (a.1 1 2) = some l := vix_nI hl (by omega)
    have lt : ∀ x : Nat, x < 100 → (nI x ≤ nI w ↔ x ≤ w) := fun x hx => nIle (by omega) (by omega)
    have g82 : ∀ {s2}, vagI vMs σ s2 → ∀ l, l < a.1 1 2 → s2.1 82 (40 * s + l) = a.2.1 s l := fun hs2 l hl => (hs2.get rfl).trans (h82 l hl)
    rcases (show w / 10 = 1 ∨ w / 10 = 2 ∨ 3 ≤ w / 10 by omega) with e | e | e
    · rw [e] at h
      refine VM.go [213] ⟨fun _ => ⟨fun q => absurd ((lt 20 (by decide)).mp q) (by omega), fun _ => ⟨fun _ => ⟨_, VM.at (vr_told hR hW hA (w0 := nI 6) (fun s2 hs2 => ?_)), fun _ _ hh => hh⟩, fun q => absurd q (by decide)⟩⟩, fun q => absurd q n1⟩
      rw [sTold_6, vl]
      have tl := vr_tellsT (D := D) (Gx := Gx) (σ := σ) (post := post) (x4 := x4) (x8 := 5) (w := w) (p := p) (s := s) (sm := true) (Or.inl ⟨rfl, rfl, rfl, rfl, rfl, rfl⟩) (fun _ => by decide) hl hW hA hp hs4 hw50 ((hs2.up vMo_s).up vRf_o) (hR.ag (hs2.up vMo_s)) (g82 hs2) (fun s3 hs3 hR3 S hS => by
        have h' := h s3 hs3 hR3
        rw [if_pos (by omega)] at h'
        rw [if_pos (by omega), hS rfl]
        exact h')
      exact ⟨fun _ => ⟨fun q => absurd rfl q, fun _ => VM.at (VM.go [228] tl)⟩, fun q => absurd q (by decide)⟩
    · rw [e] at h
      refine VM.go [213] ⟨fun _ => ⟨fun _ => ⟨fun q => absurd ((lt 30 (by decide)).mp q) (by omega), fun _ => ⟨fun _ => ⟨_, VM.at (vr_told hR hW hA (w0 := nI 1) (fun s2 hs2 => ?_)), fun _ _ hh => hh⟩, fun q => absurd q (by decide)⟩⟩, fun q => absurd ((lt 20 (by decide)).mpr (by omega)) q⟩, fun q => absurd q n1⟩
      rw [sTold_1, vl]
      have tl := vr_tellsT (D := D) (Gx := Gx) (σ := σ) (post := post) (x4 := x4) (x8 := 9) (w := w) (p := p) (s := s) (sm := true) (Or.inr (Or.inl ⟨rfl, rfl, rfl, rfl, rfl, rfl⟩)) (fun _ => by decide) hl hW hA hp hs4 hw50 ((hs2.up vMo_s).up vRf_o) (hR.ag (hs2.up vMo_s)) (g82 hs2) (fun s3 hs3 hR3 S hS => by
        have h' := h s3 hs3 hR3
        rw [if_pos (by omega)] at h'
        rw [if_pos (by omega), hS rfl]
        exact h')
      exact ⟨fun _ => ⟨fun _ => ⟨_, VM.at (vm_mostOf (w := 1) (by decide) (by exact VM.at (VM.go [228] tl))), fun _ _ hh => hh⟩, fun q => absurd q (by decide)⟩, fun q => absurd q (by decide)⟩
    · refine VM.go [213] ⟨fun _ => ⟨fun _ => ⟨fun _ => ⟨fun _ => ⟨_, VM.at (vr_told hR hW hA (w0 := nI 2) (fun s2 hs2 => ?_)), fun _ _ hh => hh⟩, fun q => absurd q (by decide)⟩, fun q => absurd ((lt 30 (by decide)).mpr (by omega)) q⟩, fun q => absurd ((lt 20 (by decide)).mpr (by omega)) q⟩, fun q => absurd q n1⟩
      rw [sTold_2, vl]
      have tl := vr_tellsT (D := D) (Gx := Gx) (σ := σ) (post := post) (x4 := x4) (x8 := 999) (w := w) (p := p) (s := s) (sm := false) (Or.inr (Or.inr ⟨rfl, rfl, rfl, rfl, rfl, rfl⟩)) (fun q => absurd q (by decide)) hl hW hA hp hs4 hw50 ((hs2.up vMo_s).up vRf_o) (hR.ag (hs2.up vMo_s)) (g82 hs2) (fun s3 hs3 hR3 S hS => by
        have h' := h s3 hs3 hR3
        have eO : vtsO a s p l (w / 10) = vts false (fun v => vfit (vowT a (a.1 1 1) (a.1 1 0) p (vtrT 43 l v (vtr0 a))) (a.2.1 s) (a.1 1 2)) 1 999 := by
          rcases (show w / 10 = 3 ∨ w / 10 = 4 by omega) with e' | e' <;> rw [e'] <;> rfl
        rw [if_neg (by omega), eO] at h'
        rw [if_neg (by omega)]
        by_cases c : w / 10 = 3
        · rw [if_pos c] at h'
          rw [if_pos (by omega)]
          exact h'
        · rw [if_neg c] at h'
          rw [if_neg (by omega)]
          exact h')
      exact ⟨fun _ => ⟨fun _ => ⟨_, VM.at (vm_mostOf (w := 2) (by decide) (by exact VM.at (VM.go [228] tl))), fun _ _ hh => hh⟩, fun q => absurd q (by decide)⟩, fun q => absurd q (by decide)⟩
end RTM
