/-! ===== THE REFERENCE HOLDS a ===== -/
def vRM (a : vα) (σ : vM) : Prop :=
  (σ.1 58 3 = nI (a.1 0 4) ∧ σ.1 58 4 = nI (a.1 1 1) ∧ σ.1 58 6 = nI (a.1 38 0) ∧ σ.1 58 7 = nI (a.1 1 0) ∧ σ.1 58 11 = nI (a.1 1 2)) ∧
  (∀ k, k < a.1 1 2 → σ.1 62 k = nI (a.1 2 k)) ∧
  (∀ k, σ.1 63 k = nI (a.1 3 k) ∧ σ.1 64 k = nI (a.1 4 k) ∧ σ.1 65 k = nI (a.1 5 k) ∧ σ.1 66 k = nI (a.1 6 k) ∧ σ.1 67 k = nI (a.1 7 k) ∧ σ.1 68 k = nI (a.1 8 k) ∧ σ.1 69 k = nI (a.1 9 k) ∧ (k < a.1 38 0 → σ.1 61 k = nI (a.1 39 k))) ∧
  (∀ t, t < a.1 0 4 → σ.1 60 t = nI (a.2.2 t).length ∧ ∀ k, k < (a.2.2 t).length → σ.1 59 (160 * t + k) = nI ((a.2.2 t).getD k 0)) ∧
  (σ.1 58 43 = (if a.1 0 2 = 0 then -1 else nI (a.1 10 2)) ∧ σ.1 58 44 = nI (a.1 10 0) ∧ σ.1 58 45 = nI (a.1 10 1) ∧ ∀ k, σ.1 72 k = nI (a.1 12 k) ∧ σ.1 73 k = nI (a.1 13 k) ∧ σ.1 74 k = nI (a.1 14 k) ∧ σ.1 75 k = nI (a.1 15 k) ∧ σ.1 76 k = nI (a.1 16 k) ∧ σ.1 77 k = nI (a.1 17 k) ∧ σ.1 78 k = nI (a.1 18 k)) ∧
  ∀ s, s < 4 → σ.1 79 s = (if a.1 (50 + 2 * s) 0 = 0 then 0 else 1) ∧ (¬ a.1 (50 + 2 * s) 0 = 0 → σ.1 80 s = nI (a.1 (50 + 2 * s) 0) - 1 ∧ σ.1 81 s = nI (a.1 (50 + 2 * s) 1) ∧ ∀ k, k < a.1 (50 + 2 * s) 1 → σ.1 82 (40 * s + k) = a.2.1 s k)
/-- every text is accepted -/
def vAc (a : vα) : Prop := ∀ t, t < a.1 0 4 → vfault (a.2.2 t) = none
/-- the reference's scratch -/
def vMo (c k : Nat) : Bool := (Nat.beq c 58 && ((Nat.ble 17 k && Nat.ble k 31) || (Nat.ble 33 k && Nat.ble k 34))) || (Nat.beq c 70 || Nat.beq c 71)
/-- the reference's cells -/
def vRf (c _k : Nat) : Bool := Nat.ble 58 c && Nat.ble c 82
theorem vMo_s (c k : Nat) (h : vMo c k = false) : vMs c k = false := by
  cases hb : vMs c k with
  | false => rfl
  | true =>
    exfalso
    have : vMo c k = true := by
      simp only [vMo, vMs, Bool.or_eq_true, Bool.and_eq_true, Nat.ble_eq, vbq] at hb ⊢
      omega
    rw [this] at h; cases h
theorem vRf_o (c k : Nat) (h : vRf c k = false) : vMo c k = false := by
  cases hb : vMo c k with
  | false => rfl
  | true =>
    exfalso
    have : vRf c k = true := by
      simp only [vMo, vRf, Bool.or_eq_true, Bool.and_eq_true, Nat.ble_eq, vbq] at hb ⊢
      omega
    rw [this] at h; cases h
theorem vMo_c {c k : Nat} (h1 : ¬ c = 58) (h2 : ¬ c = 70) (h3 : ¬ c = 71) : vMo c k = false := by
  cases hb : vMo c k with
  | false => rfl
  | true => exfalso; simp only [vMo, Bool.or_eq_true, Bool.and_eq_true, Nat.ble_eq, vbq] at hb; omega
theorem vRM.ag {a : vα} {σ σ' : vM} (h : vRM a σ) (hs : vagI vMo σ σ') : vRM a σ' := by
  obtain ⟨⟨p1, p2, p3, p4, p5⟩, h2, h3, h4, ⟨k1, k2, k3, k4⟩, h6⟩ := h
  have g : ∀ {c k : Nat}, ¬ c = 58 → ¬ c = 70 → ¬ c = 71 → σ'.1 c k = σ.1 c k := fun a b c => hs.get (vMo_c a b c)
  refine ⟨⟨(hs.get rfl).trans p1, (hs.get rfl).trans p2, (hs.get rfl).trans p3, (hs.get rfl).trans p4, (hs.get rfl).trans p5⟩, fun k hk => (hs.get rfl).trans (h2 k hk), fun k => ?_, fun t ht => ⟨(hs.get rfl).trans (h4 t ht).1, fun k hk => (hs.get rfl).trans ((h4 t ht).2 k hk)⟩, ⟨(hs.get rfl).trans k1, (hs.get rfl).trans k2, (hs.get rfl).trans k3, fun k => ?_⟩, fun s hs4 => ?_⟩
  · obtain ⟨q1, q2, q3, q4, q5, q6, q7, q8⟩ := h3 k
    exact ⟨(hs.get rfl).trans q1, (hs.get rfl).trans q2, (hs.get rfl).trans q3, (hs.get rfl).trans q4, (hs.get rfl).trans q5, (hs.get rfl).trans q6, (hs.get rfl).trans q7, fun z => (hs.get rfl).trans (q8 z)⟩
  · obtain ⟨q1, q2, q3, q4, q5, q6, q7⟩ := k4 k
    exact ⟨(hs.get rfl).trans q1, (hs.get rfl).trans q2, (hs.get rfl).trans q3, (hs.get rfl).trans q4, (hs.get rfl).trans q5, (hs.get rfl).trans q6, (hs.get rfl).trans q7⟩
  · obtain ⟨q1, q2⟩ := h6 s hs4
    refine ⟨(hs.get rfl).trans q1, fun z => ?_⟩
    obtain ⟨r1, r2, r3⟩ := q2 z
    exact ⟨(hs.get rfl).trans r1, (hs.get rfl).trans r2, fun k hk => (hs.get rfl).trans (r3 k hk)⟩
section RH
variable {Gx : Nat × (Nat → Int32)} {d D : Nat} {σ : vM} {post : vQ} {a : vα}
theorem vRM.mb (h : vRM a σ) : vMB (a.1 1 0) (a.1 1 2) (a.1 1 1) (a.1 2) (a.1 3) (a.1 4) (a.1 5) σ := ⟨h.1.2.2.2.1, h.1.2.2.2.2, h.1.2.1, h.2.1, fun k _ => (h.2.2.1 k).1, fun k _ => (h.2.2.1 k).2.1, fun k _ => (h.2.2.1 k).2.2.1⟩
theorem vWF.mr (hW : vWF a) : vMr (a.1 1 0) (a.1 1 2) (a.1 1 1) (a.1 2) (a.1 3) (a.1 4) (a.1 5) := by
  obtain ⟨⟨w1, w2, w3⟩, w4, w5, w6, -⟩ := hW
  exact ⟨w1, w3, by omega, fun k hk => (w5 k (by omega)).1, fun k hk => (w5 k (by omega)).2.1, fun k hk => (w5 k (by omega)).2.2, fun k hk => w6 k hk⟩
theorem vRM.tell {t : Nat} (hR : vRM a σ) (hW : vWF a) (hA : vAc a) (ht : t < a.1 0 4) : vMT Gx (D + 41) t (vTof (vcomp (a.2.2 t))) σ := by
  intro s2 w post hw hs2 hp
  obtain ⟨-, -, hlen, hbyte⟩ := hW.2.2.2.2.2.2.2.2.1 t ht
  obtain ⟨e1, e2⟩ := hR.2.2.2.1 t ht
  have ht6 : t < 6 := by have := hW.2.1.2; omega
  refine vm_read (b := a.2.2 t) (nm := fun i => s2.1 58 (17 + i)) hlen hbyte ht6 hw (fun i _ => rfl) ((hs2.get rfl).trans e1) (fun k hk => (hs2.get rfl).trans (e2 k hk)) (fun s3 v hs3 h1 _ => ?_)
  rw [(h1 (hA t ht)).2]
  exact hp s3 hs3
theorem vWF.tok (hW : vWF a) {t : Nat} (ht : t < a.1 0 4) : vTok (vTof (vcomp (a.2.2 t))) (vnn (a.2.2 t)) := (hW.2.2.2.2.2.2.2.2.1 t ht).2.1
/-- what the reference's owesFor says -/
theorem vr_owesFor {p l : Nat} (hR : vRM a σ) (hW : vWF a) (hA : vAc a) (hp : p < 5) (hl : l < a.1 1 2) (h : ∀ σ', vagI vMs σ σ' → post (some (.int (nI (vowA a (a.1 1 0) (a.1 1 1) p l)))) σ') : VM (true, Gx) (D + 44) iX7_owesFor 0 [some (.ref 58), some (.int (nI p)), some (.int (nI l)), none, none, none] [] σ post :=
  vm_owesFor (d := D + 38) (hW.tok hW.1.2.1) hp hl hW.mr hR.mb (hR.tell hW hA hW.1.2.1) h
theorem vr_allOf {p : Nat} (hR : vRM a σ) (hW : vWF a) (hA : vAc a) (hp : p < 5) (h : ∀ σ', vagI vMs σ σ' → post (some (.int (nI (vallA a (a.1 1 0) p)))) σ') : VM (true, Gx) (D + 46) iX7_allOf 0 [some (.ref 58), some (.int (nI p))] [] σ post :=
  vm_allOf (d := D + 38) (pd := a.1 7) (hW.tok hW.1.2.1) hp hW.mr hR.mb (hR.tell hW hA hW.1.2.1) (fun p hp => ⟨(hR.2.2.1 p).2.2.2.2.1, (hW.2.2.2.2.1 p hp).2⟩) h
theorem vr_allSum (hR : vRM a σ) (hW : vWF a) (hA : vAc a) (h : ∀ σ', vagI vMs σ σ' → post (some (.int (nI (vtogA a (a.1 1 0))))) σ') : VM (true, Gx) (D + 47) iX7_allSum 0 [some (.ref 58), none, none] [] σ post :=
  vm_allSum (d := D + 38) (pd := a.1 7) (hW.tok hW.1.2.1) hW.mr hR.mb (hR.tell hW hA hW.1.2.1) (fun p hp => ⟨(hR.2.2.1 p).2.2.2.2.1, (hW.2.2.2.2.1 p hp).2⟩) h
theorem vr_owes {p0 l0 w0 : Int32} (hR : vRM a σ) (hW : vWF a) (hA : vAc a) (h : ∀ σ', vagI vMs σ σ' → post (some (.int (sOwes a p0 l0 w0))) σ') : VM (true, Gx) (D + 45) iX7_owes 0 [some (.ref 58), some (.int p0), some (.int l0), some (.int w0)] [] σ post := by
  have hn6 := hW.1.2.2
  have bad : sOwes a p0 l0 w0 = -2 → post (some (.int (-2))) σ := fun e => by
    have := h σ vagI.rf
    rw [e] at this
    exact this
  refine VM.go [42] ⟨_, VM.at (vm_isLooker (d := D + 43) (fun p ep hp e1 => ?_) (fun ep => ?_)), fun _ _ hh => hh⟩
  · refine ⟨fun c => absurd c (by decide), fun _ => ⟨_, VM.at (vm_isLight (d := D + 43) hR.1.2.2.2.2 hn6 (fun l el hl e2 => ?_) (fun el => ?_)), fun _ _ hh => hh⟩⟩
    · refine ⟨fun c => absurd c (by decide), fun _ => ?_⟩
      have es : ∀ w, vix w0 22 = some w → sOwes a p0 l0 w0 = if w = 0 then nI (vowA a (a.1 1 0) (a.1 1 1) p l) else if w = 1 then nI (vpop (vmask (a.1 5 (6 * p + l)) (a.1 1 0))) else if 10 ≤ w then nI (vdt (vTof (vcomp (a.2.2 (a.1 1 1)))) (a.1 1 0) (a.1 1 2) (a.1 2) (a.1 3) (a.1 4) (fun l => a.1 5 (6 * p + l)) l (w - 10)) else -2 := fun w hw => by
        unfold sOwes; rw [ep, el, hw]
      have go42 : ∀ w, vix w0 22 = some w → w0 = nI w → (w ≤ 1 ∨ (10 ≤ w ∧ w ≤ 21)) → VM (true, Gx) (D + 45) iX7_owes 42 [some (.ref 58), some (.int p0), some (.int l0), some (.int w0)] [] σ post := fun w hw ew hc => by
        have e := es w hw
        rw [e] at h
        subst ew; subst e1; subst e2
        by_cases w0' : w = 0
        · rw [if_pos w0'] at h
          subst w0'
          exact VM.go [] ⟨fun q => absurd rfl q, fun _ => ⟨_, VM.at (vr_owesFor hR hW hA hp hl (by exact h)), fun _ _ hh => hh⟩⟩
        · rw [if_neg w0'] at h
          have n0 : ¬ nI w = 0 := fun q => w0' ((nI_eq (b := 0) (by omega) (by decide)).mp q)
          by_cases w1' : w = 1
          · rw [if_pos w1'] at h
            subst w1'
            exact VM.go [] ⟨fun _ => ⟨fun q => absurd rfl q, fun _ => ⟨_, VM.at (vm_nightsOf (d := D + 43) hp (by omega) hW.mr hR.mb (by exact h σ vagI.rf)), fun _ _ hh => hh⟩⟩, fun q => absurd q n0⟩
          · rw [if_neg w1', if_pos (by omega)] at h
            have n1 : ¬ nI w = 1 := fun q => w1' ((nI_eq (b := 1) (by omega) (by decide)).mp q)
            have ex : nI w - 10 = nI (w - 10) := pk_sub (b := 10) (by omega)
            refine VM.go [76] ⟨fun _ => ⟨fun _ => ?_, fun q => absurd q n1⟩, fun q => absurd q n0⟩
            show VM (true, Gx) (D + 45) iX7_owes 76 _ _ _ _
            rw [ex]
            exact VM.go [] ⟨_, VM.at (vm_dueOf (d := D + 39) (hW.tok hW.1.2.1) hp hl hW.mr hR.mb (hR.tell (D := D + 1) hW hA hW.1.2.1) (by exact h)), fun _ _ hh => hh⟩
      refine ⟨_, VM.at (vm_in0 (m := 1) (by decide) (by decide) (fun w ew hw e3 => ?_) (fun ew => ?_)), fun _ _ hh => hh⟩
      · have ew' : vix w0 22 = some w := by rw [e3]; exact vix_nI (by omega) (by decide)
        exact ⟨fun _ => VM.at (go42 w ew' e3 (Or.inl hw)), fun c => absurd c (by decide)⟩
      · refine ⟨fun c => absurd rfl c, fun _ => ⟨_, VM.at (vm_inI (a := 10) (b := 21) (by decide) (by decide) (fun b1 b2 => ?_) (fun hno => ?_)), fun _ _ hh => hh⟩⟩
        · obtain ⟨w, hw, e3⟩ := vnat (m := 21) (by decide) (Int32.le_trans (by decide) b1) b2
          have ew' : vix w0 22 = some w := by rw [e3]; exact vix_nI (by omega) (by decide)
          rw [e3, show (10 : Int32) = nI 10 from rfl, nIle (by decide) (by omega)] at b1
          exact ⟨fun _ => VM.at (go42 w ew' e3 (Or.inr ⟨b1, hw⟩)), fun c => absurd c (by decide)⟩
        · refine ⟨fun c => absurd rfl c, fun _ => bad ?_⟩
          cases hv : vix w0 22 with
          | none => unfold sOwes; rw [hv, ep, el]
          | some w =>
            obtain ⟨hw, e3⟩ := vix_some (by decide) hv
            rw [es w hv, if_neg (fun z => vix_none (by decide) ew 0 (by decide) (by rw [e3, z])), if_neg (fun z => vix_none (by decide) ew 1 (by decide) (by rw [e3, z])), if_neg (fun z => hno ⟨by rw [e3]; exact nI_le (show 10 ≤ w from z) (by omega), by rw [e3]; exact nI_le (show w ≤ 21 by omega) (by decide)⟩)]
    · refine ⟨fun _ => bad ?_, fun c => absurd rfl c⟩
      unfold sOwes
      rw [el]
      cases vix p0 5 <;> rfl
  · refine ⟨fun _ => bad ?_, fun c => absurd rfl c⟩
    unfold sOwes
    rw [ep]
end RH
