/-! ===== THE REFERENCE: tells ===== -/
theorem nI_s13 : ∀ t, t < 13 → (1 : Int32) <<< (nI t &&& 31) = nI (2 ^ t) ∧ (0 : Int32) <<< (nI t &&& 31) = nI 0 := by decide
section RTS
variable {Gx : Nat × (Nat → Int32)} {d D : Nat} {σ : vM} {post : vQ} {a b : vα}
theorem vr_cloudsBy {p s : Nat} {it : Nat → Int32} (hR : vRM a σ) (hW : vWF a) (hA : vAc a) (hp : p < 5) (hs4 : s < 4) (h82 : ∀ l, l < a.1 1 2 → σ.1 82 (40 * s + l) = it l) (h : ∀ σ', vagI vRf σ σ' → vRM a σ' → post (some (.int (nI (vowb (fun t => vfit (vowA a (if t = 12 then 0 else 2 ^ t) (a.1 1 1) p) it (a.1 1 2)) 13)))) σ') : VM (true, Gx) (D + 46) iX7_cloudsBy 0 [some (.ref 58), some (.int (nI s)), some (.int (nI p)), none, none, none] [] σ post := by
  have hn6 := hW.1.2.2
  obtain ⟨P, hP⟩ : ∃ P, P = (fun t => vfit (vowA a (if t = 12 then 0 else 2 ^ t) (a.1 1 1) p) it (a.1 1 2)) := ⟨_, rfl⟩
  rw [← hP] at h
  have f82 : ∀ k, k < 160 → vRf 82 k = true := fun k _ => rfl
  have key : ∀ t, t ≤ 13 → ∀ s2, vagI vRf σ s2 → (∃ c, vRM (vaput a 1 0 c) s2) → (∀ l, l < a.1 1 2 → s2.1 82 (40 * s + l) = it l) → VM (true, Gx) (D + 46) iX7_cloudsBy 11 [some (.ref 58), some (.int (nI s)), some (.int (nI p)), some (.int (nI (a.1 1 0))), some (.int (nI (vowb P t))), some (.int (nI t))] [] s2 post := by
    refine vloop _ ?_ ?_
    · rintro s2 hs2 ⟨c, hR2⟩ g82
      have hRn := hR2.putF (c := 1) (j := 0) (f := 7) (v := a.1 1 0) (Or.inl ⟨rfl, rfl, rfl⟩)
      rw [vaput_2, vaput_id] at hRn
      have := h _ (hs2.put (a := 58) (k := 7) (v := nI (a.1 1 0)) rfl) hRn
      exact VM.go [] ⟨fun _ => this, fun q => absurd (by decide) q⟩
    · rintro t ht ih s2 hs2 ⟨c0, hR2⟩ g82
      obtain ⟨c, hc⟩ : ∃ c, c = if t = 12 then 0 else 2 ^ t := ⟨_, rfl⟩
      have c4 : c < 4096 := by
        rw [hc]
        split
        · decide
        · exact Nat.lt_of_lt_of_le (Nat.pow_lt_pow_right (m := t) (n := 12) (by decide) (by omega)) (by decide)
      have hlt := vowb_lt (P := P) (n := t)
      have hp2 : 2 ^ t ≤ 2 ^ 12 := Nat.pow_le_pow_right (by decide) (by omega)
      have hRn := hR2.putF (c := 1) (j := 0) (f := 7) (v := c) (Or.inl ⟨rfl, rfl, rfl⟩)
      rw [vaput_2] at hRn
      have hb := hW.trait (c := 1) (l := 0) (v := c) (Or.inl ⟨rfl, rfl, c4⟩)
      have eo : vowb P (t + 1) = if P t then vowb P t ||| 2 ^ t else vowb P t := rfl
      have mid : VM (true, Gx) (D + 46) iX7_cloudsBy 34 [some (.ref 58), some (.int (nI s)), some (.int (nI p)), some (.int (nI (a.1 1 0))), some (.int (nI (vowb P t))), some (.int (nI t))] [.int (nI c), .ref 58] s2 post := by
        refine VM.go [58] ⟨_, VM.at (vr_firstO hRn hb hW hA hp hs4 (it := it) (fun l hl => g82 l hl) (fun s3 hs3 => ?_)), fun _ _ hh => hh⟩
        have e1 : (vaput a 1 0 c).1 1 0 = c := by rw [vaput_get]; exact if_pos ⟨rfl, rfl⟩
        have e2 : (vaput a 1 0 c).1 1 1 = a.1 1 1 := rfl
        have e3 : vowA (vaput a 1 0 c) c (a.1 1 1) p = vowA a c (a.1 1 1) p := vowA_T (tr := vtr0 a) rfl rfl (vaput_c (by decide)) (vaput_c (by decide)) (vaput_c (by decide)) (vaput_c (by decide))
        rw [e1, e2, e3]
        have ef := vfo_fit (f := vowA a c (a.1 1 1) p) (it := it) (n := a.1 1 2) hn6
        have ePt : P t = vfit (vowA a c (a.1 1 1) p) it (a.1 1 2) := by rw [hP, hc]
        rw [← ePt] at ef
        have hs3' : vagI vRf σ s3 := (hs2.put (a := 58) (k := 7) (v := nI c) rfl).tr ((hs3.up vMo_s).up vRf_o)
        have hR3 := hRn.ag (hs3.up vMo_s)
        have g3 : ∀ l, l < a.1 1 2 → s3.1 82 (40 * s + l) = it l := fun l hl => (hs3.get rfl).trans (g82 l hl)
        have ih' := ih s3 hs3' ⟨c, hR3⟩ g3
        rw [eo] at ih'
        refine ⟨fun q => ?_, fun q => ?_⟩
        · have nP : ¬ P t = true := fun z => q (ef.mpr z)
          rw [if_neg nP, ← nI_1, ← Nat.or_zero (vowb P t), ← nI_or (by omega) (by decide), ← (nI_s13 t ht).2] at ih'
          exact VM.at (VM.go [11] ih')
        · have yP : P t = true := ef.mp q
          rw [if_pos yP, ← nI_1, ← nI_or (by omega) (by omega), ← (nI_s13 t ht).1] at ih'
          exact VM.at (VM.go [11] ih')
      refine VM.go [34] ⟨fun q => absurd q (Int32.not_lt.mpr (nI_le (show t ≤ 12 by omega) (by decide))), fun _ => ⟨fun q => ?_, fun q => ?_⟩⟩
      · have nt : ¬ t = 12 := fun e => q (by rw [e]; rfl)
        rw [if_neg nt] at hc
        show VM (true, Gx) (D + 46) iX7_cloudsBy 34 _ _ _ _
        rw [nI_shl1 t (by omega), ← hc]
        exact mid
      · have et : t = 12 := (nI_eq (b := 12) (by omega) (by decide)).mp q
        rw [if_pos et] at hc
        rw [hc] at mid
        exact mid
  have k0 := key 0 (Nat.zero_le _) σ vagI.rf ⟨a.1 1 0, by rw [vaput_id]; exact hR⟩ h82
  rw [← hR.1.2.2.2.1] at k0
  exact VM.go [11] k0
/-- trying one after the other, from above -/
theorem vr_tellL {so tc tj mc mj p s K lo w : Nat} {l0 x4 x8 : Int32} {it : Nat → Int32} {F : Nat → Bool} {sm : Bool} (hW : vWF a) (hA : vAc a) (hp : p < 5) (hs4 : s < 4) (hK : lo + K ≤ 1000) (hsm : sm = true → lo + K ≤ 10) (hlo : lo = if so = 2 then 1 else 0) (hso : so ≤ 7) (hmc : ∀ s2 v, vagI vRf s2 (vput s2 mc mj v)) (h82' : ∀ s2 v k, (vput s2 mc mj v).1 82 k = s2.1 82 k)
    (hlays : ∀ (d : Nat) (s2 : vM) (v : Nat) (Q : vQ), Q none (vput s2 mc mj (nI v)) → VM (true, Gx) d iX7_lays 0 [some (.ref 58), some (.int (nI so)), some (.int l0), some (.int (nI v))] [] s2 Q)
    (hput : ∀ b s2 v, vRM b s2 → vRM (vaput b tc tj v) (vput s2 mc mj (nI v)))
    (hB : ∀ v, lo ≤ v → v < lo + K → vB a (vaput a tc tj v))
    (hF : ∀ v, lo ≤ v → v < lo + K → F v = vfit (vowA (vaput a tc tj v) ((vaput a tc tj v).1 1 0) ((vaput a tc tj v).1 1 1) p) it (a.1 1 2))
    (h : ∀ (S : Int32) (s3 : vM), vagI vRf σ s3 → vRM a s3 → (sm = true → S = nI (vts sm F lo K).1) → VM (true, Gx) (D + 48) iX7_tells 307 [some (.ref 58), some (.int (nI s)), some (.int (nI p)), some (.int (nI w)), some (.int x4), some (.int l0), some (.int (nI so)), some (.int (nI (a.1 tc tj))), some (.int x8), some (.int S), some (.int (nI (vts sm F lo K).2.1)), some (.int (nI (vts sm F lo K).2.2 - 1)), some (.int (nI lo - 1))] [] s3 post) :
    ∀ k, k ≤ K → ∀ (S : Int32) (s2 : vM), vagI vRf σ s2 → (∃ v, vRM (vaput a tc tj v) s2) → (∀ l, l < a.1 1 2 → s2.1 82 (40 * s + l) = it l) → (sm = true → S = nI (vts sm F (lo + k) (K - k)).1) → VM (true, Gx) (D + 48) iX7_tells 228 [some (.ref 58), some (.int (nI s)), some (.int (nI p)), some (.int (nI w)), some (.int x4), some (.int l0), some (.int (nI so)), some (.int (nI (a.1 tc tj))), some (.int x8), some (.int S), some (.int (nI (vts sm F (lo + k) (K - k)).2.1)), some (.int (nI (vts sm F (lo + k) (K - k)).2.2 - 1)), some (.int (nI (lo + k) - 1))] [] s2 post := by
  have hn6 := hW.1.2.2
  intro k
  induction k with
  | zero =>
    rintro hk S s2 hs2 ⟨v0, hR2⟩ g82 hS
    rw [Nat.add_zero, Nat.sub_zero] at hS ⊢
    have hRn := hput _ _ (a.1 tc tj) hR2
    rw [vaput_2, vaput_id] at hRn
    have h' := h S _ (hs2.tr (hmc s2 (nI (a.1 tc tj)))) hRn hS
    by_cases e2 : so = 2
    · subst e2
      rw [if_pos rfl] at hlo
      subst hlo
      exact VM.go [307] ⟨fun q => absurd rfl q, fun _ => ⟨fun _ => ⟨_, VM.at (hlays _ _ _ _ (by exact VM.at h')), fun _ _ hh => hh⟩, fun q => absurd (by decide) q⟩⟩
    · rw [if_neg e2] at hlo
      subst hlo
      have n2 : ¬ nI so = 2 := fun q => e2 ((nI_eq (b := 2) (by omega) (by decide)).mp q)
      exact VM.go [307] ⟨fun _ => ⟨fun _ => ⟨_, VM.at (hlays _ _ _ _ (by exact VM.at h')), fun _ _ hh => hh⟩, fun q => absurd (by decide) q⟩, fun q => absurd q n2⟩
  | succ k ih =>
    rintro hk S s2 hs2 ⟨v0, hR2⟩ g82 hS
    obtain ⟨v, hv⟩ : ∃ v, v = lo + k := ⟨_, rfl⟩
    have ih' := ih (by omega)
    have efr := vts_front (sm := sm) (F := F) (lo := lo + k) (K - (k + 1))
    rw [show K - (k + 1) + 1 = K - k by omega, show lo + k + 1 = lo + (k + 1) by omega] at efr
    rw [efr] at ih'
    obtain ⟨X, hX⟩ : ∃ X, X = vts sm F (lo + (k + 1)) (K - (k + 1)) := ⟨_, rfl⟩
    have hXl := vts_le (small := sm) (F := F) (lo := lo + (k + 1)) (k := K - (k + 1)) (fun q => by have := hsm q; omega)
    rw [← hX] at ih' hS hXl ⊢
    rw [← hv] at ih'
    rw [show lo + (k + 1) = v + 1 by omega, nI_pred]
    have hRn := hput _ _ v hR2
    rw [vaput_2] at hRn
    have hb := hB v (by omega) (by omega)
    have body : VM (true, Gx) (D + 48) iX7_tells 244 [some (.ref 58), some (.int (nI s)), some (.int (nI p)), some (.int (nI w)), some (.int x4), some (.int l0), some (.int (nI so)), some (.int (nI (a.1 tc tj))), some (.int x8), some (.int S), some (.int (nI X.2.1)), some (.int (nI X.2.2 - 1)), some (.int (nI v))] [] s2 post := by
      refine VM.go [291] ⟨_, VM.at (hlays _ _ _ _ ?_), fun _ _ hh => hh⟩
      refine ⟨_, VM.at (vr_firstO hRn hb hW hA hp hs4 (it := it) (fun l hl => (h82' _ _ _).trans (g82 l hl)) (fun s3 hs3 => ?_)), fun _ _ hh => hh⟩
      have ef := vfo_fit (f := vowA (vaput a tc tj v) ((vaput a tc tj v).1 1 0) ((vaput a tc tj v).1 1 1) p) (it := it) (n := a.1 1 2) hn6
      rw [← hF v (by omega) (by omega)] at ef
      have hs3' : vagI vRf σ s3 := (hs2.tr (hmc s2 (nI v))).tr ((hs3.up vMo_s).up vRf_o)
      have hR3 := hRn.ag (hs3.up vMo_s)
      have g3 : ∀ l, l < a.1 1 2 → s3.1 82 (40 * s + l) = it l := fun l hl => (hs3.get rfl).trans ((h82' _ _ _).trans (g82 l hl))
      refine ⟨fun q => ?_, fun q => ?_⟩
      · have nF : ¬ F v = true := fun z => q (ef.mpr z)
        rw [if_neg nF] at ih'
        have := ih' S s3 hs3' ⟨v, hR3⟩ g3 hS
        rw [← nI_m1a (nI v)] at this
        exact VM.at (VM.go [228] this)
      · have yF : F v = true := ef.mp q
        rw [if_pos yF] at ih'
        dsimp only at ih'
        have fin : ∀ Z : Int32, (sm = true → S ||| Z = nI (2 ^ v ||| X.1)) → VM (true, Gx) (D + 48) iX7_tells 281 [some (.ref 58), some (.int (nI s)), some (.int (nI p)), some (.int (nI w)), some (.int x4), some (.int l0), some (.int (nI so)), some (.int (nI (a.1 tc tj))), some (.int x8), some (.int S), some (.int (nI X.2.1)), some (.int (nI X.2.2 - 1)), some (.int (nI v))] [.int Z, .int S] s3 post := fun Z hZ => by
          have := ih' (S ||| Z) s3 hs3' ⟨v, hR3⟩ g3 (fun q => by rw [if_pos q]; exact hZ q)
          rw [show lo + (k + 1) = v + 1 by omega, nI_pred] at this
          rw [← nI_1, ← nI_m1a (nI v)] at this
          exact VM.go [228] this
        refine VM.at (VM.go [281] ⟨fun c => fin 0 (fun q => ?_), fun c => fin _ (fun q => ?_)⟩)
        · have c' : nI 10 ≤ nI v := c
          rw [nIle (by decide) (by omega)] at c'
          have := hsm q
          omega
        · have := hsm q
          have hp2 : 2 ^ v < 2 ^ 12 := Nat.pow_lt_pow_right (by decide) (by omega)
          rw [hS q, nI_shl1 v (by omega), nI_or (by omega) (by omega), Nat.or_comm]
    by_cases e2 : so = 2
    · subst e2
      rw [if_pos rfl] at hlo
      refine VM.go [244] ⟨fun q => absurd rfl q, fun _ => ⟨fun q => absurd q ?_, fun _ => body⟩⟩
      exact Int32.not_lt.mpr (nI_le (show 1 ≤ v by omega) (by omega))
    · rw [if_neg e2] at hlo
      have n2 : ¬ nI so = 2 := fun q => e2 ((nI_eq (b := 2) (by omega) (by decide)).mp q)
      refine VM.go [244] ⟨fun _ => ⟨fun q => absurd q (nI_pos (by omega)), fun _ => body⟩, fun q => absurd q n2⟩
end RTS
