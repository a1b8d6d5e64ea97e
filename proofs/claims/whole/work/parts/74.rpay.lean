/-! ===== THE REFERENCE: pay ===== -/
theorem vpaid_rev {a : vα} {w : Nat → Nat} : vaput (vaput (vaput (vaput a 9 3 (a.1 9 3 - w 3)) 9 2 (a.1 9 2 - w 2)) 9 1 (a.1 9 1 - w 1)) 9 0 (a.1 9 0 - w 0) = vpaid a w 4 := by
  refine Prod.ext (funext fun c2 => funext fun k2 => ?_) rfl
  show (vaput (vaput (vaput (vaput a 9 3 (a.1 9 3 - w 3)) 9 2 (a.1 9 2 - w 2)) 9 1 (a.1 9 1 - w 1)) 9 0 (a.1 9 0 - w 0)).1 c2 k2 = (vaput (vaput (vaput (vaput a 9 0 (a.1 9 0 - w 0)) 9 1 (a.1 9 1 - w 1)) 9 2 (a.1 9 2 - w 2)) 9 3 (a.1 9 3 - w 3)).1 c2 k2
  rw [vaput_get, vaput_get, vaput_get, vaput_get, vaput_get, vaput_get, vaput_get, vaput_get]
  repeat' split
  all_goals first | rfl | omega
section RQ
variable {Gx : Nat × (Nat → Int32)} {d D : Nat} {σ : vM} {post : vQ} {a : vα}
theorem vr_payK {k K y : Nat} {x1 x2 x3 : Int32} {y7 : Option Value} (hK : K = k + 1) (hk : k < 3) (hy : y < 1000) (hW : vWF a) (e8 : σ.1 68 K = nI (a.1 8 K)) (e9 : σ.1 69 K = nI (a.1 9 K)) (hF : vFw a 4000 σ) (hm : vfw a K y < 1000000) (h : ∀ i, i = vlst (fun c => vfw a k (y - c * a.1 8 K) + c) (vfw a K y) (vmp a K y + 1) → i ≤ vmp a K y → vfw a k (y - i * a.1 8 K) < 1000000 → VM (true, Gx) (d + 1) iX7_pay 55 [some (.ref 58), some (.int x1), some (.int x2), some (.int x3), some (.int (nI (y - i * a.1 8 K))), some (.int (nI (vfw a k (y - i * a.1 8 K)))), some (.int (nI k)), some (.int (nI i))] [] (vput σ 69 K (nI (a.1 9 K - i))) post) : VM (true, Gx) (d + 1) iX7_pay 55 [some (.ref 58), some (.int x1), some (.int x2), some (.int x3), some (.int (nI y)), some (.int (nI (vfw a K y))), some (.int (nI K)), y7] [] σ post := by
  obtain ⟨w1, w2, w3⟩ := hW.br (k := K) (by omega)
  have m20 := vmp_le hW (k := K) (x := y) (by omega)
  obtain ⟨g, hg⟩ : ∃ g : Nat → Nat, g = fun c => vfw a k (y - c * a.1 8 K) + c := ⟨_, rfl⟩
  have hgi : ∀ c, g c = vfw a k (y - c * a.1 8 K) + c := fun c => by rw [hg]
  have ef : vfw a K y = vmnB g (vmp a K y + 1) := by rw [hg, hK]; rfl
  rw [← hg] at h
  obtain ⟨j, hj, q⟩ := vmnB_at (g := g) (n := vmp a K y + 1) (by rw [← ef]; exact hm)
  obtain ⟨l1, l2⟩ := vlst_at hj q
  rw [← ef] at l1 l2
  obtain ⟨M, hM⟩ : ∃ M, M = vfw a K y := ⟨_, rfl⟩
  rw [← hM] at h l1 l2 hm ⊢
  obtain ⟨i, hi⟩ : ∃ i, i = vlst g M (vmp a K y + 1) := ⟨_, rfl⟩
  rw [← hi] at l1 l2
  have gi := hgi i
  have h' := h i hi (by omega) (by omega)
  have gt : ∀ c, i < c → c ≤ vmp a K y → ¬ g c = M := fun c h1 h2 => vlst_gt (by rw [← hi]; exact h1) (show c < vmp a K y + 1 by omega)
  have ix : ∀ c, c ≤ vmp a K y → (1000 : Int32) * (nI K - 1) + nI y - nI c * σ.1 68 K = nI (1000 * k + (y - c * a.1 8 K)) := fun c hc => by
    have hb := vmp_mul hc
    rw [e8, hK, nI_pred k, show (1000 : Int32) = nI 1000 from rfl, pk_mul, pk_mul, nI_add, ← hK, pk_sub (by omega)]
    congr 1
    omega
  have key : ∀ m, i + m ≤ vmp a K y → VM (true, Gx) (d + 1) iX7_pay 83 [some (.ref 58), some (.int x1), some (.int x2), some (.int x3), some (.int (nI y)), some (.int (nI M)), some (.int (nI K)), some (.int (nI (i + m)))] [] σ post := by
    intro m
    induction m with
    | zero =>
      intro _
      have hb := vmp_mul (a := a) (k := K) (x := y) (n := i) (by omega)
      have i9 := vmp_le9 (a := a) (k := K) (x := y) (n := i) (by omega)
      have ev := hF.get (k := k) (x := y - i * a.1 8 K) (by omega) (by omega)
      refine VM.go [131] ⟨fun q => absurd ((nIlt (a := M) (by omega) (by omega)).mp q) (by omega), fun _ => ⟨K, rfl, by omega, 1000 * k + (y - i * a.1 8 K), ix i (by omega), by omega, fun _ => ?_, fun q => absurd ?_ q⟩⟩
      · have z1 : nI y - nI i * σ.1 68 K = nI (y - i * a.1 8 K) := by rw [e8, pk_mul, pk_sub hb]
        have z2 : nI M - nI i = nI (vfw a k (y - i * a.1 8 K)) := by rw [pk_sub (by omega)]; congr 1; omega
        have z3 : nI K + (-1) = nI k := by rw [hK, nI_m1a, nI_pred]
        have z4 : σ.1 69 K - nI i = nI (a.1 9 K - i) := by rw [e9, pk_sub i9]
        rw [← z1, ← z2, ← z3, ← z4] at h'
        exact VM.go [55] ⟨K, rfl, by omega, nofun, K, rfl, by omega, K, rfl, by omega, h'⟩
      · rw [ev, pk_sub (by omega)]
        congr 1
        omega
    | succ m ih =>
      intro hm2
      have ih' := ih (by omega)
      rw [← nI_pred (i + m), ← nI_m1a] at ih'
      have hb := vmp_mul (a := a) (k := K) (x := y) (n := i + (m + 1)) (by omega)
      have ev := hF.get (k := k) (x := y - (i + (m + 1)) * a.1 8 K) (by omega) (by omega)
      refine VM.go [83] ⟨fun _ => ih', fun q => ⟨K, rfl, by omega, 1000 * k + (y - (i + (m + 1)) * a.1 8 K), ix _ hm2, by omega, fun q2 => absurd ?_ (gt (i + (m + 1)) (by omega) hm2), fun _ => ih'⟩⟩
      have q' : ¬ nI M < nI (i + (m + 1)) := q
      rw [nIlt (by omega) (by omega)] at q'
      have q2' : σ.1 70 (1000 * k + (y - (i + (m + 1)) * a.1 8 K)) = nI M - nI (i + (m + 1)) := q2
      have b := vfw_N (a := a) (k := k) (x := y - (i + (m + 1)) * a.1 8 K)
      rw [ev, pk_sub (by omega), nI_eq (by omega) (by omega)] at q2'
      rw [hgi]
      omega
  have k0 := key (vmp a K y - i) (by omega)
  rw [show i + (vmp a K y - i) = vmp a K y by omega] at k0
  have e5 : nI y / σ.1 68 K = nI (y / a.1 8 K) := by rw [e8, pk_div (by omega) (by omega) (by omega)]
  have e6 : y / a.1 8 K ≤ y := Nat.div_le_self _ _
  refine VM.go [78] ⟨fun q => absurd q ?_, fun _ => ⟨K, rfl, by omega, ?_, K, rfl, by omega, ?_⟩⟩
  · rw [show (0 : Int32) = nI 0 from rfl, nIle (by omega) (by decide)]; omega
  · rw [e8]
    intro q
    have := congrArg Int32.toNatClampNeg q
    rw [nI_clamp (by omega)] at this
    have h0 : (0 : Int32).toNatClampNeg = 0 := by decide
    omega
  · show VM (true, Gx) (d + 1) iX7_pay 78 _ _ _ _
    rw [e5, e9]
    refine VM.go [83] ⟨_, VM.at (vm_within (m := a.1 9 K) (by omega) ?_), fun _ _ hh => hh⟩
    rw [vcl_nI (by omega) (by omega), Nat.min_comm]
    exact VM.at (VM.go [83] k0)
theorem vr_pay {p0 : Int32} (hR : vRM a σ) (hW : vWF a) (hA : vAc a) (h : ∀ σ', vagI vRf σ σ' → vRM (sPay a p0).2 σ' → post (some (.int (sPay a p0).1)) σ') : VM (true, Gx) (D + 47) iX7_pay 0 [some (.ref 58), some (.int p0), none, none, none, none, none, none] [] σ post := by
  have bad : ∀ v, sPay a p0 = (v, a) → ∀ s, vagI vMo σ s → post (some (.int v)) s := fun v e s hs => by
    have := h s (hs.up vRf_o) (by rw [e]; exact hR.ag hs)
    rw [e] at this
    exact this
  refine VM.go [] ⟨_, VM.at (vm_isLooker (d := D + 45) (fun p ep hp e1 => ?_) (fun ep => ?_)), fun _ _ hh => hh⟩
  · refine ⟨fun _ => ?_, fun c => absurd c (by decide)⟩
    subst e1
    obtain ⟨X, hX⟩ : ∃ X, X = vallA a (a.1 1 0) p := ⟨_, rfl⟩
    have hXle : X ≤ 77922 := by rw [hX]; exact vallA_le hW
    have es : sPay a (nI p) = if 999 < X then (-3, a) else if (vseek a X).1 = 0 then (-3, a) else (nI (vseek a X).1 - 1, vaput (vpaid a (vseek a X).2.2 4) 7 p (a.1 7 p + X)) := by
      unfold sPay
      rw [vix_nI hp (by decide), hX]
    refine ⟨_, VM.at (vr_allOf hR hW hA hp (fun s2 hs2 => ?_)), fun _ _ hh => hh⟩
    rw [← hX]
    have hs2' := hs2.up vMo_s
    refine ⟨fun c => ?_, fun c => ?_⟩
    · have c' := (nIlt (b := 1000) (by omega) (by decide)).mp c
      refine ⟨_, VM.at (vr_sums (hR.ag hs2') hW (fun s3 hs3 hF => ?_)), fun _ _ hh => hh⟩
      have hs3' := hs2'.tr hs3
      refine ⟨_, VM.at (vr_fewFor c' hF ?_), fun _ _ hh => hh⟩
      have b := vfw_N (a := a) (k := 3) (x := X)
      by_cases can : vfw a 3 X < 1000000
      · refine ⟨fun _ => VM.at (VM.go [55] ?_), fun q => absurd (show nI (vfw a 3 X) < nI 1000000 from (nIlt (by omega) (by decide)).mpr can) q⟩
        have hne : ¬ (vseek a X).1 = 0 := fun q => (vseek_0 hW).mp q can
        rw [if_neg (by omega), if_neg hne, vseek_n hW can, (vseek_K hW).2 can] at es
        rw [es] at h
        obtain ⟨w, hw⟩ : ∃ w, w = vwD a X := ⟨_, rfl⟩
        rw [← hw] at h
        have hR3 := hR.ag hs3'
        have e8 : ∀ k, s3.1 68 k = nI (a.1 8 k) := fun k => (hR3.2.2.1 k).2.2.2.2.2.1
        have e9 : ∀ k, s3.1 69 k = nI (a.1 9 k) := fun k => (hR3.2.2.1 k).2.2.2.2.2.2.1
        refine vr_payK (k := 2) (K := 3) rfl (by decide) c' hW (e8 3) (e9 3) hF can (fun e he he9 hlt => ?_)
        refine vr_payK (k := 1) (K := 2) rfl (by decide) (by omega) hW (e8 2) (e9 2) hF hlt (fun c hc hc9 hlt2 => ?_)
        refine vr_payK (k := 0) (K := 1) rfl (by decide) (by omega) hW (e8 1) (e9 1) hF hlt2 (fun i hi hi9 hlt3 => ?_)
        have w3 : w 3 = e := by rw [hw, he]; rfl
        have w2 : w 2 = c := by rw [hw, hc, he]; rfl
        have w1 : w 1 = i := by rw [hw, hi, hc, he]; rfl
        obtain ⟨z, hz⟩ : ∃ z, z = X - e * a.1 8 3 - c * a.1 8 2 - i * a.1 8 1 := ⟨_, rfl⟩
        have w0 : w 0 = vmp a 0 z := by rw [hw, hz, hi, hc, he]; rfl
        rw [← hz] at hlt3 ⊢
        obtain ⟨b1, b2, b3⟩ := hW.br (k := 0) (by decide)
        have em : vfw a 0 z = vmp a 0 z := by
          rw [vfw_0 b1 b3] at hlt3 ⊢
          split at hlt3
          · next q => rw [if_pos q]
          · omega
        rw [em]
        obtain ⟨s6, hs6⟩ : ∃ s6, s6 = vput (vput (vput s3 69 3 (nI (a.1 9 3 - e))) 69 2 (nI (a.1 9 2 - c))) 69 1 (nI (a.1 9 1 - i)) := ⟨_, rfl⟩
        rw [← hs6]
        have hs6' : vagI vRf σ s6 := by rw [hs6]; exact (((hs3'.up vRf_o).put rfl).put rfl).put rfl
        have q9 : s6.1 69 0 - nI (vmp a 0 z) = nI (a.1 9 0 - vmp a 0 z) := by
          rw [show s6.1 69 0 = s3.1 69 0 by rw [hs6]; rfl, e9, pk_sub (vmp_le9 (Nat.le_refl _))]
        have q7 : ∀ v, (vput s6 69 0 v).1 67 p + nI X = nI (a.1 7 p + X) := fun v => by
          rw [show (vput s6 69 0 v).1 67 p = s3.1 67 p by rw [hs6]; rfl, (hR3.2.2.1 p).2.2.2.2.1, nI_add]
        have hpd := (hW.2.2.2.2.1 p hp).2
        have fin := h (vput (vput s6 69 0 (nI (a.1 9 0 - vmp a 0 z))) 67 p (nI (a.1 7 p + X))) ((hs6'.put rfl).put rfl) (by
          rw [← vpaid_rev, w3, w2, w1, w0, hs6]
          exact ((((hR3.put (c := 9) (m := 69) (Or.inl ⟨by decide, by decide, rfl⟩)).put (c := 9) (m := 69) (Or.inl ⟨by decide, by decide, rfl⟩)).put (c := 9) (m := 69) (Or.inl ⟨by decide, by decide, rfl⟩)).put (c := 9) (m := 69) (Or.inl ⟨by decide, by decide, rfl⟩)).put (c := 7) (m := 67) (Or.inl ⟨by decide, by decide, rfl⟩))
        dsimp only at fin
        rw [nI_pred] at fin
        refine VM.go [182] ⟨fun _ => ⟨0, rfl, by decide, nofun, 0, rfl, by decide, ?_⟩, fun q => absurd (by decide) q⟩
        show VM (true, Gx) (D + 47) iX7_pay 182 _ _ _ _
        rw [q9]
        refine VM.go [195] ⟨p, rfl, hp, ?_⟩
        show VM (true, Gx) (D + 47) iX7_pay 195 _ _ _ _
        rw [q7]
        refine VM.go [] ⟨_, VM.at (vm_within (m := 999999) (by decide) ?_), fun _ _ hh => hh⟩
        rw [vcl_nI (by omega) (by decide), Nat.min_eq_left (by omega)]
        exact ⟨nofun, p, rfl, hp, fin⟩
      · refine ⟨fun q => absurd ((nIlt (b := 1000000) (by omega) (by decide)).mp q) can, fun _ => bad (-3) ?_ s3 hs3'⟩
        rw [es, if_neg (by omega), if_pos ((vseek_0 hW).mpr can)]
    · have c' : ¬ X < 1000 := fun q => c ((nIlt (b := 1000) (by omega) (by decide)).mpr q)
      exact bad (-3) (by rw [es, if_pos (by omega)]) s2 hs2'
  · refine ⟨fun c => absurd rfl c, fun _ => bad (-2) ?_ σ vagI.rf⟩
    unfold sPay
    rw [ep]
end RQ
