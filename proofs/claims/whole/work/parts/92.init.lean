/-! ===== THE CLASS AS IT IS MADE: from the place on where all its cells are there ===== -/
/-- the first text -/
def vfb : List Nat := [100, 117, 101, 115, 32, 121, 101, 97, 114, 115, 32, 59, 32, 111, 102, 102, 115, 32, 48, 32, 59, 32, 101, 120, 116, 114, 97, 115, 32, 51, 32, 59]
theorem vfb_n : vfault vfb = none := by decide +kernel
theorem vfb_256 : ∀ x ∈ vfb, x < 256 := by decide
theorem vfb_at : ∀ i, i < 32 → vFirst.getD i 0 = nI (vfb.getD i 0) := by decide
theorem vfb_hi {k : Nat} (h : ¬ k < 32) : vfb.getD k 0 = 0 := by
  rw [List.getD_eq_getElem?_getD, List.getElem?_eq_none (by show 32 ≤ k; omega)]; rfl
def vbr (k : Nat) : Nat := match k with | 0 => 1 | 1 => 5 | 2 => 10 | 3 => 50 | _ => 0
/-- what the class's cells hold when all of them are there -/
def vz6 (c k : Nat) : Int32 := if c = 8 then nI (vbr k) else if (c = 38 ∧ k = 2) ∨ (c = 40 ∧ k = 1) then 20 else if (c = 50 ∨ c = 52 ∨ c = 54 ∨ c = 56) ∧ k = 0 then -1 else 0
/-- the state at the start -/
def va0 : vα := (fun c k => if c = 8 then vbr k else if c = 39 then vfb.getD k 0 else if c = 0 ∧ k = 4 then 1 else 0, fun _ _ => 0, fun _ => vfb)
theorem va0_0 {c k : Nat} (h : ¬ c = 8 ∧ ¬ c = 39 ∧ ¬ (c = 0 ∧ k = 4)) : va0.1 c k = 0 := by
  show (if c = 8 then vbr k else if c = 39 then vfb.getD k 0 else if c = 0 ∧ k = 4 then 1 else 0) = 0
  rw [if_neg h.1, if_neg h.2.1, if_neg h.2.2]
theorem va0_8 {k : Nat} : va0.1 8 k = vbr k := rfl
theorem va0_39 {k : Nat} : va0.1 39 k = vfb.getD k 0 := rfl
theorem va0_inv : vInv 0 va0 := by
  refine ⟨⟨⟨?_, ?_, ?_⟩, ?_, fun k hk => ?_, fun k hk => ?_, fun k hk => ?_, fun k hk => ?_, ⟨?_, fun k hk => ?_⟩, fun s hs => ?_, fun t ht => ?_, ?_, fun hi => ?_⟩, fun t ht => vfb_n, fun k hk => ?_, fun z => ?_⟩
  · rw [va0_0 (by omega)]; decide
  · rw [va0_0 (by omega)]; decide
  · rw [va0_0 (by omega)]; decide
  · exact ⟨Nat.le_refl _, by decide⟩
  · rw [va0_0 (by omega), va0_0 (by omega), va0_0 (by omega)]; decide
  · rw [va0_0 (by omega)]; decide
  · rw [va0_0 (by omega), va0_0 (by omega)]; decide
  · rw [va0_8, va0_0 (by omega)]
    rcases (show k = 0 ∨ k = 1 ∨ k = 2 ∨ k = 3 by omega) with e | e | e | e <;> rw [e] <;> decide
  · rw [va0_0 (by omega)]; decide
  · rw [va0_39]
    by_cases h : k < 32
    · exact vfb_256 _ (by rw [List.getD_eq_getElem?_getD, List.getElem?_eq_getElem (show k < vfb.length from h)]; exact List.getElem_mem _)
    · rw [vfb_hi h]; decide
  · rw [va0_0 (by omega), va0_0 (by omega)]; decide
  · exact ⟨vacc_wf (b := vfb) (by decide) vfb_n, vacc_tok vfb, by show (32 : Nat) ≤ 160; decide, vfb_256⟩
  · rw [va0_0 (by omega)]; decide
  · rw [va0_0 (by omega)] at hi; exact absurd hi (by decide)
  · rw [va0_0 (by omega)]; exact Nat.zero_le _
  · rw [va0_0 (by omega)] at z; exact absurd z (by decide)
section TX2
variable {G : vG} {D : Nat} {σ : vM} {post : vQ} {b : List Nat} {r : Nat}
theorem vd_read2 (hr : vRc r) (hT : vTp b σ) (h : ∀ σ', vag (vRd3 r) σ σ' → (vfault b = none → vRu r (vcomp b) σ' ∧ σ'.1 r 0 = nI (vnn b) ∧ σ'.1 38 2 = nI r) → post (some (.int (vpFi (vfault b)))) σ') : VM G (D + 44) iX2_read 0 [some (.ref 38), some (.ref r), none] [] σ post := by
  have h160 := hT.1
  have key : ∀ k, k ≤ 3 → ∀ s2, vag (vRd3 r) σ s2 → vRD b r (vpsk b k) s2 → (∀ p, p < k → s2.1 (r + 2) p = nI (vpC (vpsk b (p + 1))).length) → VM G (D + 44) iX2_read 28 [some (.ref 38), some (.ref r), some (.int (nI k))] [] s2 post := by
    refine vloop _ ?_ ?_
    · intro s2 hs2 hR2 hE
      have ev := vpEnd_sk b
      have evf : vfault b = vpF (vpEnd b) := rfl
      have hroom := vp_room (b := b) h160
      have hno := vfault_no (b := b)
      have hcode := vcode_comp b
      have hend := vend_comp b
      have hnn := vnn_sk b
      obtain ⟨S, hS⟩ : ∃ S, S = vpsk b 3 := ⟨_, rfl⟩
      rw [← hS] at hR2 ev hroom hno hcode hnn
      have hE3 : ∀ p, p < 3 → s2.1 (r + 2) p = nI (vend (vcomp b) p) := fun p hp => by rw [hend p hp]; exact hE p hp
      have he2 : vend (vcomp b) 2 = (vpC S).length := by rw [hend 2 (by decide), show 2 + 1 = 3 from rfl, hS]
      refine VM.go [66] ⟨fun _ => vd_readE hr hR2 (fun s3 hs3 hx => ?_), fun q => absurd (by decide) q⟩
      rw [← ev, ← evf]
      refine h s3 (hs2.tr (hs3.up (fun c k => vRd3_up))) (fun hf => ?_)
      have e3 := hx (hno hf).1
      subst e3
      obtain ⟨a1, a2, a3, a4, a5, a6, a7, a8, a9, a10, a11, a12, a13, a14⟩ := hR2.1
      refine ⟨⟨by rw [he2]; exact a8, hE3, fun p hp k hk => ?_⟩, ?_, a2⟩
      · obtain ⟨g1, g2⟩ := hcode p hp k hk
        rw [g1]; exact a9 _ g2
      · rw [a11.1 (hroom a12 hf), hnn]
    · intro k hk ih s2 hs2 hR2 hE
      have es := vpsk_s b k
      obtain ⟨S, hS⟩ : ∃ S, S = vpsk b k := ⟨_, rfl⟩
      obtain ⟨S', hS'⟩ : ∃ S, S = vpsk b (k + 1) := ⟨_, rfl⟩
      rw [← hS] at hR2 es
      rw [← hS'] at es ih
      refine vd_readP hr hk es hR2 (fun s5 z hs5 h5 hz => ?_)
      refine ih _ ((hs2.tr (hs5.up (fun c k => vRd3_up))).put ?_) (h5.put2 hr) (fun p hp => ?_)
      · unfold vRd3; rw [show Nat.beq (r + 2) (r + 2) = true from Nat.beq_refl _]; simp
      · rw [vput_get]
        by_cases e : p = k
        · rw [if_pos ⟨rfl, e⟩, e, ← hS', hz]
        · rw [if_neg (fun q => e q.2), hs5.get (vRdS_2 hr)]
          exact hE p (by omega)
  have hA : ∀ s2, s2 = vput (vput (vput (vput (vput σ 38 2 (nI r)) r 3 0) r 0 0) 38 3 (-1)) 38 5 0 → VM G (D + 43) iX2_advance 0 [some (.ref 38), none] [] s2 (fun v s3 => v = none ∧ VM G (D + 44) iX2_read 28 [some (.ref 38), some (.ref r), some (.int (nI 0))] [] s3 post) := by
    intro s2 e2
    have hr1 : r ≠ 38 ∧ r ≠ 39 := by unfold vRc at hr; omega
    have hs2 : vag (vRd3 r) σ s2 := by
      rw [e2]
      have z1 : vRd3 r r 3 = true ∧ vRd3 r r 0 = true := by unfold vRd3; rw [vRdS_r.1, vRdS_r.1]; exact ⟨rfl, rfl⟩
      have z2 : ∀ k, 1 ≤ k → vRd3 r 38 k = true := fun k hk => by unfold vRd3; rw [vRdS_38 hk]; rfl
      exact ((((vag.rf.put (z2 2 (by decide))).put z1.1).put z1.2).put (z2 3 (by decide))).put (z2 5 (by decide))
    have eN : s2.1 38 5 = 0 := by rw [e2, vput_eq]
    have eF : s2.1 38 3 = -1 := by rw [e2, vput_ne (Or.inr (by decide)), vput_eq]
    have eR : s2.1 38 2 = nI r := by rw [e2, vput_ne (Or.inr (by decide)), vput_ne (Or.inr (by decide)), vput_ne (Or.inl (fun e => hr1.1 e.symm)), vput_ne (Or.inl (fun e => hr1.1 e.symm)), vput_eq]
    have e0 : s2.1 r 0 = 0 := by rw [e2, vput_ne (Or.inl hr1.1), vput_ne (Or.inl hr1.1), vput_eq]
    have e3 : s2.1 r 3 = 0 := by rw [e2, vput_ne (Or.inl hr1.1), vput_ne (Or.inl hr1.1), vput_ne (Or.inr (by decide)), vput_eq]
    have hT2 : vTp b s2 := hT.ag (by rw [e2, vput_ne (Or.inr (by decide)), vput_ne (Or.inr (by decide)), vput_ne (Or.inl (fun e => hr1.1 e.symm)), vput_ne (Or.inl (fun e => hr1.1 e.symm)), vput_ne (Or.inr (by decide))]) (fun k => by rw [e2, vput_ne (Or.inl (by decide)), vput_ne (Or.inl (by decide)), vput_ne (Or.inl (fun e => hr1.2 e.symm)), vput_ne (Or.inl (fun e => hr1.2 e.symm)), vput_ne (Or.inl (by decide))])
    have ok0 := vokT_adv b ((0, 0, 0, 0, none, []) : vPS)
    have k0 := key 0 (Nat.zero_le _)
    rw [vpsk_0] at k0
    unfold vp0 at k0
    refine vb_advN (d := D + 37) (s := (0, 0, 0, 0, none, [])) hr rfl ⟨hT2, eR, Nat.zero_le _, fun k hk => absurd hk (Nat.not_lt_zero _), e3, fun _ => ?_, Or.inl e0⟩ eF eN (Nat.zero_le _) (fun s3 hs3 h3 => ⟨rfl, ?_⟩)
    · rw [e0, if_neg List.not_mem_nil]; decide
    · exact k0 s3 (hs2.tr (hs3.up (fun c k => vRd3_up))) ⟨h3, ok0⟩ (fun p hp => absurd hp (Nat.not_lt_zero _))
  have hA' := hA _ rfl
  have call : VM G (D + 43) iX4_empty 0 [some (.ref r)] [] (vput σ 38 2 (nI r)) (fun v s3 => v = none ∧ s3 = vput (vput (vput σ 38 2 (nI r)) r 3 0) r 0 0) := vb_empty hr ⟨rfl, rfl⟩
  have hlt := vRc_lt hr
  unfold vRc at hr
  rcases hr with rfl | rfl | rfl | rfl | rfl | rfl
  all_goals exact VM.go [28] ⟨_, rfl, hlt, _, VM.at call, fun _ _ hh => by
    rcases hh with ⟨rfl, rfl⟩
    exact ⟨_, VM.at hA', fun _ _ hh => by
      rcases hh with ⟨rfl, hh⟩
      exact VM.at (VM.go [28] hh)⟩⟩
end TX2
section CI
variable {G : vG} {d D : Nat} {σ : vM} {post : vQ}
theorem vb_flen (h : post (some (.int 32)) σ) : VM G (d + 1) iJ0_length_8abf5 0 [some (.ref 1000)] [] σ post :=
  VM.go [] ⟨_, VM.at (VM.go [] ⟨fun q => absurd q (by decide), fun _ => ⟨rfl, by exact h⟩⟩), fun _ _ hh => hh⟩
theorem vfch : ∀ i, i < 32 → (((vFirst.getD i 0) &&& 255).toUInt32 % 65536).toInt32 = vFirst.getD i 0 := by decide
theorem vfc2 : ∀ i, i < 32 → ((vFirst.getD i 0).toUInt32 % 65536).toInt32 = vFirst.getD i 0 := by decide
theorem vfc3 {i : Nat} (hi : i < 32) : narrow .char (.int ((((vFirst.getD i 0) &&& 255).toUInt32 % 65536).toInt32)) = .int ((((vFirst.getD i 0) &&& 255).toUInt32 % 65536).toInt32) := by
  rw [vfch i hi]
  exact congrArg Value.int (vfc2 i hi)
theorem vb_fchar {i : Nat} (hi : i < 32) (h : post (some (.int (vFirst.getD i 0))) σ) : VM G (d + 3) iJ0_charAt_5068e 0 [some (.ref 1000), some (.int (nI i))] [] σ post := by
  have n3 := vfc3 hi
  rw [← vfch i hi] at h
  refine VM.go [] ⟨_, VM.at (VM.go [] ⟨fun q => absurd q (by decide), fun _ => ⟨fun q => absurd rfl q, fun _ => ⟨Or.inr rfl, ?_⟩⟩⟩), fun _ _ hh => hh⟩
  refine ⟨fun q => absurd q (by decide), fun _ => ⟨_, VM.at (VM.go [] ⟨_, VM.at (VM.go [] ⟨_, VM.at (VM.go [] ⟨fun q => absurd q (nI_pos (by omega)), fun _ => ⟨fun _ => ?_, fun q => absurd (nI_lt hi (by decide)) q⟩⟩), fun _ _ hh => hh⟩), fun _ _ hh => hh⟩), fun _ _ hh => hh⟩⟩
  exact ⟨i, rfl, hi, ⟨n3, n3, h⟩⟩
theorem vb_append {i : Nat} {v : Int32} (hi : i < 160) (h38 : σ.1 38 0 = nI i) (h : post none (vput (vput σ 39 i v) 38 0 (nI i + 1))) : VM G d iX2_append 0 [some (.ref 38), some (.int v)] [] σ post := by
  rw [← h38] at h
  exact VM.go [] ⟨fun q => absurd q (by rw [h38]; exact nI_pos (by omega)), fun _ => ⟨fun q => absurd q (by rw [h38]; exact nI_ge hi (by decide)), fun _ => ⟨nofun, i, h38, hi, h⟩⟩⟩
/-- the tape's cells -/
def vTq (c k : Nat) : Bool := (Nat.beq c 38 && Nat.beq k 0) || Nat.beq c 39
theorem vTq_n {c k : Nat} (h : ¬ ((c = 38 ∧ k = 0) ∨ c = 39)) : vTq c k = false := by
  cases hb : vTq c k with
  | false => rfl
  | true => exfalso; simp only [vTq, Bool.or_eq_true, Bool.and_eq_true, vbq] at hb; omega
theorem vc_init {y1 : Option Value} (h0 : ∀ c k, c < 58 → σ.1 c k = vz6 c k) (h : ∀ σ', vag vKl σ σ' → σ'.1 38 2 = 20 → σ'.1 40 1 = 20 → vRC va0 σ' → post none σ') : VM G (D + 45) iX6_init 190 [some (.ref 0), y1] [] σ post := by
  have z38 : σ.1 38 0 = nI 0 := by rw [h0 38 0 (by decide)]; rfl
  have fin : ∀ s2 (y1 : Option Value), vag vTq σ s2 → s2.1 38 0 = nI 32 → (∀ k, k < 32 → s2.1 39 k = nI (vfb.getD k 0)) → (∀ k, ¬ k < 32 → s2.1 39 k = 0) → VM G (D + 45) iX6_init 220 [some (.ref 0), y1] [] s2 post := by
    intro s2 y1 hs2 h38 h39 h39'
    have hTp : vTp vfb s2 := ⟨by decide, vfb_256, h38, fun k hk => h39 k hk⟩
    refine VM.go [] ⟨0, rfl, by decide, _, VM.at (vd_read2 (r := 20) (D := D) (Or.inl rfl) hTp (fun s3 hs3 hok => ?_)), fun _ _ hh => hh⟩
    obtain ⟨g1, g2, g3⟩ := hok vfb_n
    refine VM.at (VM.go [] ⟨_, VM.at (VM.go [] ?_), fun _ _ hh => hh⟩)
    have hq : vag vKl σ (vput (vput s3 38 0 0) 0 4 1) := (((hs2.up (fun c k hk => vTq_n (fun q => by
      have : vKl c k = true := by unfold vKl; rw [Nat.ble_eq]; omega
      rw [this] at hk; cases hk))).tr (hs3.up (fun c k => vRd3_Kl (t := 0) (by decide)))).put rfl).put rfl
    refine h _ hq (by rw [vput_ne (Or.inl (by decide)), vput_ne (Or.inr (by decide))]; exact g3) (by rw [vput_ne (Or.inl (by decide)), vput_ne (Or.inl (by decide)), hs3.get (vRd3_ne (t := 0) (by decide) (by decide)), hs2.get (vTq_n (by decide)), h0 40 1 (by decide)]; rfl) ⟨fun c k hk => ?_, fun s hs => ?_, fun s k hs hk => ?_, fun t ht => ?_⟩
    · by_cases e0 : c = 0 ∧ k = 4
      · rw [e0.1, e0.2, vput_eq]; rfl
      · rw [vput_ne (by omega)]
        by_cases e38 : c = 38 ∧ k = 0
        · rw [e38.1, e38.2, vput_eq, va0_0 (by omega)]; rfl
        · rw [vput_ne (by omega), hs3.get (vRd3_ps (t := 0) (by decide) hk)]
          by_cases e39 : c = 39
          · rw [e39, va0_39]
            by_cases hk32 : k < 32
            · exact h39 k hk32
            · rw [h39' k hk32, vfb_hi hk32]; rfl
          · have hc58 : c < 58 := by
              simp only [vps, Bool.or_eq_true, Bool.and_eq_true, Nat.ble_eq, vbq] at hk
              omega
            rw [hs2.get (vTq_n (by omega)), h0 c k hc58]
            unfold vz6
            by_cases e8 : c = 8
            · rw [if_pos e8, e8, va0_8]
            · rw [if_neg e8, if_neg ?_, if_neg ?_, va0_0 (by omega)]
              · rfl
              · simp only [vps, Bool.or_eq_true, Bool.and_eq_true, Nat.ble_eq, vbq] at hk
                omega
              · simp only [vps, Bool.or_eq_true, Bool.and_eq_true, Nat.ble_eq, vbq] at hk
                omega
    · rw [vput_ne (Or.inl (by omega)), vput_ne (Or.inl (by omega)), hs3.get (vRd3_ne (t := 0) (by omega) (by omega)), hs2.get (vTq_n (by omega)), h0 _ _ (by omega), va0_0 (by omega)]
      unfold vz6
      rw [if_neg (by omega), if_neg (by omega), if_pos (by omega)]
      decide
    · rw [va0_0 (by omega)] at hk; exact absurd hk (Nat.not_lt_zero _)
    · have ht1 : t < 1 := ht
      have t0 : t = 0 := by omega
      subst t0
      exact ⟨g1.ag (fun k => by rw [vput_ne (Or.inl (by decide)), vput_ne (Or.inl (by decide))]) (fun k => by rw [vput_ne (Or.inl (by decide)), vput_ne (Or.inl (by decide))]), g2⟩
  have key : ∀ i, i ≤ 32 → ∀ s2, vag vTq σ s2 → s2.1 38 0 = nI i → (∀ k, k < i → s2.1 39 k = nI (vfb.getD k 0)) → (∀ k, ¬ k < i → s2.1 39 k = 0) → VM G (D + 45) iX6_init 192 [some (.ref 0), some (.int (nI i))] [] s2 post := by
    refine vloop _ ?_ ?_
    · intro s2 hs2 h38 h39 h39'
      refine VM.go [192, 220] ⟨_, VM.at (vb_flen (d := D + 43) ?_), fun _ _ hh => hh⟩
      exact ⟨fun _ => VM.at (fin s2 _ hs2 h38 h39 h39'), fun q => absurd (by decide) q⟩
    · intro i hi ih s2 hs2 h38 h39 h39'
      refine VM.go [192, 220] ⟨_, VM.at (vb_flen (d := D + 43) ?_), fun _ _ hh => hh⟩
      refine ⟨fun q => absurd q (nI_ge hi (by decide)), fun _ => ⟨_, VM.at (vb_fchar (d := D + 41) hi ?_), fun _ _ hh => hh⟩⟩
      refine ⟨_, VM.at (vb_append (by omega) h38 ?_), fun _ _ hh => hh⟩
      have := ih (vput (vput s2 39 i (vFirst.getD i 0)) 38 0 (nI (i + 1))) ((hs2.put rfl).put rfl) (vput_eq _ _ _ _) (fun k hk => by
        rw [vput_ne (Or.inl (by decide)), vput_get]
        by_cases e : k = i
        · rw [if_pos ⟨rfl, e⟩, e]; exact vfb_at i hi
        · rw [if_neg (fun q => e q.2)]; exact h39 k (by omega)) (fun k hk => by
        rw [vput_ne (Or.inl (by decide)), vput_ne (Or.inr (by omega))]; exact h39' k (by omega))
      rw [← nI_1 i] at this
      exact VM.at (VM.go [192] this)
  exact VM.go [192] (key 0 (Nat.zero_le _) σ vag.rf z38 (fun k hk => absurd hk (Nat.not_lt_zero _)) (fun k _ => by rw [h0 39 k (by decide)]; rfl))
end CI
