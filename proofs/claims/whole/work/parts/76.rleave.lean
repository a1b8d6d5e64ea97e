/-! ===== THE REFERENCE: leave, farm ===== -/
section RL
variable {Gx : Nat × (Nat → Int32)} {d D : Nat} {σ : vM} {post : vQ} {a b : vα}
theorem vr_leave {p0 w0 : Int32} (hR : vRM a σ) (hW : vWF a) (hA : vAc a) (h : ∀ σ', vagI vRf σ σ' → vRM a σ' → post (some (.int (sLeave a p0 w0))) σ') : VM (true, Gx) (D + 46) iX7_leave 0 [some (.ref 58), some (.int p0), some (.int w0), none, none, none] [] σ post := by
  have hn6 := hW.1.2.2
  have bad : sLeave a p0 w0 = -2 → post (some (.int (-2))) σ := fun e => by
    have := h σ vagI.rf hR
    rw [e] at this
    exact this
  refine VM.go [20] ⟨_, VM.at (vm_isLooker (d := D + 44) (fun p ep hp e1 => ?_) (fun ep => ?_)), fun _ _ hh => hh⟩
  · refine ⟨fun c => absurd c (by decide), fun _ => ⟨_, VM.at (vm_in0 (m := 1) (by decide) (by decide) (fun w ew hw e3 => ?_) (fun ew => ?_)), fun _ _ hh => hh⟩⟩
    · refine ⟨fun _ => ?_, fun c => absurd c (by decide)⟩
      obtain ⟨f, hf⟩ : ∃ f : Nat → Nat, f = fun l => vsm a (vupd (vse a p) l 0) := ⟨_, rfl⟩
      obtain ⟨B, hB⟩ : ∃ B, B = vsm a (vse a p) := ⟨_, rfl⟩
      have es : sLeave a p0 w0 = if w = 0 then nI (vlvp f B (a.1 1 2)).1 - 1 else nI (vlvp f B (a.1 1 2)).2 := by
        unfold sLeave
        rw [ep, ew, hf, hB]
      rw [es] at h
      have f9 : ∀ t, f t ≤ 77922 := fun t => by rw [hf]; exact vsm_le hn6
      have B9 : B ≤ 77922 := by rw [hB]; exact vsm_le hn6
      have lvb : ∀ t, (vlvp f B t).1 ≤ t ∧ (vlvp f B t).2 ≤ 77922 := by
        intro t
        induction t with
        | zero => exact ⟨Nat.le_refl _, B9⟩
        | succ t ih =>
          have i2 := f9 t
          unfold vlvp
          split
          · dsimp only; omega
          · omega
      have key : ∀ l, l ≤ a.1 1 2 → ∀ s (y4 y5 : Option Value), vagI vRf σ s → vRM a s → s.1 58 33 = nI (vlvp f B l).1 - 1 → s.1 58 34 = nI (vlvp f B l).2 → VM (true, Gx) (D + 46) iX7_leave 36 [some (.ref 58), some (.int (nI p)), some (.int (nI w)), some (.int (nI l)), y4, y5] [] s post := by
        refine vloop _ ?_ ?_
        · intro s y4 y5 hs hRs h33 h34
          have h' := h _ hs hRs
          refine VM.go [36] ⟨fun _ => ⟨fun c => ?_, fun c => ?_⟩, fun c => absurd ?_ c⟩
          · have c' : ¬ w = 0 := fun e => c (by rw [e]; rfl)
            rw [if_neg c', ← h34] at h'
            exact h'
          · have c' : w = 0 := (nI_eq (b := 0) (by omega) (by decide)).mp c
            rw [if_pos c', ← h33] at h'
            exact h'
          · rw [hRs.1.2.2.2.2]; exact nI_le (Nat.le_refl _) (by omega)
        · intro l hl ih s y4 y5 hs hRs h33 h34
          have ix : (6 : Int32) * nI p + nI l = nI (6 * p + l) := by rw [show (6 : Int32) = nI 6 from rfl, pk_mul, nI_add]
          have ew0 : s.1 65 (6 * p + l) = nI (a.1 5 (6 * p + l)) := (hRs.2.2.1 (6 * p + l)).2.2.1
          have hRw := hRs.put (c := 5) (m := 65) (k := 6 * p + l) (v := 0) (Or.inl ⟨by decide, by decide, rfl⟩)
          have e : vlvp f B (l + 1) = if f l < (vlvp f B l).2 then (l + 1, f l) else vlvp f B l := rfl
          obtain ⟨c1, c2⟩ := lvb l
          refine VM.go [36, 69] ⟨fun c => absurd c (by rw [hRs.1.2.2.2.2]; exact nI_ge hl (by omega)), fun _ => ⟨6 * p + l, ix, by omega, nofun, 6 * p + l, ix, by omega, ?_⟩⟩
          show VM (true, Gx) (D + 46) iX7_leave 69 _ _ _ _
          refine VM.go [36] ⟨_, VM.at (vr_plainP hRw hW hA (by decide) hp (fun s2 hs2 => ?_)), fun _ _ hh => hh⟩
          rw [show vsm a (vupd (vse a p) l 0) = f l by rw [hf], ew0]
          have fb := f9 l
          have hs2' : vagI vRf σ s2 := (hs.put (a := 65) (k := 6 * p + l) (v := nI 0) rfl).tr ((hs2.up vMo_s).up vRf_o)
          have hR2 := (hRw.ag (hs2.up vMo_s)).put (c := 5) (m := 65) (k := 6 * p + l) (v := a.1 5 (6 * p + l)) (Or.inl ⟨by decide, by decide, rfl⟩)
          rw [vaput_2, vaput_id] at hR2
          have g33 : s2.1 58 33 = nI (vlvp f B l).1 - 1 := (hs2.get rfl).trans h33
          have g34 : s2.1 58 34 = nI (vlvp f B l).2 := (hs2.get rfl).trans h34
          have hs3 := hs2'.put (a := 65) (k := 6 * p + l) (v := nI (a.1 5 (6 * p + l))) rfl
          refine VM.at (VM.go [36] ⟨nofun, 6 * p + l, ix, by omega, fun c => ?_, fun c => ?_⟩)
          · have c' : s2.1 58 34 ≤ nI (f l) := c
            rw [g34, nIle (by omega) (by omega)] at c'
            rw [if_neg (by omega)] at e
            have := ih _ (some (.int (nI (a.1 5 (6 * p + l))))) (some (.int (nI (f l)))) hs3 hR2 (by rw [e]; exact g33) (by rw [e]; exact g34)
            rw [← nI_1] at this
            exact this
          · have c' : ¬ s2.1 58 34 ≤ nI (f l) := c
            rw [g34, nIle (by omega) (by omega)] at c'
            rw [if_pos (by omega)] at e
            have := ih _ (some (.int (nI (a.1 5 (6 * p + l))))) (some (.int (nI (f l)))) ((hs3.put (a := 58) (k := 33) (v := nI l) rfl).put (a := 58) (k := 34) (v := nI (f l)) rfl) (hR2.ag ((vagI.rf.put rfl).put rfl)) (by rw [e, nI_pred]; rfl) (by rw [e]; rfl)
            rw [← nI_1] at this
            exact this
      subst e1; subst e3
      have hR1 : vRM a (vput σ 58 33 (-1)) := hR.ag (vagI.rf.put rfl)
      refine VM.at (VM.go [36] ⟨_, VM.at (vr_plainOf hR1 hW hA hp (fun s2 hs2 => ?_)), fun _ _ hh => hh⟩)
      rw [show vsumA a (a.1 1 0) (a.1 1 1) p = B by rw [hB]; rfl]
      have k0 := key 0 (Nat.zero_le _) (vput s2 58 34 (nI B)) none none (((vagI.rf.put (a := 58) (k := 33) (v := -1) rfl).tr ((hs2.up vMo_s).up vRf_o)).put rfl) (hR1.ag ((hs2.up vMo_s).put rfl)) ((hs2.get rfl).trans rfl) rfl
      exact VM.at (VM.go [36] k0)
    · refine ⟨fun c => absurd rfl c, fun _ => bad ?_⟩
      unfold sLeave
      rw [ew]
      cases vix p0 5 <;> rfl
  · refine ⟨fun _ => bad ?_, fun c => absurd rfl c⟩
    unfold sLeave
    rw [ep]
/-- a, but for the nights of p's first n lights -/
def vOn (a b : vα) (p n : Nat) : Prop := b.2 = a.2 ∧ (∀ c k, ¬ (c = 5 ∧ 6 * p ≤ k ∧ k < 6 * p + n) → b.1 c k = a.1 c k) ∧ vWF b
theorem vOn.put {a b : vα} {p n l v : Nat} (h : vOn a b p n) (hl : l < n) (hv : v < 4096) : vOn a (vaput b 5 (6 * p + l) v) p n := by
  obtain ⟨h1, h2, h3⟩ := h
  refine ⟨h1, fun c k hc => ?_, h3.put (Or.inl ⟨by decide, by decide⟩) (fun e => absurd e (by decide)) (fun e => absurd e (by decide)) (fun e => absurd e (by decide)) (fun e => absurd e (by decide)) (fun _ => hv) (fun e => absurd e (by decide)) (fun e => absurd e (by decide)) (fun e => absurd e (by decide)) (fun e => absurd e (by decide)) (fun e => absurd e (by decide)) (fun e => absurd e (by decide))⟩
  rw [vaput_ne (by omega)]
  exact h2 c k hc
theorem vr_farm {p0 k0 : Int32} (hR : vRM a σ) (hW : vWF a) (hA : vAc a) (h : ∀ σ', vagI vRf σ σ' → vRM a σ' → post (some (.int (sFarm a p0 k0))) σ') : VM (true, Gx) (D + 46) iX7_farm 0 [some (.ref 58), some (.int p0), some (.int k0), none, none, none] [] σ post := by
  have hn6 := hW.1.2.2
  have bad : sFarm a p0 k0 = -2 → post (some (.int (-2))) σ := fun e => by
    have := h σ vagI.rf hR
    rw [e] at this
    exact this
  refine VM.go [22] ⟨_, VM.at (vm_isLooker (d := D + 44) (fun p ep hp e1 => ?_) (fun ep => ?_)), fun _ _ hh => hh⟩
  · refine ⟨fun c => absurd c (by decide), fun _ => ⟨_, VM.at (vm_in0 (m := 99999) (by decide) (by decide) (fun K ew hK e3 => ?_) (fun ew => ?_)), fun _ _ hh => hh⟩⟩
    · refine ⟨fun _ => ?_, fun c => absurd c (by decide)⟩
      obtain ⟨n, hn⟩ : ∃ n, n = a.1 1 2 := ⟨_, rfl⟩
      obtain ⟨was, hwas⟩ : ∃ was : Nat → Nat, was = vse a p := ⟨_, rfl⟩
      obtain ⟨f, hf⟩ : ∃ f : Nat → Nat, f = fun t => vsm a (vkeep (vse a p) (2 ^ (t + 1) - 1) 6) := ⟨_, rfl⟩
      have es : sFarm a p0 k0 = vff f K 12 0 := by
        unfold sFarm
        rw [ep, ew, hf]
      rw [es] at h
      have f9 : ∀ t, f t ≤ 77922 := fun t => by rw [hf]; exact vsm_le hn6
      have w4 : ∀ l, l < 6 → was l < 4096 := fun l hl => by rw [hwas]; exact hW.2.2.2.1 _ (by omega)
      have ix : ∀ l, (6 : Int32) * nI p + nI l = nI (6 * p + l) := fun l => by rw [show (6 : Int32) = nI 6 from rfl, pk_mul, nI_add]
      have wasE : ∀ l, was l = a.1 5 (6 * p + l) := fun l => by rw [hwas]
      have m11 : ∀ {b s}, vOn a b p n → vRM b s → s.1 58 11 = nI n := fun hb hR => by
        rw [hR.1.2.2.2.2, hb.2.1 1 2 (by omega), hn]
      -- the nights are laid back
      have back : ∀ r3 : Int32, post (some (.int r3)) = post (some (.int (vff f K 12 0))) → ∀ l, l ≤ n → ∀ s b (y5 : Option Value), vagI vRf σ s → vOn a b p n → vRM b s → (∀ k, k < n → s.1 71 k = nI (was k)) → (∀ k, k < l → b.1 5 (6 * p + k) = was k) → VM (true, Gx) (D + 46) iX7_farm 141 [some (.ref 58), some (.int (nI p)), some (.int (nI K)), some (.int r3), some (.int (nI l)), y5] [] s post := by
        intro r3 er
        refine vloop _ ?_ ?_
        · intro s b y5 hs hb hRb h71 hl
          have eb : b = a := Prod.ext (funext fun c => funext fun k => by
            by_cases z : c = 5 ∧ 6 * p ≤ k ∧ k < 6 * p + n
            · obtain ⟨z1, z2, z3⟩ := z
              have := hl (k - 6 * p) (by omega)
              rw [wasE, show 6 * p + (k - 6 * p) = k by omega] at this
              rw [z1]; exact this
            · exact hb.2.1 c k z) hb.1
          have h' := h s hs (by rw [← eb]; exact hRb)
          rw [← er] at h'
          exact VM.go [141] ⟨fun _ => h', fun c => absurd (by rw [m11 hb hRb]; exact nI_le (Nat.le_refl _) (by omega)) c⟩
        · intro l hl ih s b y5 hs hb hRb h71 hlb
          refine VM.go [141] ⟨fun c => absurd c (by rw [m11 hb hRb]; exact nI_ge hl (by omega)), fun _ => ⟨l, rfl, by omega, nofun, 6 * p + l, ix l, by omega, ?_⟩⟩
          have hRw := hRb.put (c := 5) (m := 65) (k := 6 * p + l) (v := was l) (Or.inl ⟨by decide, by decide, rfl⟩)
          have := ih _ _ y5 (hs.put (a := 65) (k := 6 * p + l) (v := nI (was l)) rfl) (hb.put hl (w4 l (by omega))) hRw (fun k hk => h71 k hk) (fun k hk => by
            rw [vaput_get]
            by_cases z : k = l
            · rw [if_pos ⟨rfl, by omega⟩, z]
            · rw [if_neg (by omega)]; exact hlb k (by omega))
          rw [← nI_1, ← h71 l hl] at this
          exact this
      have mask : ∀ t, t < 12 → (∀ s b (y5 : Option Value), vagI vRf σ s → vOn a b p n → vRM b s → (∀ k, k < n → s.1 71 k = nI (was k)) → VM (true, Gx) (D + 46) iX7_farm 121 [some (.ref 58), some (.int (nI p)), some (.int (nI K)), some (.int (-1)), some (.int (nI t)), y5] [.int (nI (f t))] s post) → ∀ l, l ≤ n → ∀ s b, vagI vRf σ s → vOn a b p n → vRM b s → (∀ k, k < n → s.1 71 k = nI (was k)) → (∀ k, k < l → b.1 5 (6 * p + k) = was k &&& (2 ^ (t + 1) - 1)) → VM (true, Gx) (D + 46) iX7_farm 75 [some (.ref 58), some (.int (nI p)), some (.int (nI K)), some (.int (-1)), some (.int (nI t)), some (.int (nI l))] [] s post := by
        intro t ht nxt
        refine vloop _ ?_ ?_
        · intro s b hs hb hRb h71 hlb
          refine VM.go [75, 121] ⟨fun _ => ⟨_, VM.at (vr_plainOf hRb hb.2.2 (hA.eq hb.1 (hb.2.1 0 4 (by omega))) hp (fun s2 hs2 => ?_)), fun _ _ hh => hh⟩, fun c => absurd (by rw [m11 hb hRb]; exact nI_le (Nat.le_refl _) (by omega)) c⟩
          have e := vsumA_eq (a := a) (b := b) (c := b.1 1 0) (t := b.1 1 1) (p := p) (se := vse b p) hb.1 (hb.2.1 1 2 (by omega)) (funext fun k => hb.2.1 2 k (by omega)) (funext fun k => hb.2.1 3 k (by omega)) (funext fun k => hb.2.1 4 k (by omega)) rfl
          rw [hb.2.1 1 0 (by omega), hb.2.1 1 1 (by omega)] at e
          have e2 : vsm a (vse b p) = f t := by
            rw [hf]
            refine vsm_congr (fun i hi => ?_)
            unfold vkeep
            rw [if_pos (by omega), ← hwas]
            exact hlb i (by omega)
          rw [hb.2.1 1 0 (by omega), hb.2.1 1 1 (by omega), e, show vsumN (a.1 1 2) (vowes (vTof (vcomp (a.2.2 (a.1 1 1)))) (a.1 1 0) (a.1 1 2) (a.1 2) (a.1 3) (a.1 4) (vse b p)) = f t from e2]
          exact VM.at (nxt s2 b _ (hs.tr ((hs2.up vMo_s).up vRf_o)) hb (hRb.ag (hs2.up vMo_s)) (fun k hk => (hs2.get rfl).trans (h71 k hk)))
        · intro l hl ih s b hs hb hRb h71 hlb
          refine VM.go [110] ⟨fun c => absurd c (by rw [m11 hb hRb]; exact nI_ge hl (by omega)), fun _ => ⟨l, rfl, by omega, nofun, 6 * p + l, ix l, by omega, ?_⟩⟩
          show VM (true, Gx) (D + 46) iX7_farm 110 _ _ _ _
          have hpw : 2 ^ (t + 1) ≤ 2 ^ 12 := Nat.pow_le_pow_right (by decide) (by omega)
          rw [h71 l hl, nI_shl2 t ht, nI_and (by have := w4 l (by omega); omega) (by omega)]
          have hRw := hRb.put (c := 5) (m := 65) (k := 6 * p + l) (v := was l &&& (2 ^ (t + 1) - 1)) (Or.inl ⟨by decide, by decide, rfl⟩)
          have := ih _ _ (hs.put (a := 65) (k := 6 * p + l) (v := nI (was l &&& (2 ^ (t + 1) - 1))) rfl) (hb.put hl (Nat.lt_of_le_of_lt Nat.and_le_left (w4 l (by omega)))) hRw (fun k hk => h71 k hk) (fun k hk => by
            rw [vaput_get]
            by_cases z : k = l
            · rw [if_pos ⟨rfl, by omega⟩, z]
            · rw [if_neg (by omega)]; exact hlb k (by omega))
          rw [← nI_1] at this
          exact VM.go [75] this
      have key : ∀ m t, m + t = 12 → ∀ s b (y5 : Option Value), vff f K m t = vff f K 12 0 → vagI vRf σ s → vOn a b p n → vRM b s → (∀ k, k < n → s.1 71 k = nI (was k)) → VM (true, Gx) (D + 46) iX7_farm 60 [some (.ref 58), some (.int (nI p)), some (.int (nI K)), some (.int (-1)), some (.int (nI t)), y5] [] s post := by
        intro m
        induction m with
        | zero =>
          intro t ht s b y5 hv hs hb hRb h71
          have : t = 12 := by omega
          subst this
          have := back (-1) (by rw [← hv]; rfl) 0 (Nat.zero_le _) s b y5 hs hb hRb h71 (fun k hk => absurd hk (Nat.not_lt_zero _))
          exact VM.go [141] ⟨fun _ => this, fun q => absurd (by decide) q⟩
        | succ m ih =>
          intro t ht s b y5 hv hs hb hRb h71
          have ht12 : t < 12 := by omega
          have ev : vff f K (m + 1) t = if K ≤ f t then nI t else vff f K m (t + 1) := rfl
          have fb := f9 t
          refine VM.go [75] ⟨fun c => absurd c (nI_ge ht12 (by decide)), fun _ => ⟨fun c => absurd rfl c, fun _ => ?_⟩⟩
          refine mask t ht12 (fun s2 b2 y5 hs2 hb2 hR2 h712 => ?_) 0 (Nat.zero_le _) s b hs hb hRb h71 (fun k hk => absurd hk (Nat.not_lt_zero _))
          refine VM.go [60] ⟨fun c => ?_, fun c => ?_⟩
          · have c' : nI (f t) < nI K := c
            rw [nIlt (by omega) (by omega)] at c'
            rw [if_neg (by omega)] at ev
            have := ih (t + 1) (by omega) s2 b2 y5 (by rw [← hv, ev]) hs2 hb2 hR2 h712
            rw [← nI_1] at this
            exact this
          · have c' : ¬ nI (f t) < nI K := c
            rw [nIlt (by omega) (by omega)] at c'
            rw [if_pos (by omega)] at ev
            have fin := back (nI t) (by rw [← hv, ev]) 0 (Nat.zero_le _) s2 b2 y5 hs2 hb2 hR2 h712 (fun k hk => absurd hk (Nat.not_lt_zero _))
            have ne1 : ¬ nI t = -1 := fun z => absurd (show nI t < 0 by rw [z]; decide) (nI_pos (by omega))
            refine VM.at (VM.go [141] ⟨fun _ => fin, fun _ => ⟨fun _ => fin, fun z => absurd z ne1⟩⟩)
      -- what was is kept
      have keep : ∀ l, l ≤ n → ∀ s, vagI vRf σ s → vRM a s → (∀ k, k < l → s.1 71 k = nI (was k)) → VM (true, Gx) (D + 46) iX7_farm 24 [some (.ref 58), some (.int (nI p)), some (.int (nI K)), some (.int (nI l)), none, none] [] s post := by
        have hOn : vOn a a p n := ⟨rfl, fun _ _ _ => rfl, hW⟩
        refine vloop _ ?_ ?_
        · intro s hs hRs h71
          have := key 12 0 rfl s a none rfl hs hOn hRs h71
          exact VM.go [60] ⟨fun _ => this, fun c => absurd (by rw [m11 hOn hRs]; exact nI_le (Nat.le_refl _) (by omega)) c⟩
        · intro l hl ih s hs hRs h71
          refine VM.go [24] ⟨fun c => absurd c (by rw [m11 hOn hRs]; exact nI_ge hl (by omega)), fun _ => ⟨6 * p + l, ix l, by omega, nofun, l, rfl, by omega, ?_⟩⟩
          have ew0 : s.1 65 (6 * p + l) = nI (was l) := by rw [wasE]; exact (hRs.2.2.1 (6 * p + l)).2.2.1
          have := ih (vput s 71 l (nI (was l))) (hs.put rfl) (hRs.ag (vagI.rf.put rfl)) (fun k hk => by
            rw [vput_get]
            by_cases z : k = l
            · rw [if_pos ⟨rfl, z⟩, z]
            · rw [if_neg (fun q => z q.2)]; exact h71 k (by omega))
          rw [← nI_1, ← ew0] at this
          exact this
      subst e1; subst e3
      exact VM.at (VM.go [24] (keep 0 (Nat.zero_le _) σ vagI.rf hR (fun k hk => absurd hk (Nat.not_lt_zero _))))
    · refine ⟨fun c => absurd rfl c, fun _ => bad ?_⟩
      unfold sFarm
      rw [ew]
      cases vix p0 5 <;> rfl
  · refine ⟨fun _ => bad ?_, fun c => absurd rfl c⟩
    unfold sFarm
    rw [ep]
end RL
