/-! ===== THE REFERENCE: cheapest, leave, farm ===== -/
theorem vaput_id {a : vα} {c k : Nat} : vaput a c k (a.1 c k) = a := by
  refine Prod.ext (funext fun c2 => funext fun k2 => ?_) rfl
  show (if c2 = c ∧ k2 = k then a.1 c k else a.1 c2 k2) = a.1 c2 k2
  split
  · next q => rw [q.1, q.2]
  · rfl
theorem vaput_2 {a : vα} {c k v w : Nat} : vaput (vaput a c k v) c k w = vaput a c k w := by
  refine Prod.ext (funext fun c2 => funext fun k2 => ?_) rfl
  show (if c2 = c ∧ k2 = k then w else if c2 = c ∧ k2 = k then v else a.1 c2 k2) = if c2 = c ∧ k2 = k then w else a.1 c2 k2
  split <;> rfl
theorem vaput_c {a : vα} {c k v c' : Nat} (h : ¬ c' = c) : (vaput a c k v).1 c' = a.1 c' := funext fun _ => vaput_ne (Or.inl h)
theorem vsumA_eq {a b : vα} {c t p : Nat} {se : Nat → Nat} (h2 : b.2 = a.2) (hn : b.1 1 2 = a.1 1 2) (hk : b.1 2 = a.1 2) (hm : b.1 3 = a.1 3) (hy : b.1 4 = a.1 4) (hs : vse b p = se) : vsumA b c t p = vsumN (a.1 1 2) (vowes (vTof (vcomp (a.2.2 t))) c (a.1 1 2) (a.1 2) (a.1 3) (a.1 4) se) := by
  unfold vsumA vowA
  rw [h2, hn, hk, hm, hy]
  show vsumN (a.1 1 2) (vowes (vTof (vcomp (a.2.2 t))) c (a.1 1 2) (a.1 2) (a.1 3) (a.1 4) (vse b p)) = _
  rw [hs]
theorem vsumN_congr {n : Nat} {f g : Nat → Nat} (h : ∀ i, i < n → f i = g i) : vsumN n f = vsumN n g := by
  induction n with
  | zero => rfl
  | succ n ih =>
    show vsumN n f + f n = vsumN n g + g n
    rw [ih (fun i hi => h i (by omega)), h n (by omega)]
theorem vowes_congr {T : Nat → (Nat → Int32) → Int32} {c n : Nat} {kd nu ye se se' : Nat → Nat} {l : Nat} (hl : se l = se' l) (h : ∀ i, i < n → se i = se' i) : vowes T c n kd nu ye se l = vowes T c n kd nu ye se' l := by
  have e : vlitS c se n = vlitS c se' n := vsumN_congr (fun i hi => by rw [h i hi])
  have e2 : vnames c nu ye se n l = vnames c nu ye se' n l := by
    funext t i
    unfold vnames
    rw [hl, e]
  unfold vowes
  rw [hl, e2]
theorem vsm_congr {a : vα} {se se' : Nat → Nat} (h : ∀ i, i < a.1 1 2 → se i = se' i) : vsm a se = vsm a se' := vsumN_congr (fun i hi => vowes_congr (h i hi) h)
section RB
variable {Gx : Nat × (Nat → Int32)} {d D : Nat} {σ : vM} {post : vQ} {a b : vα}
theorem vAc.eq (hA : vAc a) (h2 : b.2 = a.2) (h4 : b.1 0 4 = a.1 0 4) : vAc b := fun t ht => by rw [h2]; exact hA t (by rw [← h4]; exact ht)
theorem vr_plainOf {p : Nat} (hR : vRM a σ) (hW : vWF a) (hA : vAc a) (hp : p < 5) (h : ∀ σ', vagI vMs σ σ' → post (some (.int (nI (vsumA a (a.1 1 0) (a.1 1 1) p)))) σ') : VM (true, Gx) (D + 45) iX7_plainOf 0 [some (.ref 58), some (.int (nI p)), none, none] [] σ post :=
  vm_plainOf (d := D + 38) (hW.tok hW.1.2.1) hp hW.mr hR.mb (hR.tell hW hA hW.1.2.1) h
/-- the sum when one light's nights are others -/
theorem vr_plainP {p l v : Nat} (hR : vRM (vaput a 5 (6 * p + l) v) σ) (hW : vWF a) (hA : vAc a) (hv : v < 4096) (hp : p < 5) (h : ∀ σ', vagI vMs σ σ' → post (some (.int (nI (vsm a (vupd (vse a p) l v))))) σ') : VM (true, Gx) (D + 45) iX7_plainOf 0 [some (.ref 58), some (.int (nI p)), none, none] [] σ post := by
  have hW' : vWF (vaput a 5 (6 * p + l) v) := hW.put (Or.inl ⟨by decide, by decide⟩) (fun e => absurd e (by decide)) (fun e => absurd e (by decide)) (fun e => absurd e (by decide)) (fun e => absurd e (by decide)) (fun _ => hv) (fun e => absurd e (by decide)) (fun e => absurd e (by decide)) (fun e => absurd e (by decide)) (fun e => absurd e (by decide)) (fun e => absurd e (by decide)) (fun e => absurd e (by decide))
  have hA' : vAc (vaput a 5 (6 * p + l) v) := hA.eq rfl rfl
  refine vr_plainOf hR hW' hA' hp ?_
  have hc : (vaput a 5 (6 * p + l) v).1 1 0 = a.1 1 0 := rfl
  have ht : (vaput a 5 (6 * p + l) v).1 1 1 = a.1 1 1 := rfl
  have e := vsumA_eq (a := a) (b := vaput a 5 (6 * p + l) v) (c := a.1 1 0) (t := a.1 1 1) (p := p) (se := vupd (vse a p) l v) rfl rfl (vaput_c (by decide)) (vaput_c (by decide)) (vaput_c (by decide)) (funext fun k => by
    show (if 5 = 5 ∧ 6 * p + k = 6 * p + l then v else a.1 5 (6 * p + k)) = if k = l then v else a.1 5 (6 * p + k)
    by_cases q : k = l
    · rw [if_pos ⟨rfl, by omega⟩, if_pos q]
    · rw [if_neg (by omega), if_neg q])
  rw [hc, ht, e]
  exact h
theorem vr_cheapest {p0 l0 w0 : Int32} (hR : vRM a σ) (hW : vWF a) (hA : vAc a) (h : ∀ σ', vagI vRf σ σ' → vRM a σ' → post (some (.int (sCheapest a p0 l0 w0))) σ') : VM (true, Gx) (D + 46) iX7_cheapest 0 [some (.ref 58), some (.int p0), some (.int l0), some (.int w0), none, none, none, none] [] σ post := by
  have hn6 := hW.1.2.2
  have bad : sCheapest a p0 l0 w0 = -2 → post (some (.int (-2))) σ := fun e => by
    have := h σ vagI.rf hR
    rw [e] at this
    exact this
  refine VM.go [28] ⟨_, VM.at (vm_isLooker (d := D + 44) (fun p ep hp e1 => ?_) (fun ep => ?_)), fun _ _ hh => hh⟩
  · refine ⟨fun c => absurd c (by decide), fun _ => ⟨_, VM.at (vm_isLight (d := D + 44) hR.1.2.2.2.2 hn6 (fun l el hl e2 => ?_) (fun el => ?_)), fun _ _ hh => hh⟩⟩
    · refine ⟨fun c => absurd c (by decide), fun _ => ⟨_, VM.at (vm_in0 (m := 1) (by decide) (by decide) (fun w ew hw e3 => ?_) (fun ew => ?_)), fun _ _ hh => hh⟩⟩
      · refine ⟨fun _ => ?_, fun c => absurd c (by decide)⟩
        obtain ⟨was, hwas⟩ : ∃ was, was = a.1 5 (6 * p + l) := ⟨_, rfl⟩
        obtain ⟨m, hm⟩ : ∃ m, m = was ||| a.1 1 0 := ⟨_, rfl⟩
        obtain ⟨f, hf⟩ : ∃ f : Nat → Nat, f = fun t => vsm a (vupd (vse a p) l (was ||| 2 ^ t)) := ⟨_, rfl⟩
        have es : sCheapest a p0 l0 w0 = if w = 0 then nI (vchp f m 12).1 - 1 else nI (vchp f m 12).2 - 1 := by
          unfold sCheapest
          rw [ep, el, ew, hf, hm, hwas]
        rw [es] at h
        have hw4 : was < 4096 := by rw [hwas]; exact hW.2.2.2.1 _ (by omega)
        have hm4 : m < 4096 := by rw [hm]; exact Nat.or_lt_two_pow (n := 12) hw4 hW.1.1
        have f9 : ∀ t, f t ≤ 77922 := fun t => by rw [hf]; exact vsm_le hn6
        obtain ⟨q, hq⟩ : ∃ q, q = 6 * p + l := ⟨_, rfl⟩
        rw [← hq] at hwas
        have chb : ∀ t, t ≤ 12 → (vchp f m t).1 ≤ t ∧ (vchp f m t).2 ≤ 77923 ∧ ((vchp f m t).1 = 0 ∨ 1 ≤ (vchp f m t).2) := by
          intro t
          induction t with
          | zero => intro _; exact ⟨Nat.le_refl _, Nat.zero_le _, Or.inl rfl⟩
          | succ t ih =>
            intro ht
            have i1 := ih (by omega)
            have i2 := f9 t
            unfold vchp
            split
            · omega
            · split
              · dsimp only; omega
              · omega
        have key : ∀ t, t ≤ 12 → ∀ s (y7 : Option Value), vagI vRf σ s → (∃ v, v < 4096 ∧ vRM (vaput a 5 q v) s) → s.1 58 33 = nI (vchp f m t).1 - 1 → s.1 58 34 = nI (vchp f m t).2 - 1 → VM (true, Gx) (D + 46) iX7_cheapest 58 [some (.ref 58), some (.int (nI p)), some (.int (nI l)), some (.int (nI w)), some (.int (nI q)), some (.int (nI was)), some (.int (nI t)), y7] [] s post := by
          refine vloop _ ?_ ?_
          · intro s y7 hs ⟨v, hv, hRv⟩ h33 h34
            have hRw := hRv.put (c := 5) (m := 65) (k := q) (v := was) (Or.inl ⟨by decide, by decide, rfl⟩)
            rw [vaput_2, hwas, vaput_id] at hRw
            rw [← hwas] at hRw
            have h' := h _ (hs.put (a := 65) (k := q) (v := nI was) rfl) hRw
            refine VM.go [58] ⟨fun _ => ⟨nofun, q, rfl, by omega, fun c => ?_, fun c => ?_⟩, fun c => absurd (by decide) c⟩
            · have c' : ¬ w = 0 := fun e => c (by rw [e]; rfl)
              rw [if_neg c', ← h34] at h'
              exact h'
            · have c' : w = 0 := (nI_eq (b := 0) (by omega) (by decide)).mp c
              rw [if_pos c', ← h33] at h'
              exact h'
          · intro t ht ih s y7 hs ⟨v, hv, hRv⟩ h33 h34
            have e7 : s.1 58 7 = nI (a.1 1 0) := hRv.1.2.2.2.1
            have em : (nI was ||| s.1 58 7) >>> (nI t &&& 31) &&& 1 = nI (m / 2 ^ t % 2) := by
              rw [e7, nI_or (by omega) (by have := hW.1.1; omega), ← hm]
              exact nI_night hm4 (by omega)
            obtain ⟨c1, c2, c3⟩ := chb t (by omega)
            refine VM.go [58, 94] ⟨fun c => absurd c (nI_ge ht (by decide)), fun _ => ⟨fun c => ?_, fun c => ⟨nofun, q, rfl, by omega, ?_⟩⟩⟩
            · have c' : ¬ (nI was ||| s.1 58 7) >>> (nI t &&& 31) &&& 1 = nI 0 := c
              rw [em, nI_eq (by omega) (by decide)] at c'
              have e : vchp f m (t + 1) = vchp f m t := if_pos (by omega)
              have := ih s y7 hs ⟨v, hv, hRv⟩ (by rw [e]; exact h33) (by rw [e]; exact h34)
              rw [← nI_1] at this
              exact this
            · have c' : (nI was ||| s.1 58 7) >>> (nI t &&& 31) &&& 1 = nI 0 := c
              rw [em, nI_eq (by omega) (by decide)] at c'
              have e : vchp f m (t + 1) = if (vchp f m t).1 = 0 ∨ f t + 1 < (vchp f m t).2 then (t + 1, f t + 1) else vchp f m t := if_neg (by omega)
              show VM (true, Gx) (D + 46) iX7_cheapest 94 _ _ _ _
              have ht2 : 2 ^ t < 2 ^ 12 := Nat.pow_lt_pow_right (by decide) ht
              rw [nI_shl1 t ht, nI_or (by omega) (by omega)]
              obtain ⟨v', hv'⟩ : ∃ v', v' = was ||| 2 ^ t := ⟨_, rfl⟩
              have hv4 : v' < 4096 := by rw [hv']; exact vor_lt hw4 ht
              rw [← hv']
              have hRw := hRv.put (c := 5) (m := 65) (k := q) (v := v') (Or.inl ⟨by decide, by decide, rfl⟩)
              rw [vaput_2] at hRw
              rw [hq] at hRw ⊢
              refine VM.go [58] ⟨_, VM.at (vr_plainP hRw hW hA hv4 hp (fun s2 hs2 => ?_)), fun _ _ hh => hh⟩
              rw [show vsm a (vupd (vse a p) l v') = f t by rw [hf, hv']]
              have fb := f9 t
              rw [← hq] at hRw hs2 ⊢
              have hs2' : vagI vRf σ s2 := (hs.put (a := 65) (k := q) (v := nI v') rfl).tr ((hs2.up vMo_s).up vRf_o)
              have hR2 := hRw.ag (hs2.up vMo_s)
              have g33 : s2.1 58 33 = nI (vchp f m t).1 - 1 := (hs2.get rfl).trans h33
              have g34 : s2.1 58 34 = nI (vchp f m t).2 - 1 := (hs2.get rfl).trans h34
              have upd : ((vchp f m t).1 = 0 ∨ f t + 1 < (vchp f m t).2) → VM (true, Gx) (D + 46) iX7_cheapest 118 [some (.ref 58), some (.int (nI p)), some (.int (nI l)), some (.int (nI w)), some (.int (nI q)), some (.int (nI was)), some (.int (nI t)), some (.int (nI (f t)))] [] s2 post := fun z => by
                rw [if_pos z] at e
                have := ih (vput (vput s2 58 33 (nI t)) 58 34 (nI (f t))) (some (.int (nI (f t)))) ((hs2'.put rfl).put rfl) ⟨v', hv4, hR2.ag ((vagI.rf.put rfl).put rfl)⟩ (by rw [e, nI_pred]; rfl) (by rw [e, nI_pred]; rfl)
                rw [← nI_1] at this
                exact VM.go [58] this
              have non : ¬ ((vchp f m t).1 = 0 ∨ f t + 1 < (vchp f m t).2) → VM (true, Gx) (D + 46) iX7_cheapest 130 [some (.ref 58), some (.int (nI p)), some (.int (nI l)), some (.int (nI w)), some (.int (nI q)), some (.int (nI was)), some (.int (nI t)), some (.int (nI (f t)))] [] s2 post := fun z => by
                rw [if_neg z] at e
                have := ih s2 (some (.int (nI (f t)))) hs2' ⟨v', hv4, hR2⟩ (by rw [e]; exact g33) (by rw [e]; exact g34)
                rw [← nI_1] at this
                exact VM.go [58] this
              refine VM.at (VM.go [118, 130] ⟨fun c => upd (Or.inl ?_), fun c => ⟨fun c2 => non ?_, fun c2 => upd ?_⟩⟩)
              · have c' : s2.1 58 33 = -1 := c
                rw [g33, nI_m1e (by omega)] at c'
                exact c'
              · have c' : ¬ s2.1 58 33 = -1 := c
                rw [g33, nI_m1e (by omega)] at c'
                have c2' : s2.1 58 34 ≤ nI (f t) := c2
                rw [g34, show (vchp f m t).2 = ((vchp f m t).2 - 1) + 1 by omega, nI_pred, nIle (by omega) (by omega)] at c2'
                omega
              · have c' : ¬ s2.1 58 33 = -1 := c
                rw [g33, nI_m1e (by omega)] at c'
                have c2' : ¬ s2.1 58 34 ≤ nI (f t) := c2
                rw [g34, show (vchp f m t).2 = ((vchp f m t).2 - 1) + 1 by omega, nI_pred, nIle (by omega) (by omega)] at c2'
                exact Or.inr (by omega)
        subst e1; subst e2; subst e3
        refine VM.at (VM.go [43] ⟨6 * p + l, by rw [show (6 : Int32) = nI 6 from rfl, pk_mul, nI_add], by omega, ?_⟩)
        show VM (true, Gx) (D + 46) iX7_cheapest 43 _ _ _ _
        rw [(hR.2.2.1 (6 * p + l)).2.2.1, ← hq, ← hwas, show (6 : Int32) * nI p + nI l = nI q by rw [hq, show (6 : Int32) = nI 6 from rfl, pk_mul, nI_add]]
        have k0 := key 0 (Nat.zero_le _) (vput (vput σ 58 33 (-1)) 58 34 (-1)) none ((vagI.rf.put rfl).put rfl) ⟨was, hw4, by
          rw [hwas, vaput_id]; exact hR.ag ((vagI.rf.put rfl).put rfl)⟩ rfl rfl
        exact VM.go [58] k0
      · refine ⟨fun c => absurd rfl c, fun _ => bad ?_⟩
        unfold sCheapest
        rw [ew]
        cases vix p0 5 <;> cases vix l0 (a.1 1 2) <;> rfl
    · refine ⟨fun _ => bad ?_, fun c => absurd rfl c⟩
      unfold sCheapest
      rw [el]
      cases vix p0 5 <;> rfl
  · refine ⟨fun _ => bad ?_, fun c => absurd rfl c⟩
    unfold sCheapest
    rw [ep]
end RB
