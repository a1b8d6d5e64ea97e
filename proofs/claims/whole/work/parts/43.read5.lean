/-! ===== Reader: expect, opens; Rule: add ===== -/
def vokT (s : vPS) : Prop := (vpT s = 1 → vpV s ≤ 9999) ∧ (vpT s = 2 → vpV s < 6)
theorem vspan_all {P : Nat → Bool} {b : List Nat} : ∀ n i k, i ≤ k → k < vspan P b n i → ∃ c, b[k]? = some c ∧ P c = true := by
  intro n
  induction n with
  | zero =>
    intro i k h1 h2
    unfold vspan at h2
    omega
  | succ n ih =>
    intro i k h1 h2
    unfold vspan at h2
    cases hc : b[i]? with
    | none => rw [hc] at h2; dsimp only at h2; omega
    | some c =>
      rw [hc] at h2
      dsimp only at h2
      by_cases hP : P c = true
      · rw [if_pos hP] at h2
        by_cases e : k = i
        · exact ⟨c, by rw [e]; exact hc, hP⟩
        · exact ih (i + 1) k (by omega) h2
      · rw [if_neg hP] at h2; omega
theorem vnumV_lt : ∀ (l : List Nat), (∀ c ∈ l, c ≤ 57) → ∀ v, l.foldl (fun v c => 10 * v + (c - 48)) v + 1 ≤ (v + 1) * 10 ^ l.length := by
  intro l
  induction l with
  | nil => intro _ v; simp
  | cons c l ih =>
    intro h v
    have h1 := ih (fun x hx => h x (List.mem_cons_of_mem _ hx)) (10 * v + (c - 48))
    have hc := h c List.mem_cons_self
    show l.foldl _ (10 * v + (c - 48)) + 1 ≤ (v + 1) * 10 ^ (l.length + 1)
    rw [Nat.pow_succ, Nat.mul_comm (10 ^ l.length) 10, ← Nat.mul_assoc]
    exact Nat.le_trans h1 (Nat.mul_le_mul_right _ (by omega))
theorem vlex_ok (b : List Nat) (i : Nat) : ((vlex b i).1 = 1 → (vlex b i).2.1 ≤ 9999) ∧ ((vlex b i).1 = 2 → (vlex b i).2.1 < 6) := by
  obtain ⟨p, hp⟩ : ∃ p, p = vspan vblank b b.length i := ⟨_, rfl⟩
  cases hc : b[p]? with
  | none =>
    rw [vlex_none hp hc]
    exact ⟨fun q => absurd (show (0 : Int32) = 1 from q) (by decide), fun q => absurd (show (0 : Int32) = 2 from q) (by decide)⟩
  | some c =>
    by_cases hl : vletter c = true
    · rw [vlex_let hp hc hl]
      obtain ⟨w, hw⟩ : ∃ w, w = vwordIx ((b.drop p).take (vspan vletter b b.length p - p)) := ⟨_, rfl⟩
      rw [← hw]
      dsimp only
      unfold vwtk
      by_cases h6 : w < 6
      · rw [if_pos h6]
        exact ⟨fun q => absurd q (by decide), fun _ => h6⟩
      · rw [if_neg h6]
        by_cases h12 : w < 12
        · rw [if_pos h12]
          refine ⟨fun q => ?_, fun q => ?_⟩
          · have := (nI_eq (b := 1) (by omega) (by decide)).mp q; omega
          · have := (nI_eq (b := 2) (by omega) (by decide)).mp q; omega
        · rw [if_neg h12]
          exact ⟨fun q => absurd q (by decide), fun q => absurd q (by decide)⟩
    · have hl' : vletter c = false := by simpa using hl
      by_cases hd : vdigit c = true
      · rw [vlex_num hp hc hl' hd]
        obtain ⟨N, hN⟩ : ∃ N, N = vspan vdigit b b.length p := ⟨_, rfl⟩
        rw [← hN]
        dsimp only
        by_cases h4 : 4 < N - p
        · rw [if_pos h4]
          exact ⟨fun q => absurd q (by decide), fun q => absurd q (by decide)⟩
        · rw [if_neg h4]
          refine ⟨fun _ => ?_, fun q => absurd q (by decide)⟩
          have h1 := vnumV_lt ((b.drop p).take (N - p)) (fun x hx => by
            obtain ⟨k, hk, rfl⟩ := List.mem_iff_getElem.mp hx
            rw [List.length_take, List.length_drop] at hk
            obtain ⟨c', g1, g2⟩ := vspan_all (P := vdigit) (b := b) b.length p (p + k) (by omega) (by omega)
            rw [List.getElem_take, List.getElem_drop]
            have e : b[p + k]? = some (b[p + k]'(by omega)) := List.getElem?_eq_getElem _
            rw [e] at g1
            cases g1
            simp only [vdigit, Bool.and_eq_true, Nat.ble_eq] at g2
            exact g2.2) 0
          have h2 : ((b.drop p).take (N - p)).length ≤ 4 := by rw [List.length_take]; omega
          have h3 : 10 ^ ((b.drop p).take (N - p)).length ≤ 10 ^ 4 := Nat.pow_le_pow_right (by decide) h2
          have h5 : vnumV ((b.drop p).take (N - p)) + 1 ≤ (0 + 1) * 10 ^ ((b.drop p).take (N - p)).length := h1
          omega
      · have hd' : vdigit c = false := by simpa using hd
        rw [vlex_sign hp hc hl' hd']
        dsimp only
        by_cases hs : vsign c = true
        · rw [if_pos hs]
          have e : c = 40 ∨ c = 41 ∨ c = 59 ∨ c = 43 ∨ c = 45 ∨ c = 42 ∨ c = 60 ∨ c = 61 := by simpa only [vsign, Bool.or_eq_true, vbq] using hs
          rcases e with rfl | rfl | rfl | rfl | rfl | rfl | rfl | rfl <;> exact ⟨fun q => absurd q (by decide), fun q => absurd q (by decide)⟩
        · rw [if_neg hs]
          exact ⟨fun q => absurd q (by decide), fun q => absurd q (by decide)⟩
theorem vokT_neg {s : vPS} (h : vpT s = -1) : vokT s := ⟨fun q => by rw [h] at q; exact absurd q (by decide), fun q => by rw [h] at q; exact absurd q (by decide)⟩
theorem vokT_fail (s : vPS) : vokT (vpFail s) := vokT_neg rfl
theorem vokT_adv (b : List Nat) (s : vPS) : vokT (vpAdv b s) := by
  unfold vpAdv
  cases vpF s with
  | some f => exact vokT_neg rfl
  | none => exact vlex_ok b (vpN s)
theorem vokT_add {c : Int32} {s : vPS} (h : vokT s) : vokT (vpAdd c s) := h
def vRD (b : List Nat) (r : Nat) (s : vPS) (σ : vM) : Prop := vRd b r s σ ∧ vokT s
section RE
variable {G : vG} {d : Nat} {σ : vM} {post : vQ} {b : List Nat} {r : Nat} {s : vPS}
theorem vd_fail (hr : vRc r) (hR : vRD b r s σ) (h : ∀ σ', vag (vRdS r) σ σ' → vRD b r (vpFail s) σ' → post none σ') : VM G d iX2_fail 0 [some (.ref 38)] [] σ post := vb_fail hr hR.1 (fun s2 hs2 h2 => h s2 hs2 ⟨h2, vokT_fail s⟩)
theorem vd_adv (hr : vRc r) (hR : vRD b r s σ) (h : ∀ σ', vag (vRdS r) σ σ' → vRD b r (vpAdv b s) σ' → post none σ') : VM G (d + 6) iX2_advance 0 [some (.ref 38), none] [] σ post := vb_advance hr hR.1 (fun s2 hs2 h2 => h s2 hs2 ⟨h2, vokT_adv b s⟩)
theorem vd_expect {t : Int32} (hr : vRc r) (hR : vRD b r s σ) (h : ∀ σ', vag (vRdS r) σ σ' → vRD b r (vpExp b t s) σ' → post none σ') : VM G (d + 7) iX2_expect 0 [some (.ref 38), some (.int t)] [] σ post := by
  have a6 := hR.1.2.2.2.2.2.1
  unfold vpExp at h
  refine VM.go [] ⟨fun q => ?_, fun q => ?_⟩
  · have q' : ¬ σ.1 38 6 = t := q
    rw [a6] at q'
    rw [if_neg q'] at h
    exact ⟨_, VM.at (vd_fail hr hR (by exact h)), fun _ _ hh => hh⟩
  · have q' : σ.1 38 6 = t := q
    rw [a6] at q'
    rw [if_pos q'] at h
    exact ⟨_, VM.at (vd_adv hr hR (by exact h)), fun _ _ hh => hh⟩
theorem vd_opens {o : Nat} (ho : o < 2 ^ 31) (hr : vRc r) (hR : vRD b r s σ) (h0 : 5 ≤ o → ∀ σ', vag (vRdS r) σ σ' → vRD b r (vpFail s) σ' → post (some (.int 0)) σ') (h1 : o < 5 → ∀ σ', vag (vRdS r) σ σ' → vRD b r (vpAdv b s) σ' → post (some (.int 1)) σ') : VM G (d + 7) iX2_opens 0 [some (.ref 38), some (.int (nI o))] [] σ post := by
  refine VM.go [] ⟨fun q => ?_, fun q => ?_⟩
  · have q' : nI o < nI 5 := q
    rw [nIlt ho (by decide)] at q'
    exact ⟨_, VM.at (vd_adv hr hR (fun s2 hs2 h2 => by exact ⟨Or.inr rfl, h1 q' s2 hs2 h2⟩)), fun _ _ hh => hh⟩
  · have q' : ¬ nI o < nI 5 := q
    rw [nIlt ho (by decide)] at q'
    exact ⟨_, VM.at (vd_fail hr hR (fun s2 hs2 h2 => by exact ⟨Or.inl rfl, h0 (by omega) s2 hs2 h2⟩)), fun _ _ hh => hh⟩
theorem vRdS_r {r k : Nat} : vRdS r r k = true ∧ vRdS r (r + 1) k = true := by
  unfold vRdS
  refine ⟨?_, ?_⟩
  · rw [show Nat.beq r r = true from Nat.beq_refl r]; simp
  · rw [show Nat.beq (r + 1) (r + 1) = true from Nat.beq_refl _]; simp
/-- the rule's code grows by c -/
theorem vRd.add {c : Int32} {z : Int32} (hr : vRc r) (hR : vRd b r s σ) (hlt : (vpC s).length < 160) (hz : z = nI (if (-4 : Int32) ∈ vpC s ++ [c] then 1 else 0)) : vRd b r (vpAdd c s) (vput (vput (vput σ r 0 z) (r + 1) (vpC s).length c) r 3 (nI ((vpC s).length + 1))) := by
  obtain ⟨a1, a2, a3, a4, a5, a6, a7, a8, a9, a10, a11, a12, a13, a14⟩ := hR
  have hC : vpC (vpAdd c s) = vpC s ++ [c] := if_pos hlt
  unfold vRc at hr
  have h38 : ∀ k, (vput (vput (vput σ r 0 z) (r + 1) (vpC s).length c) r 3 (nI ((vpC s).length + 1))).1 38 k = σ.1 38 k := fun k => by
    rw [vput_ne (Or.inl (by omega)), vput_ne (Or.inl (by omega)), vput_ne (Or.inl (by omega))]
  refine ⟨a1.ag (h38 0) (fun k => by rw [vput_ne (Or.inl (by omega)), vput_ne (Or.inl (by omega)), vput_ne (Or.inl (by omega))]), (h38 2).trans a2, (h38 3).trans a3, (h38 4).trans a4, (h38 5).trans a5, (h38 6).trans a6, fun q => (h38 7).trans (a7 q), ?_, fun k hk => ?_, ?_, ⟨fun _ => ?_, ?_⟩, a12, a13, a14⟩
  · rw [hC, List.length_append]; simp; omega
  · rw [hC, List.length_append] at hk
    rw [hC, vput_ne (Or.inl (by omega)), vput_get]
    by_cases e : k = (vpC s).length
    · rw [if_pos ⟨rfl, e⟩, e, List.getD_eq_getElem?_getD, List.getElem?_append_right (Nat.le_refl _), Nat.sub_self]; rfl
    · have hk' : k < (vpC s).length := by simp at hk; omega
      rw [if_neg (fun q => e q.2), vput_ne (Or.inl (by omega)), a9 k hk', List.getD_eq_getElem?_getD, List.getD_eq_getElem?_getD, List.getElem?_append_left hk']
  · rw [vput_eq, hC, List.length_append]; rfl
  · rw [hC, vput_ne (Or.inr (by decide)), vput_ne (Or.inl (by omega)), vput_eq, hz]
  · rw [vput_ne (Or.inr (by decide)), vput_ne (Or.inl (by omega)), vput_eq, hz]
    split
    · exact Or.inr rfl
    · exact Or.inl rfl
/-- nothing more goes in -/
theorem vRd.full {c : Int32} (hR : vRd b r s σ) (hlt : ¬ (vpC s).length < 160) {z : Int32} (hz : z = 0 ∨ z = 1) (hr : vRc r) : vRd b r (vpAdd c s) (vput σ r 0 z) := by
  obtain ⟨a1, a2, a3, a4, a5, a6, a7, a8, a9, a10, a11, a12, a13, a14⟩ := hR
  have hC : vpC (vpAdd c s) = vpC s := if_neg hlt
  unfold vRc at hr
  have h38 : ∀ k, (vput σ r 0 z).1 38 k = σ.1 38 k := fun k => by
    rw [vput_ne (Or.inl (by omega))]
  unfold vRd
  rw [hC]
  exact ⟨a1.ag (h38 0) (fun k => by rw [vput_ne (Or.inl (by omega))]), (h38 2).trans a2, (h38 3).trans a3, (h38 4).trans a4, (h38 5).trans a5, (h38 6).trans a6, fun q => (h38 7).trans (a7 q), a8, fun k hk => by rw [vput_ne (Or.inl (by omega))]; exact a9 k hk, by rw [vput_ne (Or.inr (by decide))]; exact a10, ⟨fun q => absurd q hlt, by rw [vput_eq]; exact hz⟩, a12, a13, a14⟩
theorem vput_id {σ : vM} {a k : Nat} {v : Int32} (h : σ.1 a k = v) : vput σ a k v = σ := by
  refine Prod.ext ?_ rfl
  funext a' k'
  rw [vput_get]
  split
  · next q => rw [q.1, q.2, h]
  · rfl
/-- Rule.add, the flag being z already -/
theorem vd_addZ {c z : Int32} (hr : vRc r) (hR : vRD b r s σ) {σ1 : vM} (h1 : σ1 = vput σ r 0 z) (hz : (vpC s).length < 160 → z = nI (if (-4 : Int32) ∈ vpC s ++ [c] then 1 else 0)) (hz2 : z = 0 ∨ z = 1) (h : ∀ σ', vag (vRdS r) σ σ' → vRD b r (vpAdd c s) σ' → post none σ') : VM G d iX4_add 0 [some (.ref r), some (.int c)] [] σ1 post := by
  have a8 := hR.1.2.2.2.2.2.2.2.1
  have a10 := hR.1.2.2.2.2.2.2.2.2.2.1
  have e10 : σ1.1 r 3 = nI (vpC s).length := by rw [h1, vput_ne (Or.inr (by decide))]; exact a10
  have hs1 : vag (vRdS r) σ σ1 := by rw [h1]; exact vag.rf.put vRdS_r.1
  by_cases hlt : (vpC s).length < 160
  · have key := h (vput (vput σ1 (r + 1) (vpC s).length c) r 3 (nI ((vpC s).length + 1))) ((hs1.put vRdS_r.2).put vRdS_r.1) ⟨by rw [h1]; exact hR.1.add hr hlt (hz hlt), vokT_add hR.2⟩
    have e11 : (vput σ1 (r + 1) (vpC s).length c).1 r 3 = nI (vpC s).length := by rw [vput_ne (Or.inl (by omega))]; exact e10
    rw [← nI_1, ← e11] at key
    have n1 : ¬ σ1.1 r 3 < 0 := by rw [e10]; exact nI_pos (by omega)
    have n2 : ¬ nI 160 ≤ σ1.1 r 3 := by rw [e10]; exact nI_ge hlt (by decide)
    unfold vRc at hr
    rcases hr with rfl | rfl | rfl | rfl | rfl | rfl
    all_goals exact VM.go [] ⟨fun q => absurd q n1, fun _ => ⟨fun q => absurd q n2, fun _ => ⟨nofun, _, e10, hlt, key⟩⟩⟩
  · have key := h σ1 hs1 ⟨by rw [h1]; exact hR.1.full hlt hz2 hr, vokT_add hR.2⟩
    have n1 : ¬ σ1.1 r 3 < 0 := by rw [e10]; exact nI_pos (by omega)
    have n2 : nI 160 ≤ σ1.1 r 3 := by rw [e10]; exact nI_le (by omega) (by omega)
    unfold vRc at hr
    rcases hr with rfl | rfl | rfl | rfl | rfl | rfl
    all_goals exact VM.go [] ⟨fun q => absurd q n1, fun _ => ⟨fun _ => key, fun q => absurd n2 q⟩⟩
theorem vd_add {c : Int32} (hc : ¬ c = -4) (hr : vRc r) (hR : vRD b r s σ) (h : ∀ σ', vag (vRdS r) σ σ' → vRD b r (vpAdd c s) σ' → post none σ') : VM G d iX4_add 0 [some (.ref r), some (.int c)] [] σ post := by
  refine vd_addZ (z := σ.1 r 0) hr hR (vput_id rfl).symm (fun hlt => ?_) hR.1.2.2.2.2.2.2.2.2.2.2.1.2 h
  rw [hR.1.2.2.2.2.2.2.2.2.2.2.1.1 hlt]
  congr 2
  exact propext ⟨fun q => List.mem_append_left _ q, fun q => (List.mem_append.mp q).elim id (fun q => absurd (List.mem_singleton.mp q).symm hc)⟩
theorem vd_addSign {t : Int32} (hc : ¬ -t = -4) (hr : vRc r) (hR : vRD b r s σ) (h : ∀ σ', vag (vRdS r) σ σ' → vRD b r (vpAdd (-t) s) σ' → post none σ') : VM G (d + 1) iX4_addSign 0 [some (.ref r), some (.int t)] [] σ post := by
  have call : VM G d iX4_add 0 [some (.ref r), some (.int (-t))] [] σ (fun v σ' => v = none ∧ post none σ') := vd_add hc hr hR (fun s2 hs2 h2 => ⟨rfl, h s2 hs2 h2⟩)
  unfold vRc at hr
  rcases hr with rfl | rfl | rfl | rfl | rfl | rfl
  all_goals exact VM.go [] ⟨_, VM.at call, fun _ _ hh => by rcases hh with ⟨rfl, hh⟩; exact hh⟩
theorem vd_addName {v : Nat} (hv : v < 6) (hr : vRc r) (hR : vRD b r s σ) (h : ∀ σ', vag (vRdS r) σ σ' → vRD b r (vpAdd (-1 - nI v) s) σ' → post none σ') : VM G (d + 1) iX4_addName 0 [some (.ref r), some (.int (nI v))] [] σ post := by
  have e4 : (-1 - nI v = -4) ↔ v = 3 := by
    rcases (show v = 0 ∨ v = 1 ∨ v = 2 ∨ v = 3 ∨ v = 4 ∨ v = 5 by omega) with rfl | rfl | rfl | rfl | rfl | rfl <;> decide
  have a11 := hR.1.2.2.2.2.2.2.2.2.2.2.1
  have hb : ∀ z : Int32, z = 0 ∨ z = 1 → (σ.1 r 0 ||| z = 0 ∨ σ.1 r 0 ||| z = 1) := fun z hz => by
    rcases a11.2 with q | q <;> rcases hz with q2 | q2 <;> rw [q, q2] <;> decide
  have call : ∀ z : Int32, z = (if v = 3 then 1 else 0) → VM G d iX4_add 0 [some (.ref r), some (.int (-1 - nI v))] [] (vput σ r 0 (σ.1 r 0 ||| z)) (fun w σ' => w = none ∧ post none σ') := fun z hz => by
    refine vd_addZ (z := σ.1 r 0 ||| z) hr hR rfl (fun hlt => ?_) (hb z (by rw [hz]; split <;> decide)) (fun s2 hs2 h2 => ⟨rfl, h s2 hs2 h2⟩)
    rw [a11.1 hlt, hz]
    by_cases h3 : v = 3
    · rw [if_pos h3, if_pos (List.mem_append_right _ (by rw [e4.mpr h3]; exact List.mem_singleton.mpr rfl))]
      split <;> decide
    · rw [if_neg h3]
      have em : ((-4 : Int32) ∈ vpC s ++ [-1 - nI v]) ↔ (-4 : Int32) ∈ vpC s := ⟨fun q => (List.mem_append.mp q).elim id (fun q => absurd (e4.mp (List.mem_singleton.mp q).symm) h3), fun q => List.mem_append_left _ q⟩
      by_cases hm : (-4 : Int32) ∈ vpC s
      · rw [if_pos hm, if_pos (em.mpr hm)]; decide
      · rw [if_neg hm, if_neg (fun q => hm (em.mp q))]; decide
  have c1 : v = 3 → _ := fun q => call 1 (by rw [if_pos q])
  have c0 : ¬ v = 3 → _ := fun q => call 0 (by rw [if_neg q])
  have ev : nI v = 3 ↔ v = 3 := nI_eq (b := 3) (by omega) (by decide)
  unfold vRc at hr
  rcases hr with rfl | rfl | rfl | rfl | rfl | rfl
  all_goals exact VM.go [] ⟨fun q => ⟨hb 0 (Or.inl rfl), _, VM.at (c0 (fun z => q (ev.mpr z))), fun _ _ hh => by rcases hh with ⟨rfl, hh⟩; exact hh⟩, fun q => ⟨hb 1 (Or.inr rfl), _, VM.at (c1 (ev.mp q)), fun _ _ hh => by rcases hh with ⟨rfl, hh⟩; exact hh⟩⟩
end RE
