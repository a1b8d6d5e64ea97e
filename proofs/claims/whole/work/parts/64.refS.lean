/-! ===== THE REFERENCE: count, all, force, look, feed ===== -/
section RS
variable {Gx : Nat × (Nat → Int32)} {d D : Nat} {σ : vM} {post : vQ} {a : vα}
theorem vRM.put {c m k v : Nat} (hcm : (3 ≤ c ∧ c ≤ 9 ∧ m = c + 60) ∨ (c = 39 ∧ m = 61)) (h : vRM a σ) : vRM (vaput a c k v) (vput σ m k (nI v)) := by
  obtain ⟨⟨p1, p2, p3, p4, p5⟩, h2, h3, h4, ⟨k1, k2, k3, k4⟩, h6⟩ := h
  have na : ∀ c' k', ¬ c' = c → (vaput a c k v).1 c' k' = a.1 c' k' := fun c' k' e => vaput_ne (Or.inl e)
  have ns : ∀ c' k', ¬ c' = m → (vput σ m k (nI v)).1 c' k' = σ.1 c' k' := fun c' k' e => vput_ne (Or.inl e)
  have both : ∀ c' m' k', ((3 ≤ c' ∧ c' ≤ 9 ∧ m' = c' + 60) ∨ (c' = 39 ∧ m' = 61)) → σ.1 m' k' = nI (a.1 c' k') → (vput σ m k (nI v)).1 m' k' = nI ((vaput a c k v).1 c' k') := fun c' m' k' hc' e => by
    rw [vput_get, vaput_get]
    by_cases z : c' = c ∧ k' = k
    · rw [if_pos ⟨by omega, z.2⟩, if_pos z]
    · rw [if_neg (fun q => z ⟨by omega, q.2⟩), if_neg z]; exact e
  refine ⟨⟨?_, ?_, ?_, ?_, ?_⟩, fun k' hk => ?_, fun k' => ?_, fun t ht => ?_, ⟨?_, ?_, ?_, fun k' => ?_⟩, fun s hs => ?_⟩
  · rw [ns _ _ (by omega), na _ _ (by omega)]; exact p1
  · rw [ns _ _ (by omega), na _ _ (by omega)]; exact p2
  · rw [ns _ _ (by omega), na _ _ (by omega)]; exact p3
  · rw [ns _ _ (by omega), na _ _ (by omega)]; exact p4
  · rw [ns _ _ (by omega), na _ _ (by omega)]; exact p5
  · rw [na 1 2 (by omega)] at hk
    rw [ns _ _ (by omega), na _ _ (by omega)]; exact h2 k' hk
  · obtain ⟨q1, q2, q3, q4, q5, q6, q7, q8⟩ := h3 k'
    exact ⟨both 3 63 k' (by omega) q1, both 4 64 k' (by omega) q2, both 5 65 k' (by omega) q3, both 6 66 k' (by omega) q4, both 7 67 k' (by omega) q5, both 8 68 k' (by omega) q6, both 9 69 k' (by omega) q7, fun z => both 39 61 k' (by omega) (q8 (by rw [← na 38 0 (by omega)]; exact z))⟩
  · rw [na 0 4 (by omega)] at ht
    exact ⟨(ns _ _ (by omega)).trans (h4 t ht).1, fun k' hk => (ns _ _ (by omega)).trans ((h4 t ht).2 k' hk)⟩
  · rw [ns _ _ (by omega), na _ _ (by omega), na _ _ (by omega)]; exact k1
  · rw [ns _ _ (by omega), na _ _ (by omega)]; exact k2
  · rw [ns _ _ (by omega), na _ _ (by omega)]; exact k3
  · rw [ns _ _ (by omega), ns _ _ (by omega), ns _ _ (by omega), ns _ _ (by omega), ns _ _ (by omega), ns _ _ (by omega), ns _ _ (by omega), na _ _ (by omega), na _ _ (by omega), na _ _ (by omega), na _ _ (by omega), na _ _ (by omega), na _ _ (by omega), na _ _ (by omega)]
    exact k4 k'
  · rw [ns _ _ (by omega), ns _ _ (by omega), ns _ _ (by omega), na _ _ (by omega), na _ _ (by omega)]
    obtain ⟨q1, q2⟩ := h6 s hs
    refine ⟨q1, fun z => ?_⟩
    obtain ⟨r1, r2, r3⟩ := q2 z
    exact ⟨r1, r2, fun k' hk => (ns _ _ (by omega)).trans (r3 k' hk)⟩
/-- a field of the reference that a number of a is told by -/
theorem vRM.putF {c j f v : Nat} (hcv : (c = 1 ∧ j = 0 ∧ f = 7) ∨ (c = 1 ∧ j = 1 ∧ f = 4) ∨ (c = 38 ∧ j = 0 ∧ f = 6 ∧ ∀ k, k < v → σ.1 61 k = nI (a.1 39 k))) (h : vRM a σ) : vRM (vaput a c j v) (vput σ 58 f (nI v)) := by
  have hcf : (c = 1 ∧ j = 0 ∧ f = 7) ∨ (c = 1 ∧ j = 1 ∧ f = 4) ∨ (c = 38 ∧ j = 0 ∧ f = 6) := by
    rcases hcv with z | z | z
    · exact Or.inl z
    · exact Or.inr (Or.inl z)
    · exact Or.inr (Or.inr ⟨z.1, z.2.1, z.2.2.1⟩)
  obtain ⟨⟨p1, p2, p3, p4, p5⟩, h2, h3, h4, ⟨k1, k2, k3, k4⟩, h6⟩ := h
  have na : ∀ c' k', (¬ c' = c ∨ ¬ k' = j) → (vaput a c j v).1 c' k' = a.1 c' k' := fun c' k' e => vaput_ne e
  have nc : ∀ c' k', ¬ c' = 58 → (vput σ 58 f (nI v)).1 c' k' = σ.1 c' k' := fun c' k' e => vput_ne (Or.inl e)
  have nf : ∀ k', ¬ k' = f → (vput σ 58 f (nI v)).1 58 k' = σ.1 58 k' := fun k' e => vput_ne (Or.inr e)
  have eq : ∀ c' k' f', ((c' = 1 ∧ k' = 0 ∧ f' = 7) ∨ (c' = 1 ∧ k' = 1 ∧ f' = 4) ∨ (c' = 38 ∧ k' = 0 ∧ f' = 6)) → σ.1 58 f' = nI (a.1 c' k') → (vput σ 58 f (nI v)).1 58 f' = nI ((vaput a c j v).1 c' k') := fun c' k' f' hc' e => by
    rw [vput_get, vaput_get]
    by_cases z : f' = f
    · rw [if_pos ⟨rfl, z⟩, if_pos (by omega)]
    · rw [if_neg (fun q => z q.2), if_neg (by omega)]; exact e
  refine ⟨⟨?_, eq 1 1 4 (by omega) p2, eq 38 0 6 (by omega) p3, eq 1 0 7 (by omega) p4, ?_⟩, fun k' hk => ?_, fun k' => ?_, fun t ht => ?_, ⟨?_, ?_, ?_, fun k' => ?_⟩, fun s hs => ?_⟩
  · rw [nf _ (by omega), na _ _ (by omega)]; exact p1
  · rw [nf _ (by omega), na _ _ (by omega)]; exact p5
  · rw [na 1 2 (by omega)] at hk
    rw [nc _ _ (by omega), na _ _ (by omega)]; exact h2 k' hk
  · obtain ⟨q1, q2, q3, q4, q5, q6, q7, q8⟩ := h3 k'
    refine ⟨by rw [nc _ _ (by omega), na _ _ (by omega)]; exact q1, by rw [nc _ _ (by omega), na _ _ (by omega)]; exact q2, by rw [nc _ _ (by omega), na _ _ (by omega)]; exact q3, by rw [nc _ _ (by omega), na _ _ (by omega)]; exact q4, by rw [nc _ _ (by omega), na _ _ (by omega)]; exact q5, by rw [nc _ _ (by omega), na _ _ (by omega)]; exact q6, by rw [nc _ _ (by omega), na _ _ (by omega)]; exact q7, fun z => ?_⟩
    rw [nc _ _ (by omega), na 39 k' (by omega)]
    rcases hcv with q | q | ⟨e1, e2, -, hv⟩
    · exact q8 (by rw [← na 38 0 (by omega)]; exact z)
    · exact q8 (by rw [← na 38 0 (by omega)]; exact z)
    · rw [vaput_get, if_pos ⟨e1.symm, e2.symm⟩] at z
      exact hv k' z
  · rw [na 0 4 (by omega)] at ht
    exact ⟨(nc _ _ (by omega)).trans (h4 t ht).1, fun k' hk => (nc _ _ (by omega)).trans ((h4 t ht).2 k' hk)⟩
  · rw [nf _ (by omega), na _ _ (by omega), na _ _ (by omega)]; exact k1
  · rw [nf _ (by omega), na _ _ (by omega)]; exact k2
  · rw [nf _ (by omega), na _ _ (by omega)]; exact k3
  · rw [nc _ _ (by omega), nc _ _ (by omega), nc _ _ (by omega), nc _ _ (by omega), nc _ _ (by omega), nc _ _ (by omega), nc _ _ (by omega), na _ _ (by omega), na _ _ (by omega), na _ _ (by omega), na _ _ (by omega), na _ _ (by omega), na _ _ (by omega), na _ _ (by omega)]
    exact k4 k'
  · rw [nc _ _ (by omega), nc _ _ (by omega), nc _ _ (by omega), na _ _ (by omega), na _ _ (by omega)]
    obtain ⟨q1, q2⟩ := h6 s hs
    refine ⟨q1, fun z => ?_⟩
    obtain ⟨r1, r2, r3⟩ := q2 z
    exact ⟨r1, r2, fun k' hk => (nc _ _ (by omega)).trans (r3 k' hk)⟩
theorem vr_count {w0 : Int32} (hR : vRM a σ) (hW : vWF a) (h : post (some (.int (sCount a w0))) σ) : VM (true, Gx) (d + 1) iX7_count 0 [some (.ref 58), some (.int w0)] [] σ post := by
  obtain ⟨⟨p1, p2, p3, p4, p5⟩, h2, h3, -⟩ := hR
  refine VM.go [15] ⟨_, VM.at (vm_in0 (m := 5) (by decide) (by decide) (fun w ew hw e => ?_) (fun ew => ?_)), fun _ _ hh => hh⟩
  · refine ⟨fun _ => ?_, fun c => absurd c (by decide)⟩
    unfold sCount at h
    rw [ew] at h
    subst e
    rcases (show w = 0 ∨ w = 1 ∨ w = 2 ∨ w = 3 ∨ w = 4 ∨ w = 5 by omega) with rfl | rfl | rfl | rfl | rfl | rfl
    · rw [← p5] at h
      exact VM.at (VM.go [] ⟨fun q => absurd rfl q, fun _ => h⟩)
    · refine VM.at (VM.go [35] ⟨fun _ => ⟨fun q => absurd rfl q, fun _ => ?_⟩, fun q => absurd q (by decide)⟩)
      show VM (true, Gx) (d + 1) iX7_count 35 _ _ _ _
      rw [p4]
      exact VM.go [] ⟨_, VM.at (vm_bitsOf hW.1.1 (by exact h)), fun _ _ hh => hh⟩
    · have ev : nI (vpcs a) = σ.1 69 0 + σ.1 69 1 + σ.1 69 2 + σ.1 69 3 := by
        rw [(h3 0).2.2.2.2.2.2.1, (h3 1).2.2.2.2.2.2.1, (h3 2).2.2.2.2.2.2.1, (h3 3).2.2.2.2.2.2.1, nI_add, nI_add, nI_add]
        congr 1
        show 0 + a.1 9 0 + a.1 9 1 + a.1 9 2 + a.1 9 3 = _
        omega
      rw [ev] at h
      exact VM.at (VM.go [] ⟨fun _ => ⟨fun _ => ⟨fun q => absurd rfl q, fun _ => ⟨0, rfl, by decide, 1, rfl, by decide, 2, rfl, by decide, 3, rfl, by decide, h⟩⟩, fun q => absurd q (by decide)⟩, fun q => absurd q (by decide)⟩)
    · rw [← p1] at h
      exact VM.at (VM.go [] ⟨fun _ => ⟨fun _ => ⟨fun _ => ⟨fun q => absurd rfl q, fun _ => h⟩, fun q => absurd q (by decide)⟩, fun q => absurd q (by decide)⟩, fun q => absurd q (by decide)⟩)
    · rw [← p3] at h
      exact VM.at (VM.go [] ⟨fun _ => ⟨fun _ => ⟨fun _ => ⟨fun _ => ⟨fun q => absurd rfl q, fun _ => h⟩, fun q => absurd q (by decide)⟩, fun q => absurd q (by decide)⟩, fun q => absurd q (by decide)⟩, fun q => absurd q (by decide)⟩)
    · rw [← p2] at h
      exact VM.at (VM.go [] ⟨fun _ => ⟨fun _ => ⟨fun _ => ⟨fun _ => ⟨fun _ => h, fun q => absurd q (by decide)⟩, fun q => absurd q (by decide)⟩, fun q => absurd q (by decide)⟩, fun q => absurd q (by decide)⟩, fun q => absurd q (by decide)⟩)
  · refine ⟨fun c => absurd rfl c, fun _ => ?_⟩
    unfold sCount at h
    rw [ew] at h
    exact h
theorem vr_force {t0 : Int32} (hR : vRM a σ) (hW : vWF a) (h : ∀ σ', vagI vRf σ σ' → vRM (sForce a t0).2 σ' → post (some (.int (sForce a t0).1)) σ') : VM (true, Gx) (d + 1) iX7_force 0 [some (.ref 58), some (.int t0), none] [] σ post := by
  obtain ⟨hT1, hT6⟩ := hW.2.1
  have p1 := hR.1.1
  have p2 := hR.1.2.1
  have em : σ.1 58 3 - 1 = nI (a.1 0 4 - 1) := by rw [p1]; exact pk_sub (b := 1) hT1
  refine VM.go [] ⟨_, VM.at (vm_in0 (m := a.1 0 4 - 1) (by omega) (by rw [← em]) (fun t et ht e => ?_) (fun et => ?_)), fun _ _ hh => hh⟩
  · rw [show a.1 0 4 - 1 + 1 = a.1 0 4 by omega] at et
    have es : sForce a t0 = (nI (a.1 1 1), vaput a 1 1 t) := by unfold sForce; rw [et]
    subst e
    refine ⟨fun _ => ?_, fun c => absurd c (by decide)⟩
    have := h (vput σ 58 4 (nI t)) (vagI.rf.put rfl) (by rw [es]; exact hR.putF (Or.inr (Or.inl ⟨rfl, rfl, rfl⟩)))
    rw [es, ← p2] at this
    exact this
  · rw [show a.1 0 4 - 1 + 1 = a.1 0 4 by omega] at et
    have es : sForce a t0 = (-2, a) := by unfold sForce; rw [et]
    refine ⟨fun c => absurd rfl c, fun _ => ?_⟩
    have := h σ vagI.rf (by rw [es]; exact hR)
    rw [es] at this
    exact this
theorem vr_look {p0 l0 w0 : Int32} (hR : vRM a σ) (hW : vWF a) (h : ∀ σ', vagI vRf σ σ' → vRM (sLook a p0 l0 w0).2 σ' → post (some (.int (sLook a p0 l0 w0).1)) σ') : VM (true, Gx) (d + 2) iX7_look 0 [some (.ref 58), some (.int p0), some (.int l0), some (.int w0), none] [] σ post := by
  have hn6 := hW.1.2.2
  have bad : sLook a p0 l0 w0 = (-2, a) → post (some (.int (-2))) σ := fun e => by
    have := h σ vagI.rf (by rw [e]; exact hR)
    rw [e] at this
    exact this
  refine VM.go [] ⟨_, VM.at (vm_isLooker (d := d) (fun p ep hp e1 => ?_) (fun ep => ?_)), fun _ _ hh => hh⟩
  · refine ⟨fun c => absurd c (by decide), fun _ => ⟨_, VM.at (vm_isLight (d := d) hR.1.2.2.2.2 hn6 (fun l el hl e2 => ?_) (fun el => ?_)), fun _ _ hh => hh⟩⟩
    · refine ⟨fun c => absurd c (by decide), fun _ => ⟨_, VM.at (vm_in0 (m := 4095) (by decide) (by decide) (fun w ew hw e3 => ?_) (fun ew => ?_)), fun _ _ hh => hh⟩⟩
      · have es : sLook a p0 l0 w0 = (nI (a.1 5 (6 * p + l)), vaput a 5 (6 * p + l) w) := by unfold sLook; rw [ep, el, ew]
        have ix : (6 : Int32) * p0 + l0 = nI (6 * p + l) := by rw [e1, e2, show (6 : Int32) = nI 6 from rfl, pk_mul, nI_add]
        refine ⟨fun _ => ⟨6 * p + l, ix, by omega, nofun, 6 * p + l, ix, by omega, ?_⟩, fun c => absurd c (by decide)⟩
        have := h (vput σ 65 (6 * p + l) w0) (vagI.rf.put rfl) (by rw [es, e3]; exact hR.put (Or.inl ⟨by decide, by decide, rfl⟩))
        rw [es, ← (hR.2.2.1 (6 * p + l)).2.2.1] at this
        exact this
      · refine ⟨fun c => absurd rfl c, fun _ => bad ?_⟩
        unfold sLook
        rw [ew]
        cases vix p0 5 <;> cases vix l0 (a.1 1 2) <;> rfl
    · refine ⟨fun _ => bad ?_, fun c => absurd rfl c⟩
      unfold sLook
      rw [el]
      cases vix p0 5 <;> rfl
  · refine ⟨fun _ => bad ?_, fun c => absurd rfl c⟩
    unfold sLook
    rw [ep]
theorem vr_feed {x0 : Int32} (hR : vRM a σ) (hW : vWF a) (h : ∀ σ', vagI vRf σ σ' → vRM (sFeed a x0).2 σ' → post (some (.int (sFeed a x0).1)) σ') : VM (true, Gx) (d + 1) iX7_feed 0 [some (.ref 58), some (.int x0)] [] σ post := by
  have hs := hW.2.2.2.2.2.2.1.1
  have p3 := hR.1.2.2.1
  have bad : ∀ v, sFeed a x0 = (v, a) → post (some (.int v)) σ := fun v e => by
    have := h σ vagI.rf (by rw [e]; exact hR)
    rw [e] at this
    exact this
  refine VM.go [] ⟨_, VM.at (vm_in0 (m := 255) (by decide) (by decide) (fun x ex hx e => ?_) (fun ex => ?_)), fun _ _ hh => hh⟩
  · have es : sFeed a x0 = if a.1 38 0 = 160 then (-4, a) else (nI (a.1 38 0 + 1), vaput (vaput a 39 (a.1 38 0) x) 38 0 (a.1 38 0 + 1)) := by unfold sFeed; rw [ex]
    refine ⟨fun _ => ⟨fun q => ?_, fun q => ?_⟩, fun c => absurd c (by decide)⟩
    · have q' : ¬ σ.1 58 6 = nI 160 := q
      rw [p3, nI_eq (by omega) (by decide)] at q'
      rw [if_neg q'] at es
      have := h (vput (vput σ 61 (a.1 38 0) x0) 58 6 (nI (a.1 38 0 + 1))) ((vagI.rf.put rfl).put rfl) (by
        rw [es, e]
        refine (hR.put (c := 39) (m := 61) (Or.inr ⟨rfl, rfl⟩)).putF (Or.inr (Or.inr ⟨rfl, rfl, rfl, fun k hk => ?_⟩))
        rw [vput_get, vaput_get]
        by_cases z : k = a.1 38 0
        · rw [if_pos ⟨rfl, z⟩, if_pos ⟨rfl, z⟩]
        · rw [if_neg (fun q => z q.2), if_neg (fun q => z q.2)]
          exact (hR.2.2.1 k).2.2.2.2.2.2.2 (by omega))
      rw [es, ← nI_1, ← p3] at this
      exact ⟨nofun, a.1 38 0, p3, by omega, this⟩
    · have q' : σ.1 58 6 = nI 160 := q
      rw [p3, nI_eq (by omega) (by decide)] at q'
      rw [if_pos q'] at es
      exact bad _ es
  · refine ⟨fun c => absurd rfl c, fun _ => bad (-2) ?_⟩
    unfold sFeed
    rw [ex]
end RS
