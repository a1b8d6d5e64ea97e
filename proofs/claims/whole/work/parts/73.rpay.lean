/-! ===== THE REFERENCE: pieces, pay ===== -/
section RP0
variable {a : vα}
theorem vfw_N {k x : Nat} : vfw a k x ≤ 1000000 := by cases k <;> exact vmnB_N _ _
theorem vseek_81 {x : Nat} (hW : vWF a) : (vseek a x).1 ≤ 81 := by
  refine vseek_ind (I := fun st => st.1 ≤ 81) (Nat.zero_le _) (fun st e c b he hc hb hI => ?_)
  have h3 := vmp_le hW (k := 3) (x := x) (by decide)
  have h2 := vmp_le hW (k := 2) (x := x - e * a.1 8 3) (by decide)
  have h1 := vmp_le hW (k := 1) (x := x - e * a.1 8 3 - c * a.1 8 2) (by decide)
  have h0 := vmp_le hW (k := 0) (x := x - e * a.1 8 3 - c * a.1 8 2 - b * a.1 8 1) (by decide)
  unfold vpk
  split
  · dsimp only; omega
  · exact hI
theorem vseek_0 {x : Nat} (hW : vWF a) : (vseek a x).1 = 0 ↔ ¬ vfw a 3 x < 1000000 := by
  have h1 := (vseek_K (x := x) hW).1
  have h2 := vseek_81 (x := x) hW
  unfold vKq at h1
  by_cases e : (vseek a x).1 = 0
  · rw [if_pos e] at h1
    exact ⟨fun _ => by omega, fun _ => e⟩
  · rw [if_neg e] at h1
    exact ⟨fun q => absurd q e, fun q => by omega⟩
theorem vseek_n {x : Nat} (hW : vWF a) (h : vfw a 3 x < 1000000) : (vseek a x).1 = vfw a 3 x + 1 := by
  have h1 := (vseek_K (x := x) hW).1
  have h2 : ¬ (vseek a x).1 = 0 := fun q => (vseek_0 hW).mp q h
  unfold vKq at h1
  rw [if_neg h2] at h1
  omega
theorem vFw.get {σ : vM} {k x : Nat} (h : vFw a 4000 σ) (hk : k < 4) (hx : x < 1000) : σ.1 70 (1000 * k + x) = nI (vfw a k x) := by
  rw [h (1000 * k + x) (by omega), show (1000 * k + x) / 1000 = k by omega, show (1000 * k + x) % 1000 = x by omega]
theorem vlst_gt {g : Nat → Nat} {m n i : Nat} (h1 : vlst g m n < i) (h2 : i < n) : ¬ g i = m := by
  induction n with
  | zero => omega
  | succ n ih =>
    unfold vlst at h1
    by_cases e : g n = m
    · rw [if_pos e] at h1; omega
    · rw [if_neg e] at h1
      rcases Nat.lt_succ_iff_lt_or_eq.mp h2 with q | q
      · exact ih h1 q
      · rw [q]; exact e
theorem vaput_comm {c k v k' v' : Nat} (h : ¬ k = k') : vaput (vaput a c k v) c k' v' = vaput (vaput a c k' v') c k v := by
  refine Prod.ext (funext fun c2 => funext fun k2 => ?_) rfl
  show (vaput (vaput a c k v) c k' v').1 c2 k2 = (vaput (vaput a c k' v') c k v).1 c2 k2
  rw [vaput_get, vaput_get, vaput_get, vaput_get]
  by_cases e : c2 = c ∧ k2 = k
  · rw [if_pos e, if_neg (by omega), if_pos e]
  · rw [if_neg e, if_neg e]
end RP0
section RP
variable {Gx : Nat × (Nat → Int32)} {d D : Nat} {σ : vM} {post : vQ} {a : vα}
theorem vr_fewFor {x : Nat} (hx : x < 1000) (hF : vFw a 4000 σ) (h : post (some (.int (nI (vfw a 3 x)))) σ) : VM (true, Gx) d iX7_fewestFor 0 [some (.ref 58), some (.int (nI x))] [] σ post := by
  rw [← hF.get (by decide) hx] at h
  exact VM.go [] ⟨1000 * 3 + x, by rw [← nI_add]; rfl, by omega, h⟩
theorem vr_pieces {x0 w0 : Int32} (hR : vRM a σ) (hW : vWF a) (h : ∀ σ', vagI vMo σ σ' → post (some (.int (sPieces a x0 w0))) σ') : VM (true, Gx) (d + 1) iX7_pieces 0 [some (.ref 58), some (.int x0), some (.int w0), none, none] [] σ post := by
  have bad : sPieces a x0 w0 = -2 → post (some (.int (-2))) σ := fun e => by
    have := h σ vagI.rf
    rw [e] at this
    exact this
  refine VM.go [] ⟨_, VM.at (vm_in0 (m := 999) (by decide) (by decide) (fun x ex hx e => ?_) (fun ex => ?_)), fun _ _ hh => hh⟩
  · refine ⟨fun c => absurd c (by decide), fun _ => ⟨_, VM.at (vm_in0 (m := 2) (by decide) (by decide) (fun w ew hw e2 => ?_) (fun ew => ?_)), fun _ _ hh => hh⟩⟩
    · refine ⟨fun _ => ?_, fun c => absurd c (by decide)⟩
      subst e; subst e2
      have es : sPieces a (nI x) (nI w) = if w = 0 then (if (vseek a x).1 = 0 then 0 else 1) else if w = 1 then nI (vseek a x).1 - 1 else nI (x - (vseek a x).2.1) := by
        unfold sPieces
        rw [vix_nI (show x < 1000 by omega) (by decide), vix_nI (show w < 3 by omega) (by decide)]
      rw [es] at h
      refine ⟨_, VM.at (vr_sums hR hW (fun s2 hs2 hF => ?_)), fun _ _ hh => hh⟩
      have h2 := h s2 hs2
      refine ⟨_, VM.at (vr_fewFor (by omega) hF ?_), fun _ _ hh => hh⟩
      have b := vfw_N (a := a) (k := 3) (x := x)
      have sub0 := vseek_sh (a := a) (x := x)
      have lo : w = 2 → ∀ (z : Int32), VM (true, Gx) (d + 1) iX7_pieces 48 [some (.ref 58), some (.int (nI x)), some (.int (nI w)), some (.int z), none] [] s2 post := fun e z => by
        subst e
        rw [if_neg (by decide), if_neg (by decide)] at h2
        obtain ⟨y0, hy0⟩ : ∃ y0, y0 = x - (vseek a x).2.1 := ⟨_, rfl⟩
        rw [← hy0] at h2
        have py : vfw a 3 y0 < 1000000 := (vfw_lt hW (by decide)).mpr (by rw [hy0]; exact vseek_py hW)
        have key : ∀ m, y0 + m ≤ x → VM (true, Gx) (d + 1) iX7_pieces 86 [some (.ref 58), some (.int (nI x)), some (.int (nI 2)), some (.int z), some (.int (nI (y0 + m)))] [] s2 post := by
          intro m
          induction m with
          | zero =>
            intro _
            refine VM.go [] ⟨_, VM.at (vr_fewFor (by omega) hF ?_), fun _ _ hh => hh⟩
            exact ⟨fun _ => h2, fun q => absurd (show nI (vfw a 3 y0) < nI 1000000 from (nIlt (by omega) (by decide)).mpr py) q⟩
          | succ m ih =>
            intro hm
            have b2 := vfw_N (a := a) (k := 3) (x := y0 + (m + 1))
            have ih' := ih (by omega)
            rw [← nI_pred (y0 + m), ← nI_m1a] at ih'
            refine VM.go [86] ⟨_, VM.at (vr_fewFor (by omega) hF ?_), fun _ _ hh => hh⟩
            refine ⟨fun q => ?_, fun _ => VM.at (VM.go [86] ih')⟩
            have q' := (nIlt (b := 1000000) (by omega) (by decide)).mp q
            have := vseek_low (y := y0 + (m + 1)) hW hm ((vfw_lt hW (by decide)).mp q')
            omega
        have := key (x - y0) (by omega)
        rw [show y0 + (x - y0) = x by omega] at this
        exact VM.go [86] ⟨fun _ => this, fun q => absurd (by decide) q⟩
      by_cases can : vfw a 3 x < 1000000
      · rw [if_neg (fun q => (vseek_0 hW).mp q can), vseek_n hW can] at h2
        have nc : ¬ nI 1000000 ≤ nI (vfw a 3 x) := by rw [nIle (by decide) (by omega)]; omega
        refine ⟨fun q => absurd q nc, fun _ => VM.at (VM.go [48] ?_)⟩
        rcases (show w = 0 ∨ w = 1 ∨ w = 2 by omega) with e | e | e
        · subst e
          rw [if_pos rfl] at h2
          exact VM.go [] ⟨fun q => absurd q (by decide), fun _ => ⟨fun q => absurd rfl q, fun _ => ⟨fun q => absurd q (by decide), fun _ => h2⟩⟩⟩
        · subst e
          rw [if_neg (by decide), if_pos rfl, nI_pred] at h2
          exact VM.go [] ⟨fun q => absurd q (by decide), fun _ => ⟨fun _ => ⟨fun q => absurd q (by decide), fun _ => ⟨_, VM.at (vr_fewFor (by omega) hF (by exact h2)), fun _ _ hh => hh⟩⟩, fun q => absurd q (by decide)⟩⟩
        · exact lo e 1
      · rw [if_pos ((vseek_0 hW).mpr can), (vseek_0 hW).mpr can] at h2
        have nc : nI 1000000 ≤ nI (vfw a 3 x) := by rw [nIle (by decide) (by omega)]; omega
        refine ⟨fun _ => VM.at (VM.go [48] ?_), fun q => absurd nc q⟩
        rcases (show w = 0 ∨ w = 1 ∨ w = 2 by omega) with e | e | e
        · subst e
          rw [if_pos rfl] at h2
          exact VM.go [] ⟨fun q => absurd q (by decide), fun _ => ⟨fun q => absurd rfl q, fun _ => ⟨fun _ => h2, fun q => absurd rfl q⟩⟩⟩
        · subst e
          rw [if_neg (by decide), if_pos rfl] at h2
          exact VM.go [] ⟨fun q => absurd q (by decide), fun _ => ⟨fun _ => ⟨fun _ => h2, fun q => absurd rfl q⟩, fun q => absurd q (by decide)⟩⟩
        · exact lo e 0
    · refine ⟨fun c => absurd rfl c, fun _ => bad ?_⟩
      unfold sPieces
      rw [ew]
      cases vix x0 1000 <;> rfl
  · refine ⟨fun _ => bad ?_, fun c => absurd rfl c⟩
    unfold sPieces
    rw [ex]
end RP
