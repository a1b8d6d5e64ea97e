/-! ===== pure facts of how a text is read ===== -/
def vlive (s : vPS) : Prop := ¬ vpT s = 0 ∧ ¬ vpT s = -1
section PR
variable {b : List Nat} {I : vPS → vPS → Prop} {lo : vpLo}
def vloI (I : vPS → vPS → Prop) (lo : vpLo) : Prop := ∀ l, lo = some l → ∀ s, I s (l.1 s) ∧ I s (l.2.1 s) ∧ I s (l.2.2 s)
theorem vpLoop_rel (rf : ∀ s, I s s) (tr : ∀ {s t u}, I s t → I t u → I s u) {p : vPS → Bool} {f : vPS → vPS} (hf : ∀ s, p s = true → I s (f s)) : ∀ n s, I s (vpLoop p f n s) := by
  intro n
  induction n with
  | zero => exact fun s => rf s
  | succ n ih =>
    intro s
    unfold vpLoop
    by_cases h : p s = true
    · rw [if_pos h]; exact tr (hf s h) (ih (f s))
    · rw [if_neg h]; exact rf s
def vpRel (b : List Nat) (I : vPS → vPS → Prop) : Prop := (∀ s, I s s) ∧ (∀ s t u, I s t → I t u → I s u) ∧ (∀ s c, vpT s = 1 ∨ vpT s = 2 → I s (vpAdv b (vpAdd c s))) ∧ (∀ s s' c, vlive s → I (vpAdv b s) s' → I s (vpAdd c s')) ∧ (∀ s s', vpT s = 40 → I (vpAdv b s) s' → I s (vpExp b 41 s')) ∧ ∀ s, I s (vpFail s)
theorem vlive_of {s : vPS} {t : Int32} (h : vpT s = t) (h0 : ¬ t = 0) (h1 : ¬ t = -1) : vlive s := ⟨by rw [h]; exact h0, by rw [h]; exact h1⟩
theorem vpOne_rel (H : vpRel b I) (hlo : vloI I lo) (s : vPS) : I s (vpOne b lo s) := by
  obtain ⟨rf, tr, hN, hO, hP, hF⟩ := H
  unfold vpOne
  by_cases h1 : vpT s = 1
  · rw [if_pos h1]; exact hN s _ (Or.inl h1)
  · rw [if_neg h1]
    by_cases h2 : vpT s = 2
    · rw [if_pos h2]; exact hN s _ (Or.inr h2)
    · rw [if_neg h2]
      by_cases h3 : vpT s = 45
      · rw [if_pos h3]
        cases hl : lo with
        | none => exact hF s
        | some l => exact hO s _ _ (vlive_of h3 (by decide) (by decide)) (hlo l hl _).1
      · rw [if_neg h3]
        by_cases h4 : vpT s = 40
        · rw [if_pos h4]
          cases hl : lo with
          | none => exact hF s
          | some l => exact hP s _ h4 (hlo l hl _).2.1
        · rw [if_neg h4]; exact hF s
theorem vpTerm_rel (H : vpRel b I) (hlo : vloI I lo) (s : vPS) : I s (vpTerm b lo s) := by
  have h1 := vpOne_rel H hlo
  obtain ⟨rf, tr, hN, hO, hP, hF⟩ := H
  exact tr _ _ _ (h1 s) (vpLoop_rel rf (fun h1 h2 => tr _ _ _ h1 h2) (fun s q => hO s _ _ (vlive_of (of_decide_eq_true q) (by decide) (by decide)) (h1 _)) 160 _)
theorem vpSum_rel (H : vpRel b I) (hlo : vloI I lo) (s : vPS) : I s (vpSum b lo s) := by
  have h1 := vpTerm_rel H hlo
  obtain ⟨rf, tr, hN, hO, hP, hF⟩ := H
  refine tr _ _ _ (h1 s) (vpLoop_rel rf (fun h1 h2 => tr _ _ _ h1 h2) (fun s q => hO s _ _ ?_ (h1 _)) 160 _)
  rw [Bool.or_eq_true, decide_eq_true_eq, decide_eq_true_eq] at q
  rcases q with q | q <;> exact vlive_of q (by decide) (by decide)
theorem vpNot_rel (H : vpRel b I) (hlo : vloI I lo) (s : vPS) : I s (vpNot b lo s) := by
  have h1 := vpSum_rel H hlo
  obtain ⟨rf, tr, hN, hO, hP, hF⟩ := H
  unfold vpNot
  by_cases h : vpT s = 11
  · rw [if_pos h]
    cases hl : lo with
    | none => exact hF s
    | some l => exact hO s _ _ (vlive_of h (by decide) (by decide)) (hlo l hl _).2.2
  · rw [if_neg h]
    dsimp only
    by_cases h2 : vpT (vpSum b lo s) = 60 ∨ vpT (vpSum b lo s) = 61
    · rw [if_pos h2]
      refine tr _ _ _ (h1 s) (hO _ _ _ ?_ (h1 _))
      rcases h2 with q | q <;> exact vlive_of q (by decide) (by decide)
    · rw [if_neg h2]; exact h1 s
theorem vpBoth_rel (H : vpRel b I) (hlo : vloI I lo) (s : vPS) : I s (vpBoth b lo s) := by
  have h1 := vpNot_rel H hlo
  obtain ⟨rf, tr, hN, hO, hP, hF⟩ := H
  exact tr _ _ _ (h1 s) (vpLoop_rel rf (fun h1 h2 => tr _ _ _ h1 h2) (fun s q => hO s _ _ (vlive_of (of_decide_eq_true q) (by decide) (by decide)) (h1 _)) 160 _)
theorem vpEither_rel (H : vpRel b I) (hlo : vloI I lo) (s : vPS) : I s (vpEither b lo s) := by
  have h1 := vpBoth_rel H hlo
  obtain ⟨rf, tr, hN, hO, hP, hF⟩ := H
  exact tr _ _ _ (h1 s) (vpLoop_rel rf (fun h1 h2 => tr _ _ _ h1 h2) (fun s q => hO s _ _ (vlive_of (of_decide_eq_true q) (by decide) (by decide)) (h1 _)) 160 _)
theorem vpLev_rel (H : vpRel b I) : ∀ n, vloI I (vpLev b n) := by
  intro n
  induction n with
  | zero => intro l e; cases e
  | succ n ih =>
    intro l e s
    cases e
    exact ⟨vpOne_rel H ih s, vpEither_rel H ih s, vpNot_rel H ih s⟩
end PR
/-- the simple relations: those that every step keeps -/
theorem vp_simple {b : List Nat} {I : vPS → vPS → Prop} (rf : ∀ s, I s s) (tr : ∀ {s t u}, I s t → I t u → I s u) (hA : ∀ s, I s (vpAdv b s)) (hC : ∀ c s, I s (vpAdd c s)) (hF : ∀ s, I s (vpFail s)) : (∀ n s, I s (vpEither b (vpLev b n) s)) ∧ (∀ t s, I s (vpExp b t s)) ∧ ∀ k s, I s (vpPart b k s) := by
  have hE : ∀ t s, I s (vpExp b t s) := fun t s => by
    unfold vpExp
    by_cases h : vpT s = t
    · rw [if_pos h]; exact hA s
    · rw [if_neg h]; exact hF s
  have hN : ∀ s c, vpT s = 1 ∨ vpT s = 2 → I s (vpAdv b (vpAdd c s)) := fun s c _ => tr (hC c s) (hA _)
  have hO : ∀ s s' c, vlive s → I (vpAdv b s) s' → I s (vpAdd c s') := fun s s' c _ h => tr (tr (hA s) h) (hC c s')
  have hP : ∀ s s', vpT s = 40 → I (vpAdv b s) s' → I s (vpExp b 41 s') := fun s s' _ h => tr (tr (hA s) h) (hE 41 s')
  have hI : ∀ n s, I s (vpEither b (vpLev b n) s) := fun n s => vpEither_rel ⟨rf, fun _ _ _ h1 h2 => tr h1 h2, hN, hO, hP, hF⟩ (vpLev_rel ⟨rf, fun _ _ _ h1 h2 => tr h1 h2, hN, hO, hP, hF⟩ n) s
  exact ⟨hI, hE, fun k s => tr (tr (hE _ s) (hI 5 _)) (hE _ _)⟩
theorem vpAdv_C (b : List Nat) (s : vPS) : vpC (vpAdv b s) = vpC s := by
  unfold vpAdv; cases vpF s <;> rfl
theorem vpFail_C (s : vPS) : vpC (vpFail s) = vpC s := rfl
theorem vpAdd_C (c : Int32) (s : vPS) : vpC s <+: vpC (vpAdd c s) := by
  show vpC s <+: if (vpC s).length < 160 then vpC s ++ [c] else vpC s
  split
  · exact List.prefix_append _ _
  · exact List.prefix_refl _
/-- the code only grows -/
theorem vp_prefix (b : List Nat) : (∀ n s, vpC s <+: vpC (vpEither b (vpLev b n) s)) ∧ (∀ t s, vpC s <+: vpC (vpExp b t s)) ∧ ∀ k s, vpC s <+: vpC (vpPart b k s) :=
  vp_simple (I := fun s t => vpC s <+: vpC t) (fun s => List.prefix_refl _) (fun h1 h2 => h1.trans h2) (fun s => by rw [vpAdv_C]; exact List.prefix_refl _) (fun c s => vpAdd_C c s) (fun s => List.prefix_refl _)
/-- a fault stays -/
theorem vp_stick (b : List Nat) : (∀ n s f, vpF s = some f → vpF (vpEither b (vpLev b n) s) = some f) ∧ (∀ t s f, vpF s = some f → vpF (vpExp b t s) = some f) ∧ ∀ k s f, vpF s = some f → vpF (vpPart b k s) = some f :=
  vp_simple (I := fun s t => ∀ f, vpF s = some f → vpF t = some f) (fun s f h => h) (fun h1 h2 f h => h2 f (h1 f h)) (fun s f h => by unfold vpAdv; rw [h]) (fun c s f h => h) (fun s f h => by unfold vpFail; dsimp only [vpF]; rw [show s.2.2.2.2.1 = some f from h])
/-- places -/
theorem vspan_ge {P : Nat → Bool} {b : List Nat} : ∀ n i, i ≤ vspan P b n i := by
  intro n
  induction n with
  | zero => exact fun i => Nat.le_refl _
  | succ n ih =>
    intro i
    unfold vspan
    cases b[i]? with
    | none => exact Nat.le_refl _
    | some c =>
      dsimp only
      split
      · have := ih (i + 1); omega
      · exact Nat.le_refl _
theorem vspan_gt {P : Nat → Bool} {b : List Nat} {i c : Nat} (hc : b[i]? = some c) (hP : P c = true) : i + 1 ≤ vspan P b b.length i := by
  have hi : i < b.length := (List.getElem?_eq_some_iff.mp hc).1
  obtain ⟨n, hn⟩ : ∃ n, b.length = n + 1 := ⟨b.length - 1, by omega⟩
  rw [hn]
  unfold vspan
  rw [hc]
  dsimp only
  rw [if_pos hP]
  exact vspan_ge n (i + 1)
theorem vlex_go (b : List Nat) (i : Nat) : i ≤ (vlex b i).2.2.2 ∧ (¬ (vlex b i).1 = 0 → i + 1 ≤ (vlex b i).2.2.2) := by
  obtain ⟨p, hp⟩ : ∃ p, p = vspan vblank b b.length i := ⟨_, rfl⟩
  have hip : i ≤ p := by rw [hp]; exact vspan_ge _ _
  cases hc : b[p]? with
  | none =>
    rw [vlex_none hp hc]
    exact ⟨hip, fun q => absurd rfl q⟩
  | some c =>
    by_cases hl : vletter c = true
    · rw [vlex_let hp hc hl]
      have := vspan_gt hc hl
      exact ⟨by dsimp only; omega, fun _ => by dsimp only; omega⟩
    · have hl' : vletter c = false := by simpa using hl
      by_cases hd : vdigit c = true
      · rw [vlex_num hp hc hl' hd]
        have := vspan_gt hc hd
        exact ⟨by dsimp only; omega, fun _ => by dsimp only; omega⟩
      · have hd' : vdigit c = false := by simpa using hd
        rw [vlex_sign hp hc hl' hd']
        exact ⟨by dsimp only; omega, fun _ => by dsimp only; omega⟩
/-- how much room is left: each number, name and sign of the code has been read -/
def vJ (k : Nat) (s : vPS) : Prop := (vpC s).length + k ≤ vpN s ∧ (vlive s → (vpC s).length + k + 1 ≤ vpN s)
theorem vJ_adv {b : List Nat} {k : Nat} {s : vPS} (h : vJ k s) : vJ k (vpAdv b s) ∧ (vlive s → vpF s = none → vJ (k + 1) (vpAdv b s)) := by
  have hC := vpAdv_C b s
  cases hf : vpF s with
  | some f =>
    have e : vpAdv b s = (vpN s, -1, vpV s, vpP s, some f, vpC s) := by unfold vpAdv; rw [hf]
    rw [e]
    exact ⟨⟨h.1, fun q => absurd rfl q.2⟩, fun _ q => by cases q⟩
  | none =>
    have e : vpAdv b s = ((vlex b (vpN s)).2.2.2, (vlex b (vpN s)).1, (vlex b (vpN s)).2.1, (vlex b (vpN s)).2.2.1, none, vpC s) := by unfold vpAdv; rw [hf]
    obtain ⟨g1, g2⟩ := vlex_go b (vpN s)
    rw [e]
    refine ⟨⟨?_, fun q => ?_⟩, fun q _ => ⟨?_, fun q2 => ?_⟩⟩
    · exact Nat.le_trans h.1 g1
    · have := g2 q.1
      show (vpC s).length + k + 1 ≤ (vlex b (vpN s)).2.2.2
      have := h.1; omega
    · have := h.2 q
      show (vpC s).length + (k + 1) ≤ (vlex b (vpN s)).2.2.2
      omega
    · have := g2 q2.1
      have := h.2 q
      show (vpC s).length + (k + 1) + 1 ≤ (vlex b (vpN s)).2.2.2
      omega
theorem vJ_fail {k : Nat} {s : vPS} (h : vJ k s) : vJ k (vpFail s) := ⟨h.1, fun q => absurd rfl q.2⟩
theorem vJ_add {k : Nat} {c : Int32} {s : vPS} (h : vJ (k + 1) s) : vJ k (vpAdd c s) := by
  have hl : (vpC (vpAdd c s)).length ≤ (vpC s).length + 1 := by
    show (if (vpC s).length < 160 then vpC s ++ [c] else vpC s).length ≤ _
    split
    · rw [List.length_append]; exact Nat.le_refl _
    · omega
  refine ⟨?_, fun q => ?_⟩
  · have := h.1
    show _ ≤ vpN s
    omega
  · have := h.2 q
    show _ ≤ vpN s
    omega
theorem vJ_down {k : Nat} {s : vPS} (h : vJ (k + 1) s) : vJ k s := ⟨by have := h.1; omega, fun q => by have := h.2 q; omega⟩
/-- while there is no fault, a token that is -1 comes of a letter's or digits' fault alone; a fault goes with the token -1 -/
def vFT (s : vPS) : Prop := ∀ f, vpF s = some f → vpT s = -1
theorem vFT_none {s : vPS} (h : vFT s) (q : vlive s) : vpF s = none := by
  cases hf : vpF s with
  | none => rfl
  | some f => exact absurd (h f hf) q.2
theorem vFT_adv (b : List Nat) (s : vPS) : vFT (vpAdv b s) := by
  intro f h
  cases hf : vpF s with
  | some g => unfold vpAdv; rw [hf]
  | none => unfold vpAdv at h; rw [hf] at h; cases h
theorem vFT_fail (s : vPS) : vFT (vpFail s) := fun f _ => rfl
theorem vFT_exp (b : List Nat) (t : Int32) (s : vPS) : vFT (vpExp b t s) := by
  unfold vpExp; split
  · exact vFT_adv b s
  · exact vFT_fail s
theorem vJ_exp {b : List Nat} {k : Nat} {t : Int32} {s : vPS} (h : vJ k s) : vJ k (vpExp b t s) := by
  unfold vpExp; split
  · exact (vJ_adv h).1
  · exact vJ_fail h
/-- the fault goes with the token, room stays -/
def vJI (s t : vPS) : Prop := (vFT s → vFT t) ∧ (vFT s → ∀ k, vJ k s → vJ k t)
theorem vJ_H (b : List Nat) : vpRel b vJI := by
  refine ⟨fun s => ⟨id, fun _ k h => h⟩, fun s t u h1 h2 => ⟨fun h => h2.1 (h1.1 h), fun h k hk => h2.2 (h1.1 h) k (h1.2 h k hk)⟩, fun s c q => ⟨fun _ => vFT_adv b _, fun h k hk => ?_⟩, fun s s' c hl h => ⟨fun _ => h.1 (vFT_adv b s), fun hs k hk => vJ_add (h.2 (vFT_adv b s) (k + 1) ((vJ_adv hk).2 hl (vFT_none hs hl)))⟩, fun s s' q h => ⟨fun _ => vFT_exp b 41 s', fun hs k hk => vJ_exp (h.2 (vFT_adv b s) k (vJ_adv hk).1)⟩, fun s => ⟨fun _ => vFT_fail s, fun _ k h => vJ_fail h⟩⟩
  have hl : vlive s := by rcases q with q | q <;> exact vlive_of q (by decide) (by decide)
  have hf := vFT_none h hl
  have e : vpAdv b (vpAdd c s) = vpAdd c (vpAdv b s) := by
    unfold vpAdv
    rw [show vpF (vpAdd c s) = none from hf, hf]
    rfl
  rw [e]
  exact vJ_add ((vJ_adv hk).2 hl hf)
theorem vJ_rel (b : List Nat) : (∀ n s, (vFT s → vFT (vpEither b (vpLev b n) s)) ∧ (vFT s → ∀ k, vJ k s → vJ k (vpEither b (vpLev b n) s))) := fun n s => vpEither_rel (vJ_H b) (vpLev_rel (vJ_H b) n) s
/-- every step keeps it -/
theorem vp_simH {b : List Nat} {I : vPS → vPS → Prop} (rf : ∀ s, I s s) (tr : ∀ {s t u}, I s t → I t u → I s u) (hA : ∀ s, I s (vpAdv b s)) (hC : ∀ c s, I s (vpAdd c s)) (hF : ∀ s, I s (vpFail s)) : vpRel b I := by
  refine ⟨rf, fun s t u h1 h2 => tr h1 h2, fun s c _ => tr (hC c s) (hA _), fun s s' c _ h => tr (tr (hA s) h) (hC c s'), fun s s' _ h => tr (tr (hA s) h) ?_, hF⟩
  unfold vpExp
  split
  · exact hA s'
  · exact hF s'
theorem vpre_H (b : List Nat) : vpRel b (fun s t => vpC s <+: vpC t) := vp_simH (fun s => List.prefix_refl _) (fun h1 h2 => h1.trans h2) (fun s => by rw [vpAdv_C]; exact List.prefix_refl _) (fun c s => vpAdd_C c s) (fun s => List.prefix_refl _)
theorem vstk_H (b : List Nat) : vpRel b (fun s t => ∀ f, vpF s = some f → vpF t = some f) := vp_simH (fun s f h => h) (fun h1 h2 f h => h2 f (h1 f h)) (fun s f h => by unfold vpAdv; rw [h]) (fun c s f h => h) (fun s f h => by unfold vpFail; dsimp only [vpF]; rw [show s.2.2.2.2.1 = some f from h])
