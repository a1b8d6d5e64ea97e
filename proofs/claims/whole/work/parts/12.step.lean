theorem vand {a b : Bool} (h : (a && b) = true) : a = true ∧ b = true := by simpa using h
theorem vlen_e {y pc nx k : Nat} {i : Instr} (h : Nat.beq nx (pc + k) = true) (hd : decode (vYc y) pc = .ok (i, nx - pc)) : nx = pc + k ∧ decode (vYc y) pc = .ok (i, k) := by
  have h := Nat.eq_of_beq_eq_true h
  subst h
  rw [Nat.add_sub_cancel_left] at hd
  exact ⟨rfl, hd⟩
theorem vref_e {G : vG} {as : List Value} {k : Nat} (h : (match as with | .ref a :: _ => vrecv G a k | _ => false) = true) : ∃ a as', as = .ref a :: as' ∧ vrecv G a k = true := by
  split at h
  · exact ⟨_, _, rfl, h⟩
  · cases h
section SS
variable {l : Launch} {G : vG} {d y pc nx : Nat} {ls : vL} {st : List Value} {σ : vM} {post : vQ}
theorem vs_invokestatic {idx : Nat} (hd : decode (vYc y) pc = .ok (.invokestatic idx, 3)) (h : vcall G (vS l G) d y (pc + 3) (vYk y) idx 0 ls st σ post) : vS l G d y pc ls st σ post := by
  cases d with
  | zero => cases h
  | succ d =>
    unfold vcall at h
    dsimp only at h
    split at h
    next y' n kd' ps hpm =>
      split at h
      next => exact vs_acopy hd hpm (vcond h).2
      next => exact vs_mmax hd hpm (vcond h).2
      next => exact vs_mmin hd hpm (vcond h).2
      next => exact vs_mabs hd hpm (vcond h).2
      next =>
        obtain ⟨hk, hh⟩ := vcond h
        clear h
        have hk := Nat.eq_of_beq_eq_true hk
        subst hk
        split at hh
        next as r hp =>
          obtain ⟨hc, hm⟩ := vcond hh
          simp only [Bool.and_eq_true] at hc
          exact vs_static hd hpm hp hc.1 (Nat.le_of_ble_eq_true hc.2.1) (Nat.eq_of_beq_eq_true hc.2.2.1) hm
        next => cases hh
    next => cases h
theorem vs_invokevirtual {idx : Nat} (hd : decode (vYc y) pc = .ok (.invokevirtual idx, 3)) (h : vcall G (vS l G) d y (pc + 3) (vYk y) idx 1 ls st σ post) : vS l G d y pc ls st σ post := by
  cases d with
  | zero => cases h
  | succ d =>
    unfold vcall at h
    dsimp only at h
    split at h
    next y' n kd' ps hpm =>
      split at h
      next => exact absurd (vcond h).1 (by decide)
      next => exact absurd (vcond h).1 (by decide)
      next => exact absurd (vcond h).1 (by decide)
      next => exact absurd (vcond h).1 (by decide)
      next =>
        obtain ⟨hk, hh⟩ := vcond h
        clear h
        have hk := Nat.eq_of_beq_eq_true hk
        subst hk
        split at hh
        next as r hp =>
          obtain ⟨hc, hm⟩ := vcond hh
          simp only [Bool.and_eq_true] at hc
          obtain ⟨a, as', rfl, h3⟩ := vref_e (G := G) (k := vYk y') hc.2.2.2
          exact vs_virtual hd hpm hp h3 hc.1 (Nat.le_of_ble_eq_true hc.2.1) (Nat.eq_of_beq_eq_true hc.2.2.1) hm
        next => cases hh
    next => cases h
end SS
set_option maxHeartbeats 4000000 in
theorem vS_step (l : Launch) (G : vG) : vle (vF G (vS l G)) (vS l G) := by
  intro d y pc ls st σ post h
  unfold vF at h
  split at h
  next i nx tg im hf =>
    obtain ⟨hd, hk⟩ := vtb_ok hf
    cases i with
    | aconst_null =>
      obtain ⟨rfl, hd'⟩ := vlen_e (k := 1) hk hd
      exact vs_aconst_null hd' h
    | iadd =>
      obtain ⟨rfl, hd'⟩ := vlen_e (k := 1) hk hd
      exact vs_iadd hd' h
    | isub =>
      obtain ⟨rfl, hd'⟩ := vlen_e (k := 1) hk hd
      exact vs_isub hd' h
    | imul =>
      obtain ⟨rfl, hd'⟩ := vlen_e (k := 1) hk hd
      exact vs_imul hd' h
    | idiv =>
      obtain ⟨rfl, hd'⟩ := vlen_e (k := 1) hk hd
      exact vs_idiv hd' h
    | irem =>
      obtain ⟨rfl, hd'⟩ := vlen_e (k := 1) hk hd
      exact vs_irem hd' h
    | ineg =>
      obtain ⟨rfl, hd'⟩ := vlen_e (k := 1) hk hd
      exact vs_ineg hd' h
    | iand =>
      obtain ⟨rfl, hd'⟩ := vlen_e (k := 1) hk hd
      exact vs_iand hd' h
    | ior =>
      obtain ⟨rfl, hd'⟩ := vlen_e (k := 1) hk hd
      exact vs_ior hd' h
    | ixor =>
      obtain ⟨rfl, hd'⟩ := vlen_e (k := 1) hk hd
      exact vs_ixor hd' h
    | ishl =>
      obtain ⟨rfl, hd'⟩ := vlen_e (k := 1) hk hd
      exact vs_ishl hd' h
    | ishr =>
      obtain ⟨rfl, hd'⟩ := vlen_e (k := 1) hk hd
      exact vs_ishr hd' h
    | iushr =>
      obtain ⟨rfl, hd'⟩ := vlen_e (k := 1) hk hd
      exact vs_iushr hd' h
    | i2l =>
      obtain ⟨rfl, hd'⟩ := vlen_e (k := 1) hk hd
      exact vs_i2l hd' h
    | i2b =>
      obtain ⟨rfl, hd'⟩ := vlen_e (k := 1) hk hd
      exact vs_i2b hd' h
    | i2s =>
      obtain ⟨rfl, hd'⟩ := vlen_e (k := 1) hk hd
      exact vs_i2s hd' h
    | i2c =>
      obtain ⟨rfl, hd'⟩ := vlen_e (k := 1) hk hd
      exact vs_i2c hd' h
    | l2i =>
      obtain ⟨rfl, hd'⟩ := vlen_e (k := 1) hk hd
      exact vs_l2i hd' h
    | ladd =>
      obtain ⟨rfl, hd'⟩ := vlen_e (k := 1) hk hd
      exact vs_ladd hd' h
    | lsub =>
      obtain ⟨rfl, hd'⟩ := vlen_e (k := 1) hk hd
      exact vs_lsub hd' h
    | lmul =>
      obtain ⟨rfl, hd'⟩ := vlen_e (k := 1) hk hd
      exact vs_lmul hd' h
    | ldiv =>
      obtain ⟨rfl, hd'⟩ := vlen_e (k := 1) hk hd
      exact vs_ldiv hd' h
    | lrem =>
      obtain ⟨rfl, hd'⟩ := vlen_e (k := 1) hk hd
      exact vs_lrem hd' h
    | lcmp =>
      obtain ⟨rfl, hd'⟩ := vlen_e (k := 1) hk hd
      exact vs_lcmp hd' h
    | dup =>
      obtain ⟨rfl, hd'⟩ := vlen_e (k := 1) hk hd
      exact vs_dup hd' h
    | dup2 =>
      obtain ⟨rfl, hd'⟩ := vlen_e (k := 1) hk hd
      exact vs_dup2 hd' h
    | pop =>
      obtain ⟨rfl, hd'⟩ := vlen_e (k := 1) hk hd
      exact vs_pop hd' h
    | iaload =>
      obtain ⟨rfl, hd'⟩ := vlen_e (k := 1) hk hd
      exact vs_iaload hd' h
    | baload =>
      obtain ⟨rfl, hd'⟩ := vlen_e (k := 1) hk hd
      exact vs_baload hd' h
    | aaload =>
      obtain ⟨rfl, hd'⟩ := vlen_e (k := 1) hk hd
      exact vs_aaload hd' h
    | iastore =>
      obtain ⟨rfl, hd'⟩ := vlen_e (k := 1) hk hd
      exact vs_iastore hd' h
    | bastore =>
      obtain ⟨rfl, hd'⟩ := vlen_e (k := 1) hk hd
      exact vs_bastore hd' h
    | arraylength =>
      obtain ⟨rfl, hd'⟩ := vlen_e (k := 1) hk hd
      exact vs_arraylength hd' h
    | ireturn =>
      obtain ⟨rfl, hd'⟩ := vlen_e (k := 1) hk hd
      exact vs_ireturn hd' h
    | lreturn =>
      obtain ⟨rfl, hd'⟩ := vlen_e (k := 1) hk hd
      exact vs_lreturn hd' h
    | areturn =>
      obtain ⟨rfl, hd'⟩ := vlen_e (k := 1) hk hd
      exact vs_areturn hd' h
    | return_ =>
      obtain ⟨rfl, hd'⟩ := vlen_e (k := 1) hk hd
      exact vs_return hd' h
    | lconst n =>
      obtain ⟨rfl, hd'⟩ := vlen_e (k := 1) hk hd
      exact vs_lconst hd' h
    | iload_n n =>
      obtain ⟨rfl, hd'⟩ := vlen_e (k := 1) hk hd
      exact vs_iload_n hd' h
    | lload_n n =>
      obtain ⟨rfl, hd'⟩ := vlen_e (k := 1) hk hd
      exact vs_lload_n hd' h
    | aload_n n =>
      obtain ⟨rfl, hd'⟩ := vlen_e (k := 1) hk hd
      exact vs_aload_n hd' h
    | istore_n n =>
      obtain ⟨rfl, hd'⟩ := vlen_e (k := 1) hk hd
      exact vs_istore_n hd' h
    | astore_n n =>
      obtain ⟨rfl, hd'⟩ := vlen_e (k := 1) hk hd
      exact vs_astore_n hd' h
    | iload n =>
      obtain ⟨rfl, hd'⟩ := vlen_e (k := 2) hk hd
      exact vs_iload hd' h
    | lload n =>
      obtain ⟨rfl, hd'⟩ := vlen_e (k := 2) hk hd
      exact vs_lload hd' h
    | aload n =>
      obtain ⟨rfl, hd'⟩ := vlen_e (k := 2) hk hd
      exact vs_aload hd' h
    | istore n =>
      obtain ⟨rfl, hd'⟩ := vlen_e (k := 2) hk hd
      exact vs_istore hd' h
    | lstore n =>
      obtain ⟨rfl, hd'⟩ := vlen_e (k := 2) hk hd
      exact vs_lstore hd' h
    | astore n =>
      obtain ⟨rfl, hd'⟩ := vlen_e (k := 2) hk hd
      exact vs_astore hd' h
    | ldc n =>
      obtain ⟨rfl, hd'⟩ := vlen_e (k := 2) hk hd
      exact vs_ldc hd' h
    | getfield n =>
      obtain ⟨rfl, hd'⟩ := vlen_e (k := 3) hk hd
      exact vs_getfield hd' h
    | putfield n =>
      obtain ⟨rfl, hd'⟩ := vlen_e (k := 3) hk hd
      exact vs_putfield hd' h
    | getstatic n =>
      obtain ⟨rfl, hd'⟩ := vlen_e (k := 3) hk hd
      exact vs_getstatic hd' h
    | invokestatic n =>
      obtain ⟨rfl, hd'⟩ := vlen_e (k := 3) hk hd
      exact vs_invokestatic hd' h
    | invokevirtual n =>
      obtain ⟨rfl, hd'⟩ := vlen_e (k := 3) hk hd
      exact vs_invokevirtual hd' h
    | ldc_w n =>
      obtain ⟨rfl, hd'⟩ := vlen_e (k := 3) hk hd
      exact vs_ldc_w hd' h
    | ldc2_w n =>
      obtain ⟨rfl, hd'⟩ := vlen_e (k := 3) hk hd
      exact vs_ldc2_w hd' h
    | iconst n =>
      obtain ⟨h1, h2⟩ := vand hk
      obtain ⟨rfl, hd'⟩ := vlen_e (k := 1) h1 hd
      exact vs_iconst hd' (of_decide_eq_true h2) h
    | bipush n =>
      obtain ⟨h1, h2⟩ := vand hk
      obtain ⟨rfl, hd'⟩ := vlen_e (k := 2) h1 hd
      exact vs_bipush hd' (of_decide_eq_true h2) h
    | sipush n =>
      obtain ⟨h1, h2⟩ := vand hk
      obtain ⟨rfl, hd'⟩ := vlen_e (k := 3) h1 hd
      exact vs_sipush hd' (of_decide_eq_true h2) h
    | iinc k n =>
      obtain ⟨h1, h2⟩ := vand hk
      obtain ⟨rfl, hd'⟩ := vlen_e (k := 3) h1 hd
      exact vs_iinc hd' (of_decide_eq_true h2) h
    | goto o =>
      obtain ⟨h1, h2⟩ := vand hk
      obtain ⟨rfl, hd'⟩ := vlen_e (k := 3) h1 hd
      exact vs_goto hd' (of_decide_eq_true h2) h
    | ifnull o =>
      obtain ⟨h1, h2⟩ := vand hk
      obtain ⟨rfl, hd'⟩ := vlen_e (k := 3) h1 hd
      exact vs_ifnull hd' (of_decide_eq_true h2) h
    | ifCond c o =>
      obtain ⟨h1, h2⟩ := vand hk
      obtain ⟨rfl, hd'⟩ := vlen_e (k := 3) h1 hd
      cases c with
      | eq => exact vs_if_eq hd' (of_decide_eq_true h2) h
      | ne => exact vs_if_ne hd' (of_decide_eq_true h2) h
      | lt => exact vs_if_lt hd' (of_decide_eq_true h2) h
      | ge => exact vs_if_ge hd' (of_decide_eq_true h2) h
      | gt => exact vs_if_gt hd' (of_decide_eq_true h2) h
      | le => exact vs_if_le hd' (of_decide_eq_true h2) h
    | if_icmp c o =>
      obtain ⟨h1, h2⟩ := vand hk
      obtain ⟨rfl, hd'⟩ := vlen_e (k := 3) h1 hd
      cases c with
      | eq => exact vs_icmp_eq hd' (of_decide_eq_true h2) h
      | ne => exact vs_icmp_ne hd' (of_decide_eq_true h2) h
      | lt => exact vs_icmp_lt hd' (of_decide_eq_true h2) h
      | ge => exact vs_icmp_ge hd' (of_decide_eq_true h2) h
      | gt => exact vs_icmp_gt hd' (of_decide_eq_true h2) h
      | le => exact vs_icmp_le hd' (of_decide_eq_true h2) h
    | tableswitch a b c o => exact vs_tableswitch hd hk h
    | lookupswitch a o => exact vs_lookupswitch hd hk h
    | _ => exact False.elim h
  next => cases h
theorem VM_sound {l : Launch} {G : vG} {d y pc : Nat} {ls : vL} {st : List Value} {σ : vM} {post : vQ} (h : VM G d y pc ls st σ post) : vS l G d y pc ls st σ post := h (vS l G) (vS_step l G)
/-! monotone: so VM is a fixpoint, and several steps may be taken at once -/
theorem vbif_m {b : Bool} {p q : Prop} (hpq : p → q) (h : bif b then p else False) : bif b then q else False := by
  cases b
  · cases h
  · exact hpq h
theorem vI1_m {st : List Value} {k k' : Int32 → List Value → Prop} (hk : ∀ a r, k a r → k' a r) (h : vI1 st k) : vI1 st k' := by
  unfold vI1 at *
  split at h
  · exact hk _ _ h
  · cases h
theorem vI2_m {st : List Value} {k k' : Int32 → Int32 → List Value → Prop} (hk : ∀ a b r, k a b r → k' a b r) (h : vI2 st k) : vI2 st k' := by
  unfold vI2 at *
  split at h
  · exact hk _ _ _ h
  · cases h
theorem vL2_m {st : List Value} {k k' : Int64 → Int64 → List Value → Prop} (hk : ∀ a b r, k a b r → k' a b r) (h : vL2 st k) : vL2 st k' := by
  unfold vL2 at *
  split at h
  · exact hk _ _ _ h
  · cases h
theorem vldI_m {ls : vL} {i : Nat} {k k' : Value → Prop} (hk : ∀ v, k v → k' v) (h : vldI ls i k) : vldI ls i k' := by
  unfold vldI at *
  split at h
  · exact hk _ h
  · cases h
theorem vldL_m {ls : vL} {i : Nat} {k k' : Value → Prop} (hk : ∀ v, k v → k' v) (h : vldL ls i k) : vldL ls i k' := by
  unfold vldL at *
  split at h
  · exact hk _ h
  · cases h
theorem vldA_m {ls : vL} {i : Nat} {k k' : Value → Prop} (hk : ∀ v, k v → k' v) (h : vldA ls i k) : vldA ls i k' := by
  unfold vldA at *
  split at h
  · exact hk _ h
  · exact hk _ h
  · cases h
theorem vstI_m {ls : vL} {st : List Value} {i : Nat} {k k' : vL → List Value → Prop} (hk : ∀ a r, k a r → k' a r) (h : vstI ls st i k) : vstI ls st i k' := by
  unfold vstI at *
  split at h
  · exact vbif_m (hk _ _) h
  · cases h
theorem vstL_m {ls : vL} {st : List Value} {i : Nat} {k k' : vL → List Value → Prop} (hk : ∀ a r, k a r → k' a r) (h : vstL ls st i k) : vstL ls st i k' := by
  unfold vstL at *
  split at h
  · exact vbif_m (hk _ _) h
  · cases h
theorem vstA_m {ls : vL} {st : List Value} {i : Nat} {k k' : vL → List Value → Prop} (hk : ∀ a r, k a r → k' a r) (h : vstA ls st i k) : vstA ls st i k' := by
  unfold vstA at *
  split at h
  · exact vbif_m (hk _ _) h
  · exact vbif_m (hk _ _) h
  · cases h
theorem vex_m {i : Int32} {n : Nat} {p q : Nat → Prop} (hpq : ∀ j, p j → q j) (h : ∃ j : Nat, i = nI j ∧ j < n ∧ p j) : ∃ j : Nat, i = nI j ∧ j < n ∧ q j := by
  obtain ⟨j, h1, h2, h3⟩ := h
  exact ⟨j, h1, h2, hpq j h3⟩
theorem vald_m {G : vG} {σ : vM} {kd : Nat} {st : List Value} {k k' : Value → List Value → Prop} (hk : ∀ v r, k v r → k' v r) (h : vald G σ kd st k) : vald G σ kd st k' := by
  unfold vald at *
  split at h
  next i a r =>
    try dsimp only
    split at h
    next t n es hl =>
      cases hb : Nat.beq kd 2 with
      | true => rw [hb] at h; exact vbif_m (vex_m (fun j => hk _ _)) h
      | false => rw [hb] at h; exact vbif_m (vex_m (fun j => hk _ _)) h
    next => cases h
    next hl =>
      split at h
      next t n f hc => exact vbif_m (vex_m (fun j => hk _ _)) h
      next => cases h
  next => cases h
theorem vast_m {G : vG} {σ : vM} {kd : Nat} {st : List Value} {k k' : vM → List Value → Prop} (hk : ∀ v r, k v r → k' v r) (h : vast G σ kd st k) : vast G σ kd st k' := by
  unfold vast at *
  split at h
  next x i a r =>
    try dsimp only
    split at h
    next t n es hl => exact vbif_m (fun hh => ⟨hh.1, vex_m (fun j => hk _ _) hh.2⟩) h
    next => cases h
  next => cases h
theorem valen_m {G : vG} {st : List Value} {k k' : Int32 → List Value → Prop} (hk : ∀ v r, k v r → k' v r) (h : valen G st k) : valen G st k' := by
  unfold valen at *
  split at h
  next a r =>
    try dsimp only
    split at h
    next t n es hl => exact hk _ _ h
    next => cases h
    next =>
      split at h
      next => exact hk _ _ h
      next => cases h
  next => cases h
theorem vgetf_m {G : vG} {σ : vM} {c idx : Nat} {st : List Value} {k k' : Value → List Value → Prop} (hk : ∀ v r, k v r → k' v r) (h : vgetf G σ c idx st k) : vgetf G σ c idx st k' := by
  unfold vgetf at *
  split at h
  next a r =>
    try dsimp only
    split at h
    next ci fs hl =>
      split at h
      next ci' f q hf =>
        refine vbif_m (fun h => ?_) h
        split at h
        · exact hk _ _ h
        · exact hk _ _ h
        · exact hk _ _ h
        · obtain ⟨t, h1, h2, h3⟩ := h
          exact ⟨t, h1, h2, hk _ _ h3⟩
        · exact hk _ _ h
        · cases h
      next => cases h
    next => cases h
    next =>
      split at h
      next => exact vbif_m (hk _ _) h
      next => exact vbif_m (hk _ _) h
      next => cases h
  next => cases h
theorem vputf_m {G : vG} {σ : vM} {c idx : Nat} {st : List Value} {k k' : vM → List Value → Prop} (hk : ∀ v r, k v r → k' v r) (h : vputf G σ c idx st k) : vputf G σ c idx st k' := by
  unfold vputf at *
  split at h
  next v a r =>
    try dsimp only
    split at h
    next ci fs hl =>
      split at h
      next ci' f q hf =>
        refine vbif_m (fun h => ?_) h
        split at h
        · split at h
          · exact hk _ _ h
          · cases h
        · split at h
          · exact hk _ _ h
          · cases h
        · split at h
          · exact vbif_m (hk _ _) h
          · cases h
        · split at h
          · exact ⟨h.1, hk _ _ h.2⟩
          · cases h
        · cases h
      next => cases h
    next => cases h
  next => cases h
theorem vacopy_m {G : vG} {σ : vM} {st : List Value} {k k' : vM → List Value → Prop} (hk : ∀ v r, k v r → k' v r) (h : vacopy G σ st k) : vacopy G σ st k' := by
  unfold vacopy at *
  split at h
  next =>
    try dsimp only
    split at h
    next =>
      split at h
      next =>
        refine vbif_m (fun h => ?_) h
        obtain ⟨a, b, c, h1, h2, h3, h4, h5, h6⟩ := h
        exact ⟨a, b, c, h1, h2, h3, h4, h5, hk _ _ h6⟩
      next => cases h
    next => cases h
  next => cases h
theorem vsw_m {P P' : Nat → Prop} (hP : ∀ t, P t → P' t) {x : Int32} {df : Nat} {l : List (Int32 × Nat)} (h : vswF P x df l) : vswF P' x df l := by
  induction l with
  | nil => exact hP _ h
  | cons q l ih => exact ⟨fun e => hP _ (h.1 e), fun e => ih (h.2 e)⟩
theorem vcall_m {G : vG} {P P' : vP} (hP : vle P P') {d y nx c idx kd : Nat} {ls : vL} {st : List Value} {σ : vM} {post : vQ} (h : vcall G P d y nx c idx kd ls st σ post) : vcall G P' d y nx c idx kd ls st σ post := by
  unfold vcall at *
  split at h
  next => cases h
  next d =>
    try dsimp only
    split at h
    next y' n kd' ps hpm =>
      split at h
      next => exact vbif_m (vacopy_m (fun _ _ => hP _ _ _ _ _ _ _)) h
      next => exact vbif_m (vI2_m (fun _ _ _ => vbif_m (hP _ _ _ _ _ _ _))) h
      next => exact vbif_m (vI2_m (fun _ _ _ => vbif_m (hP _ _ _ _ _ _ _))) h
      next => exact vbif_m (vI1_m (fun _ _ => vbif_m (hP _ _ _ _ _ _ _))) h
      next h3 h4 h5 h6 =>
        refine vbif_m (fun h => ?_) h
        split at h
        next as r hp =>
          refine vbif_m (fun h => ?_) h
          obtain ⟨Mid, h1, h2⟩ := h
          exact ⟨Mid, hP _ _ _ _ _ _ _ h1, fun v σ' hm => hP _ _ _ _ _ _ _ (h2 v σ' hm)⟩
        next => cases h
    next => cases h
set_option maxHeartbeats 4000000 in
theorem vF_m (G : vG) {P P' : vP} (hP : vle P P') : vle (vF G P) (vF G P') := by
  intro d y pc ls st σ post h
  unfold vF at *
  split at h
  next i nx tg im hf =>
    have hp := fun {y pc ls st σ} => hP d y pc ls st σ post
    try dsimp only
    cases i with
    | ifCond c o => cases c <;> exact vI1_m (fun _ _ hh => ⟨fun e => hp (hh.1 e), fun e => hp (hh.2 e)⟩) h
    | if_icmp c o => cases c <;> exact vI2_m (fun _ _ _ hh => ⟨fun e => hp (hh.1 e), fun e => hp (hh.2 e)⟩) h
    | invokestatic k => exact vcall_m hP h
    | invokevirtual k => exact vcall_m hP h
    | iinc k n =>
      unfold vX at *
      dsimp only at *
      split at h
      · exact vbif_m hp h
      · cases h
    | l2i =>
      unfold vX at *
      dsimp only at *
      split at h
      · exact hp h
      · cases h
    | dup =>
      unfold vX at *
      dsimp only at *
      split at h
      · exact vbif_m hp h
      · cases h
    | dup2 =>
      unfold vX at *
      dsimp only at *
      split at h
      · exact vbif_m hp h
      · cases h
    | pop =>
      unfold vX at *
      dsimp only at *
      split at h
      · exact vbif_m hp h
      · cases h
    | ifnull o =>
      unfold vX at *
      dsimp only at *
      split at h
      · exact hp h
      · exact vbif_m hp h
      · cases h
    | tableswitch a b c o =>
      refine vI1_m (fun _ _ hh => ?_) h
      split at hh
      · exact vsw_m (fun _ => hp) hh
      · cases hh
    | lookupswitch a o =>
      refine vI1_m (fun _ _ hh => ?_) h
      split at hh
      · exact vsw_m (fun _ => hp) hh
      · cases hh
    | getstatic k =>
      unfold vX at *
      dsimp only at *
      split at h
      · exact hp h
      · cases h
    | ldc_w k =>
      unfold vX at *
      dsimp only at *
      split at h
      · exact hp h
      · cases h
    | ldc k =>
      unfold vX vldc at *
      dsimp only at *
      split at h
      · exact hp h
      · cases hb : (Nat.beq (vYk y) 6 && Nat.beq k 60) with
        | false => rw [hb] at h; exact vbif_m hp h
        | true => rw [hb] at h; exact hp h
    | ldc2_w k =>
      unfold vX vldc2 at *
      dsimp only at *
      split at h
      · exact hp h
      · cases h
    | idiv => exact vI2_m (fun _ _ _ hh => ⟨hh.1, hp hh.2⟩) h
    | irem => exact vI2_m (fun _ _ _ hh => ⟨hh.1, hp hh.2⟩) h
    | ldiv => exact vL2_m (fun _ _ _ hh => ⟨hh.1, hp hh.2⟩) h
    | lrem => exact vL2_m (fun _ _ _ hh => ⟨hh.1, hp hh.2⟩) h
    | ireturn => exact h
    | lreturn => exact h
    | areturn => exact h
    | return_ => exact h
    | iload k => exact vldI_m (k := fun v => P d y nx ls (v :: st) σ post) (fun v hh => hp hh) h
    | iload_n k => exact vldI_m (k := fun v => P d y nx ls (v :: st) σ post) (fun v hh => hp hh) h
    | lload k => exact vldL_m (k := fun v => P d y nx ls (v :: st) σ post) (fun v hh => hp hh) h
    | lload_n k => exact vldL_m (k := fun v => P d y nx ls (v :: st) σ post) (fun v hh => hp hh) h
    | aload k => exact vldA_m (k := fun v => P d y nx ls (v :: st) σ post) (fun v hh => hp hh) h
    | aload_n k => exact vldA_m (k := fun v => P d y nx ls (v :: st) σ post) (fun v hh => hp hh) h
    | istore k => exact vstI_m (k := fun ls r => P d y nx ls r σ post) (fun ls r hh => hp hh) h
    | istore_n k => exact vstI_m (k := fun ls r => P d y nx ls r σ post) (fun ls r hh => hp hh) h
    | lstore k => exact vstL_m (k := fun ls r => P d y nx ls r σ post) (fun ls r hh => hp hh) h
    | astore k => exact vstA_m (k := fun ls r => P d y nx ls r σ post) (fun ls r hh => hp hh) h
    | astore_n k => exact vstA_m (k := fun ls r => P d y nx ls r σ post) (fun ls r hh => hp hh) h
    | iadd => exact vI2_m (k := fun a b r => P d y nx ls (.int (a + b) :: r) σ post) (fun a b r hh => hp hh) h
    | isub => exact vI2_m (k := fun a b r => P d y nx ls (.int (a - b) :: r) σ post) (fun a b r hh => hp hh) h
    | imul => exact vI2_m (k := fun a b r => P d y nx ls (.int (a * b) :: r) σ post) (fun a b r hh => hp hh) h
    | ineg => exact vI1_m (k := fun a r => P d y nx ls (.int (-a) :: r) σ post) (fun a r hh => hp hh) h
    | iand => exact vI2_m (k := fun a b r => P d y nx ls (.int (a &&& b) :: r) σ post) (fun a b r hh => hp hh) h
    | ior => exact vI2_m (k := fun a b r => P d y nx ls (.int (a ||| b) :: r) σ post) (fun a b r hh => hp hh) h
    | ixor => exact vI2_m (k := fun a b r => P d y nx ls (.int (a ^^^ b) :: r) σ post) (fun a b r hh => hp hh) h
    | ishl => exact vI2_m (k := fun a b r => P d y nx ls (.int (a <<< (b &&& 31)) :: r) σ post) (fun a b r hh => hp hh) h
    | ishr => exact vI2_m (k := fun a b r => P d y nx ls (.int (a >>> (b &&& 31)) :: r) σ post) (fun a b r hh => hp hh) h
    | iushr => exact vI2_m (k := fun a b r => P d y nx ls (.int (a.toUInt32 >>> (b.toUInt32 &&& Int32.toUInt32 31)).toInt32 :: r) σ post) (fun a b r hh => hp hh) h
    | i2l => exact vI1_m (k := fun a r => P d y nx ls (.long a.toInt64 :: r) σ post) (fun a r hh => hp hh) h
    | i2b => exact vI1_m (k := fun a r => P d y nx ls (.int a.toInt8.toInt32 :: r) σ post) (fun a r hh => hp hh) h
    | i2s => exact vI1_m (k := fun a r => P d y nx ls (.int a.toInt16.toInt32 :: r) σ post) (fun a r hh => hp hh) h
    | i2c => exact vI1_m (k := fun a r => P d y nx ls (.int (a.toUInt32 % 65536).toInt32 :: r) σ post) (fun a r hh => hp hh) h
    | ladd => exact vL2_m (k := fun a b r => P d y nx ls (.long (a + b) :: r) σ post) (fun a b r hh => hp hh) h
    | lsub => exact vL2_m (k := fun a b r => P d y nx ls (.long (a - b) :: r) σ post) (fun a b r hh => hp hh) h
    | lmul => exact vL2_m (k := fun a b r => P d y nx ls (.long (a * b) :: r) σ post) (fun a b r hh => hp hh) h
    | lcmp => exact vL2_m (k := fun a b r => P d y nx ls (.int (lg_cmp a b) :: r) σ post) (fun a b r hh => hp hh) h
    | iaload => exact vald_m (k := fun v r => P d y nx ls (v :: r) σ post) (fun v r hh => hp hh) h
    | baload => exact vald_m (k := fun v r => P d y nx ls (v :: r) σ post) (fun v r hh => hp hh) h
    | aaload => exact vald_m (k := fun v r => P d y nx ls (v :: r) σ post) (fun v r hh => hp hh) h
    | iastore => exact vast_m (k := fun σ r => P d y nx ls r σ post) (fun σ r hh => hp hh) h
    | bastore => exact vast_m (k := fun σ r => P d y nx ls r σ post) (fun σ r hh => hp hh) h
    | arraylength => exact valen_m (k := fun n r => P d y nx ls (.int n :: r) σ post) (fun n r hh => hp hh) h
    | getfield k => exact vgetf_m (k := fun v r => P d y nx ls (v :: r) σ post) (fun v r hh => hp hh) h
    | putfield k => exact vputf_m (k := fun σ r => P d y nx ls r σ post) (fun σ r hh => hp hh) h
    | _ => first | exact False.elim h | exact hp h
  next => cases h
theorem VM_fold (G : vG) : vle (vF G (VM G)) (VM G) := fun d y pc ls st σ post h P hP => hP _ _ _ _ _ _ _ (vF_m G (fun _ _ _ _ _ _ _ hh => hh P hP) _ _ _ _ _ _ _ h)
theorem VM_unfold (G : vG) : vle (VM G) (vF G (VM G)) := fun d y pc ls st σ post h => h (vF G (VM G)) (vF_m G (VM_fold G))
/-- n steps -/
def vR (G : vG) : Nat → vP
  | 0 => VM G
  | n + 1 => vF G (vR G n)
theorem vR_VM (G : vG) (n : Nat) : vle (vR G n) (VM G) := by
  induction n with
  | zero => exact fun _ _ _ _ _ _ _ h => h
  | succ n ih => exact fun _ _ _ _ _ _ _ h => VM_fold G _ _ _ _ _ _ _ (vF_m G ih _ _ _ _ _ _ _ h)
theorem VM_vR (G : vG) (n : Nat) : vle (VM G) (vR G n) := by
  induction n with
  | zero => exact fun _ _ _ _ _ _ _ h => h
  | succ n ih => exact fun _ _ _ _ _ _ _ h => vF_m G ih _ _ _ _ _ _ _ (VM_unfold G _ _ _ _ _ _ _ h)
theorem VM.run {G : vG} {d y pc : Nat} {ls : vL} {st : List Value} {σ : vM} {post : vQ} (n : Nat) (h : vR G n d y pc ls st σ post) : VM G d y pc ls st σ post := vR_VM G n _ _ _ _ _ _ _ h
theorem VM.to {G : vG} {d y pc : Nat} {ls : vL} {st : List Value} {σ : vM} {post : vQ} {n : Nat} (h : VM G d y pc ls st σ post) : vR G n d y pc ls st σ post := VM_vR G n _ _ _ _ _ _ _ h

/-- steps until one of the places S is reached -/
def vG0 (G : vG) (S : List Nat) : Nat → vP
  | 0 => VM G
  | n + 1 => fun d y pc ls st σ post => bif S.elem pc then VM G d y pc ls st σ post else vF G (vG0 G S n) d y pc ls st σ post
theorem vG0_VM (G : vG) (S : List Nat) (n : Nat) : vle (vG0 G S n) (VM G) := by
  induction n with
  | zero => exact fun _ _ _ _ _ _ _ h => h
  | succ n ih =>
    intro d y pc ls st σ post h
    unfold vG0 at h
    cases hb : S.elem pc with
    | true => rw [hb] at h; exact h
    | false => rw [hb] at h; exact VM_fold G _ _ _ _ _ _ _ (vF_m G ih _ _ _ _ _ _ _ h)
theorem VM_vG0 (G : vG) (S : List Nat) (n : Nat) : vle (VM G) (vG0 G S n) := by
  induction n with
  | zero => exact fun _ _ _ _ _ _ _ h => h
  | succ n ih =>
    intro d y pc ls st σ post h
    unfold vG0
    cases hb : S.elem pc with
    | true => exact h
    | false => exact vF_m G ih _ _ _ _ _ _ _ (VM_unfold G _ _ _ _ _ _ _ h)
/-- from here, one step at least, then on to one of the places S -/
theorem VM.go {G : vG} {d y pc : Nat} {ls : vL} {st : List Value} {σ : vM} {post : vQ} (S : List Nat) (h : vF G (vG0 G S 200) d y pc ls st σ post) : VM G d y pc ls st σ post := VM_fold G _ _ _ _ _ _ _ (vF_m G (vG0_VM G S 200) _ _ _ _ _ _ _ h)
theorem VM.at {G : vG} {d y pc : Nat} {ls : vL} {st : List Value} {σ : vM} {post : vQ} {S : List Nat} {n : Nat} (h : VM G d y pc ls st σ post) : vG0 G S n d y pc ls st σ post := VM_vG0 G S n _ _ _ _ _ _ _ h
/-- a counted loop whose states are told by a function of the counter: downward -/
theorem vloop {n : Nat} (P : Nat → Prop) (hend : P n) (hstep : ∀ i, i < n → P (i + 1) → P i) : ∀ i, i ≤ n → P i := by
  intro i hi
  obtain ⟨k, rfl⟩ := Nat.le.dest hi
  induction k generalizing i with
  | zero => exact hend
  | succ k ih => exact hstep i (by omega) (by have := ih (i + 1) (by rw [show i + 1 + k = i + (k + 1) by omega]; exact hend) (fun j hj hP => hstep j (by omega) hP) (by omega); exact this)

