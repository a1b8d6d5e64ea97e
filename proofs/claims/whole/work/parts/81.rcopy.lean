/-! ===== THE REFERENCE: copy ===== -/
theorem sub_I {a b : Nat} (ha : a < 2 ^ 30) (hb : b < 2 ^ 31) : (nI a - nI b).toInt = (a : Int) - b := by
  rw [Int32.toInt_sub, nI_toInt (by omega), nI_toInt hb]
  exact Int.bmod_eq_of_le (by omega) (by omega)
theorem vcp_le {i n sz : Nat} (hi : i < 2 ^ 31) (hn : n < 2 ^ 31) (hz : sz ≤ 40) : nI i ≤ nI sz - nI n ↔ i + n ≤ sz := by
  rw [Int32.le_iff_toInt_le, sub_I (by omega) hn, nI_toInt hi]
  omega
theorem vcpA_vSh {a : vα} {σ σ' : vM} {s i o j n : Nat} (hz : a.1 (50 + 2 * o) 1 ≤ 40) (h : vSh a σ o) (hf : ∀ c, 79 ≤ c → c ≤ 81 → σ'.1 c o = σ.1 c o) (hi : ∀ k, k < 40 → σ'.1 82 (40 * o + k) = if j ≤ k ∧ k < j + n then a.2.1 s (i + (k - j)) else σ.1 82 (40 * o + k)) : vSh (vcpA a s i o j n) σ' o := by
  obtain ⟨q1, q2⟩ := h
  refine ⟨(hf 79 (by decide) (by decide)).trans q1, fun n0 => ?_⟩
  obtain ⟨r1, r2, r3⟩ := q2 n0
  refine ⟨(hf 80 (by decide) (by decide)).trans r1, (hf 81 (by decide) (by decide)).trans r2, fun k hk => ?_⟩
  have hk' : k < a.1 (50 + 2 * o) 1 := hk
  rw [hi k (by omega)]
  show _ = if o = o ∧ j ≤ k ∧ k < j + n then a.2.1 s (i + (k - j)) else a.2.1 o k
  by_cases e : j ≤ k ∧ k < j + n
  · rw [if_pos e, if_pos ⟨rfl, e⟩]
  · rw [if_neg e, if_neg (fun q => e q.2)]; exact r3 k hk
section RCP
variable {Gx : Nat × (Nat → Int32)} {d D : Nat} {σ : vM} {post : vQ} {a : vα}
theorem vr_copy {s0 i0 o0 j0 n0 : Int32} (hR : vRM a σ) (hW : vWF a) (h : ∀ σ', vagI vRf σ σ' → vRM (sCopy a s0 i0 o0 j0 n0).2 σ' → post (some (.int (sCopy a s0 i0 o0 j0 n0).1)) σ') : VM (true, Gx) (d + 2) iX7_copy 0 [some (.ref 58), some (.int s0), some (.int i0), some (.int o0), some (.int j0), some (.int n0), none, none, none] [] σ post := by
  have bad : ∀ v, sCopy a s0 i0 o0 j0 n0 = (v, a) → post (some (.int v)) σ := fun v e => by
    have := h σ vagI.rf (by rw [e]; exact hR)
    rw [e] at this
    exact this
  refine VM.go [] ⟨_, VM.at (vm_isSheet (d := d) (fun s es hs e1 => ?_) (fun es => ?_)), fun _ _ hh => hh⟩
  · refine ⟨fun c => absurd c (by decide), fun _ => ⟨_, VM.at (vm_isSheet (d := d) (fun o eo ho e2 => ?_) (fun eo => ?_)), fun _ _ hh => hh⟩⟩
    · subst e1; subst e2
      refine ⟨fun _ => ?_, fun c => absurd c (by decide)⟩
      have er : sCopy a (nI s) i0 (nI o) j0 n0 = if a.1 (50 + 2 * s) 0 = 0 ∨ a.1 (50 + 2 * o) 0 = 0 then ((-11 : Int32), a) else if ¬ a.1 (50 + 2 * s) 0 = a.1 (50 + 2 * o) 0 then (-13, a) else match vhas (a.1 (50 + 2 * s) 1) i0 n0, vhas (a.1 (50 + 2 * o) 1) j0 n0 with
          | some (i, m), some (j, _) => (nI m, vcpA a s i o j m)
          | _, _ => (-12, a) := by
        unfold sCopy
        rw [es, eo]
        dsimp only
        rcases vhas (a.1 (50 + 2 * s) 1) i0 n0 with _ | ⟨_, _⟩ <;> rcases vhas (a.1 (50 + 2 * o) 1) j0 n0 with _ | ⟨_, _⟩ <;> rfl
      have hso := hR.2.2.2.2.2 s hs
      have hoo := hR.2.2.2.2.2 o ho
      obtain ⟨zs1, zs2, -⟩ := hW.2.2.2.2.2.2.2.1 s hs
      obtain ⟨zo1, zo2, -⟩ := hW.2.2.2.2.2.2.2.1 o ho
      have flag : ∀ s, σ.1 79 s = (if a.1 (50 + 2 * s) 0 = 0 then 0 else 1) → (σ.1 79 s = 0 ↔ a.1 (50 + 2 * s) 0 = 0) := fun s e => by
        rw [e]
        by_cases z : a.1 (50 + 2 * s) 0 = 0
        · rw [if_pos z]; exact ⟨fun _ => z, fun _ => rfl⟩
        · rw [if_neg z]; exact ⟨fun q => absurd q (by decide), fun q => absurd q z⟩
      have fs := flag s hso.1
      have fo := flag o hoo.1
      have b11 : (a.1 (50 + 2 * s) 0 = 0 ∨ a.1 (50 + 2 * o) 0 = 0) → post (some (.int (-11))) σ := fun q => bad _ (by rw [er, if_pos q])
      refine ⟨s, rfl, hs, fun c => b11 (Or.inl (fs.mp c)), fun c => ⟨o, rfl, ho, fun c2 => ?_, fun c2 => b11 (Or.inr (fo.mp c2))⟩⟩
      have ns : ¬ a.1 (50 + 2 * s) 0 = 0 := fun q => c (fs.mpr q)
      have no : ¬ a.1 (50 + 2 * o) 0 = 0 := fun q => c2 (fo.mpr q)
      obtain ⟨rs1, rs2, rs3⟩ := hso.2 ns
      obtain ⟨ro1, ro2, ro3⟩ := hoo.2 no
      rw [if_neg (fun q => q.elim ns no)] at er
      have eso : σ.1 80 s = σ.1 80 o ↔ a.1 (50 + 2 * s) 0 = a.1 (50 + 2 * o) 0 := by
        rw [rs1, ro1, show a.1 (50 + 2 * s) 0 = (a.1 (50 + 2 * s) 0 - 1) + 1 by omega, show a.1 (50 + 2 * o) 0 = (a.1 (50 + 2 * o) 0 - 1) + 1 by omega, nI_pred, nI_pred, nI_eq (by omega) (by omega)]
        omega
      refine ⟨s, rfl, hs, o, rfl, ho, fun c3 => ?_, fun c3 => bad _ (by rw [er, if_pos (fun q => c3 (eso.mpr q))])⟩
      have hsame := eso.mp c3
      rw [if_neg (fun q => q hsame)] at er
      have b12 : (vhas (a.1 (50 + 2 * s) 1) i0 n0 = none ∨ vhas (a.1 (50 + 2 * o) 1) j0 n0 = none) → post (some (.int (-12))) σ := fun q => bad _ (by
        rw [er]
        rcases q with q | q
        · rw [q]
        · rw [q]; cases vhas (a.1 (50 + 2 * s) 1) i0 n0 <;> rfl)
      have neg : ∀ {x : Int32} {i : Nat}, x < 0 → x = nI i → i ≤ 40 → False := fun {x i} q e hi => nI_pos (show i < 2 ^ 31 by omega) (by rw [← e]; exact q)
      refine VM.at (VM.go [100] ⟨fun q => b12 (Or.inl (vhas_no zs2 (fun i n e1 e2 r => neg q e2 (by omega)))), fun q1 => ⟨fun q => b12 (Or.inl (vhas_no zs2 (fun i n e1 e2 r => neg q e1 (by omega)))), fun q2 => ⟨fun q => b12 (Or.inr (vhas_no zo2 (fun i n e1 e2 r => neg q e1 (by omega)))), fun q3 => ⟨s, rfl, hs, fun q => ?_, fun q4 => ⟨o, rfl, ho, fun q5 => ?_, fun q => ?_⟩⟩⟩⟩⟩)
      · obtain ⟨n, hn, rfl⟩ := nI_of q1
        obtain ⟨i, hi, rfl⟩ := nI_of q2
        have q' : σ.1 81 s - nI n < nI i := q
        rw [rs2] at q'
        refine b12 (Or.inl (vhas_no zs2 (fun i' n' e1 e2 r => ?_)))
        rw [nI_eq (by omega) (by omega)] at e1 e2
        exact absurd ((vcp_le hi hn zs2).mpr (by omega)) (Int32.not_le.mpr q')
      · obtain ⟨n, hn, rfl⟩ := nI_of q1
        obtain ⟨i, hi, rfl⟩ := nI_of q2
        obtain ⟨j, hj, rfl⟩ := nI_of q3
        have q4' : ¬ σ.1 81 s - nI n < nI i := q4
        rw [rs2, Int32.not_lt, vcp_le hi hn zs2] at q4'
        have q5' : nI j ≤ σ.1 81 o - nI n := q5
        rw [ro2, vcp_le hj hn zo2] at q5'
        rw [vhas_nI zs2 q4', vhas_nI zo2 q5'] at er
        dsimp only at er
        have ixS : ∀ q, (40 : Int32) * nI s + nI i + nI q = nI (40 * s + i + q) := fun q => by rw [show (40 : Int32) = nI 40 from rfl, pk_mul, nI_add, nI_add]
        have ixO : ∀ q, (40 : Int32) * nI o + nI j + nI q = nI (40 * o + j + q) := fun q => by rw [show (40 : Int32) = nI 40 from rfl, pk_mul, nI_add, nI_add]
        -- the end of the loop
        have fin : ∀ s2, vagI (vSf o) σ s2 → (∀ c, 79 ≤ c → c ≤ 81 → s2.1 c o = σ.1 c o) → (∀ k, k < 40 → s2.1 82 (40 * o + k) = if j ≤ k ∧ k < j + n then a.2.1 s (i + (k - j)) else σ.1 82 (40 * o + k)) → post (some (.int (nI n))) s2 := fun s2 hs2 g1 g2 => by
          have := h s2 (hs2.up vRf_Sf) (by
            rw [er]
            refine hR.one hW ho (fun _ _ _ => rfl) (fun s' k e => if_neg (fun q => e q.1)) rfl hs2 ?_
            exact vcpA_vSh zo2 hoo g1 g2)
          rw [er] at this
          exact this
        -- upwards in place k comes from i + k
        have up : ¬ (s = o ∧ i < j) → ∀ k, k ≤ n → ∀ s2 (y8 : Option Value), vagI (vSf o) σ s2 → (∀ c, 79 ≤ c → c ≤ 81 → s2.1 c o = σ.1 c o) → (∀ q, q < 40 → s2.1 82 (40 * o + q) = if j ≤ q ∧ q < j + k then a.2.1 s (i + (q - j)) else σ.1 82 (40 * o + q)) → VM (true, Gx) (d + 2) iX7_copy 121 [some (.ref 58), some (.int (nI s)), some (.int (nI i)), some (.int (nI o)), some (.int (nI j)), some (.int (nI n)), some (.int 0), some (.int (nI k)), y8] [] s2 post := by
          intro hup
          refine vloop _ ?_ ?_
          · intro s2 y8 hs2 g1 g2
            exact VM.go [] ⟨fun _ => fin s2 hs2 g1 g2, fun q => absurd (nI_le (Nat.le_refl _) (by omega)) q⟩
          · intro k hk ih s2 y8 hs2 g1 g2
            have ev : s2.1 82 (40 * s + i + k) = a.2.1 s (i + k) := by
              rw [show 40 * s + i + k = 40 * s + (i + k) by omega]
              by_cases e : s = o
              · rw [e, g2 (i + k) (by omega), if_neg (fun q => hup ⟨e, by omega⟩), ← e]
                exact rs3 (i + k) (by omega)
              · exact (hs2.get (vSf_n (by omega))).trans (rs3 (i + k) (by omega))
            have := ih (vput s2 82 (40 * o + j + k) (a.2.1 s (i + k))) (some (.int (nI k))) (hs2.put (vSf_p (by omega))) (fun c h1 h2 => (vput_ne (Or.inl (by omega))).trans (g1 c h1 h2)) (fun q hq => by
              rw [vput_get]
              by_cases e : q = j + k
              · rw [if_pos ⟨rfl, by omega⟩, if_pos (by omega), show i + (q - j) = i + k by omega]
              · rw [if_neg (by omega), g2 q hq]
                by_cases e2 : j ≤ q ∧ q < j + k
                · rw [if_pos e2, if_pos (by omega)]
                · rw [if_neg e2, if_neg (by omega)])
            rw [← ev, ← nI_1] at this
            exact VM.go [121] ⟨fun q => absurd q (nI_ge hk (by omega)), fun _ => ⟨fun _ => ⟨40 * s + i + k, ixS k, by omega, nofun, 40 * o + j + k, ixO k, by omega, this⟩, fun q => absurd rfl q⟩⟩
        -- downwards
        have down : s = o → i < j → ∀ k, k ≤ n → ∀ s2 (y8 : Option Value), vagI (vSf o) σ s2 → (∀ c, 79 ≤ c → c ≤ 81 → s2.1 c o = σ.1 c o) → (∀ q, q < 40 → s2.1 82 (40 * o + q) = if j + (n - k) ≤ q ∧ q < j + n then a.2.1 s (i + (q - j)) else σ.1 82 (40 * o + q)) → VM (true, Gx) (d + 2) iX7_copy 121 [some (.ref 58), some (.int (nI s)), some (.int (nI i)), some (.int (nI o)), some (.int (nI j)), some (.int (nI n)), some (.int 1), some (.int (nI k)), y8] [] s2 post := by
          intro e hij
          refine vloop _ ?_ ?_
          · intro s2 y8 hs2 g1 g2
            exact VM.go [] ⟨fun _ => fin s2 hs2 g1 (fun k hk => by rw [g2 k hk, Nat.sub_self, Nat.add_zero]), fun q => absurd (nI_le (Nat.le_refl _) (by omega)) q⟩
          · intro k hk ih s2 y8 hs2 g1 g2
            obtain ⟨x, hx⟩ : ∃ x, x = n - 1 - k := ⟨_, rfl⟩
            have ex : nI n - 1 - nI k = nI x := by
              rw [show (1 : Int32) = nI 1 from rfl, pk_sub (by omega), pk_sub (by omega), hx]
            have ev : s2.1 82 (40 * s + i + x) = a.2.1 s (i + x) := by
              rw [show 40 * s + i + x = 40 * s + (i + x) by omega, e, g2 (i + x) (by omega), if_neg (by omega), ← e]
              exact rs3 (i + x) (by omega)
            have := ih (vput s2 82 (40 * o + j + x) (a.2.1 s (i + x))) (some (.int (nI x))) (hs2.put (vSf_p (by omega))) (fun c h1 h2 => (vput_ne (Or.inl (by omega))).trans (g1 c h1 h2)) (fun q hq => by
              rw [vput_get]
              by_cases e3 : q = j + x
              · rw [if_pos ⟨rfl, by omega⟩, if_pos (by omega), show i + (q - j) = i + x by omega]
              · rw [if_neg (by omega), g2 q hq]
                by_cases e2 : j + (n - k) ≤ q ∧ q < j + n
                · rw [if_pos e2, if_pos (by omega)]
                · rw [if_neg e2, if_neg (by omega)])
            rw [← ev, ← nI_1] at this
            refine VM.go [145] ⟨fun q => absurd q (nI_ge hk (by omega)), fun _ => ⟨fun q => absurd q (by decide), fun _ => ?_⟩⟩
            show VM (true, Gx) (d + 2) iX7_copy 145 _ _ _ _
            rw [ex]
            exact VM.go [121] ⟨40 * s + i + x, ixS x, by omega, nofun, 40 * o + j + x, ixO x, by omega, this⟩
        have g0 : ∀ q, q < 40 → σ.1 82 (40 * o + q) = if j ≤ q ∧ q < j + 0 then a.2.1 s (i + (q - j)) else σ.1 82 (40 * o + q) := fun q _ => by rw [if_neg (by omega)]
        have g0' : ∀ q, q < 40 → σ.1 82 (40 * o + q) = if j + (n - 0) ≤ q ∧ q < j + n then a.2.1 s (i + (q - j)) else σ.1 82 (40 * o + q) := fun q _ => by rw [if_neg (by omega)]
        refine VM.at (VM.go [121] ⟨fun c4 => ?_, fun c4 => ⟨fun c5 => ?_, fun c5 => ?_⟩⟩)
        · have c4' : ¬ nI s = nI o := c4
          exact up (fun q => c4' (by rw [q.1])) 0 (Nat.zero_le _) σ none vagI.rf (fun _ _ _ => rfl) g0
        · have c5' : nI j ≤ nI i := c5
          rw [nIle (by omega) (by omega)] at c5'
          exact up (fun q => by omega) 0 (Nat.zero_le _) σ none vagI.rf (fun _ _ _ => rfl) g0
        · have c4' : nI s = nI o := c4
          have c5' : ¬ nI j ≤ nI i := c5
          rw [nIle (by omega) (by omega)] at c5'
          have e := (nI_eq (by omega) (by omega)).mp c4'
          exact down e (by omega) 0 (Nat.zero_le _) σ none vagI.rf (fun _ _ _ => rfl) g0'
      · obtain ⟨n, hn, rfl⟩ := nI_of q1
        obtain ⟨j, hj, rfl⟩ := nI_of q3
        have q' : ¬ nI j ≤ σ.1 81 o - nI n := q
        rw [ro2, vcp_le hj hn zo2] at q'
        refine b12 (Or.inr (vhas_no zo2 (fun j' n' e1 e2 r => ?_)))
        rw [nI_eq (by omega) (by omega)] at e1 e2
        omega
    · refine ⟨fun c => absurd rfl c, fun _ => bad (-2) ?_⟩
      unfold sCopy
      rw [eo]
      cases vix s0 4 <;> rfl
  · refine ⟨fun _ => bad (-2) ?_, fun c => absurd rfl c⟩
    unfold sCopy
    rw [es]
end RCP
