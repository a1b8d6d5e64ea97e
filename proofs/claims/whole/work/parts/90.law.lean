/-! ===== THE LAW'S LOOP: a call of both ===== -/
theorem vRC.off {a : vα} {σ σ' : vM} (h : vRC a σ) (hW : vWF a) (ho : ∀ c k, c < 58 → σ'.1 c k = σ.1 c k) : vRC a σ' := by
  obtain ⟨h1, h2, h3, h4⟩ := h
  have hT := hW.2.1.2
  refine ⟨fun c k hk => ?_, fun s hs => (ho _ _ (by omega)).trans (h2 s hs), fun s k hs hk => (ho _ _ (by omega)).trans (h3 s k hs hk), fun t ht => ⟨(h4 t ht).1.ag (fun k => ho _ _ (by omega)) (fun k => ho _ _ (by omega)), (ho _ _ (by omega)).trans (h4 t ht).2⟩⟩
  have hc : c < 58 := by
    simp only [vps, Bool.or_eq_true, Bool.and_eq_true, Nat.ble_eq, vbq] at hk
    omega
  exact (ho c k hc).trans (h1 c k hk)
theorem vRM.off {a : vα} {σ σ' : vM} (h : vRM a σ) (ho : ∀ c k, 58 ≤ c → σ'.1 c k = σ.1 c k) : vRM a σ' := by
  obtain ⟨⟨p1, p2, p3, p4, p5⟩, h2, h3, h4, ⟨k1, k2, k3, k4⟩, h6⟩ := h
  have g : ∀ {c k : Nat}, 58 ≤ c → σ'.1 c k = σ.1 c k := fun hc => ho _ _ hc
  refine ⟨⟨(g (by decide)).trans p1, (g (by decide)).trans p2, (g (by decide)).trans p3, (g (by decide)).trans p4, (g (by decide)).trans p5⟩, fun k hk => (g (by decide)).trans (h2 k hk), fun k => ?_, fun t ht => ⟨(g (by decide)).trans (h4 t ht).1, fun k hk => (g (by decide)).trans ((h4 t ht).2 k hk)⟩, ⟨(g (by decide)).trans k1, (g (by decide)).trans k2, (g (by decide)).trans k3, fun k => ?_⟩, fun s hs4 => ?_⟩
  · obtain ⟨q1, q2, q3, q4, q5, q6, q7, q8⟩ := h3 k
    exact ⟨(g (by decide)).trans q1, (g (by decide)).trans q2, (g (by decide)).trans q3, (g (by decide)).trans q4, (g (by decide)).trans q5, (g (by decide)).trans q6, (g (by decide)).trans q7, fun z => (g (by decide)).trans (q8 z)⟩
  · obtain ⟨q1, q2, q3, q4, q5, q6, q7⟩ := k4 k
    exact ⟨(g (by decide)).trans q1, (g (by decide)).trans q2, (g (by decide)).trans q3, (g (by decide)).trans q4, (g (by decide)).trans q5, (g (by decide)).trans q6, (g (by decide)).trans q7⟩
  · obtain ⟨q1, q2⟩ := h6 s hs4
    refine ⟨(g (by decide)).trans q1, fun z => ?_⟩
    obtain ⟨r1, r2, r3⟩ := q2 z
    exact ⟨(g (by decide)).trans r1, (g (by decide)).trans r2, fun k hk => (g (by decide)).trans (r3 k hk)⟩
theorem vKl_58 {σ σ' : vM} (h : vag vKl σ σ') : ∀ c k, 58 ≤ c → σ'.1 c k = σ.1 c k := fun c k hc => h.get (by
  cases hb : vKl c k with
  | false => rfl
  | true => exfalso; simp only [vKl, Nat.ble_eq] at hb; omega)
theorem vCs_58 {σ σ' : vM} (h : vag vCs σ σ') : ∀ c k, 58 ≤ c → σ'.1 c k = σ.1 c k := vKl_58 (h.up vKl_Cs)
theorem vBi_58 {σ σ' : vM} (h : vag vBi σ σ') : ∀ c k, 58 ≤ c → σ'.1 c k = σ.1 c k := vCs_58 (h.up vBi_Cs)
theorem vRf_57 {σ σ' : vM} (h : vagI vRf σ σ') : ∀ c k, c < 58 → σ'.1 c k = σ.1 c k := fun c k hc => h.get (by
  cases hb : vRf c k with
  | false => rfl
  | true => exfalso; simp only [vRf, Bool.and_eq_true, Nat.ble_eq] at hb; omega)
section LW
variable {L q D : Nat} {xs : Nat → Int32} {σ : vM} {post : vQ} {a : vα}
set_option maxRecDepth 100000 in
theorem vlaw_0 (hL : L ≤ 3072) (hq : 6 * q + 6 ≤ L) (hC : vRC a σ) (hR : vRM a σ) (h : vInv q a) (nxt : ∀ (s2 : vM) (b : vα), vRC b s2 → vRM b s2 → vInv (q + 1) b → VM (true, L, xs) (D + 61) 205 1088 [some (.ref 1007), some (.ref 0), some (.ref 58), some (.int (nI (6 * q)))] [] s2 post) : VM (true, L, xs) (D + 61) 205 156 [some (.ref 1007), some (.ref 0), some (.ref 58), some (.int (nI (6 * q)))] [] σ post := by
  have ix1 : nI (6 * q) + (1 : Int32) = nI (6 * q + 1) := nI_add _ 1
  have lt1 : 6 * q + 1 < L := by omega
  have ix2 : nI (6 * q) + (2 : Int32) = nI (6 * q + 2) := nI_add _ 2
  have lt2 : 6 * q + 2 < L := by omega
  have ix3 : nI (6 * q) + (3 : Int32) = nI (6 * q + 3) := nI_add _ 3
  have lt3 : 6 * q + 3 < L := by omega
  refine VM.go [1088] ⟨6 * q + 1, ix1, lt1, 6 * q + 2, ix2, lt2, 6 * q + 3, ix3, lt3, _, VM.at (vc_set (d := D + 59) hC h.1 (fun s1 hs1 hC1 => ?_)), fun _ _ hh => hh⟩
  have hR1 := hR.off (vKl_58 hs1)
  refine ⟨6 * q + 1, ix1, lt1, 6 * q + 2, ix2, lt2, 6 * q + 3, ix3, lt3, _, VM.at (vr_set (D := D + 12) hR1 h.1 h.2.1 (fun s2 hs2 hR2 => ?_)), fun _ _ hh => hh⟩
  exact ⟨fun _ => VM.at (nxt s2 _ (hC1.off (h.set _ _ _).1 (vRf_57 hs2)) hR2 (h.set _ _ _)), fun z => absurd rfl z⟩
set_option maxRecDepth 100000 in
theorem vlaw_1 (hL : L ≤ 3072) (hq : 6 * q + 6 ≤ L) (hC : vRC a σ) (hR : vRM a σ) (h : vInv q a) (nxt : ∀ (s2 : vM) (b : vα), vRC b s2 → vRM b s2 → vInv (q + 1) b → VM (true, L, xs) (D + 61) 205 1088 [some (.ref 1007), some (.ref 0), some (.ref 58), some (.int (nI (6 * q)))] [] s2 post) : VM (true, L, xs) (D + 61) 205 199 [some (.ref 1007), some (.ref 0), some (.ref 58), some (.int (nI (6 * q)))] [] σ post := by
  have ix1 : nI (6 * q) + (1 : Int32) = nI (6 * q + 1) := nI_add _ 1
  have lt1 : 6 * q + 1 < L := by omega
  have ix2 : nI (6 * q) + (2 : Int32) = nI (6 * q + 2) := nI_add _ 2
  have lt2 : 6 * q + 2 < L := by omega
  have ix3 : nI (6 * q) + (3 : Int32) = nI (6 * q + 3) := nI_add _ 3
  have lt3 : 6 * q + 3 < L := by omega
  refine VM.go [1088] ⟨6 * q + 1, ix1, lt1, 6 * q + 2, ix2, lt2, 6 * q + 3, ix3, lt3, _, VM.at (vc_light (d := D + 59) hC h.1 (fun s1 hs1 hC1 => ?_)), fun _ _ hh => hh⟩
  have hR1 := hR.off (vKl_58 hs1)
  refine ⟨6 * q + 1, ix1, lt1, 6 * q + 2, ix2, lt2, 6 * q + 3, ix3, lt3, _, VM.at (vr_light (d := D + 59) hR1 h.1 (fun s2 hs2 hR2 => ?_)), fun _ _ hh => hh⟩
  exact ⟨fun _ => VM.at (nxt s2 _ (hC1.off (h.light _ _ _).1 (vRf_57 hs2)) hR2 (h.light _ _ _)), fun z => absurd rfl z⟩
set_option maxRecDepth 100000 in
theorem vlaw_2 (hL : L ≤ 3072) (hq : 6 * q + 6 ≤ L) (hC : vRC a σ) (hR : vRM a σ) (h : vInv q a) (nxt : ∀ (s2 : vM) (b : vα), vRC b s2 → vRM b s2 → vInv (q + 1) b → VM (true, L, xs) (D + 61) 205 1088 [some (.ref 1007), some (.ref 0), some (.ref 58), some (.int (nI (6 * q)))] [] s2 post) : VM (true, L, xs) (D + 61) 205 242 [some (.ref 1007), some (.ref 0), some (.ref 58), some (.int (nI (6 * q)))] [] σ post := by
  have ix1 : nI (6 * q) + (1 : Int32) = nI (6 * q + 1) := nI_add _ 1
  have lt1 : 6 * q + 1 < L := by omega
  have ix2 : nI (6 * q) + (2 : Int32) = nI (6 * q + 2) := nI_add _ 2
  have lt2 : 6 * q + 2 < L := by omega
  have ix3 : nI (6 * q) + (3 : Int32) = nI (6 * q + 3) := nI_add _ 3
  have lt3 : 6 * q + 3 < L := by omega
  refine VM.go [1088] ⟨6 * q + 1, ix1, lt1, 6 * q + 2, ix2, lt2, 6 * q + 3, ix3, lt3, _, VM.at (vc_look (d := D + 59) hC h.1 (fun s1 hs1 _ hC1 => ?_)), fun _ _ hh => hh⟩
  have hR1 := hR.off (fun c k hc => hs1 c k (by omega))
  refine ⟨6 * q + 1, ix1, lt1, 6 * q + 2, ix2, lt2, 6 * q + 3, ix3, lt3, _, VM.at (vr_look (d := D + 58) hR1 h.1 (fun s2 hs2 hR2 => ?_)), fun _ _ hh => hh⟩
  exact ⟨fun _ => VM.at (nxt s2 _ (hC1.off (h.look _ _ _).1 (vRf_57 hs2)) hR2 (h.look _ _ _)), fun z => absurd rfl z⟩
set_option maxRecDepth 100000 in
theorem vlaw_3 (hL : L ≤ 3072) (hq : 6 * q + 6 ≤ L) (hC : vRC a σ) (hR : vRM a σ) (h : vInv q a) (nxt : ∀ (s2 : vM) (b : vα), vRC b s2 → vRM b s2 → vInv (q + 1) b → VM (true, L, xs) (D + 61) 205 1088 [some (.ref 1007), some (.ref 0), some (.ref 58), some (.int (nI (6 * q)))] [] s2 post) : VM (true, L, xs) (D + 61) 205 285 [some (.ref 1007), some (.ref 0), some (.ref 58), some (.int (nI (6 * q)))] [] σ post := by
  have ix1 : nI (6 * q) + (1 : Int32) = nI (6 * q + 1) := nI_add _ 1
  have lt1 : 6 * q + 1 < L := by omega
  have ix2 : nI (6 * q) + (2 : Int32) = nI (6 * q + 2) := nI_add _ 2
  have lt2 : 6 * q + 2 < L := by omega
  refine VM.go [1088] ⟨6 * q + 1, ix1, lt1, 6 * q + 2, ix2, lt2, _, VM.at (vc_told (d := D + 54) hC h.1 (fun s1 hs1 => ?_)), fun _ _ hh => hh⟩
  have hR1 := hR.off (vBi_58 hs1)
  have hC1 : vRC a s1 := hC.ag (hs1.up vBi_Cs) h.1.2.1.2
  refine ⟨6 * q + 1, ix1, lt1, 6 * q + 2, ix2, lt2, _, VM.at (vr_told (D := D + 13) hR1 h.1 h.2.1 (fun s2 hs2 => ?_)), fun _ _ hh => hh⟩
  exact ⟨fun _ => VM.at (nxt s2 _ (hC1.off h.1 (vRf_57 ((hs2.up vMo_s).up vRf_o))) (hR1.ag (hs2.up vMo_s)) h.up), fun z => absurd rfl z⟩
set_option maxRecDepth 100000 in
theorem vlaw_4 (hL : L ≤ 3072) (hq : 6 * q + 6 ≤ L) (hC : vRC a σ) (hR : vRM a σ) (h : vInv q a) (nxt : ∀ (s2 : vM) (b : vα), vRC b s2 → vRM b s2 → vInv (q + 1) b → VM (true, L, xs) (D + 61) 205 1088 [some (.ref 1007), some (.ref 0), some (.ref 58), some (.int (nI (6 * q)))] [] s2 post) : VM (true, L, xs) (D + 61) 205 318 [some (.ref 1007), some (.ref 0), some (.ref 58), some (.int (nI (6 * q)))] [] σ post := by
  have ix1 : nI (6 * q) + (1 : Int32) = nI (6 * q + 1) := nI_add _ 1
  have lt1 : 6 * q + 1 < L := by omega
  refine VM.go [1088] ⟨6 * q + 1, ix1, lt1, _, VM.at (vc_feed (d := D + 59) hC h.1 (fun s1 hs1 hC1 => ?_)), fun _ _ hh => hh⟩
  have hR1 := hR.off (vKl_58 hs1)
  refine ⟨6 * q + 1, ix1, lt1, _, VM.at (vr_feed (d := D + 59) hR1 h.1 (fun s2 hs2 hR2 => ?_)), fun _ _ hh => hh⟩
  exact ⟨fun _ => VM.at (nxt s2 _ (hC1.off (h.feed _).1 (vRf_57 hs2)) hR2 (h.feed _)), fun z => absurd rfl z⟩
set_option maxRecDepth 100000 in
theorem vlaw_5 (hL : L ≤ 3072) (hq : 6 * q + 6 ≤ L) (hC : vRC a σ) (hR : vRM a σ) (h : vInv q a) (nxt : ∀ (s2 : vM) (b : vα), vRC b s2 → vRM b s2 → vInv (q + 1) b → VM (true, L, xs) (D + 61) 205 1088 [some (.ref 1007), some (.ref 0), some (.ref 58), some (.int (nI (6 * q)))] [] s2 post) : VM (true, L, xs) (D + 61) 205 341 [some (.ref 1007), some (.ref 0), some (.ref 58), some (.int (nI (6 * q)))] [] σ post := by
  refine VM.go [1088] ⟨_, VM.at (vc_text (D := D + 15) hC h.1 (fun s1 hs1 hC1 => ?_)), fun _ _ hh => hh⟩
  have hR1 := hR.off (vKl_58 hs1)
  refine ⟨_, VM.at (vr_text (D := D + 18) hR1 h.1 (fun s2 hs2 hR2 => ?_)), fun _ _ hh => hh⟩
  exact ⟨fun _ => VM.at (nxt s2 _ (hC1.off (h.text).1 (vRf_57 hs2)) hR2 (h.text)), fun z => absurd rfl z⟩
set_option maxRecDepth 100000 in
theorem vlaw_6 (hL : L ≤ 3072) (hq : 6 * q + 6 ≤ L) (hC : vRC a σ) (hR : vRM a σ) (h : vInv q a) (nxt : ∀ (s2 : vM) (b : vα), vRC b s2 → vRM b s2 → vInv (q + 1) b → VM (true, L, xs) (D + 61) 205 1088 [some (.ref 1007), some (.ref 0), some (.ref 58), some (.int (nI (6 * q)))] [] s2 post) : VM (true, L, xs) (D + 61) 205 354 [some (.ref 1007), some (.ref 0), some (.ref 58), some (.int (nI (6 * q)))] [] σ post := by
  have ix1 : nI (6 * q) + (1 : Int32) = nI (6 * q + 1) := nI_add _ 1
  have lt1 : 6 * q + 1 < L := by omega
  refine VM.go [1088] ⟨6 * q + 1, ix1, lt1, _, VM.at (vc_force (d := D + 59) hC h.1 (fun s1 hs1 _ hC1 => ?_)), fun _ _ hh => hh⟩
  have hR1 := hR.off (fun c k hc => hs1 c k (by omega))
  refine ⟨6 * q + 1, ix1, lt1, _, VM.at (vr_force (d := D + 59) hR1 h.1 (fun s2 hs2 hR2 => ?_)), fun _ _ hh => hh⟩
  exact ⟨fun _ => VM.at (nxt s2 _ (hC1.off (h.force _).1 (vRf_57 hs2)) hR2 (h.force _)), fun z => absurd rfl z⟩
set_option maxRecDepth 100000 in
theorem vlaw_7 (hL : L ≤ 3072) (hq : 6 * q + 6 ≤ L) (hC : vRC a σ) (hR : vRM a σ) (h : vInv q a) (nxt : ∀ (s2 : vM) (b : vα), vRC b s2 → vRM b s2 → vInv (q + 1) b → VM (true, L, xs) (D + 61) 205 1088 [some (.ref 1007), some (.ref 0), some (.ref 58), some (.int (nI (6 * q)))] [] s2 post) : VM (true, L, xs) (D + 61) 205 377 [some (.ref 1007), some (.ref 0), some (.ref 58), some (.int (nI (6 * q)))] [] σ post := by
  have ix1 : nI (6 * q) + (1 : Int32) = nI (6 * q + 1) := nI_add _ 1
  have lt1 : 6 * q + 1 < L := by omega
  have ix2 : nI (6 * q) + (2 : Int32) = nI (6 * q + 2) := nI_add _ 2
  have lt2 : 6 * q + 2 < L := by omega
  have ix3 : nI (6 * q) + (3 : Int32) = nI (6 * q + 3) := nI_add _ 3
  have lt3 : 6 * q + 3 < L := by omega
  refine VM.go [1088] ⟨6 * q + 1, ix1, lt1, 6 * q + 2, ix2, lt2, 6 * q + 3, ix3, lt3, _, VM.at (vc_owes (d := D + 57) hC h.1 (fun s1 hs1 => ?_)), fun _ _ hh => hh⟩
  have hR1 := hR.off (vBi_58 hs1)
  have hC1 : vRC a s1 := hC.ag (hs1.up vBi_Cs) h.1.2.1.2
  refine ⟨6 * q + 1, ix1, lt1, 6 * q + 2, ix2, lt2, 6 * q + 3, ix3, lt3, _, VM.at (vr_owes (D := D + 15) hR1 h.1 h.2.1 (fun s2 hs2 => ?_)), fun _ _ hh => hh⟩
  exact ⟨fun _ => VM.at (nxt s2 _ (hC1.off h.1 (vRf_57 ((hs2.up vMo_s).up vRf_o))) (hR1.ag (hs2.up vMo_s)) h.up), fun z => absurd rfl z⟩
set_option maxRecDepth 100000 in
theorem vlaw_8 (hL : L ≤ 3072) (hq : 6 * q + 6 ≤ L) (hC : vRC a σ) (hR : vRM a σ) (h : vInv q a) (nxt : ∀ (s2 : vM) (b : vα), vRC b s2 → vRM b s2 → vInv (q + 1) b → VM (true, L, xs) (D + 61) 205 1088 [some (.ref 1007), some (.ref 0), some (.ref 58), some (.int (nI (6 * q)))] [] s2 post) : VM (true, L, xs) (D + 61) 205 420 [some (.ref 1007), some (.ref 0), some (.ref 58), some (.int (nI (6 * q)))] [] σ post := by
  have ix1 : nI (6 * q) + (1 : Int32) = nI (6 * q + 1) := nI_add _ 1
  have lt1 : 6 * q + 1 < L := by omega
  refine VM.go [1088] ⟨6 * q + 1, ix1, lt1, _, VM.at (vc_all (d := D + 54) hC h.1 (fun s1 hs1 => ?_)), fun _ _ hh => hh⟩
  have hR1 := hR.off (vBi_58 hs1)
  have hC1 : vRC a s1 := hC.ag (hs1.up vBi_Cs) h.1.2.1.2
  refine ⟨6 * q + 1, ix1, lt1, _, VM.at (vr_all (D := D + 12) hR1 h.1 h.2.1 (fun s2 hs2 => ?_)), fun _ _ hh => hh⟩
  exact ⟨fun _ => VM.at (nxt s2 _ (hC1.off h.1 (vRf_57 ((hs2.up vMo_s).up vRf_o))) (hR1.ag (hs2.up vMo_s)) h.up), fun z => absurd rfl z⟩
set_option maxRecDepth 100000 in
theorem vlaw_9 (hL : L ≤ 3072) (hq : 6 * q + 6 ≤ L) (hC : vRC a σ) (hR : vRM a σ) (h : vInv q a) (nxt : ∀ (s2 : vM) (b : vα), vRC b s2 → vRM b s2 → vInv (q + 1) b → VM (true, L, xs) (D + 61) 205 1088 [some (.ref 1007), some (.ref 0), some (.ref 58), some (.int (nI (6 * q)))] [] s2 post) : VM (true, L, xs) (D + 61) 205 443 [some (.ref 1007), some (.ref 0), some (.ref 58), some (.int (nI (6 * q)))] [] σ post := by
  have ix1 : nI (6 * q) + (1 : Int32) = nI (6 * q + 1) := nI_add _ 1
  have lt1 : 6 * q + 1 < L := by omega
  have ix2 : nI (6 * q) + (2 : Int32) = nI (6 * q + 2) := nI_add _ 2
  have lt2 : 6 * q + 2 < L := by omega
  refine VM.go [1088] ⟨6 * q + 1, ix1, lt1, 6 * q + 2, ix2, lt2, _, VM.at (vc_pieces (d := D + 57) hC h.1 (fun s1 hs1 => ?_)), fun _ _ hh => hh⟩
  have hR1 := hR.off (vCs_58 hs1)
  have hC1 : vRC a s1 := hC.ag hs1 h.1.2.1.2
  refine ⟨6 * q + 1, ix1, lt1, 6 * q + 2, ix2, lt2, _, VM.at (vr_pieces (d := D + 59) hR1 h.1 (fun s2 hs2 => ?_)), fun _ _ hh => hh⟩
  exact ⟨fun _ => VM.at (nxt s2 _ (hC1.off h.1 (vRf_57 (hs2.up vRf_o))) (hR1.ag hs2) h.up), fun z => absurd rfl z⟩
set_option maxRecDepth 100000 in
theorem vlaw_10 (hL : L ≤ 3072) (hq : 6 * q + 6 ≤ L) (hC : vRC a σ) (hR : vRM a σ) (h : vInv q a) (nxt : ∀ (s2 : vM) (b : vα), vRC b s2 → vRM b s2 → vInv (q + 1) b → VM (true, L, xs) (D + 61) 205 1088 [some (.ref 1007), some (.ref 0), some (.ref 58), some (.int (nI (6 * q)))] [] s2 post) : VM (true, L, xs) (D + 61) 205 476 [some (.ref 1007), some (.ref 0), some (.ref 58), some (.int (nI (6 * q)))] [] σ post := by
  have ix1 : nI (6 * q) + (1 : Int32) = nI (6 * q + 1) := nI_add _ 1
  have lt1 : 6 * q + 1 < L := by omega
  refine VM.go [1088] ⟨6 * q + 1, ix1, lt1, _, VM.at (vc_pay (d := D + 55) hC h.1 (fun s1 hs1 hC1 => ?_)), fun _ _ hh => hh⟩
  have hR1 := hR.off (vKl_58 hs1)
  refine ⟨6 * q + 1, ix1, lt1, _, VM.at (vr_pay (D := D + 13) hR1 h.1 h.2.1 (fun s2 hs2 hR2 => ?_)), fun _ _ hh => hh⟩
  exact ⟨fun _ => VM.at (nxt s2 _ (hC1.off (h.pay (by omega) _).1 (vRf_57 hs2)) hR2 (h.pay (by omega) _)), fun z => absurd rfl z⟩
set_option maxRecDepth 100000 in
theorem vlaw_11 (hL : L ≤ 3072) (hq : 6 * q + 6 ≤ L) (hC : vRC a σ) (hR : vRM a σ) (h : vInv q a) (nxt : ∀ (s2 : vM) (b : vα), vRC b s2 → vRM b s2 → vInv (q + 1) b → VM (true, L, xs) (D + 61) 205 1088 [some (.ref 1007), some (.ref 0), some (.ref 58), some (.int (nI (6 * q)))] [] s2 post) : VM (true, L, xs) (D + 61) 205 499 [some (.ref 1007), some (.ref 0), some (.ref 58), some (.int (nI (6 * q)))] [] σ post := by
  have ix1 : nI (6 * q) + (1 : Int32) = nI (6 * q + 1) := nI_add _ 1
  have lt1 : 6 * q + 1 < L := by omega
  have ix2 : nI (6 * q) + (2 : Int32) = nI (6 * q + 2) := nI_add _ 2
  have lt2 : 6 * q + 2 < L := by omega
  have ix3 : nI (6 * q) + (3 : Int32) = nI (6 * q + 3) := nI_add _ 3
  have lt3 : 6 * q + 3 < L := by omega
  refine VM.go [1088] ⟨6 * q + 1, ix1, lt1, 6 * q + 2, ix2, lt2, 6 * q + 3, ix3, lt3, _, VM.at (vc_cheapest (d := D + 56) hC h.1 (fun s1 hs1 => ?_)), fun _ _ hh => hh⟩
  have hR1 := hR.off (vBi_58 hs1)
  have hC1 : vRC a s1 := hC.ag (hs1.up vBi_Cs) h.1.2.1.2
  refine ⟨6 * q + 1, ix1, lt1, 6 * q + 2, ix2, lt2, 6 * q + 3, ix3, lt3, _, VM.at (vr_cheapest (D := D + 14) hR1 h.1 h.2.1 (fun s2 hs2 hR2 => ?_)), fun _ _ hh => hh⟩
  exact ⟨fun _ => VM.at (nxt s2 _ (hC1.off h.1 (vRf_57 hs2)) hR2 h.up), fun z => absurd rfl z⟩
set_option maxRecDepth 100000 in
theorem vlaw_12 (hL : L ≤ 3072) (hq : 6 * q + 6 ≤ L) (hC : vRC a σ) (hR : vRM a σ) (h : vInv q a) (nxt : ∀ (s2 : vM) (b : vα), vRC b s2 → vRM b s2 → vInv (q + 1) b → VM (true, L, xs) (D + 61) 205 1088 [some (.ref 1007), some (.ref 0), some (.ref 58), some (.int (nI (6 * q)))] [] s2 post) : VM (true, L, xs) (D + 61) 205 542 [some (.ref 1007), some (.ref 0), some (.ref 58), some (.int (nI (6 * q)))] [] σ post := by
  have ix1 : nI (6 * q) + (1 : Int32) = nI (6 * q + 1) := nI_add _ 1
  have lt1 : 6 * q + 1 < L := by omega
  have ix2 : nI (6 * q) + (2 : Int32) = nI (6 * q + 2) := nI_add _ 2
  have lt2 : 6 * q + 2 < L := by omega
  refine VM.go [1088] ⟨6 * q + 1, ix1, lt1, 6 * q + 2, ix2, lt2, _, VM.at (vc_leave (d := D + 56) hC h.1 (fun s1 hs1 => ?_)), fun _ _ hh => hh⟩
  have hR1 := hR.off (vBi_58 hs1)
  have hC1 : vRC a s1 := hC.ag (hs1.up vBi_Cs) h.1.2.1.2
  refine ⟨6 * q + 1, ix1, lt1, 6 * q + 2, ix2, lt2, _, VM.at (vr_leave (D := D + 14) hR1 h.1 h.2.1 (fun s2 hs2 hR2 => ?_)), fun _ _ hh => hh⟩
  exact ⟨fun _ => VM.at (nxt s2 _ (hC1.off h.1 (vRf_57 hs2)) hR2 h.up), fun z => absurd rfl z⟩
set_option maxRecDepth 100000 in
theorem vlaw_13 (hL : L ≤ 3072) (hq : 6 * q + 6 ≤ L) (hC : vRC a σ) (hR : vRM a σ) (h : vInv q a) (nxt : ∀ (s2 : vM) (b : vα), vRC b s2 → vRM b s2 → vInv (q + 1) b → VM (true, L, xs) (D + 61) 205 1088 [some (.ref 1007), some (.ref 0), some (.ref 58), some (.int (nI (6 * q)))] [] s2 post) : VM (true, L, xs) (D + 61) 205 575 [some (.ref 1007), some (.ref 0), some (.ref 58), some (.int (nI (6 * q)))] [] σ post := by
  have ix1 : nI (6 * q) + (1 : Int32) = nI (6 * q + 1) := nI_add _ 1
  have lt1 : 6 * q + 1 < L := by omega
  have ix2 : nI (6 * q) + (2 : Int32) = nI (6 * q + 2) := nI_add _ 2
  have lt2 : 6 * q + 2 < L := by omega
  refine VM.go [1088] ⟨6 * q + 1, ix1, lt1, 6 * q + 2, ix2, lt2, _, VM.at (vc_farm (d := D + 56) hC h.1 (fun s1 hs1 => ?_)), fun _ _ hh => hh⟩
  have hR1 := hR.off (vBi_58 hs1)
  have hC1 : vRC a s1 := hC.ag (hs1.up vBi_Cs) h.1.2.1.2
  refine ⟨6 * q + 1, ix1, lt1, 6 * q + 2, ix2, lt2, _, VM.at (vr_farm (D := D + 14) hR1 h.1 h.2.1 (fun s2 hs2 hR2 => ?_)), fun _ _ hh => hh⟩
  exact ⟨fun _ => VM.at (nxt s2 _ (hC1.off h.1 (vRf_57 hs2)) hR2 h.up), fun z => absurd rfl z⟩
set_option maxRecDepth 100000 in
theorem vlaw_14 (hL : L ≤ 3072) (hq : 6 * q + 6 ≤ L) (hC : vRC a σ) (hR : vRM a σ) (h : vInv q a) (nxt : ∀ (s2 : vM) (b : vα), vRC b s2 → vRM b s2 → vInv (q + 1) b → VM (true, L, xs) (D + 61) 205 1088 [some (.ref 1007), some (.ref 0), some (.ref 58), some (.int (nI (6 * q)))] [] s2 post) : VM (true, L, xs) (D + 61) 205 608 [some (.ref 1007), some (.ref 0), some (.ref 58), some (.int (nI (6 * q)))] [] σ post := by
  have ix1 : nI (6 * q) + (1 : Int32) = nI (6 * q + 1) := nI_add _ 1
  have lt1 : 6 * q + 1 < L := by omega
  have ix2 : nI (6 * q) + (2 : Int32) = nI (6 * q + 2) := nI_add _ 2
  have lt2 : 6 * q + 2 < L := by omega
  have ix3 : nI (6 * q) + (3 : Int32) = nI (6 * q + 3) := nI_add _ 3
  have lt3 : 6 * q + 3 < L := by omega
  refine VM.go [1088] ⟨6 * q + 1, ix1, lt1, 6 * q + 2, ix2, lt2, 6 * q + 3, ix3, lt3, _, VM.at (vc_walk (d := D + 54) hC h.1 (fun s1 hs1 => ?_)), fun _ _ hh => hh⟩
  have hR1 := hR.off (vBi_58 hs1)
  have hC1 : vRC a s1 := hC.ag (hs1.up vBi_Cs) h.1.2.1.2
  refine ⟨6 * q + 1, ix1, lt1, 6 * q + 2, ix2, lt2, 6 * q + 3, ix3, lt3, _, VM.at (vr_walk (D := D + 13) hR1 h.1 h.2.1 (fun s2 hs2 => ?_)), fun _ _ hh => hh⟩
  exact ⟨fun _ => VM.at (nxt s2 _ (hC1.off h.1 (vRf_57 ((hs2.up vMo_s).up vRf_o))) (hR1.ag (hs2.up vMo_s)) h.up), fun z => absurd rfl z⟩
set_option maxRecDepth 100000 in
theorem vlaw_15 (hL : L ≤ 3072) (hq : 6 * q + 6 ≤ L) (hC : vRC a σ) (hR : vRM a σ) (h : vInv q a) (nxt : ∀ (s2 : vM) (b : vα), vRC b s2 → vRM b s2 → vInv (q + 1) b → VM (true, L, xs) (D + 61) 205 1088 [some (.ref 1007), some (.ref 0), some (.ref 58), some (.int (nI (6 * q)))] [] s2 post) : VM (true, L, xs) (D + 61) 205 651 [some (.ref 1007), some (.ref 0), some (.ref 58), some (.int (nI (6 * q)))] [] σ post := by
  have ix1 : nI (6 * q) + (1 : Int32) = nI (6 * q + 1) := nI_add _ 1
  have lt1 : 6 * q + 1 < L := by omega
  have ix2 : nI (6 * q) + (2 : Int32) = nI (6 * q + 2) := nI_add _ 2
  have lt2 : 6 * q + 2 < L := by omega
  have ix3 : nI (6 * q) + (3 : Int32) = nI (6 * q + 3) := nI_add _ 3
  have lt3 : 6 * q + 3 < L := by omega
  refine VM.go [1088] ⟨6 * q + 1, ix1, lt1, 6 * q + 2, ix2, lt2, 6 * q + 3, ix3, lt3, _, VM.at (vc_tells (d := D + 55) hC h.1 (fun s1 hs1 => ?_)), fun _ _ hh => hh⟩
  have hR1 := hR.off (vBi_58 hs1)
  have hC1 : vRC a s1 := hC.ag (hs1.up vBi_Cs) h.1.2.1.2
  refine ⟨6 * q + 1, ix1, lt1, 6 * q + 2, ix2, lt2, 6 * q + 3, ix3, lt3, _, VM.at (vr_tells (D := D + 12) hR1 h.1 h.2.1 (fun s2 hs2 hR2 => ?_)), fun _ _ hh => hh⟩
  exact ⟨fun _ => VM.at (nxt s2 _ (hC1.off h.1 (vRf_57 hs2)) hR2 h.up), fun z => absurd rfl z⟩
set_option maxRecDepth 100000 in
theorem vlaw_16 (hL : L ≤ 3072) (hq : 6 * q + 6 ≤ L) (hC : vRC a σ) (hR : vRM a σ) (h : vInv q a) (nxt : ∀ (s2 : vM) (b : vα), vRC b s2 → vRM b s2 → vInv (q + 1) b → VM (true, L, xs) (D + 61) 205 1088 [some (.ref 1007), some (.ref 0), some (.ref 58), some (.int (nI (6 * q)))] [] s2 post) : VM (true, L, xs) (D + 61) 205 694 [some (.ref 1007), some (.ref 0), some (.ref 58), some (.int (nI (6 * q)))] [] σ post := by
  have ix1 : nI (6 * q) + (1 : Int32) = nI (6 * q + 1) := nI_add _ 1
  have lt1 : 6 * q + 1 < L := by omega
  have ix2 : nI (6 * q) + (2 : Int32) = nI (6 * q + 2) := nI_add _ 2
  have lt2 : 6 * q + 2 < L := by omega
  refine VM.go [1088] ⟨6 * q + 1, ix1, lt1, 6 * q + 2, ix2, lt2, _, VM.at (vc_film (d := D + 57) hC h.1 (fun s1 hs1 hC1 => ?_)), fun _ _ hh => hh⟩
  have hR1 := hR.off (vKl_58 hs1)
  refine ⟨6 * q + 1, ix1, lt1, 6 * q + 2, ix2, lt2, _, VM.at (vr_film (D := D + 15) hR1 h.1 h.2.1 (fun s2 hs2 hR2 => ?_)), fun _ _ hh => hh⟩
  exact ⟨fun _ => VM.at (nxt s2 _ (hC1.off (h.film _ _).1 (vRf_57 hs2)) hR2 (h.film _ _)), fun z => absurd rfl z⟩
set_option maxRecDepth 100000 in
theorem vlaw_17 (hL : L ≤ 3072) (hq : 6 * q + 6 ≤ L) (hC : vRC a σ) (hR : vRM a σ) (h : vInv q a) (nxt : ∀ (s2 : vM) (b : vα), vRC b s2 → vRM b s2 → vInv (q + 1) b → VM (true, L, xs) (D + 61) 205 1088 [some (.ref 1007), some (.ref 0), some (.ref 58), some (.int (nI (6 * q)))] [] s2 post) : VM (true, L, xs) (D + 61) 205 727 [some (.ref 1007), some (.ref 0), some (.ref 58), some (.int (nI (6 * q)))] [] σ post := by
  have ix1 : nI (6 * q) + (1 : Int32) = nI (6 * q + 1) := nI_add _ 1
  have lt1 : 6 * q + 1 < L := by omega
  refine VM.go [1088] ⟨6 * q + 1, ix1, lt1, _, VM.at (vc_drawn (d := D + 54) hC h.1 (fun s1 hs1 => ?_)), fun _ _ hh => hh⟩
  have hR1 := hR.off (vBi_58 hs1)
  have hC1 : vRC a s1 := hC.ag (hs1.up vBi_Cs) h.1.2.1.2
  refine ⟨6 * q + 1, ix1, lt1, _, VM.at (vr_drawn (D := D + 11) hR1 h.1 h.2.1 (fun s2 hs2 hR2 => ?_)), fun _ _ hh => hh⟩
  exact ⟨fun _ => VM.at (nxt s2 _ (hC1.off h.1 (vRf_57 hs2)) hR2 h.up), fun z => absurd rfl z⟩
set_option maxRecDepth 100000 in
theorem vlaw_18 (hL : L ≤ 3072) (hq : 6 * q + 6 ≤ L) (hC : vRC a σ) (hR : vRM a σ) (h : vInv q a) (nxt : ∀ (s2 : vM) (b : vα), vRC b s2 → vRM b s2 → vInv (q + 1) b → VM (true, L, xs) (D + 61) 205 1088 [some (.ref 1007), some (.ref 0), some (.ref 58), some (.int (nI (6 * q)))] [] s2 post) : VM (true, L, xs) (D + 61) 205 750 [some (.ref 1007), some (.ref 0), some (.ref 58), some (.int (nI (6 * q)))] [] σ post := by
  have ix1 : nI (6 * q) + (1 : Int32) = nI (6 * q + 1) := nI_add _ 1
  have lt1 : 6 * q + 1 < L := by omega
  have ix2 : nI (6 * q) + (2 : Int32) = nI (6 * q + 2) := nI_add _ 2
  have lt2 : 6 * q + 2 < L := by omega
  have ix3 : nI (6 * q) + (3 : Int32) = nI (6 * q + 3) := nI_add _ 3
  have lt3 : 6 * q + 3 < L := by omega
  have ix4 : nI (6 * q) + (4 : Int32) = nI (6 * q + 4) := nI_add _ 4
  have lt4 : 6 * q + 4 < L := by omega
  refine VM.go [1088] ⟨6 * q + 1, ix1, lt1, 6 * q + 2, ix2, lt2, 6 * q + 3, ix3, lt3, 6 * q + 4, ix4, lt4, _, VM.at (vc_chance (d := D + 54) hC h.1 (fun s1 hs1 => ?_)), fun _ _ hh => hh⟩
  have hR1 := hR.off (vBi_58 hs1)
  have hC1 : vRC a s1 := hC.ag (hs1.up vBi_Cs) h.1.2.1.2
  refine ⟨6 * q + 1, ix1, lt1, 6 * q + 2, ix2, lt2, 6 * q + 3, ix3, lt3, 6 * q + 4, ix4, lt4, _, VM.at (vr_chance (D := D + 11) hR1 h.1 h.2.1 (fun s2 hs2 hR2 => ?_)), fun _ _ hh => hh⟩
  exact ⟨fun _ => VM.at (nxt s2 _ (hC1.off h.1 (vRf_57 hs2)) hR2 h.up), fun z => absurd (lgc_eq.mpr rfl) z⟩
set_option maxRecDepth 100000 in
theorem vlaw_19 (hL : L ≤ 3072) (hq : 6 * q + 6 ≤ L) (hC : vRC a σ) (hR : vRM a σ) (h : vInv q a) (nxt : ∀ (s2 : vM) (b : vα), vRC b s2 → vRM b s2 → vInv (q + 1) b → VM (true, L, xs) (D + 61) 205 1088 [some (.ref 1007), some (.ref 0), some (.ref 58), some (.int (nI (6 * q)))] [] s2 post) : VM (true, L, xs) (D + 61) 205 804 [some (.ref 1007), some (.ref 0), some (.ref 58), some (.int (nI (6 * q)))] [] σ post := by
  refine VM.go [1088] ⟨_, VM.at (vc_image (d := D + 58) hC h.1 (fun s1 hs1 hC1 => ?_)), fun _ _ hh => hh⟩
  have hR1 := hR.off (vKl_58 hs1)
  refine ⟨_, VM.at (vr_image (d := D + 60) hR1 (fun s2 hs2 hR2 => ?_)), fun _ _ hh => hh⟩
  exact ⟨fun _ => VM.at (nxt s2 _ (hC1.off (h.img).1 (vRf_57 hs2)) hR2 (h.img)), fun z => absurd rfl z⟩
set_option maxRecDepth 100000 in
theorem vlaw_20 (hL : L ≤ 3072) (hq : 6 * q + 6 ≤ L) (hC : vRC a σ) (hR : vRM a σ) (h : vInv q a) (nxt : ∀ (s2 : vM) (b : vα), vRC b s2 → vRM b s2 → vInv (q + 1) b → VM (true, L, xs) (D + 61) 205 1088 [some (.ref 1007), some (.ref 0), some (.ref 58), some (.int (nI (6 * q)))] [] s2 post) : VM (true, L, xs) (D + 61) 205 817 [some (.ref 1007), some (.ref 0), some (.ref 58), some (.int (nI (6 * q)))] [] σ post := by
  refine VM.go [1088] ⟨_, VM.at (vc_back (d := D + 58) hC h.1 (fun s1 hs1 hC1 => ?_)), fun _ _ hh => hh⟩
  have hR1 := hR.off (vKl_58 hs1)
  refine ⟨_, VM.at (vr_back (d := D + 60) hR1 h.1 (fun s2 hs2 hR2 => ?_)), fun _ _ hh => hh⟩
  exact ⟨fun _ => VM.at (nxt s2 _ (hC1.off (h.bck).1 (vRf_57 hs2)) hR2 (h.bck)), fun z => absurd rfl z⟩
set_option maxRecDepth 100000 in
theorem vlaw_21 (hL : L ≤ 3072) (hq : 6 * q + 6 ≤ L) (hC : vRC a σ) (hR : vRM a σ) (h : vInv q a) (nxt : ∀ (s2 : vM) (b : vα), vRC b s2 → vRM b s2 → vInv (q + 1) b → VM (true, L, xs) (D + 61) 205 1088 [some (.ref 1007), some (.ref 0), some (.ref 58), some (.int (nI (6 * q)))] [] s2 post) : VM (true, L, xs) (D + 61) 205 830 [some (.ref 1007), some (.ref 0), some (.ref 58), some (.int (nI (6 * q)))] [] σ post := by
  have ix1 : nI (6 * q) + (1 : Int32) = nI (6 * q + 1) := nI_add _ 1
  have lt1 : 6 * q + 1 < L := by omega
  refine VM.go [1088] ⟨6 * q + 1, ix1, lt1, _, VM.at (vc_count (d := D + 59) hC h.1 ?_), fun _ _ hh => hh⟩
  have hR1 := hR
  have hC1 := hC
  refine ⟨6 * q + 1, ix1, lt1, _, VM.at (vr_count (d := D + 59) hR1 h.1 ?_), fun _ _ hh => hh⟩
  exact ⟨fun _ => VM.at (nxt _ _ hC1 hR1 h.up), fun z => absurd rfl z⟩
set_option maxRecDepth 100000 in
theorem vlaw_22 (hL : L ≤ 3072) (hq : 6 * q + 6 ≤ L) (hC : vRC a σ) (hR : vRM a σ) (h : vInv q a) (nxt : ∀ (s2 : vM) (b : vα), vRC b s2 → vRM b s2 → vInv (q + 1) b → VM (true, L, xs) (D + 61) 205 1088 [some (.ref 1007), some (.ref 0), some (.ref 58), some (.int (nI (6 * q)))] [] s2 post) : VM (true, L, xs) (D + 61) 205 853 [some (.ref 1007), some (.ref 0), some (.ref 58), some (.int (nI (6 * q)))] [] σ post := by
  have ix1 : nI (6 * q) + (1 : Int32) = nI (6 * q + 1) := nI_add _ 1
  have lt1 : 6 * q + 1 < L := by omega
  have ix2 : nI (6 * q) + (2 : Int32) = nI (6 * q + 2) := nI_add _ 2
  have lt2 : 6 * q + 2 < L := by omega
  have ix3 : nI (6 * q) + (3 : Int32) = nI (6 * q + 3) := nI_add _ 3
  have lt3 : 6 * q + 3 < L := by omega
  refine VM.go [1088] ⟨6 * q + 1, ix1, lt1, 6 * q + 2, ix2, lt2, 6 * q + 3, ix3, lt3, _, VM.at (vc_sheet (d := D + 58) hC h.1 (fun s1 hs1 hC1 => ?_)), fun _ _ hh => hh⟩
  have hR1 := hR.off (vKl_58 hs1)
  refine ⟨6 * q + 1, ix1, lt1, 6 * q + 2, ix2, lt2, 6 * q + 3, ix3, lt3, _, VM.at (vr_sheet (d := D + 58) hR1 h.1 (fun s2 hs2 hR2 => ?_)), fun _ _ hh => hh⟩
  exact ⟨fun _ => VM.at (nxt s2 _ (hC1.off (h.sheet _ _ _).1 (vRf_57 hs2)) hR2 (h.sheet _ _ _)), fun z => absurd rfl z⟩
set_option maxRecDepth 100000 in
theorem vlaw_23 (hL : L ≤ 3072) (hq : 6 * q + 6 ≤ L) (hC : vRC a σ) (hR : vRM a σ) (h : vInv q a) (nxt : ∀ (s2 : vM) (b : vα), vRC b s2 → vRM b s2 → vInv (q + 1) b → VM (true, L, xs) (D + 61) 205 1088 [some (.ref 1007), some (.ref 0), some (.ref 58), some (.int (nI (6 * q)))] [] s2 post) : VM (true, L, xs) (D + 61) 205 896 [some (.ref 1007), some (.ref 0), some (.ref 58), some (.int (nI (6 * q)))] [] σ post := by
  have ix1 : nI (6 * q) + (1 : Int32) = nI (6 * q + 1) := nI_add _ 1
  have lt1 : 6 * q + 1 < L := by omega
  have ix2 : nI (6 * q) + (2 : Int32) = nI (6 * q + 2) := nI_add _ 2
  have lt2 : 6 * q + 2 < L := by omega
  have ix3 : nI (6 * q) + (3 : Int32) = nI (6 * q + 3) := nI_add _ 3
  have lt3 : 6 * q + 3 < L := by omega
  refine VM.go [1088] ⟨6 * q + 1, ix1, lt1, 6 * q + 2, ix2, lt2, 6 * q + 3, ix3, lt3, _, VM.at (vc_cell (d := D + 59) hC h.1 (fun s1 hs1 hC1 => ?_)), fun _ _ hh => hh⟩
  have hR1 := hR.off (vKl_58 hs1)
  refine ⟨6 * q + 1, ix1, lt1, 6 * q + 2, ix2, lt2, 6 * q + 3, ix3, lt3, _, VM.at (vr_cell (d := D + 58) hR1 h.1 (fun s2 hs2 hR2 => ?_)), fun _ _ hh => hh⟩
  exact ⟨fun _ => VM.at (nxt s2 _ (hC1.off (h.cell _ _ _).1 (vRf_57 hs2)) hR2 (h.cell _ _ _)), fun z => absurd rfl z⟩
set_option maxRecDepth 100000 in
theorem vlaw_24 (hL : L ≤ 3072) (hq : 6 * q + 6 ≤ L) (hC : vRC a σ) (hR : vRM a σ) (h : vInv q a) (nxt : ∀ (s2 : vM) (b : vα), vRC b s2 → vRM b s2 → vInv (q + 1) b → VM (true, L, xs) (D + 61) 205 1088 [some (.ref 1007), some (.ref 0), some (.ref 58), some (.int (nI (6 * q)))] [] s2 post) : VM (true, L, xs) (D + 61) 205 939 [some (.ref 1007), some (.ref 0), some (.ref 58), some (.int (nI (6 * q)))] [] σ post := by
  have ix1 : nI (6 * q) + (1 : Int32) = nI (6 * q + 1) := nI_add _ 1
  have lt1 : 6 * q + 1 < L := by omega
  have ix2 : nI (6 * q) + (2 : Int32) = nI (6 * q + 2) := nI_add _ 2
  have lt2 : 6 * q + 2 < L := by omega
  have ix3 : nI (6 * q) + (3 : Int32) = nI (6 * q + 3) := nI_add _ 3
  have lt3 : 6 * q + 3 < L := by omega
  have ix4 : nI (6 * q) + (4 : Int32) = nI (6 * q + 4) := nI_add _ 4
  have lt4 : 6 * q + 4 < L := by omega
  have ix5 : nI (6 * q) + (5 : Int32) = nI (6 * q + 5) := nI_add _ 5
  have lt5 : 6 * q + 5 < L := by omega
  refine VM.go [1088] ⟨6 * q + 1, ix1, lt1, 6 * q + 2, ix2, lt2, 6 * q + 3, ix3, lt3, 6 * q + 4, ix4, lt4, 6 * q + 5, ix5, lt5, _, VM.at (vc_copy (d := D + 59) hC h.1 (fun s1 hs1 hC1 => ?_)), fun _ _ hh => hh⟩
  have hR1 := hR.off (vKl_58 hs1)
  refine ⟨6 * q + 1, ix1, lt1, 6 * q + 2, ix2, lt2, 6 * q + 3, ix3, lt3, 6 * q + 4, ix4, lt4, 6 * q + 5, ix5, lt5, _, VM.at (vr_copy (d := D + 58) hR1 h.1 (fun s2 hs2 hR2 => ?_)), fun _ _ hh => hh⟩
  exact ⟨fun _ => VM.at (nxt s2 _ (hC1.off (h.copy _ _ _ _ _).1 (vRf_57 hs2)) hR2 (h.copy _ _ _ _ _)), fun z => absurd rfl z⟩
set_option maxRecDepth 100000 in
theorem vlaw_25 (hL : L ≤ 3072) (hq : 6 * q + 6 ≤ L) (hC : vRC a σ) (hR : vRM a σ) (h : vInv q a) (nxt : ∀ (s2 : vM) (b : vα), vRC b s2 → vRM b s2 → vInv (q + 1) b → VM (true, L, xs) (D + 61) 205 1088 [some (.ref 1007), some (.ref 0), some (.ref 58), some (.int (nI (6 * q)))] [] s2 post) : VM (true, L, xs) (D + 61) 205 1002 [some (.ref 1007), some (.ref 0), some (.ref 58), some (.int (nI (6 * q)))] [] σ post := by
  have ix1 : nI (6 * q) + (1 : Int32) = nI (6 * q + 1) := nI_add _ 1
  have lt1 : 6 * q + 1 < L := by omega
  have ix2 : nI (6 * q) + (2 : Int32) = nI (6 * q + 2) := nI_add _ 2
  have lt2 : 6 * q + 2 < L := by omega
  have ix3 : nI (6 * q) + (3 : Int32) = nI (6 * q + 3) := nI_add _ 3
  have lt3 : 6 * q + 3 < L := by omega
  have ix4 : nI (6 * q) + (4 : Int32) = nI (6 * q + 4) := nI_add _ 4
  have lt4 : 6 * q + 4 < L := by omega
  refine VM.go [1088] ⟨6 * q + 1, ix1, lt1, 6 * q + 2, ix2, lt2, 6 * q + 3, ix3, lt3, 6 * q + 4, ix4, lt4, _, VM.at (vc_lights (d := D + 58) hC h.1 (fun s1 hs1 hC1 => ?_)), fun _ _ hh => hh⟩
  have hR1 := hR.off (vKl_58 hs1)
  refine ⟨6 * q + 1, ix1, lt1, 6 * q + 2, ix2, lt2, 6 * q + 3, ix3, lt3, 6 * q + 4, ix4, lt4, _, VM.at (vr_lights (d := D + 57) hR1 h.1 (fun s2 hs2 hR2 => ?_)), fun _ _ hh => hh⟩
  exact ⟨fun _ => VM.at (nxt s2 _ (hC1.off (h.lights _ _ _ _).1 (vRf_57 hs2)) hR2 (h.lights _ _ _ _)), fun z => absurd rfl z⟩
set_option maxRecDepth 100000 in
theorem vlaw_26 (hL : L ≤ 3072) (hq : 6 * q + 6 ≤ L) (hC : vRC a σ) (hR : vRM a σ) (h : vInv q a) (nxt : ∀ (s2 : vM) (b : vα), vRC b s2 → vRM b s2 → vInv (q + 1) b → VM (true, L, xs) (D + 61) 205 1088 [some (.ref 1007), some (.ref 0), some (.ref 58), some (.int (nI (6 * q)))] [] s2 post) : VM (true, L, xs) (D + 61) 205 1055 [some (.ref 1007), some (.ref 0), some (.ref 58), some (.int (nI (6 * q)))] [] σ post := by
  have ix1 : nI (6 * q) + (1 : Int32) = nI (6 * q + 1) := nI_add _ 1
  have lt1 : 6 * q + 1 < L := by omega
  have ix2 : nI (6 * q) + (2 : Int32) = nI (6 * q + 2) := nI_add _ 2
  have lt2 : 6 * q + 2 < L := by omega
  refine VM.go [1088] ⟨6 * q + 1, ix1, lt1, 6 * q + 2, ix2, lt2, _, VM.at (vc_taken (d := D + 59) hC h.1 ?_), fun _ _ hh => hh⟩
  have hR1 := hR
  have hC1 := hC
  refine ⟨6 * q + 1, ix1, lt1, 6 * q + 2, ix2, lt2, _, VM.at (vr_taken (d := D + 58) hR1 h.1 ?_), fun _ _ hh => hh⟩
  exact ⟨fun _ => VM.at (nxt _ _ hC1 hR1 h.up), fun z => absurd rfl z⟩
end LW
