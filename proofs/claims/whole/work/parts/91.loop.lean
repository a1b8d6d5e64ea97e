/-! ===== THE LAW'S LOOP ===== -/
section LP
variable {L D : Nat} {xs : Nat → Int32} {post : vQ}
set_option maxRecDepth 100000 in
theorem vlaw_loop (hL : L ≤ 3072) (hpost : ∀ s, post (some (.int 1)) s) : ∀ m q, m + q = 512 → ∀ (σ : vM) (a : vα), vRC a σ → vRM a σ → vInv q a → VM (true, L, xs) (D + 61) 205 18 [some (.ref 1007), some (.ref 0), some (.ref 58), some (.int (nI (6 * q)))] [] σ post := by
  have stop : ∀ q, q ≤ 512 → (nI L - 6 < nI (6 * q) ↔ ¬ 6 * q + 6 ≤ L) := fun q hq => by
    rw [show (6 : Int32) = nI 6 from rfl, Int32.lt_iff_toInt_lt, sub_I (by omega) (by decide), nI_toInt (by omega)]
    omega
  intro m
  induction m with
  | zero =>
    intro q hq σ a hC hR h
    exact VM.go [] ⟨fun _ => ⟨Or.inr rfl, hpost σ⟩, fun z => absurd ((stop q (by omega)).mpr (by omega)) z⟩
  | succ m ih =>
    intro q hq σ a hC hR h
    by_cases he : 6 * q + 6 ≤ L
    · have nxt : ∀ (s2 : vM) (b : vα), vRC b s2 → vRM b s2 → vInv (q + 1) b → VM (true, L, xs) (D + 61) 205 1088 [some (.ref 1007), some (.ref 0), some (.ref 58), some (.int (nI (6 * q)))] [] s2 post := fun s2 b c1 c2 c3 => by
        have := ih (q + 1) (by omega) s2 b c1 c2 c3
        rw [show 6 * (q + 1) = 6 * q + 6 by omega, ← nI_add] at this
        exact VM.go [18] this
      have lt0 : 6 * q < L := by omega
      refine VM.go [33] ⟨fun z => absurd he ((stop q (by omega)).mp z), fun _ => ⟨6 * q, rfl, lt0, ?_⟩⟩
      show VM (true, L, xs) (D + 61) 205 33 _ _ _ _
      obtain ⟨j, hj, ej⟩ := pk_andE (xs (6 * q)) (m := 31) 5 (by decide)
      rw [show xs (6 * q) &&& 31 = nI j from ej]
      have hj : j < 32 := hj
      have dflt : 27 ≤ j → VM (true, L, xs) (D + 61) 205 33 [some (.ref 1007), some (.ref 0), some (.ref 58), some (.int (nI (6 * q)))] [.int (nI j)] σ post := fun h27 => by
        rcases (show j = 27 ∨ j = 28 ∨ j = 29 ∨ j = 30 ∨ j = 31 by omega) with e | e | e | e | e <;> rw [e] <;> exact VM.go [1088] (vsw_go 1088 (by decide) (VM.at (nxt σ a hC hR h.up)))
      by_cases h27 : 27 ≤ j
      · exact dflt h27
      · rcases (show j = 0 ∨ j = 1 ∨ j = 2 ∨ j = 3 ∨ j = 4 ∨ j = 5 ∨ j = 6 ∨ j = 7 ∨ j = 8 ∨ j = 9 ∨ j = 10 ∨ j = 11 ∨ j = 12 ∨ j = 13 ∨ j = 14 ∨ j = 15 ∨ j = 16 ∨ j = 17 ∨ j = 18 ∨ j = 19 ∨ j = 20 ∨ j = 21 ∨ j = 22 ∨ j = 23 ∨ j = 24 ∨ j = 25 ∨ j = 26 by omega) with e | e | e | e | e | e | e | e | e | e | e | e | e | e | e | e | e | e | e | e | e | e | e | e | e | e | e
        all_goals rw [e]
        · exact VM.go [156] (vsw_go 156 (by decide) (VM.at (vlaw_0 hL he hC hR h nxt)))
        · exact VM.go [199] (vsw_go 199 (by decide) (VM.at (vlaw_1 hL he hC hR h nxt)))
        · exact VM.go [242] (vsw_go 242 (by decide) (VM.at (vlaw_2 hL he hC hR h nxt)))
        · exact VM.go [285] (vsw_go 285 (by decide) (VM.at (vlaw_3 hL he hC hR h nxt)))
        · exact VM.go [318] (vsw_go 318 (by decide) (VM.at (vlaw_4 hL he hC hR h nxt)))
        · exact VM.go [341] (vsw_go 341 (by decide) (VM.at (vlaw_5 hL he hC hR h nxt)))
        · exact VM.go [354] (vsw_go 354 (by decide) (VM.at (vlaw_6 hL he hC hR h nxt)))
        · exact VM.go [377] (vsw_go 377 (by decide) (VM.at (vlaw_7 hL he hC hR h nxt)))
        · exact VM.go [420] (vsw_go 420 (by decide) (VM.at (vlaw_8 hL he hC hR h nxt)))
        · exact VM.go [443] (vsw_go 443 (by decide) (VM.at (vlaw_9 hL he hC hR h nxt)))
        · exact VM.go [476] (vsw_go 476 (by decide) (VM.at (vlaw_10 hL he hC hR h nxt)))
        · exact VM.go [499] (vsw_go 499 (by decide) (VM.at (vlaw_11 hL he hC hR h nxt)))
        · exact VM.go [542] (vsw_go 542 (by decide) (VM.at (vlaw_12 hL he hC hR h nxt)))
        · exact VM.go [575] (vsw_go 575 (by decide) (VM.at (vlaw_13 hL he hC hR h nxt)))
        · exact VM.go [608] (vsw_go 608 (by decide) (VM.at (vlaw_14 hL he hC hR h nxt)))
        · exact VM.go [651] (vsw_go 651 (by decide) (VM.at (vlaw_15 hL he hC hR h nxt)))
        · exact VM.go [694] (vsw_go 694 (by decide) (VM.at (vlaw_16 hL he hC hR h nxt)))
        · exact VM.go [727] (vsw_go 727 (by decide) (VM.at (vlaw_17 hL he hC hR h nxt)))
        · exact VM.go [750] (vsw_go 750 (by decide) (VM.at (vlaw_18 hL he hC hR h nxt)))
        · exact VM.go [804] (vsw_go 804 (by decide) (VM.at (vlaw_19 hL he hC hR h nxt)))
        · exact VM.go [817] (vsw_go 817 (by decide) (VM.at (vlaw_20 hL he hC hR h nxt)))
        · exact VM.go [830] (vsw_go 830 (by decide) (VM.at (vlaw_21 hL he hC hR h nxt)))
        · exact VM.go [853] (vsw_go 853 (by decide) (VM.at (vlaw_22 hL he hC hR h nxt)))
        · exact VM.go [896] (vsw_go 896 (by decide) (VM.at (vlaw_23 hL he hC hR h nxt)))
        · exact VM.go [939] (vsw_go 939 (by decide) (VM.at (vlaw_24 hL he hC hR h nxt)))
        · exact VM.go [1002] (vsw_go 1002 (by decide) (VM.at (vlaw_25 hL he hC hR h nxt)))
        · exact VM.go [1055] (vsw_go 1055 (by decide) (VM.at (vlaw_26 hL he hC hR h nxt)))
    · exact VM.go [] ⟨fun _ => ⟨Or.inr rfl, hpost σ⟩, fun z => absurd ((stop q (by omega)).mpr he) z⟩
end LP
