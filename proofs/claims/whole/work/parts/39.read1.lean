/-! ===== Reader: its bytes, its tokens ===== -/
/-- the reader's own cells and the rule's -/
def vRdS (r c k : Nat) : Bool := (Nat.beq c 38 && Nat.ble 1 k) || (Nat.beq c r || Nat.beq c (r + 1))
def vpFi (f : Option Nat) : Int32 := match f with
  | none => -1
  | some x => nI x
/-- the tape holds b -/
def vTp (b : List Nat) (σ : vM) : Prop := b.length ≤ 160 ∧ (∀ x ∈ b, x < 256) ∧ σ.1 38 0 = nI b.length ∧ ∀ k, k < b.length → σ.1 39 k = nI (b.getD k 0)
/-- the reader stands at s -/
def vRd (b : List Nat) (r : Nat) (s : vPS) (σ : vM) : Prop := vTp b σ ∧ σ.1 38 2 = nI r ∧ σ.1 38 3 = vpFi (vpF s) ∧ σ.1 38 4 = nI (vpP s) ∧ σ.1 38 5 = nI (vpN s) ∧ σ.1 38 6 = vpT s ∧ (vpT s = 1 ∨ vpT s = 2 → σ.1 38 7 = nI (vpV s)) ∧
  (vpC s).length ≤ 160 ∧ (∀ k, k < (vpC s).length → σ.1 (r + 1) k = (vpC s).getD k 0) ∧ σ.1 r 3 = nI (vpC s).length ∧ (((vpC s).length < 160 → σ.1 r 0 = nI (if (-4 : Int32) ∈ vpC s then 1 else 0)) ∧ (σ.1 r 0 = 0 ∨ σ.1 r 0 = 1)) ∧ vpN s ≤ b.length ∧ vpP s ≤ b.length ∧ (∀ f, vpF s = some f → f ≤ b.length)
/-- ahead of the first token -/
def vRdA (b : List Nat) (r : Nat) (C : List Int32) (σ : vM) : Prop := vTp b σ ∧ σ.1 38 2 = nI r ∧ C.length ≤ 160 ∧ (∀ k, k < C.length → σ.1 (r + 1) k = C.getD k 0) ∧ σ.1 r 3 = nI C.length ∧ ((C.length < 160 → σ.1 r 0 = nI (if (-4 : Int32) ∈ C then 1 else 0)) ∧ (σ.1 r 0 = 0 ∨ σ.1 r 0 = 1))
theorem vRd.A {b : List Nat} {r : Nat} {s : vPS} {σ : vM} (h : vRd b r s σ) : vRdA b r (vpC s) σ := ⟨h.1, h.2.1, h.2.2.2.2.2.2.2.1, h.2.2.2.2.2.2.2.2.1, h.2.2.2.2.2.2.2.2.2.1, h.2.2.2.2.2.2.2.2.2.2.1⟩
theorem vRdS_tp {r k : Nat} (hr : vRc r) : vRdS r 38 0 = false ∧ vRdS r 39 k = false := by
  unfold vRc at hr
  constructor
  · cases hb : vRdS r 38 0 with
    | false => rfl
    | true => exfalso; simp only [vRdS, Bool.or_eq_true, Bool.and_eq_true, Nat.ble_eq, vbq] at hb; omega
  · cases hb : vRdS r 39 k with
    | false => rfl
    | true => exfalso; simp only [vRdS, Bool.or_eq_true, Bool.and_eq_true, Nat.ble_eq, vbq] at hb; omega
section RD
variable {G : vG} {d : Nat} {σ : vM} {post : vQ} {b : List Nat}
theorem vb_wlen (h : post (some (.int 68)) σ) : VM G (d + 1) iJ0_length_8abf5 0 [some (.ref 1001)] [] σ post :=
  VM.go [] ⟨_, VM.at (VM.go [] ⟨fun q => absurd q (by decide), fun _ => ⟨rfl, by exact h⟩⟩), fun _ _ hh => hh⟩
theorem vwch : ∀ i, i < 68 → (((vWords.getD i 0) &&& 255).toUInt32 % 65536).toInt32 = vWords.getD i 0 := by decide
theorem vwc2 : ∀ i, i < 68 → ((vWords.getD i 0).toUInt32 % 65536).toInt32 = vWords.getD i 0 := by decide
theorem vwc3 {i : Nat} (hi : i < 68) : narrow .char (.int ((((vWords.getD i 0) &&& 255).toUInt32 % 65536).toInt32)) = .int ((((vWords.getD i 0) &&& 255).toUInt32 % 65536).toInt32) := by
  rw [vwch i hi]
  exact congrArg Value.int (vwc2 i hi)
theorem vb_wchar {i : Nat} (hi : i < 68) (h : post (some (.int (vWords.getD i 0))) σ) : VM G (d + 3) iJ0_charAt_5068e 0 [some (.ref 1001), some (.int (nI i))] [] σ post := by
  have n3 := vwc3 hi
  rw [← vwch i hi] at h
  refine VM.go [] ⟨_, VM.at (VM.go [] ⟨fun q => absurd q (by decide), fun _ => ⟨fun q => absurd rfl q, fun _ => ⟨Or.inr rfl, ?_⟩⟩⟩), fun _ _ hh => hh⟩
  refine ⟨fun q => absurd q (by decide), fun _ => ⟨_, VM.at (VM.go [] ⟨_, VM.at (VM.go [] ⟨_, VM.at (VM.go [] ⟨fun q => absurd q (nI_pos (by omega)), fun _ => ⟨fun _ => ?_, fun q => absurd (nI_lt hi (by decide)) q⟩⟩), fun _ _ hh => hh⟩), fun _ _ hh => hh⟩), fun _ _ hh => hh⟩⟩
  exact ⟨i, rfl, hi, ⟨n3, n3, h⟩⟩
theorem vb_byteAt {i : Nat} (hi : i < 2 ^ 30) (hT : vTp b σ) (h : post (some (.int (match b[i]? with | some c => nI c | none => -1))) σ) : VM G d iX2_byteAt 0 [some (.ref 38), some (.int (nI i))] [] σ post := by
  obtain ⟨t1, t2, t3, t4⟩ := hT
  have no : b.length ≤ i → post (some (.int (-1))) σ := fun q => by
    rw [List.getElem?_eq_none q] at h; exact h
  have yes : i < b.length → post (some (.int (σ.1 39 i))) σ := fun q => by
    rw [List.getElem?_eq_getElem q] at h
    rw [t4 i q, List.getD_eq_getElem?_getD, List.getElem?_eq_getElem q]
    exact h
  refine VM.go [] ⟨fun q => absurd q (nI_pos (by omega)), fun _ => ⟨fun q => no ?_, fun q => ⟨fun q2 => no ?_, fun q2 => ?_⟩⟩⟩
  · have q' : σ.1 38 0 ≤ nI i := q
    rw [t3, nIle (by omega) (by omega)] at q'
    exact q'
  · have q' : nI 160 ≤ nI i := q2
    rw [nIle (by omega) (by omega)] at q'
    omega
  · have q' : ¬ σ.1 38 0 ≤ nI i := q
    rw [t3, nIle (by omega) (by omega)] at q'
    exact ⟨i, rfl, by omega, yes (by omega)⟩
theorem vb_isLetter {c : Nat} (hc : c < 256) (h1 : vletter c = true → post (some (.int 1)) σ) (h0 : vletter c = false → post (some (.int 0)) σ) : VM G d iX2_isLetter 0 [some (.int (nI c))] [] σ post := by
  have e : vletter c = true ↔ 97 ≤ c ∧ c ≤ 122 := by simp only [vletter, Bool.and_eq_true, Nat.ble_eq]
  have no : ¬ (97 ≤ c ∧ c ≤ 122) → post (some (.int 0)) σ := fun q => h0 (by cases hb : vletter c with
    | false => rfl
    | true => exact absurd (e.mp hb) q)
  refine VM.go [] ⟨fun q => ⟨Or.inl rfl, no ?_⟩, fun q => ⟨fun q2 => ⟨Or.inl rfl, no ?_⟩, fun q2 => ⟨Or.inr rfl, h1 (e.mpr ⟨?_, ?_⟩)⟩⟩⟩
  · have q' : nI c < nI 97 := q
    rw [nIlt (by omega) (by omega)] at q'; omega
  · have q' : nI 122 < nI c := q2
    rw [nIlt (by omega) (by omega)] at q'; omega
  · have q' : ¬ nI c < nI 97 := q
    rw [nIlt (by omega) (by omega)] at q'; omega
  · have q' : ¬ nI 122 < nI c := q2
    rw [nIlt (by omega) (by omega)] at q'; omega
theorem vb_isDigit {c : Nat} (hc : c < 256) (h1 : vdigit c = true → post (some (.int 1)) σ) (h0 : vdigit c = false → post (some (.int 0)) σ) : VM G d iX2_isDigit 0 [some (.int (nI c))] [] σ post := by
  have e : vdigit c = true ↔ 48 ≤ c ∧ c ≤ 57 := by simp only [vdigit, Bool.and_eq_true, Nat.ble_eq]
  have no : ¬ (48 ≤ c ∧ c ≤ 57) → post (some (.int 0)) σ := fun q => h0 (by cases hb : vdigit c with
    | false => rfl
    | true => exact absurd (e.mp hb) q)
  refine VM.go [] ⟨fun q => ⟨Or.inl rfl, no ?_⟩, fun q => ⟨fun q2 => ⟨Or.inl rfl, no ?_⟩, fun q2 => ⟨Or.inr rfl, h1 (e.mpr ⟨?_, ?_⟩)⟩⟩⟩
  · have q' : nI c < nI 48 := q
    rw [nIlt (by omega) (by omega)] at q'; omega
  · have q' : nI 57 < nI c := q2
    rw [nIlt (by omega) (by omega)] at q'; omega
  · have q' : ¬ nI c < nI 48 := q
    rw [nIlt (by omega) (by omega)] at q'; omega
  · have q' : ¬ nI 57 < nI c := q2
    rw [nIlt (by omega) (by omega)] at q'; omega
theorem vb_isSign {c : Nat} (hc : c < 256) (h1 : vsign c = true → post (some (.int 1)) σ) (h0 : vsign c = false → post (some (.int 0)) σ) : VM G d iX2_isSign 0 [some (.int (nI c))] [] σ post := by
  have e : vsign c = true ↔ c = 40 ∨ c = 41 ∨ c = 59 ∨ c = 43 ∨ c = 45 ∨ c = 42 ∨ c = 60 ∨ c = 61 := by simp only [vsign, Bool.or_eq_true, vbq]
  have eq : ∀ {x : Nat}, x < 256 → nI c = nI x → c = x := fun hx q => (nI_eq (by omega) (by omega)).mp q
  have ne : ∀ {x : Nat}, ¬ nI c = nI x → ¬ c = x := fun q z => q (by rw [z])
  refine VM.go [] ⟨fun q => ?_, fun q1 => ⟨fun q => ?_, fun q2 => ⟨fun q => ?_, fun q3 => ⟨fun q => ?_, fun q4 => ⟨fun q => ?_, fun q5 => ⟨fun q => ?_, fun q6 => ⟨fun q => ?_, fun q7 => ⟨fun q8 => ⟨Or.inl rfl, h0 ?_⟩, fun q => ?_⟩⟩⟩⟩⟩⟩⟩⟩
  · exact ⟨Or.inr rfl, h1 (e.mpr (Or.inl (eq (by decide) q)))⟩
  · exact ⟨Or.inr rfl, h1 (e.mpr (Or.inr (Or.inl (eq (by decide) q))))⟩
  · exact ⟨Or.inr rfl, h1 (e.mpr (Or.inr (Or.inr (Or.inl (eq (by decide) q)))))⟩
  · exact ⟨Or.inr rfl, h1 (e.mpr (Or.inr (Or.inr (Or.inr (Or.inl (eq (by decide) q))))))⟩
  · exact ⟨Or.inr rfl, h1 (e.mpr (Or.inr (Or.inr (Or.inr (Or.inr (Or.inl (eq (by decide) q)))))))⟩
  · exact ⟨Or.inr rfl, h1 (e.mpr (Or.inr (Or.inr (Or.inr (Or.inr (Or.inr (Or.inl (eq (by decide) q))))))))⟩
  · exact ⟨Or.inr rfl, h1 (e.mpr (Or.inr (Or.inr (Or.inr (Or.inr (Or.inr (Or.inr (Or.inl (eq (by decide) q)))))))))⟩
  · cases hb : vsign c with
    | false => rfl
    | true =>
      rcases e.mp hb with z | z | z | z | z | z | z | z
      · exact absurd z (ne q1)
      · exact absurd z (ne q2)
      · exact absurd z (ne q3)
      · exact absurd z (ne q4)
      · exact absurd z (ne q5)
      · exact absurd z (ne q6)
      · exact absurd z (ne q7)
      · exact absurd z (ne q8)
  · exact ⟨Or.inr rfl, h1 (e.mpr (Or.inr (Or.inr (Or.inr (Or.inr (Or.inr (Or.inr (Or.inr (eq (by decide) q)))))))))⟩
end RD
