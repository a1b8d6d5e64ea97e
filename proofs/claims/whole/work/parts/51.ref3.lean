/-! ===== THE REFERENCE: how it reads: bytes and tokens ===== -/
/-- the reader's own fields -/
def vMp (c k : Nat) : Bool := Nat.beq c 58 && (Nat.ble 25 k && Nat.ble k 31)
theorem vMp_s {c k : Nat} (h : vMs c k = false) : vMp c k = false := by
  cases hb : vMp c k with
  | false => rfl
  | true =>
    exfalso
    have : vMs c k = true := by
      simp only [vMp, vMs, Bool.and_eq_true, Nat.ble_eq, vbq] at hb ⊢
      omega
    rw [this] at h; cases h
theorem vagI.putL {S : Nat → Nat → Bool} {σ σ' : vM} (h : vagI S σ σ') {a k : Nat} {v : Int64} : vagI S σ (vputL σ' a k v) := h
theorem vputL_eq (σ : vM) (a k : Nat) (v : Int64) {a' k' : Nat} {x : Int32} : (vput (vputL σ a k v) a' k' x).2 a k = v := if_pos ⟨rfl, rfl⟩
theorem vputL_e (σ : vM) (a k : Nat) (v : Int64) : (vputL σ a k v).2 a k = v := if_pos ⟨rfl, rfl⟩
/-- the text t holds b, and is at hand -/
def vMx (b : List Nat) (t : Nat) (σ : vM) : Prop := b.length ≤ 160 ∧ (∀ x ∈ b, x < 256) ∧ t < 6 ∧ σ.1 58 23 = nI (160 * t) ∧ σ.1 58 24 = nI b.length ∧ ∀ k, k < b.length → σ.1 59 (160 * t + k) = nI (b.getD k 0)
theorem vMx.ag {b : List Nat} {t : Nat} {σ σ' : vM} (h : vMx b t σ) (hs : vagI vMp σ σ') : vMx b t σ' := ⟨h.1, h.2.1, h.2.2.1, (hs.get rfl).trans h.2.2.2.1, (hs.get rfl).trans h.2.2.2.2.1, fun k hk => (hs.get rfl).trans (h.2.2.2.2.2 k hk)⟩
/-- the token at hand: t token, v value, p where it begins, n where the next one is looked for -/
def vMk (b : List Nat) (t : Int32) (v p n : Nat) (σ : vM) : Prop :=
  (t = 0 ∧ σ.1 58 26 = 0) ∨ (t = 1 ∧ v ≤ 9999 ∧ σ.1 58 26 = 2 ∧ σ.2 58 28 = lN v ∧ σ.1 58 25 = nI n) ∨
  (p < n ∧ n ≤ b.length ∧ (∀ x ∈ (b.drop p).take (n - p), vletter x = true) ∧ t = vwtk (vwordIx ((b.drop p).take (n - p))) ∧ v = vwordIx ((b.drop p).take (n - p)) ∧ σ.1 58 26 = 1 ∧ σ.1 58 25 = nI n) ∨
  (∃ c, c < 256 ∧ vsign c = true ∧ t = nI c ∧ σ.1 58 26 = 3 ∧ σ.2 58 28 = lN c ∧ σ.1 58 25 = nI n) ∨ (t = -1 ∧ σ.1 58 26 = 4)
section RX
variable {Gx : Nat × (Nat → Int32)} {d : Nat} {σ : vM} {post : vQ} {b : List Nat} {t : Nat}
theorem vMx.lt {i c : Nat} (h : vMx b t σ) (hc : b[i]? = some c) : c < 256 := h.2.1 c (List.mem_of_getElem? hc)
theorem vm_byteAt {i : Nat} (hi : i < 2 ^ 30) (hX : vMx b t σ) (h : post (some (.int (match b[i]? with | some c => nI c | none => -1))) σ) : VM (true, Gx) d iX7_byteAt 0 [some (.ref 58), some (.int (nI i))] [] σ post := by
  obtain ⟨h1, h2, h3, h4, h5, h6⟩ := hX
  refine VM.go [] ⟨fun q => ?_, fun q => ?_⟩
  · have q' : σ.1 58 24 ≤ nI i := q
    rw [h5, nIle (by omega) (by omega)] at q'
    rw [List.getElem?_eq_none q'] at h
    exact h
  · have q' : ¬ σ.1 58 24 ≤ nI i := q
    rw [h5, nIle (by omega) (by omega)] at q'
    have hlt : i < b.length := by omega
    rw [List.getElem?_eq_getElem hlt] at h
    have e := h6 i hlt
    rw [List.getD_eq_getElem?_getD, List.getElem?_eq_getElem hlt] at e
    dsimp only at h
    rw [show nI (b[i]) = σ.1 59 (160 * t + i) from e.symm] at h
    exact ⟨160 * t + i, by rw [h4, nI_add], by omega, h⟩
/-- byteAt(here) -/
theorem vm_byteH {i : Nat} (hi : i ≤ b.length) (hX : vMx b t σ) (e : σ.1 58 25 = nI i) (h : post (some (.int (match b[i]? with | some c => nI c | none => -1))) σ) : VM (true, Gx) d iX7_byteAt 0 [some (.ref 58), some (.int (σ.1 58 25))] [] σ post := by
  rw [e]
  exact vm_byteAt (by have := hX.1; omega) hX h
theorem vm_inC {P : Nat → Bool} {lo hi : Nat} {i : Nat} {l1 l2 : Int64} (hX : vMx b t σ) (hP : ∀ c, P c = true ↔ lo ≤ c ∧ c ≤ hi) (hlo : lo ≤ hi) (h256 : hi < 256) (e1 : l1 = (nI lo).toInt64) (e2 : l2 = (nI hi).toInt64) (hy : ∀ c, b[i]? = some c → P c = true → post (some (.int 1)) σ) (hn : (b[i]? = none ∨ ∃ c, b[i]? = some c ∧ P c = false) → post (some (.int 0)) σ) : VM (true, Gx) d iX7_in 0 [some (.long (match b[i]? with | some c => nI c | none => -1 : Int32).toInt64), none, some (.long l1), none, some (.long l2), none] [] σ post := by
  refine vm_inI (a := nI lo) (b := nI hi) e1 e2 (fun b1 b2 => ?_) (fun hno => ?_)
  · cases hc : b[i]? with
    | none =>
      rw [hc] at b1
      exact absurd (Int32.le_trans (Int32.not_lt.mp (nI_pos (n := lo) (by omega))) b1) (by decide)
    | some c =>
      rw [hc] at b1 b2
      have hc256 := hX.lt hc
      dsimp only at b1 b2
      rw [nIle (by omega) (by omega)] at b1 b2
      exact hy c hc ((hP c).mpr ⟨b1, b2⟩)
  · cases hc : b[i]? with
    | none => exact hn (Or.inl hc)
    | some c =>
      rw [hc] at hno
      have hc256 := hX.lt hc
      dsimp only at hno
      rw [nIle (by omega) (by omega), nIle (by omega) (by omega)] at hno
      refine hn (Or.inr ⟨c, hc, ?_⟩)
      cases hb : P c with
      | false => rfl
      | true => exact absurd ((hP c).mp hb) hno
theorem vletter_iff (c : Nat) : vletter c = true ↔ 97 ≤ c ∧ c ≤ 122 := by simp only [vletter, Bool.and_eq_true, Nat.ble_eq]
theorem vdigit_iff (c : Nat) : vdigit c = true ↔ 48 ≤ c ∧ c ≤ 57 := by simp only [vdigit, Bool.and_eq_true, Nat.ble_eq]
/-- vspan, a step -/
theorem vspan_yes {P : Nat → Bool} {n i c : Nat} (hc : b[i]? = some c) (hP : P c = true) : vspan P b (n + 1) i = vspan P b n (i + 1) := by
  show (match b[i]? with | some c => if P c then vspan P b n (i + 1) else i | none => i) = _
  rw [hc]; exact if_pos hP
theorem vspan_no {P : Nat → Bool} {n i : Nat} (h : b[i]? = none ∨ ∃ c, b[i]? = some c ∧ P c = false) : vspan P b n i = i := by
  cases n with
  | zero => rfl
  | succ n =>
    show (match b[i]? with | some c => if P c then vspan P b n (i + 1) else i | none => i) = _
    rcases h with h | ⟨c, h, h2⟩
    · rw [h]
    · rw [h]; exact if_neg (by rw [h2]; decide)
/-- the letters of a word are gone over -/
theorem vm_nextW {p : Nat} {y1 y2 : Option Value} (hX : vMx b t σ) (h : ∀ σ', vagI vMp σ σ' → σ'.1 58 25 = nI (vspan vletter b b.length p) → σ'.1 58 26 = σ.1 58 26 → σ'.1 58 27 = σ.1 58 27 → (∀ k, ¬ k = 25 → σ'.1 58 k = σ.1 58 k) → post none σ') (hp : p ≤ b.length) (e : σ.1 58 25 = nI p) : VM (true, Gx) (d + 1) iX7_next 100 [some (.ref 58), y1, y2] [] σ post := by
  have h160 := hX.1
  obtain ⟨N, hN⟩ : ∃ N, N = vspan vletter b b.length p := ⟨_, rfl⟩
  rw [← hN] at h
  have key : ∀ n i s2, vagI vMp σ s2 → (∀ k, ¬ k = 25 → s2.1 58 k = σ.1 58 k) → s2.1 58 25 = nI i → i ≤ b.length → b.length ≤ i + n → vspan vletter b n i = N → VM (true, Gx) (d + 1) iX7_next 100 [some (.ref 58), y1, y2] [] s2 post := by
    intro n
    induction n with
    | zero =>
      intro i s2 hs2 hk e5 hib hin hv
      have hv' : i = N := hv
      have hX2 := hX.ag hs2
      have hnone : b[i]? = none := List.getElem?_eq_none (by omega)
      have fin := h s2 hs2 (by rw [← hv']; exact e5) (hk 26 (by decide)) (hk 27 (by decide)) hk
      refine VM.go [] ⟨_, VM.at (vm_byteH hib hX2 e5 ?_), fun _ _ hh => hh⟩
      refine ⟨_, VM.at (vm_inC hX2 vletter_iff (by decide) (by decide) (by decide) (by decide) (fun c hc _ => by rw [hnone] at hc; cases hc) (fun _ => ?_)), fun _ _ hh => hh⟩
      exact ⟨fun _ => fin, fun q => absurd rfl q⟩
    | succ n ih =>
      intro i s2 hs2 hk e5 hib hin hv
      have hX2 := hX.ag hs2
      refine VM.go [100] ⟨_, VM.at (vm_byteH hib hX2 e5 ?_), fun _ _ hh => hh⟩
      refine ⟨_, VM.at (vm_inC hX2 vletter_iff (by decide) (by decide) (by decide) (by decide) (fun c hc hP => ?_) (fun hno => ?_)), fun _ _ hh => hh⟩
      · have hlt : i < b.length := (List.getElem?_eq_some_iff.mp hc).1
        rw [vspan_yes hc hP] at hv
        have := ih (i + 1) (vput s2 58 25 (nI (i + 1))) (hs2.put rfl) (fun k hk' => by rw [vput_ne (Or.inr hk')]; exact hk k hk') rfl (by omega) (by omega) hv
        rw [← nI_1, ← e5] at this
        exact ⟨fun q => absurd q (by decide), fun _ => VM.at (VM.go [100] this)⟩
      · rw [vspan_no hno] at hv
        have fin := h s2 hs2 (by rw [← hv]; exact e5) (hk 26 (by decide)) (hk 27 (by decide)) hk
        exact ⟨fun _ => fin, fun q => absurd rfl q⟩
  exact key b.length p σ vagI.rf (fun _ _ => rfl) e hp (by omega) hN.symm
theorem nI_l8 {c : Nat} (hc : c < 256) : (nI c).toInt64 = lN c := nI_l (by omega)
/-- the digits of a number -/
theorem vm_nextN {p : Nat} {x1 : Int32} (hX : vMx b t σ) (hp : p ≤ b.length) (e : σ.1 58 25 = nI p) (e28 : σ.2 58 28 = lN 0) (h : ∀ σ', vagI vMp σ σ' → σ'.1 58 25 = nI (vspan vdigit b b.length p) → σ'.1 58 26 = (if 4 < vspan vdigit b b.length p - p then 4 else 2) → (vspan vdigit b b.length p - p ≤ 4 → σ'.2 58 28 = lN (vnumV ((b.drop p).take (vspan vdigit b b.length p - p)))) → (∀ k, ¬ k = 25 → ¬ k = 26 → σ'.1 58 k = σ.1 58 k) → post none σ') : VM (true, Gx) (d + 1) iX7_next 160 [some (.ref 58), some (.int x1), some (.int (nI 0))] [] σ post := by
  have h160 := hX.1
  obtain ⟨N, hN⟩ : ∃ N, N = vspan vdigit b b.length p := ⟨_, rfl⟩
  rw [← hN] at h
  have fin : ∀ m s2, vagI vMp σ s2 → (∀ k, ¬ k = 25 → s2.1 58 k = σ.1 58 k) → s2.1 58 25 = nI N → m = N - p → p ≤ N → N ≤ b.length → (m ≤ 4 → s2.2 58 28 = lN (vnumV ((b.drop p).take m))) → VM (true, Gx) (d + 1) iX7_next 235 [some (.ref 58), some (.int x1), some (.int (nI m))] [] s2 post := by
    intro m s2 hs2 hk e5 hm h1 h2 hw
    subst hm
    refine VM.go [] ⟨fun q => ?_, fun q => ?_⟩
    · have q' : nI (N - p) ≤ nI 4 := q
      rw [nIle (by omega) (by decide)] at q'
      refine h (vput s2 58 26 2) (hs2.put rfl) e5 ?_ (fun _ => hw q') (fun k k1 k2 => by rw [vput_ne (Or.inr k2)]; exact hk k k1)
      rw [if_neg (by omega)]; rfl
    · have q' : ¬ nI (N - p) ≤ nI 4 := q
      rw [nIle (by omega) (by decide)] at q'
      refine h (vput s2 58 26 4) (hs2.put rfl) e5 ?_ (fun z => absurd z q') (fun k k1 k2 => by rw [vput_ne (Or.inr k2)]; exact hk k k1)
      rw [if_pos (by omega)]; rfl
  have key : ∀ n i s2, vagI vMp σ s2 → (∀ k, ¬ k = 25 → s2.1 58 k = σ.1 58 k) → s2.1 58 25 = nI i → p ≤ i → i ≤ b.length → b.length ≤ i + n → vspan vdigit b n i = N → (i - p ≤ 4 → s2.2 58 28 = lN (vnumV ((b.drop p).take (i - p)))) → VM (true, Gx) (d + 1) iX7_next 160 [some (.ref 58), some (.int x1), some (.int (nI (i - p)))] [] s2 post := by
    intro n
    induction n with
    | zero =>
      intro i s2 hs2 hk e5 hpi hib hin hv hw
      have hv' : i = N := hv
      have hX2 := hX.ag hs2
      have hnone : b[i]? = none := List.getElem?_eq_none (by omega)
      refine VM.go [235] ⟨_, VM.at (vm_byteH hib hX2 e5 ?_), fun _ _ hh => hh⟩
      refine ⟨_, VM.at (vm_inC hX2 vdigit_iff (by decide) (by decide) (by decide) (by decide) (fun c hc _ => by rw [hnone] at hc; cases hc) (fun _ => ?_)), fun _ _ hh => hh⟩
      exact ⟨fun _ => VM.at (fin (i - p) s2 hs2 hk (by rw [← hv']; exact e5) (by rw [hv']) (by rw [← hv']; exact hpi) (by rw [← hv']; exact hib) hw), fun q => absurd rfl q⟩
    | succ n ih =>
      intro i s2 hs2 hk e5 hpi hib hin hv hw
      have hX2 := hX.ag hs2
      refine VM.go [160, 235] ⟨_, VM.at (vm_byteH hib hX2 e5 ?_), fun _ _ hh => hh⟩
      refine ⟨_, VM.at (vm_inC hX2 vdigit_iff (by decide) (by decide) (by decide) (by decide) (fun c hc hP => ?_) (fun hno => ?_)), fun _ _ hh => hh⟩
      · have hlt : i < b.length := (List.getElem?_eq_some_iff.mp hc).1
        have hc256 := hX.lt hc
        have hdig := (vdigit_iff c).mp hP
        rw [vspan_yes hc hP] at hv
        have g1 := nI_1 (i - p)
        refine ⟨fun q => absurd q (by decide), fun _ => ⟨fun q => ?_, fun q => ⟨_, VM.at (vm_byteH hib hX2 e5 ?_), fun _ _ hh => hh⟩⟩⟩
        · have q' : nI 4 ≤ nI (i - p) := q
          rw [nIle (by decide) (by omega)] at q'
          have := ih (i + 1) (vput (vputL s2 58 28 (s2.2 58 28)) 58 25 (nI (i + 1))) (hs2.putL.put rfl) (fun k hk' => by rw [vput_ne (Or.inr hk')]; exact hk k hk') rfl (by omega) (by omega) (by omega) hv (fun z => by omega)
          rw [show i + 1 - p = (i - p) + 1 by omega, ← g1, ← nI_1 i, ← e5] at this
          exact this
        · rw [hc]
          dsimp only
          have q' : ¬ nI 4 ≤ nI (i - p) := q
          rw [nIle (by decide) (by omega)] at q'
          have hw' := hw (by omega)
          have := ih (i + 1) (vput (vputL s2 58 28 (lN (vnumV ((b.drop p).take (i + 1 - p))))) 58 25 (nI (i + 1))) (hs2.putL.put rfl) (fun k hk' => by rw [vput_ne (Or.inr hk')]; exact hk k hk') rfl (by omega) (by omega) (by omega) hv (fun _ => vputL_eq _ _ _ _)
          rw [vtk_succ hpi hc, vnumV_app, show 10 * vnumV ((b.drop p).take (i - p)) + (c - 48) = 10 * vnumV ((b.drop p).take (i - p)) + c - 48 by omega, ← lN_sub (show 48 ≤ 10 * vnumV ((b.drop p).take (i - p)) + c by omega), ← lN_add, ← lN_mul, ← hw', ← nI_l8 hc256, show i + 1 - p = (i - p) + 1 by omega, ← g1, ← nI_1 i, ← e5] at this
          exact this
      · rw [vspan_no hno] at hv
        exact ⟨fun _ => VM.at (fin (i - p) s2 hs2 hk (by rw [← hv]; exact e5) (by rw [hv]) (by rw [← hv]; exact hpi) (by rw [← hv]; exact hib) hw), fun q => absurd rfl q⟩
  have k0 := key b.length p σ vagI.rf (fun _ _ => rfl) e (Nat.le_refl _) hp (by omega) hN.symm (fun _ => by rw [Nat.sub_self]; exact e28)
  rw [Nat.sub_self] at k0
  exact k0
theorem vm_inN {P : Nat → Bool} {lo hi c : Nat} {l1 l2 : Int64} (hc : c < 256) (hP : ∀ c, P c = true ↔ lo ≤ c ∧ c ≤ hi) (hlo : lo ≤ hi) (h256 : hi < 256) (e1 : l1 = (nI lo).toInt64) (e2 : l2 = (nI hi).toInt64) (hy : P c = true → post (some (.int 1)) σ) (hn : P c = false → post (some (.int 0)) σ) : VM (true, Gx) d iX7_in 0 [some (.long (nI c).toInt64), none, some (.long l1), none, some (.long l2), none] [] σ post := by
  refine vm_inI (a := nI lo) (b := nI hi) e1 e2 (fun b1 b2 => ?_) (fun hno => ?_)
  · rw [nIle (by omega) (by omega)] at b1 b2
    exact hy ((hP c).mpr ⟨b1, b2⟩)
  · rw [nIle (by omega) (by omega), nIle (by omega) (by omega)] at hno
    refine hn ?_
    cases hb : P c with
    | false => rfl
    | true => exact absurd ((hP c).mp hb) hno
theorem vm_next {s : vPS} (hf : vpF s = none) (hX : vMx b t σ) (hNl : vpN s ≤ b.length) (e : σ.1 58 25 = nI (vpN s)) (h : ∀ σ', vagI vMp σ σ' → σ'.1 58 27 = nI (vpP (vpAdv b s)) → vMk b (vpT (vpAdv b s)) (vpV (vpAdv b s)) (vpP (vpAdv b s)) (vpN (vpAdv b s)) σ' → (∀ k, k < 25 ∨ 28 < k → σ'.1 58 k = σ.1 58 k) → post none σ') : VM (true, Gx) (d + 1) iX7_next 0 [some (.ref 58), none, none] [] σ post := by
  have h160 := hX.1
  obtain ⟨p, hp⟩ : ∃ p, p = vspan vblank b b.length (vpN s) := ⟨_, rfl⟩
  obtain ⟨hp1, hp2⟩ := vspan_le (P := vblank) b.length (vpN s) hNl
  rw [← hp] at hp1 hp2
  have es : vpAdv b s = ((vlex b (vpN s)).2.2.2, (vlex b (vpN s)).1, (vlex b (vpN s)).2.1, (vlex b (vpN s)).2.2.1, none, vpC s) := by unfold vpAdv; rw [hf]
  have done : ∀ σ' tk v pl nx, vlex b (vpN s) = (tk, v, pl, nx) → vagI vMp σ σ' → σ'.1 58 27 = nI pl → vMk b tk v pl nx σ' → (∀ k, k < 25 ∨ 28 < k → σ'.1 58 k = σ.1 58 k) → post none σ' := by
    intro σ' tk v pl nx ev hs g27 gk g
    have h' := h σ' hs
    rw [es, ev] at h'
    exact h' g27 gk g
  have at39 : ∀ s2, vagI vMp σ s2 → (∀ k, ¬ k = 25 → s2.1 58 k = σ.1 58 k) → s2.1 58 25 = nI p → VM (true, Gx) (d + 1) iX7_next 39 [some (.ref 58), none, none] [] s2 post := by
    intro s2 hs2 hk e5
    have hs3 : vagI vMp σ (vput s2 58 27 (s2.1 58 25)) := hs2.put rfl
    have hX3 := hX.ag hs3
    have hs4 : vagI vMp σ (vput (vput s2 58 27 (s2.1 58 25)) 58 26 4) := hs3.put rfl
    refine VM.go [100, 160, 300] ⟨_, VM.at (vm_byteH (σ := vput s2 58 27 (s2.1 58 25)) hp2 hX3 e5 ?_), fun _ _ hh => hh⟩
    cases hc : b[p]? with
    | none =>
      dsimp only
      have hpe : p = b.length := by have := List.getElem?_eq_none_iff.mp hc; omega
      refine ⟨fun q => absurd q (by decide), fun _ => ?_⟩
      refine done _ 0 0 p p (vlex_none hp hc) ((hs4.put (a := 58) (k := 26) rfl).put (a := 58) (k := 27) rfl) ?_ (Or.inl ⟨rfl, ?_⟩) (fun k hk' => ?_)
      · rw [vput_eq]
        show s2.1 58 24 = nI p
        rw [hk 24 (by decide), hX.2.2.2.2.1, hpe]
      · rfl
      · rw [vput_ne (Or.inr (by omega)), vput_ne (Or.inr (by omega)), vput_ne (Or.inr (by omega)), vput_ne (Or.inr (by omega))]
        exact hk k (by omega)
    | some c =>
      dsimp only
      have hplt : p < b.length := (List.getElem?_eq_some_iff.mp hc).1
      have hc256 := hX.lt hc
      refine ⟨fun _ => ?_, fun q => absurd (Int32.not_lt.mp (nI_pos (by omega))) q⟩
      refine ⟨_, VM.at (vm_inN hc256 vletter_iff (by decide) (by decide) (by decide) (by decide) (fun hl => ?_) (fun hl => ?_)), fun _ _ hh => hh⟩
      · refine ⟨fun q => absurd q (by decide), fun _ => ?_⟩
        have hj := vspan_le (P := vletter) b.length p hp2
        have hgt := vspan_gt hc hl
        have hall : ∀ x ∈ (b.drop p).take (vspan vletter b b.length p - p), vletter x = true := fun x hx => by
          obtain ⟨k, hk', rfl⟩ := List.mem_iff_getElem.mp hx
          rw [List.length_take, List.length_drop] at hk'
          obtain ⟨c', g1, g2⟩ := vspan_all (P := vletter) (b := b) b.length p (p + k) (by omega) (by omega)
          rw [List.getElem_take, List.getElem_drop]
          have e : b[p + k]? = some (b[p + k]'(by omega)) := List.getElem?_eq_getElem _
          rw [e] at g1
          cases g1
          exact g2
        have hs5 : vagI vMp σ (vput (vput (vput s2 58 27 (s2.1 58 25)) 58 26 4) 58 26 1) := hs4.put rfl
        refine VM.at (VM.go [100] ?_)
        refine vm_nextW (σ := vput (vput (vput s2 58 27 (s2.1 58 25)) 58 26 4) 58 26 1) (hX.ag hs5) (fun s6 hs6 g5 g6 g7 gk => ?_) hp2 e5
        exact done s6 _ _ p _ (vlex_let hp hc hl) (hs5.tr hs6) (g7.trans e5) (Or.inr (Or.inr (Or.inl ⟨by omega, hj.2, hall, rfl, rfl, g6, g5⟩))) (fun k hk' => by
          rw [gk k (by omega), vput_ne (Or.inr (by omega)), vput_ne (Or.inr (by omega)), vput_ne (Or.inr (by omega))]
          exact hk k (by omega))
      · refine ⟨fun _ => ⟨_, VM.at (vm_inN hc256 vdigit_iff (by decide) (by decide) (by decide) (by decide) (fun hd => ?_) (fun hd => ?_)), fun _ _ hh => hh⟩, fun q => absurd rfl q⟩
        · refine ⟨fun q => absurd q (by decide), fun _ => ?_⟩
          have hs5 : vagI vMp σ (vputL (vput (vput (vput s2 58 27 (s2.1 58 25)) 58 26 4) 58 26 2) 58 28 (lN 0)) := (hs4.put rfl).putL
          refine VM.at (VM.go [160] ?_)
          have hlx := vlex_num hp hc hl hd
          have hok := (vlex_ok b (vpN s)).1
          rw [hlx] at hok
          refine vm_nextN (σ := vputL (vput (vput (vput s2 58 27 (s2.1 58 25)) 58 26 4) 58 26 2) 58 28 (lN 0)) (hX.ag hs5) hp2 e5 (vputL_e _ _ _ _) (fun s6 hs6 g5 g6 g28 gk => ?_)
          refine done s6 _ _ p _ hlx (hs5.tr hs6) ((gk 27 (by decide) (by decide)).trans e5) ?_ (fun k hk' => ?_)
          · by_cases z : 4 < vspan vdigit b b.length p - p
            · rw [if_pos z] at g6 ⊢
              exact Or.inr (Or.inr (Or.inr (Or.inr ⟨rfl, g6⟩)))
            · rw [if_neg z] at g6 ⊢
              exact Or.inr (Or.inl ⟨rfl, hok (if_neg z), g6, g28 (by omega), g5⟩)
          · rw [gk k (by omega) (by omega)]
            show (vput (vput (vput s2 58 27 (s2.1 58 25)) 58 26 4) 58 26 2).1 58 k = _
            rw [vput_ne (Or.inr (by omega)), vput_ne (Or.inr (by omega)), vput_ne (Or.inr (by omega))]
            exact hk k (by omega)
        · have hlx := vlex_sign hp hc hl hd
          have en : ∀ x : Nat, x < 256 → nI c = nI x → c = x := fun x hx q => (nI_eq (by omega) (by omega)).mp q
          have nn : ∀ x : Nat, ¬ nI c = nI x → ¬ c = x := fun x q z => q (by rw [z])
          have es8 : vsign c = true ↔ c = 40 ∨ c = 41 ∨ c = 59 ∨ c = 43 ∨ c = 45 ∨ c = 42 ∨ c = 60 ∨ c = 61 := by simp only [vsign, Bool.or_eq_true, vbq]
          have sg : vsign c = true → VM (true, Gx) (d + 1) iX7_next 300 [some (.ref 58), some (.int (nI c)), none] [] (vput (vput s2 58 27 (s2.1 58 25)) 58 26 4) post := fun hg => by
            rw [if_pos hg] at hlx
            refine VM.go [] ?_
            refine done _ _ _ p _ hlx ((hs4.put (a := 58) (k := 26) (v := 3) rfl).putL.put (a := 58) (k := 25) rfl) e5 (Or.inr (Or.inr (Or.inr (Or.inl ⟨c, hc256, hg, rfl, rfl, ?_, ?_⟩)))) (fun k hk' => ?_)
            · rw [← nI_l8 hc256]
              exact vputL_eq _ _ _ _
            · rw [vput_eq, ← nI_1, ← e5]; rfl
            · rw [vput_ne (Or.inr (by omega))]
              show (vput (vput (vput s2 58 27 (s2.1 58 25)) 58 26 4) 58 26 3).1 58 k = _
              rw [vput_ne (Or.inr (by omega)), vput_ne (Or.inr (by omega)), vput_ne (Or.inr (by omega))]
              exact hk k (by omega)
          refine ⟨fun _ => ?_, fun q => absurd rfl q⟩
          refine ⟨fun q => sg (es8.mpr (Or.inl (en 40 (by decide) q))), fun q1 => ⟨fun q => sg (es8.mpr (Or.inr (Or.inl (en 41 (by decide) q)))), fun q2 => ⟨fun q => sg (es8.mpr (Or.inr (Or.inr (Or.inl (en 59 (by decide) q))))), fun q3 => ⟨fun q => sg (es8.mpr (Or.inr (Or.inr (Or.inr (Or.inl (en 43 (by decide) q)))))), fun q4 => ⟨fun q => sg (es8.mpr (Or.inr (Or.inr (Or.inr (Or.inr (Or.inl (en 45 (by decide) q))))))), fun q5 => ⟨fun q => sg (es8.mpr (Or.inr (Or.inr (Or.inr (Or.inr (Or.inr (Or.inl (en 42 (by decide) q)))))))), fun q6 => ⟨fun q => sg (es8.mpr (Or.inr (Or.inr (Or.inr (Or.inr (Or.inr (Or.inr (Or.inl (en 60 (by decide) q))))))))), fun q7 => ⟨fun q8 => ?_, fun q => sg (es8.mpr (Or.inr (Or.inr (Or.inr (Or.inr (Or.inr (Or.inr (Or.inr (en 61 (by decide) q)))))))))⟩⟩⟩⟩⟩⟩⟩⟩
          have hng : ¬ vsign c = true := fun z => by
            rcases es8.mp z with z | z | z | z | z | z | z | z
            · exact nn 40 q1 z
            · exact nn 41 q2 z
            · exact nn 59 q3 z
            · exact nn 43 q4 z
            · exact nn 45 q5 z
            · exact nn 42 q6 z
            · exact nn 60 q7 z
            · exact nn 61 q8 z
          rw [if_neg hng] at hlx
          refine done _ _ _ p _ hlx hs4 e5 (Or.inr (Or.inr (Or.inr (Or.inr ⟨rfl, rfl⟩)))) (fun k hk' => ?_)
          rw [vput_ne (Or.inr (by omega)), vput_ne (Or.inr (by omega))]
          exact hk k (by omega)
  have key : ∀ n i s2, vagI vMp σ s2 → (∀ k, ¬ k = 25 → s2.1 58 k = σ.1 58 k) → s2.1 58 25 = nI i → i ≤ b.length → b.length ≤ i + n → vspan vblank b n i = p → VM (true, Gx) (d + 1) iX7_next 0 [some (.ref 58), none, none] [] s2 post := by
    intro n
    induction n with
    | zero =>
      intro i s2 hs2 hk e5 hib hin hv
      have hv' : i = p := hv
      have hX2 := hX.ag hs2
      have hnone : b[i]? = none := List.getElem?_eq_none (by omega)
      have g := at39 s2 hs2 hk (by rw [← hv']; exact e5)
      refine VM.go [39] ⟨_, VM.at (vm_byteH hib hX2 e5 ?_), fun _ _ hh => hh⟩
      rw [hnone]
      refine ⟨fun q => absurd q (by decide), fun _ => ⟨_, VM.at (vm_byteH hib hX2 e5 ?_), fun _ _ hh => hh⟩⟩
      rw [hnone]
      exact ⟨fun _ => VM.at g, fun q => absurd q (by decide)⟩
    | succ n ih =>
      intro i s2 hs2 hk e5 hib hin hv
      have hX2 := hX.ag hs2
      refine VM.go [26, 39] ⟨_, VM.at (vm_byteH hib hX2 e5 ?_), fun _ _ hh => hh⟩
      cases hc : b[i]? with
      | none =>
        rw [vspan_no (Or.inl hc)] at hv
        have g := at39 s2 hs2 hk (by rw [← hv]; exact e5)
        dsimp only
        refine ⟨fun q => absurd q (by decide), fun _ => ⟨_, VM.at (vm_byteH hib hX2 e5 ?_), fun _ _ hh => hh⟩⟩
        rw [hc]
        exact ⟨fun _ => VM.at g, fun q => absurd q (by decide)⟩
      | some c =>
        dsimp only
        have hlt : i < b.length := (List.getElem?_eq_some_iff.mp hc).1
        have hc256 := hX.lt hc
        have eb : vblank c = true ↔ c = 32 ∨ c = 10 := by simp only [vblank, Bool.or_eq_true, vbq]
        have yes : vblank c = true → VM (true, Gx) (d + 1) iX7_next 26 [some (.ref 58), none, none] [] s2 post := fun q => by
          rw [vspan_yes hc q] at hv
          have := ih (i + 1) (vput s2 58 25 (nI (i + 1))) (hs2.put rfl) (fun k hk' => by rw [vput_ne (Or.inr hk')]; exact hk k hk') rfl (by omega) (by omega) hv
          rw [← nI_1, ← e5] at this
          exact VM.go [0] this
        refine ⟨fun q => VM.at (yes (eb.mpr (Or.inl ((nI_eq (by omega) (by decide)).mp (show nI c = nI 32 from q))))), fun q => ⟨_, VM.at (vm_byteH hib hX2 e5 ?_), fun _ _ hh => hh⟩⟩
        rw [hc]
        refine ⟨fun q2 => ?_, fun q2 => VM.at (yes (eb.mpr (Or.inr ((nI_eq (by omega) (by decide)).mp (show nI c = nI 10 from q2)))))⟩
        have hno : vblank c = false := by
          cases hb : vblank c with
          | false => rfl
          | true =>
            rcases eb.mp hb with z | z
            · exact absurd (by rw [z]; rfl) q
            · exact absurd (by rw [z]; rfl) q2
        rw [vspan_no (Or.inr ⟨c, hc, hno⟩)] at hv
        exact VM.at (at39 s2 hs2 hk (by rw [← hv]; exact e5))
  exact key b.length (vpN s) σ vagI.rf (fun _ _ => rfl) e hNl (by omega) hp.symm
end RX
