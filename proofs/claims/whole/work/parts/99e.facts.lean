/-! ===== THE LAW'S ENTRY: what is given of classes, strings, statics ===== -/
section EN
variable {s : State} {args : Array Value}
theorem vg_inst : ∀ k, k < 8 → Cond.instantiable (vcn k) (vfN k) ∈ wsL_law := by decide +kernel
theorem vg_K (h5 : ∀ w ∈ wsL_law, w.before args s = true) (a4 : va_AO RX4 s) (a3 : va_AO RX3 s) : ∃ (D : va_G) (cI cZ cU cO : ClassId), va_K D vwCl (vtyC cI cZ cU cO) s := by
  have hk : ∀ k : Nat, ∃ c : ClassId × (Nat → Nat), ∀ q, vwCl[k]? = some q → u_Kn s q.1 q.2.1 q.2.2 c.1 c.2 := by
    intro k
    by_cases hl : k < 8
    · obtain ⟨cC, iS, h⟩ := u_known (ws := wsL_law) (args := args) h5 (vin_at hl) (h5 _ (vg_inst k hl))
      refine ⟨(cC, iS), fun q hq => ?_⟩
      rw [vcl_at hl] at hq
      cases hq
      exact h
    · refine ⟨(0, fun _ => 0), fun q hq => ?_⟩
      rw [List.getElem?_eq_none (by show 8 ≤ k; omega)] at hq
      cases hq
  obtain ⟨dd, hdd⟩ := Classical.axiomOfChoice hk
  obtain ⟨cI, kI, mI, i1, i2, i3⟩ := Cond.arrayClass_spec (type := .int) (h5 _ vw_arrI)
  obtain ⟨cZ, kZ, mZ, z1, z2, z3⟩ := Cond.arrayClass_spec (type := .boolean) (h5 _ vw_arrZ)
  obtain ⟨mU, cU, kU, u1, -, u3, u4, u5⟩ := Cond.arrayOver_spec (va_AO.use (A := args) a4)
  obtain ⟨mO, cO, kO, o1, -, o3, o4, o5⟩ := Cond.arrayOver_spec (va_AO.use (A := args) a3)
  refine ⟨(fun k => (dd k).1, fun k => (dd k).2), cI, cZ, cU, cO, fun k q hq => hdd k q hq, fun k q hq => ?_⟩
  match k, hq with
  | 0, hq => cases hq; exact ⟨fun n z => ⟨fun k h => (by cases h), kI, i2, mI, i3⟩, i1⟩
  | 1, hq => cases hq; exact ⟨fun n z => ⟨fun k h => (by cases h), kZ, z2, mZ, z3⟩, z1⟩
  | 2, hq => cases hq; exact ⟨fun n z => ⟨fun k h => (by cases h), kU, u3, mU, u4⟩, kU, mU, u3, u4, u1, u5⟩
  | 3, hq => cases hq; exact ⟨fun n z => ⟨fun k h => (by cases h), kO, o3, mO, o4⟩, kO, mO, o3, o4, o1, o5⟩
  | k + 4, hq => simp [vtyC] at hq
end EN
theorem zz_dummy : True := trivial
