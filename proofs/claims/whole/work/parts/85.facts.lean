/-! what holds at the law's entry -/
section
variable {s : State} {args : Array Value}
theorem st_inst : ∀ (ci : Nat) (q : vw_C), vwCl[ci]? = some q → Cond.instantiable q.1 q.2.2 ∈ am_tb := by
  intro ci q h
  match ci, h with
  | 0, h => cases h; exact tb_in (by decide +kernel)
  | 1, h => cases h; exact tb_in (by decide +kernel)
  | 2, h => cases h; exact tb_in (by decide +kernel)
  | 3, h => cases h; exact tb_in (by decide +kernel)
  | 4, h => cases h; exact tb_in (by decide +kernel)
  | 5, h => cases h; exact tb_in (by decide +kernel)
  | 6, h => cases h; exact tb_in (by decide +kernel)
  | 7, h => cases h; exact tb_in (by decide +kernel)
  | 8, h => cases h; exact tb_in (by decide +kernel)
  | 9, h => cases h; exact tb_in (by decide +kernel)
  | 10, h => cases h; exact tb_in (by decide +kernel)
  | 11, h => cases h; exact tb_in (by decide +kernel)
  | 12, h => cases h; exact tb_in (by decide +kernel)
  | n + 13, h => simp [vwCl] at h
theorem st_tb (h : ∀ w ∈ lw_tbl, w.before args s = true) : ∀ w ∈ am_tb, w.before args s = true := fun w hw => h w (List.mem_filter.mp hw).1
theorem st_arr (h : ∀ w ∈ lw_tbl, w.before args s = true) : ∀ ty : FieldType, ∃ c : ClassId, ty ∈ am_tl → ArrOfT s c ty ∧ va_RA s c ty := by
  intro ty
  by_cases ht : ty ∈ am_tl
  · have hh : ∃ c : ClassId, ArrOfT s c ty ∧ va_RA s c ty := by
      simp only [am_tl, List.mem_cons, List.not_mem_nil, or_false] at ht
      rcases ht with rfl | rfl | rfl | rfl | rfl | rfl
      · obtain ⟨c, k, comp, h1, h2, h3⟩ := Cond.arrayClass_spec (h (.arrayClass .int) (by decide +kernel))
        exact ⟨c, fun n z => ⟨fun k h => (by cases h), k, h2, comp, h3⟩, h1⟩
      · obtain ⟨c, k, comp, h1, h2, h3⟩ := Cond.arrayClass_spec (h (.arrayClass .byte) (by decide +kernel))
        exact ⟨c, fun n z => ⟨fun k h => (by cases h), k, h2, comp, h3⟩, h1⟩
      · obtain ⟨c, k, comp, h1, h2, h3⟩ := Cond.arrayClass_spec (h (.arrayClass .char) (by decide +kernel))
        exact ⟨c, fun n z => ⟨fun k h => (by cases h), k, h2, comp, h3⟩, h1⟩
      · obtain ⟨comp, c, k, h1, -, h2, h3, h4⟩ := Cond.arrayOver_spec (h (.arrayOver (.object "BrokenLoaves$Person")) (by decide +kernel))
        exact ⟨c, fun n z => ⟨fun k h => (by cases h), k, h2, comp, h3⟩, k, comp, h2, h3, h1, h4⟩
      · obtain ⟨comp, c, k, h1, -, h2, h3, h4⟩ := Cond.arrayOver_spec (h (.arrayOver (.object "BrokenLoaves$Course")) (by decide +kernel))
        exact ⟨c, fun n z => ⟨fun k h => (by cases h), k, h2, comp, h3⟩, k, comp, h2, h3, h1, h4⟩
      · obtain ⟨comp, c, k, h1, -, h2, h3, h4⟩ := arrayOverA_spec (h (.arrayOver (.array .int)) (by decide +kernel))
        exact ⟨c, fun n z => ⟨fun k h => (by cases h), k, h2, comp, h3⟩, h4⟩
    obtain ⟨c, hc⟩ := hh
    exact ⟨c, fun _ => hc⟩
  · exact ⟨0, fun z => absurd z ht⟩
theorem st_K (h : ∀ w ∈ lw_tbl, w.before args s = true) : ∃ (D : va_G) (cA : FieldType → ClassId), va_K D vwCl (am_tys cA) s := by
  have h1 : ∀ ci : Nat, ∃ x : ClassId × (Nat → Nat), ∀ q : vw_C, vwCl[ci]? = some q → u_Kn s q.1 q.2.1 q.2.2 x.1 x.2 := by
    intro ci
    cases hq : vwCl[ci]? with
    | none => exact ⟨(0, fun _ => 0), fun q e => by cases e⟩
    | some q =>
      obtain ⟨cC, iS, hk⟩ := u_known (st_tb h) (am_cls ci q hq).1 (st_tb h _ (st_inst ci q hq))
      exact ⟨(cC, iS), fun q' e => by cases e; exact hk⟩
  obtain ⟨f, hf⟩ := Classical.axiomOfChoice h1
  obtain ⟨cA, hA⟩ := Classical.axiomOfChoice (st_arr h)
  refine ⟨(fun ci => (f ci).1, fun ci => (f ci).2), cA, fun c q hq => hf c q hq, fun k q hk => ?_⟩
  unfold am_tys at hk
  rw [List.getElem?_map, Option.map_eq_some_iff] at hk
  obtain ⟨ty, hty, rfl⟩ := hk
  exact hA ty (List.mem_of_getElem? hty)
theorem st_X (h : ∀ w ∈ lw_tbl, w.before args s = true) : cm_X s := by
  refine ⟨va_AO.of (h (.arrayOver (.object "BrokenLoaves$Person")) (by decide +kernel)), va_AO.of (h (.arrayOver (.object "BrokenLoaves$Course")) (by decide +kernel)), ?_, ?_⟩
  · intro ci hci q hq
    simp only [List.mem_cons, List.not_mem_nil, or_false] at hci
    rcases hci with rfl | rfl | rfl | rfl | rfl <;> cases hq <;> exact va_Nw.of rfl (h _ (by decide +kernel))
  · obtain ⟨comp, c, k, h1, -, h2, h3, h4⟩ := arrayOverA_spec (h (.arrayOver (.array .int)) (by decide +kernel))
    exact ⟨c, comp, k, h4, h2, h3, h1⟩
theorem st_nw : cm_nw.all (fun x => decide (Cond.methodLinkNest x.1 x.2.1 x.2.2 "BrokenLoaves" ∈ lw_tbl)) = true := by decide +kernel
theorem st_N (h : ∀ w ∈ lw_tbl, w.before args s = true) : cm_N s := by
  intro x hx
  have h1 := List.all_eq_true.mp st_nw x hx
  rw [decide_eq_true_eq] at h1
  exact va_Nw.of rfl (h _ h1)
theorem st_nest (h : ∀ w ∈ lw_tbl, w.before args s = true) : ∀ q ∈ am_nest, va_Nw (.methodLinkNest q.1 q.2.1 q.2.2.1 q.2.2.2) s := by
  intro q hq
  simp only [am_nest, List.mem_cons, List.not_mem_nil, or_false] at hq
  rcases hq with rfl | rfl <;> exact va_Nw.of rfl (h _ (by decide +kernel))
end
