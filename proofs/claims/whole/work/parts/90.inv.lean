/-! the law's two objects agree at the start -/
def st_u : am_U := fun j => if j = 1 ∨ j = 4 then 12 else if j = 5 then 1 else if 10 ≤ j ∧ j < 26 then 4 else if 32 ≤ j ∧ j < 38 then 5 else 0
theorem st_mrep : MRep st_I 67 st_u := by
  have h : ∀ j : Fin 322, st_I 67 j = nI (st_u j) := by decide +kernel
  exact fun j hj => h ⟨j, hj⟩
theorem st_rrep : RRep st_I 8 st_u := by
  refine ⟨?_, fun _ => 0, rfl, fun r hr => ?_⟩
  · unfold Rel
    decide +kernel
  · exact absurd hr (by show ¬ r < st_u 7; rw [show st_u 7 = 0 from rfl]; omega)
theorem st_crep : CRep st_I 9 st_u := by
  refine ⟨by unfold Rel; decide +kernel, ?_, by decide +kernel⟩
  have h : ∀ k : Fin 6, am_nib (st_I 9 4) (nI k) = nI (st_u (42 + 6 * k)) := by decide +kernel
  exact fun k hk => h ⟨k, hk⟩
theorem st_oku : OKu st_u := by
  refine ⟨by decide +kernel, by decide, by decide, fun k hk => absurd hk (by show ¬ k < st_u 6; rw [show st_u 6 = 0 from rfl]; omega), fun k f _ hk hf => ?_⟩
  show st_u _ = 0
  unfold st_u
  rw [if_neg (by omega), if_neg (by omega), if_neg (by omega), if_neg (by omega)]
theorem st_rest : Rest st_I := by
  refine ⟨⟨0, by decide, by decide +kernel, by decide +kernel, fun j hj => absurd hj (Nat.not_lt_zero j)⟩, ⟨0, by decide, by decide +kernel, by decide +kernel, fun j hj => absurd hj (by omega)⟩, ?_, ?_, ⟨0, by decide, by decide +kernel, by decide +kernel, fun j hj => absurd hj (Nat.not_lt_zero j)⟩, ?_⟩
  · have h : ∀ h : Fin 4, st_I 54 h = -1 ∧ st_I 81 h = -1 := by decide +kernel
    exact fun k hk => Or.inl (h ⟨k, hk⟩)
  · have h : ∀ h : Fin 4, st_I 61 h = 2 ∧ st_I 84 h = -1 := by decide +kernel
    exact fun k hk => Or.inl (h ⟨k, hk⟩)
  · have h : ∀ w : Fin 18, ∀ k : Fin 8, st_I 72 (8 * w + k) = nI ((am_ml.getD w []).getD k 0) := by decide +kernel
    exact fun w k hw hk => h ⟨w, hw⟩ ⟨k, hk⟩
theorem st_inv : Inv st_I := ⟨st_u, st_u, ⟨st_mrep, st_rrep, st_crep, st_oku⟩, ⟨by decide +kernel, Or.inl (by decide +kernel)⟩, st_rest⟩
