section
variable {L : Nat} {xs : Nat → Int32} {J : am_J}
theorem c_within (hJ : am_Cl am_meth L xs J) {d : Nat} {v lo hi : Int32} {I : am_I} {Q : am_Q} (h : Q (some (.int (if lo ≤ v ∧ v ≤ hi then 1 else 0))) I) : J d q_X_within 0 [some (.int v), some (.int lo), some (.int hi)] [] I Q := by
  refine am_vc hJ 12 _ _ _ _ _ _ _ ?_
  refine ⟨fun h1 => ?_, fun h1 => ⟨fun h2 => ?_, fun h2 => ?_⟩⟩
  · sorry
  · sorry
  · sorry
end
