section
variable {L : Nat} {xs : Nat → Int32} {J : am_J}
theorem op_ends (hJ : am_Cl am_meth L xs J) (a : Int32) : am_same Inv J q_X_ends q_M_ends [.int a] := by
  intro I hI Qc hQc
  obtain ⟨u, uk, hMn, hK, hRs⟩ := id hI
  obtain ⟨hM, hR, hC, hO⟩ := id hMn
  have hd := hO.b 0 16 (by decide)
  have c0 : I 9 0 = nI (u 0) := hC.1.get 9 0 0 (by decide)
  have m0 : I 67 0 = nI (u 0) := hM 0 (by decide)
  by_cases h1 : (1 : Int32) ≤ a ∧ a ≤ 16
  · obtain ⟨n, hn, rfl⟩ := am_rng (N := 16) rfl (by decide) ⟨Int32.le_trans (by decide) h1.1, h1.2⟩
    have hn1 : 1 ≤ n := by
      have := h1.1
      rw [show (1 : Int32) = nI 1 from rfl, nI_leI (by decide) (by omega)] at this
      exact this
    by_cases h2 : u 0 ≤ n
    · have g1 : I 9 0 ≤ nI n := by rw [c0]; exact nI_le h2 (by omega)
      have g2 : I 67 0 ≤ nI n := by rw [m0]; exact nI_le h2 (by omega)
      repeat (
        (try conv => whnf)
        first
          | refine ⟨am_vin (by decide), ?_⟩
          | refine ⟨(by assumption : vp_in _ _), ?_⟩
          | refine br_f (by decide) ?_
          | refine br_t (by decide) ?_
          | refine br_t (by assumption) ?_
          | refine br_f (by assumption) ?_
          | refine x_withinY hJ (by assumption) ?_
          | refine x_withinN hJ (by assumption) ?_
          | refine m_in1Y hJ (by assumption) ?_
          | refine m_in1N hJ (by assumption) ?_
          | refine m_isGateY hJ (by assumption) ?_
          | refine m_isGateN hJ (by assumption) ?_
          | refine m_isDigitY hJ (by assumption) ?_
          | refine m_isDigitN hJ (by assumption) ?_
          | refine m_isNeedY hJ (by assumption) ?_
          | refine m_isNeedN hJ (by assumption) ?_
          | refine m_isPlanY hJ (by assumption) ?_
          | refine m_isPlanN hJ (by assumption) ?_
          | refine m_isSheetY hJ (by assumption) ?_
          | refine m_isSheetN hJ (by assumption) ?_
          | refine x_isSheetY hJ (by assumption) ?_
          | refine x_isSheetN hJ (by assumption) ?_
          | refine x_isShelfY hJ (by assumption) ?_
          | refine x_isShelfN hJ (by assumption) ?_
          | refine x_hasY hJ (by assumption) (by assumption) (by assumption) ?_
          | refine x_hasN hJ (by assumption) (by assumption) (by assumption) ?_
          | refine m_isPersonY hJ (by assumption) (by assumption) (by assumption) ?_
          | refine m_isPersonN hJ (by assumption) (by assumption) (by assumption) ?_
          | refine am_vc hJ 120 40 _ _ _ _ _ _ ?_
          | refine ⟨_, rfl, ?_⟩)
      refine m_becomes hJ (p := 1) rfl (by decide) ?_
      refine ⟨?_, hQc _ (Inv_up hMn hK hRs (by decide +kernel) ?_ rfl)⟩
      · show some (Value.int (I 67 1)) = some (Value.int (I 8 10))
        rw [hM 1 (by decide), hR.1.get 8 10 1 (by decide)]
      · exact OKu.up1 hO h2 hn1 hn
    · have g1 : ¬ I 9 0 ≤ nI n := by rw [c0, nI_leI (by omega) (by omega)]; exact h2
      have g2 : ¬ I 67 0 ≤ nI n := by rw [m0, nI_leI (by omega) (by omega)]; exact h2
      repeat (
        (try conv => whnf)
        first
          | refine ⟨am_vin (by decide), ?_⟩
          | refine ⟨(by assumption : vp_in _ _), ?_⟩
          | refine br_f (by decide) ?_
          | refine br_t (by decide) ?_
          | refine br_t (by assumption) ?_
          | refine br_f (by assumption) ?_
          | refine x_withinY hJ (by assumption) ?_
          | refine x_withinN hJ (by assumption) ?_
          | refine m_in1Y hJ (by assumption) ?_
          | refine m_in1N hJ (by assumption) ?_
          | refine m_isGateY hJ (by assumption) ?_
          | refine m_isGateN hJ (by assumption) ?_
          | refine m_isDigitY hJ (by assumption) ?_
          | refine m_isDigitN hJ (by assumption) ?_
          | refine m_isNeedY hJ (by assumption) ?_
          | refine m_isNeedN hJ (by assumption) ?_
          | refine m_isPlanY hJ (by assumption) ?_
          | refine m_isPlanN hJ (by assumption) ?_
          | refine m_isSheetY hJ (by assumption) ?_
          | refine m_isSheetN hJ (by assumption) ?_
          | refine x_isSheetY hJ (by assumption) ?_
          | refine x_isSheetN hJ (by assumption) ?_
          | refine x_isShelfY hJ (by assumption) ?_
          | refine x_isShelfN hJ (by assumption) ?_
          | refine x_hasY hJ (by assumption) (by assumption) (by assumption) ?_
          | refine x_hasN hJ (by assumption) (by assumption) (by assumption) ?_
          | refine m_isPersonY hJ (by assumption) (by assumption) (by assumption) ?_
          | refine m_isPersonN hJ (by assumption) (by assumption) (by assumption) ?_
          | refine am_vc hJ 120 40 _ _ _ _ _ _ ?_
          | refine ⟨_, rfl, ?_⟩)
      exact ⟨rfl, hQc _ hI⟩
  · repeat (
      (try conv => whnf)
      first
        | refine ⟨am_vin (by decide), ?_⟩
        | refine ⟨(by assumption : vp_in _ _), ?_⟩
        | refine br_f (by decide) ?_
        | refine br_t (by decide) ?_
        | refine br_t (by assumption) ?_
        | refine br_f (by assumption) ?_
        | refine x_withinY hJ (by assumption) ?_
        | refine x_withinN hJ (by assumption) ?_
        | refine m_in1Y hJ (by assumption) ?_
        | refine m_in1N hJ (by assumption) ?_
        | refine m_isGateY hJ (by assumption) ?_
        | refine m_isGateN hJ (by assumption) ?_
        | refine m_isDigitY hJ (by assumption) ?_
        | refine m_isDigitN hJ (by assumption) ?_
        | refine m_isNeedY hJ (by assumption) ?_
        | refine m_isNeedN hJ (by assumption) ?_
        | refine m_isPlanY hJ (by assumption) ?_
        | refine m_isPlanN hJ (by assumption) ?_
        | refine m_isSheetY hJ (by assumption) ?_
        | refine m_isSheetN hJ (by assumption) ?_
        | refine x_isSheetY hJ (by assumption) ?_
        | refine x_isSheetN hJ (by assumption) ?_
        | refine x_isShelfY hJ (by assumption) ?_
        | refine x_isShelfN hJ (by assumption) ?_
        | refine x_hasY hJ (by assumption) (by assumption) (by assumption) ?_
        | refine x_hasN hJ (by assumption) (by assumption) (by assumption) ?_
        | refine m_isPersonY hJ (by assumption) (by assumption) (by assumption) ?_
        | refine m_isPersonN hJ (by assumption) (by assumption) (by assumption) ?_
        | refine am_vc hJ 120 40 _ _ _ _ _ _ ?_
        | refine ⟨_, rfl, ?_⟩)
    exact ⟨rfl, hQc _ hI⟩
end
