section
variable {L : Nat} {xs : Nat → Int32} {J : am_J}
theorem op_seed (hJ : am_Cl am_meth L xs J) (a : Int32) : am_same Inv J q_X_seed q_M_seed [.int a] := by
  intro I hI Qc hQc
  obtain ⟨u, uk, hMn, hK, hRs⟩ := id hI
  obtain ⟨hM, hR, hC, hO⟩ := id hMn
  repeat (
    (try conv => whnf)
    first
      | refine ⟨am_vin (by decide), ?_⟩
      | refine ⟨(by assumption : vp_in _ _), ?_⟩
      | refine br_f (by decide) ?_
      | refine br_t (by decide) ?_
      | refine br_t (by assumption) ?_
      | refine br_f (by assumption) ?_
      | refine x_withinY hJ (by assumption) ?_
      | refine x_withinN hJ (by assumption) ?_
      | refine m_in1Y hJ (by assumption) ?_
      | refine m_in1N hJ (by assumption) ?_
      | refine m_isGateY hJ (by assumption) ?_
      | refine m_isGateN hJ (by assumption) ?_
      | refine m_isDigitY hJ (by assumption) ?_
      | refine m_isDigitN hJ (by assumption) ?_
      | refine m_isNeedY hJ (by assumption) ?_
      | refine m_isNeedN hJ (by assumption) ?_
      | refine m_isPlanY hJ (by assumption) ?_
      | refine m_isPlanN hJ (by assumption) ?_
      | refine m_isSheetY hJ (by assumption) ?_
      | refine m_isSheetN hJ (by assumption) ?_
      | refine x_isSheetY hJ (by assumption) ?_
      | refine x_isSheetN hJ (by assumption) ?_
      | refine x_isShelfY hJ (by assumption) ?_
      | refine x_isShelfN hJ (by assumption) ?_
      | refine x_hasY hJ (by assumption) (by assumption) (by assumption) ?_
      | refine x_hasN hJ (by assumption) (by assumption) (by assumption) ?_
      | refine m_isPersonY hJ (by assumption) (by assumption) (by assumption) ?_
      | refine m_isPersonN hJ (by assumption) (by assumption) (by assumption) ?_
      | refine am_vc hJ 120 40 _ _ _ _ _ _ ?_
      | refine ⟨_, rfl, ?_⟩)
  refine m_becomes hJ (p := 5) rfl (by decide) ?_
  refine ⟨?_, hQc _ (Inv_up (n := a.toBitVec.toNat) hMn hK hRs (by decide +kernel) ?_ ?_)⟩
  · show some (Value.int (I 67 5)) = some (Value.int (I 8 11))
    rw [hM 5 (by decide), hR.1.get 8 11 5 (by decide)]
  · refine OKu.up0 hO (fun q hq e => ?_) (by decide)
    have : ∀ q ∈ OKb, q.1 ≠ 5 := by decide +kernel
    exact absurd e (this q hq)
  · exact am_nIof a
theorem op_forget (hJ : am_Cl am_meth L xs J) : am_same Inv J q_X_forget q_M_forget [] := by
  intro I hI Qc hQc
  obtain ⟨u, uk, hMn, hK, hRs⟩ := id hI
  obtain ⟨hM, hR, hC, hO⟩ := id hMn
  repeat (
    (try conv => whnf)
    first
      | refine ⟨am_vin (by decide), ?_⟩
      | refine ⟨(by assumption : vp_in _ _), ?_⟩
      | refine br_f (by decide) ?_
      | refine br_t (by decide) ?_
      | refine br_t (by assumption) ?_
      | refine br_f (by assumption) ?_
      | refine x_withinY hJ (by assumption) ?_
      | refine x_withinN hJ (by assumption) ?_
      | refine m_in1Y hJ (by assumption) ?_
      | refine m_in1N hJ (by assumption) ?_
      | refine m_isGateY hJ (by assumption) ?_
      | refine m_isGateN hJ (by assumption) ?_
      | refine m_isDigitY hJ (by assumption) ?_
      | refine m_isDigitN hJ (by assumption) ?_
      | refine m_isNeedY hJ (by assumption) ?_
      | refine m_isNeedN hJ (by assumption) ?_
      | refine m_isPlanY hJ (by assumption) ?_
      | refine m_isPlanN hJ (by assumption) ?_
      | refine m_isSheetY hJ (by assumption) ?_
      | refine m_isSheetN hJ (by assumption) ?_
      | refine x_isSheetY hJ (by assumption) ?_
      | refine x_isSheetN hJ (by assumption) ?_
      | refine x_isShelfY hJ (by assumption) ?_
      | refine x_isShelfN hJ (by assumption) ?_
      | refine x_hasY hJ (by assumption) (by assumption) (by assumption) ?_
      | refine x_hasN hJ (by assumption) (by assumption) (by assumption) ?_
      | refine m_isPersonY hJ (by assumption) (by assumption) (by assumption) ?_
      | refine m_isPersonN hJ (by assumption) (by assumption) (by assumption) ?_
      | refine am_vc hJ 120 40 _ _ _ _ _ _ ?_
      | refine ⟨_, rfl, ?_⟩)
  refine m_becomes hJ (p := 8) rfl (by decide) ?_
  refine ⟨?_, hQc _ (Inv_up (n := 0) hMn hK hRs (by decide +kernel) ?_ rfl)⟩
  · show some (Value.int (I 67 8)) = some (Value.int (I 8 15))
    rw [hM 8 (by decide), hR.1.get 8 15 8 (by decide)]
  · exact OKu.up0 hO (fun q hq e => Nat.zero_le _) (by decide)
theorem op_weather (hJ : am_Cl am_meth L xs J) (a b : Int32) : am_same Inv J q_X_weather q_M_weather [.int a, .int b] := by
  intro I hI Qc hQc
  obtain ⟨u, uk, hMn, hK, hRs⟩ := id hI
  obtain ⟨hM, hR, hC, hO⟩ := id hMn
  by_cases h1 : (0 : Int32) ≤ a ∧ a ≤ 15
  · by_cases h2 : (0 : Int32) ≤ b ∧ b ≤ 15
    · obtain ⟨k, hk, rfl⟩ := am_rng (N := 15) rfl (by decide) h1
      obtain ⟨n, hn, rfl⟩ := am_rng (N := 15) rfl (by decide) h2
      have g1 : vp_in (nI k) 16 := vp_in_nI (by omega) (by omega)
      have ht : am_t 14 k (10 + k) = true := by
        have : ∀ k, k < 16 → am_t 14 k (10 + k) = true := by decide +kernel
        exact this k (by omega)
      repeat (
        (try conv => whnf)
        first
          | refine ⟨am_vin (by decide), ?_⟩
          | refine ⟨(by assumption : vp_in _ _), ?_⟩
          | refine br_f (by decide) ?_
          | refine br_t (by decide) ?_
          | refine br_t (by assumption) ?_
          | refine br_f (by assumption) ?_
          | refine x_withinY hJ (by assumption) ?_
          | refine x_withinN hJ (by assumption) ?_
          | refine m_in1Y hJ (by assumption) ?_
          | refine m_in1N hJ (by assumption) ?_
          | refine m_isGateY hJ (by assumption) ?_
          | refine m_isGateN hJ (by assumption) ?_
          | refine m_isDigitY hJ (by assumption) ?_
          | refine m_isDigitN hJ (by assumption) ?_
          | refine m_isNeedY hJ (by assumption) ?_
          | refine m_isNeedN hJ (by assumption) ?_
          | refine m_isPlanY hJ (by assumption) ?_
          | refine m_isPlanN hJ (by assumption) ?_
          | refine m_isSheetY hJ (by assumption) ?_
          | refine m_isSheetN hJ (by assumption) ?_
          | refine x_isSheetY hJ (by assumption) ?_
          | refine x_isSheetN hJ (by assumption) ?_
          | refine x_isShelfY hJ (by assumption) ?_
          | refine x_isShelfN hJ (by assumption) ?_
          | refine x_hasY hJ (by assumption) (by assumption) (by assumption) ?_
          | refine x_hasN hJ (by assumption) (by assumption) (by assumption) ?_
          | refine m_isPersonY hJ (by assumption) (by assumption) (by assumption) ?_
          | refine m_isPersonN hJ (by assumption) (by assumption) (by assumption) ?_
          | refine am_vc hJ 120 40 _ _ _ _ _ _ ?_
          | refine ⟨_, rfl, ?_⟩)
      refine m_becomes hJ (p := 10 + k) (nI_add 10 k) (by omega) ?_
      rw [nI_clamp (by omega)]
      refine ⟨?_, hQc _ (Inv_up (n := n) hMn hK hRs ht ?_ rfl)⟩
      · show some (Value.int (am_put I 14 k (nI n) 67 (10 + k))) = some (Value.int (I 14 k))
        rw [am_put_o (by decide), hM (10 + k) (by omega), hMn.get ht]
      · refine OKu.up0 hO (fun q hq e => ?_) (by omega)
        have : ∀ q ∈ OKb, 10 ≤ q.1 → q.1 < 26 → q.2 = 15 := by decide +kernel
        rw [this q hq (by omega) (by omega)]; exact hn
    · repeat (
        (try conv => whnf)
        first
          | refine ⟨am_vin (by decide), ?_⟩
          | refine ⟨(by assumption : vp_in _ _), ?_⟩
          | refine br_f (by decide) ?_
          | refine br_t (by decide) ?_
          | refine br_t (by assumption) ?_
          | refine br_f (by assumption) ?_
          | refine x_withinY hJ (by assumption) ?_
          | refine x_withinN hJ (by assumption) ?_
          | refine m_in1Y hJ (by assumption) ?_
          | refine m_in1N hJ (by assumption) ?_
          | refine m_isGateY hJ (by assumption) ?_
          | refine m_isGateN hJ (by assumption) ?_
          | refine m_isDigitY hJ (by assumption) ?_
          | refine m_isDigitN hJ (by assumption) ?_
          | refine m_isNeedY hJ (by assumption) ?_
          | refine m_isNeedN hJ (by assumption) ?_
          | refine m_isPlanY hJ (by assumption) ?_
          | refine m_isPlanN hJ (by assumption) ?_
          | refine m_isSheetY hJ (by assumption) ?_
          | refine m_isSheetN hJ (by assumption) ?_
          | refine x_isSheetY hJ (by assumption) ?_
          | refine x_isSheetN hJ (by assumption) ?_
          | refine x_isShelfY hJ (by assumption) ?_
          | refine x_isShelfN hJ (by assumption) ?_
          | refine x_hasY hJ (by assumption) (by assumption) (by assumption) ?_
          | refine x_hasN hJ (by assumption) (by assumption) (by assumption) ?_
          | refine m_isPersonY hJ (by assumption) (by assumption) (by assumption) ?_
          | refine m_isPersonN hJ (by assumption) (by assumption) (by assumption) ?_
          | refine am_vc hJ 120 40 _ _ _ _ _ _ ?_
          | refine ⟨_, rfl, ?_⟩)
      exact ⟨rfl, hQc _ hI⟩
  · repeat (
      (try conv => whnf)
      first
        | refine ⟨am_vin (by decide), ?_⟩
        | refine ⟨(by assumption : vp_in _ _), ?_⟩
        | refine br_f (by decide) ?_
        | refine br_t (by decide) ?_
        | refine br_t (by assumption) ?_
        | refine br_f (by assumption) ?_
        | refine x_withinY hJ (by assumption) ?_
        | refine x_withinN hJ (by assumption) ?_
        | refine m_in1Y hJ (by assumption) ?_
        | refine m_in1N hJ (by assumption) ?_
        | refine m_isGateY hJ (by assumption) ?_
        | refine m_isGateN hJ (by assumption) ?_
        | refine m_isDigitY hJ (by assumption) ?_
        | refine m_isDigitN hJ (by assumption) ?_
        | refine m_isNeedY hJ (by assumption) ?_
        | refine m_isNeedN hJ (by assumption) ?_
        | refine m_isPlanY hJ (by assumption) ?_
        | refine m_isPlanN hJ (by assumption) ?_
        | refine m_isSheetY hJ (by assumption) ?_
        | refine m_isSheetN hJ (by assumption) ?_
        | refine x_isSheetY hJ (by assumption) ?_
        | refine x_isSheetN hJ (by assumption) ?_
        | refine x_isShelfY hJ (by assumption) ?_
        | refine x_isShelfN hJ (by assumption) ?_
        | refine x_hasY hJ (by assumption) (by assumption) (by assumption) ?_
        | refine x_hasN hJ (by assumption) (by assumption) (by assumption) ?_
        | refine m_isPersonY hJ (by assumption) (by assumption) (by assumption) ?_
        | refine m_isPersonN hJ (by assumption) (by assumption) (by assumption) ?_
        | refine am_vc hJ 120 40 _ _ _ _ _ _ ?_
        | refine ⟨_, rfl, ?_⟩)
    exact ⟨rfl, hQc _ hI⟩
theorem am_t15 : ∀ k, k < 6 → am_t 15 k (26 + k) = true ∧ am_t 16 k (32 + k) = true := by decide +kernel
theorem am_t10 : ∀ k, k < 6 → am_t 10 k (38 + 6 * k) = true ∧ am_t 11 k (39 + 6 * k) = true ∧ am_t 12 k (40 + 6 * k) = true ∧ am_t 13 k (41 + 6 * k) = true := by decide +kernel
theorem op_gateOf (hJ : am_Cl am_meth L xs J) (a b : Int32) : am_same Inv J q_X_gateOf q_M_gateOf [.int a, .int b] := by
  intro I hI Qc hQc
  obtain ⟨u, uk, hMn, hK, hRs⟩ := id hI
  obtain ⟨hM, hR, hC, hO⟩ := id hMn
  by_cases h1 : (0 : Int32) ≤ a ∧ a ≤ 5
  · by_cases h2 : (0 : Int32) ≤ b ∧ b ≤ 1
    · obtain ⟨k, hk, rfl⟩ := am_rng (N := 5) rfl (by decide) h1
      have g1 : vp_in (nI k) 6 := vp_in_nI (by omega) (by omega)
      have e1 : (26 : Int32) + nI k = nI (26 + k) := nI_add 26 k
      have e2 : (32 : Int32) + nI k = nI (32 + k) := nI_add 32 k
      have g2 : vp_in (26 + nI k) 322 := am_vinN e1 (by omega) (by omega)
      have g3 : vp_in (32 + nI k) 322 := am_vinN e2 (by omega) (by omega)
      by_cases h3 : b = 0
      · repeat (
          (try conv => whnf)
          first
            | refine ⟨am_vin (by decide), ?_⟩
            | refine ⟨(by assumption : vp_in _ _), ?_⟩
            | refine br_f (by decide) ?_
            | refine br_t (by decide) ?_
            | refine br_t (by assumption) ?_
            | refine br_f (by assumption) ?_
            | refine x_withinY hJ (by assumption) ?_
            | refine x_withinN hJ (by assumption) ?_
            | refine m_in1Y hJ (by assumption) ?_
            | refine m_in1N hJ (by assumption) ?_
            | refine m_isGateY hJ (by assumption) ?_
            | refine m_isGateN hJ (by assumption) ?_
            | refine m_isDigitY hJ (by assumption) ?_
            | refine m_isDigitN hJ (by assumption) ?_
            | refine m_isNeedY hJ (by assumption) ?_
            | refine m_isNeedN hJ (by assumption) ?_
            | refine m_isPlanY hJ (by assumption) ?_
            | refine m_isPlanN hJ (by assumption) ?_
            | refine m_isSheetY hJ (by assumption) ?_
            | refine m_isSheetN hJ (by assumption) ?_
            | refine x_isSheetY hJ (by assumption) ?_
            | refine x_isSheetN hJ (by assumption) ?_
            | refine x_isShelfY hJ (by assumption) ?_
            | refine x_isShelfN hJ (by assumption) ?_
            | refine x_hasY hJ (by assumption) (by assumption) (by assumption) ?_
            | refine x_hasN hJ (by assumption) (by assumption) (by assumption) ?_
            | refine m_isPersonY hJ (by assumption) (by assumption) (by assumption) ?_
            | refine m_isPersonN hJ (by assumption) (by assumption) (by assumption) ?_
            | refine am_vc hJ 120 40 _ _ _ _ _ _ ?_
            | refine ⟨_, rfl, ?_⟩)
        refine ⟨?_, hQc _ hI⟩
        show some (Value.int (I 67 (26 + nI k).toNatClampNeg)) = some (Value.int (I 15 (nI k).toNatClampNeg))
        rw [am_clN e1 (by omega), nI_clamp (by omega), hM _ (by omega), hMn.get (am_t15 k (by omega)).1]
      · repeat (
          (try conv => whnf)
          first
            | refine ⟨am_vin (by decide), ?_⟩
            | refine ⟨(by assumption : vp_in _ _), ?_⟩
            | refine br_f (by decide) ?_
            | refine br_t (by decide) ?_
            | refine br_t (by assumption) ?_
            | refine br_f (by assumption) ?_
            | refine x_withinY hJ (by assumption) ?_
            | refine x_withinN hJ (by assumption) ?_
            | refine m_in1Y hJ (by assumption) ?_
            | refine m_in1N hJ (by assumption) ?_
            | refine m_isGateY hJ (by assumption) ?_
            | refine m_isGateN hJ (by assumption) ?_
            | refine m_isDigitY hJ (by assumption) ?_
            | refine m_isDigitN hJ (by assumption) ?_
            | refine m_isNeedY hJ (by assumption) ?_
            | refine m_isNeedN hJ (by assumption) ?_
            | refine m_isPlanY hJ (by assumption) ?_
            | refine m_isPlanN hJ (by assumption) ?_
            | refine m_isSheetY hJ (by assumption) ?_
            | refine m_isSheetN hJ (by assumption) ?_
            | refine x_isSheetY hJ (by assumption) ?_
            | refine x_isSheetN hJ (by assumption) ?_
            | refine x_isShelfY hJ (by assumption) ?_
            | refine x_isShelfN hJ (by assumption) ?_
            | refine x_hasY hJ (by assumption) (by assumption) (by assumption) ?_
            | refine x_hasN hJ (by assumption) (by assumption) (by assumption) ?_
            | refine m_isPersonY hJ (by assumption) (by assumption) (by assumption) ?_
            | refine m_isPersonN hJ (by assumption) (by assumption) (by assumption) ?_
            | refine am_vc hJ 120 40 _ _ _ _ _ _ ?_
            | refine ⟨_, rfl, ?_⟩)
        refine ⟨?_, hQc _ hI⟩
        show some (Value.int (I 67 (32 + nI k).toNatClampNeg)) = some (Value.int (I 16 (nI k).toNatClampNeg))
        rw [am_clN e2 (by omega), nI_clamp (by omega), hM _ (by omega), hMn.get (am_t15 k (by omega)).2]
    · repeat (
        (try conv => whnf)
        first
          | refine ⟨am_vin (by decide), ?_⟩
          | refine ⟨(by assumption : vp_in _ _), ?_⟩
          | refine br_f (by decide) ?_
          | refine br_t (by decide) ?_
          | refine br_t (by assumption) ?_
          | refine br_f (by assumption) ?_
          | refine x_withinY hJ (by assumption) ?_
          | refine x_withinN hJ (by assumption) ?_
          | refine m_in1Y hJ (by assumption) ?_
          | refine m_in1N hJ (by assumption) ?_
          | refine m_isGateY hJ (by assumption) ?_
          | refine m_isGateN hJ (by assumption) ?_
          | refine m_isDigitY hJ (by assumption) ?_
          | refine m_isDigitN hJ (by assumption) ?_
          | refine m_isNeedY hJ (by assumption) ?_
          | refine m_isNeedN hJ (by assumption) ?_
          | refine m_isPlanY hJ (by assumption) ?_
          | refine m_isPlanN hJ (by assumption) ?_
          | refine m_isSheetY hJ (by assumption) ?_
          | refine m_isSheetN hJ (by assumption) ?_
          | refine x_isSheetY hJ (by assumption) ?_
          | refine x_isSheetN hJ (by assumption) ?_
          | refine x_isShelfY hJ (by assumption) ?_
          | refine x_isShelfN hJ (by assumption) ?_
          | refine x_hasY hJ (by assumption) (by assumption) (by assumption) ?_
          | refine x_hasN hJ (by assumption) (by assumption) (by assumption) ?_
          | refine m_isPersonY hJ (by assumption) (by assumption) (by assumption) ?_
          | refine m_isPersonN hJ (by assumption) (by assumption) (by assumption) ?_
          | refine am_vc hJ 120 40 _ _ _ _ _ _ ?_
          | refine ⟨_, rfl, ?_⟩)
      exact ⟨rfl, hQc _ hI⟩
  · repeat (
      (try conv => whnf)
      first
        | refine ⟨am_vin (by decide), ?_⟩
        | refine ⟨(by assumption : vp_in _ _), ?_⟩
        | refine br_f (by decide) ?_
        | refine br_t (by decide) ?_
        | refine br_t (by assumption) ?_
        | refine br_f (by assumption) ?_
        | refine x_withinY hJ (by assumption) ?_
        | refine x_withinN hJ (by assumption) ?_
        | refine m_in1Y hJ (by assumption) ?_
        | refine m_in1N hJ (by assumption) ?_
        | refine m_isGateY hJ (by assumption) ?_
        | refine m_isGateN hJ (by assumption) ?_
        | refine m_isDigitY hJ (by assumption) ?_
        | refine m_isDigitN hJ (by assumption) ?_
        | refine m_isNeedY hJ (by assumption) ?_
        | refine m_isNeedN hJ (by assumption) ?_
        | refine m_isPlanY hJ (by assumption) ?_
        | refine m_isPlanN hJ (by assumption) ?_
        | refine m_isSheetY hJ (by assumption) ?_
        | refine m_isSheetN hJ (by assumption) ?_
        | refine x_isSheetY hJ (by assumption) ?_
        | refine x_isSheetN hJ (by assumption) ?_
        | refine x_isShelfY hJ (by assumption) ?_
        | refine x_isShelfN hJ (by assumption) ?_
        | refine x_hasY hJ (by assumption) (by assumption) (by assumption) ?_
        | refine x_hasN hJ (by assumption) (by assumption) (by assumption) ?_
        | refine m_isPersonY hJ (by assumption) (by assumption) (by assumption) ?_
        | refine m_isPersonN hJ (by assumption) (by assumption) (by assumption) ?_
        | refine am_vc hJ 120 40 _ _ _ _ _ _ ?_
        | refine ⟨_, rfl, ?_⟩)
    exact ⟨rfl, hQc _ hI⟩
theorem op_gate (hJ : am_Cl am_meth L xs J) (a b c : Int32) : am_same Inv J q_X_gate q_M_gate [.int a, .int b, .int c] := by
  intro I hI Qc hQc
  obtain ⟨u, uk, hMn, hK, hRs⟩ := id hI
  obtain ⟨hM, hR, hC, hO⟩ := id hMn
  by_cases h1 : (0 : Int32) ≤ a ∧ a ≤ 5
  · by_cases h2 : (0 : Int32) ≤ b ∧ b ≤ 1
    · by_cases h4 : (0 : Int32) ≤ c ∧ c ≤ 9
      · obtain ⟨k, hk, rfl⟩ := am_rng (N := 5) rfl (by decide) h1
        obtain ⟨n, hn, rfl⟩ := am_rng (N := 9) rfl (by decide) h4
        have g1 : vp_in (nI k) 6 := vp_in_nI (by omega) (by omega)
        have hb : ∀ q ∈ OKb, 26 ≤ q.1 → q.1 < 38 → q.2 = 9 := by decide +kernel
        by_cases h3 : b = 0
        · repeat (
            (try conv => whnf)
            first
              | refine ⟨am_vin (by decide), ?_⟩
              | refine ⟨(by assumption : vp_in _ _), ?_⟩
              | refine br_f (by decide) ?_
              | refine br_t (by decide) ?_
              | refine br_t (by assumption) ?_
              | refine br_f (by assumption) ?_
              | refine x_withinY hJ (by assumption) ?_
              | refine x_withinN hJ (by assumption) ?_
              | refine m_in1Y hJ (by assumption) ?_
              | refine m_in1N hJ (by assumption) ?_
              | refine m_isGateY hJ (by assumption) ?_
              | refine m_isGateN hJ (by assumption) ?_
              | refine m_isDigitY hJ (by assumption) ?_
              | refine m_isDigitN hJ (by assumption) ?_
              | refine m_isNeedY hJ (by assumption) ?_
              | refine m_isNeedN hJ (by assumption) ?_
              | refine m_isPlanY hJ (by assumption) ?_
              | refine m_isPlanN hJ (by assumption) ?_
              | refine m_isSheetY hJ (by assumption) ?_
              | refine m_isSheetN hJ (by assumption) ?_
              | refine x_isSheetY hJ (by assumption) ?_
              | refine x_isSheetN hJ (by assumption) ?_
              | refine x_isShelfY hJ (by assumption) ?_
              | refine x_isShelfN hJ (by assumption) ?_
              | refine x_hasY hJ (by assumption) (by assumption) (by assumption) ?_
              | refine x_hasN hJ (by assumption) (by assumption) (by assumption) ?_
              | refine m_isPersonY hJ (by assumption) (by assumption) (by assumption) ?_
              | refine m_isPersonN hJ (by assumption) (by assumption) (by assumption) ?_
              | refine am_vc hJ 120 40 _ _ _ _ _ _ ?_
              | refine ⟨_, rfl, ?_⟩)
          refine m_becomes hJ (p := 26 + k) (nI_add 26 k) (by omega) ?_
          rw [nI_clamp (by omega)]
          refine ⟨?_, hQc _ (Inv_up (n := n) hMn hK hRs (am_t15 k (by omega)).1 (OKu.up0 hO (fun q hq e => by rw [hb q hq (by omega) (by omega)]; exact hn) (by omega)) rfl)⟩
          rw [am_put_o (by decide), hM _ (by omega), hMn.get (am_t15 k (by omega)).1]
        · repeat (
            (try conv => whnf)
            first
              | refine ⟨am_vin (by decide), ?_⟩
              | refine ⟨(by assumption : vp_in _ _), ?_⟩
              | refine br_f (by decide) ?_
              | refine br_t (by decide) ?_
              | refine br_t (by assumption) ?_
              | refine br_f (by assumption) ?_
              | refine x_withinY hJ (by assumption) ?_
              | refine x_withinN hJ (by assumption) ?_
              | refine m_in1Y hJ (by assumption) ?_
              | refine m_in1N hJ (by assumption) ?_
              | refine m_isGateY hJ (by assumption) ?_
              | refine m_isGateN hJ (by assumption) ?_
              | refine m_isDigitY hJ (by assumption) ?_
              | refine m_isDigitN hJ (by assumption) ?_
              | refine m_isNeedY hJ (by assumption) ?_
              | refine m_isNeedN hJ (by assumption) ?_
              | refine m_isPlanY hJ (by assumption) ?_
              | refine m_isPlanN hJ (by assumption) ?_
              | refine m_isSheetY hJ (by assumption) ?_
              | refine m_isSheetN hJ (by assumption) ?_
              | refine x_isSheetY hJ (by assumption) ?_
              | refine x_isSheetN hJ (by assumption) ?_
              | refine x_isShelfY hJ (by assumption) ?_
              | refine x_isShelfN hJ (by assumption) ?_
              | refine x_hasY hJ (by assumption) (by assumption) (by assumption) ?_
              | refine x_hasN hJ (by assumption) (by assumption) (by assumption) ?_
              | refine m_isPersonY hJ (by assumption) (by assumption) (by assumption) ?_
              | refine m_isPersonN hJ (by assumption) (by assumption) (by assumption) ?_
              | refine am_vc hJ 120 40 _ _ _ _ _ _ ?_
              | refine ⟨_, rfl, ?_⟩)
          refine m_becomes hJ (p := 32 + k) (nI_add 32 k) (by omega) ?_
          rw [nI_clamp (by omega)]
          refine ⟨?_, hQc _ (Inv_up (n := n) hMn hK hRs (am_t15 k (by omega)).2 (OKu.up0 hO (fun q hq e => by rw [hb q hq (by omega) (by omega)]; exact hn) (by omega)) rfl)⟩
          rw [am_put_o (by decide), hM _ (by omega), hMn.get (am_t15 k (by omega)).2]
      · repeat (
          (try conv => whnf)
          first
            | refine ⟨am_vin (by decide), ?_⟩
            | refine ⟨(by assumption : vp_in _ _), ?_⟩
            | refine br_f (by decide) ?_
            | refine br_t (by decide) ?_
            | refine br_t (by assumption) ?_
            | refine br_f (by assumption) ?_
            | refine x_withinY hJ (by assumption) ?_
            | refine x_withinN hJ (by assumption) ?_
            | refine m_in1Y hJ (by assumption) ?_
            | refine m_in1N hJ (by assumption) ?_
            | refine m_isGateY hJ (by assumption) ?_
            | refine m_isGateN hJ (by assumption) ?_
            | refine m_isDigitY hJ (by assumption) ?_
            | refine m_isDigitN hJ (by assumption) ?_
            | refine m_isNeedY hJ (by assumption) ?_
            | refine m_isNeedN hJ (by assumption) ?_
            | refine m_isPlanY hJ (by assumption) ?_
            | refine m_isPlanN hJ (by assumption) ?_
            | refine m_isSheetY hJ (by assumption) ?_
            | refine m_isSheetN hJ (by assumption) ?_
            | refine x_isSheetY hJ (by assumption) ?_
            | refine x_isSheetN hJ (by assumption) ?_
            | refine x_isShelfY hJ (by assumption) ?_
            | refine x_isShelfN hJ (by assumption) ?_
            | refine x_hasY hJ (by assumption) (by assumption) (by assumption) ?_
            | refine x_hasN hJ (by assumption) (by assumption) (by assumption) ?_
            | refine m_isPersonY hJ (by assumption) (by assumption) (by assumption) ?_
            | refine m_isPersonN hJ (by assumption) (by assumption) (by assumption) ?_
            | refine am_vc hJ 120 40 _ _ _ _ _ _ ?_
            | refine ⟨_, rfl, ?_⟩)
        exact ⟨rfl, hQc _ hI⟩
    · repeat (
        (try conv => whnf)
        first
          | refine ⟨am_vin (by decide), ?_⟩
          | refine ⟨(by assumption : vp_in _ _), ?_⟩
          | refine br_f (by decide) ?_
          | refine br_t (by decide) ?_
          | refine br_t (by assumption) ?_
          | refine br_f (by assumption) ?_
          | refine x_withinY hJ (by assumption) ?_
          | refine x_withinN hJ (by assumption) ?_
          | refine m_in1Y hJ (by assumption) ?_
          | refine m_in1N hJ (by assumption) ?_
          | refine m_isGateY hJ (by assumption) ?_
          | refine m_isGateN hJ (by assumption) ?_
          | refine m_isDigitY hJ (by assumption) ?_
          | refine m_isDigitN hJ (by assumption) ?_
          | refine m_isNeedY hJ (by assumption) ?_
          | refine m_isNeedN hJ (by assumption) ?_
          | refine m_isPlanY hJ (by assumption) ?_
          | refine m_isPlanN hJ (by assumption) ?_
          | refine m_isSheetY hJ (by assumption) ?_
          | refine m_isSheetN hJ (by assumption) ?_
          | refine x_isSheetY hJ (by assumption) ?_
          | refine x_isSheetN hJ (by assumption) ?_
          | refine x_isShelfY hJ (by assumption) ?_
          | refine x_isShelfN hJ (by assumption) ?_
          | refine x_hasY hJ (by assumption) (by assumption) (by assumption) ?_
          | refine x_hasN hJ (by assumption) (by assumption) (by assumption) ?_
          | refine m_isPersonY hJ (by assumption) (by assumption) (by assumption) ?_
          | refine m_isPersonN hJ (by assumption) (by assumption) (by assumption) ?_
          | refine am_vc hJ 120 40 _ _ _ _ _ _ ?_
          | refine ⟨_, rfl, ?_⟩)
      exact ⟨rfl, hQc _ hI⟩
  · repeat (
      (try conv => whnf)
      first
        | refine ⟨am_vin (by decide), ?_⟩
        | refine ⟨(by assumption : vp_in _ _), ?_⟩
        | refine br_f (by decide) ?_
        | refine br_t (by decide) ?_
        | refine br_t (by assumption) ?_
        | refine br_f (by assumption) ?_
        | refine x_withinY hJ (by assumption) ?_
        | refine x_withinN hJ (by assumption) ?_
        | refine m_in1Y hJ (by assumption) ?_
        | refine m_in1N hJ (by assumption) ?_
        | refine m_isGateY hJ (by assumption) ?_
        | refine m_isGateN hJ (by assumption) ?_
        | refine m_isDigitY hJ (by assumption) ?_
        | refine m_isDigitN hJ (by assumption) ?_
        | refine m_isNeedY hJ (by assumption) ?_
        | refine m_isNeedN hJ (by assumption) ?_
        | refine m_isPlanY hJ (by assumption) ?_
        | refine m_isPlanN hJ (by assumption) ?_
        | refine m_isSheetY hJ (by assumption) ?_
        | refine m_isSheetN hJ (by assumption) ?_
        | refine x_isSheetY hJ (by assumption) ?_
        | refine x_isSheetN hJ (by assumption) ?_
        | refine x_isShelfY hJ (by assumption) ?_
        | refine x_isShelfN hJ (by assumption) ?_
        | refine x_hasY hJ (by assumption) (by assumption) (by assumption) ?_
        | refine x_hasN hJ (by assumption) (by assumption) (by assumption) ?_
        | refine m_isPersonY hJ (by assumption) (by assumption) (by assumption) ?_
        | refine m_isPersonN hJ (by assumption) (by assumption) (by assumption) ?_
        | refine am_vc hJ 120 40 _ _ _ _ _ _ ?_
        | refine ⟨_, rfl, ?_⟩)
    exact ⟨rfl, hQc _ hI⟩
theorem op_house (hJ : am_Cl am_meth L xs J) (a b : Int32) : am_same Inv J q_X_house q_M_house [.int a, .int b] := by
  intro I hI Qc hQc
  obtain ⟨u, uk, hMn, hK, hRs⟩ := id hI
  obtain ⟨hM, hR, hC, hO⟩ := id hMn
  by_cases h1 : (0 : Int32) ≤ a ∧ a ≤ 1
  · by_cases h3 : a = 0
    · subst h3
      by_cases h2 : (0 : Int32) ≤ b ∧ b ≤ 9
      · obtain ⟨n, hn, rfl⟩ := am_rng (N := 9) rfl (by decide) h2
        repeat (
          (try conv => whnf)
          first
            | refine ⟨am_vin (by decide), ?_⟩
            | refine ⟨(by assumption : vp_in _ _), ?_⟩
            | refine br_f (by decide) ?_
            | refine br_t (by decide) ?_
            | refine br_t (by assumption) ?_
            | refine br_f (by assumption) ?_
            | refine x_withinY hJ (by assumption) ?_
            | refine x_withinN hJ (by assumption) ?_
            | refine m_in1Y hJ (by assumption) ?_
            | refine m_in1N hJ (by assumption) ?_
            | refine m_isGateY hJ (by assumption) ?_
            | refine m_isGateN hJ (by assumption) ?_
            | refine m_isDigitY hJ (by assumption) ?_
            | refine m_isDigitN hJ (by assumption) ?_
            | refine m_isNeedY hJ (by assumption) ?_
            | refine m_isNeedN hJ (by assumption) ?_
            | refine m_isPlanY hJ (by assumption) ?_
            | refine m_isPlanN hJ (by assumption) ?_
            | refine m_isSheetY hJ (by assumption) ?_
            | refine m_isSheetN hJ (by assumption) ?_
            | refine x_isSheetY hJ (by assumption) ?_
            | refine x_isSheetN hJ (by assumption) ?_
            | refine x_isShelfY hJ (by assumption) ?_
            | refine x_isShelfN hJ (by assumption) ?_
            | refine x_hasY hJ (by assumption) (by assumption) (by assumption) ?_
            | refine x_hasN hJ (by assumption) (by assumption) (by assumption) ?_
            | refine m_isPersonY hJ (by assumption) (by assumption) (by assumption) ?_
            | refine m_isPersonN hJ (by assumption) (by assumption) (by assumption) ?_
            | refine am_vc hJ 120 40 _ _ _ _ _ _ ?_
            | refine ⟨_, rfl, ?_⟩)
        refine m_becomes hJ (p := 3) rfl (by omega) ?_
        refine ⟨?_, hQc _ (Inv_up (n := n) hMn hK hRs (by decide +kernel) (OKu.up0 hO (fun q hq e => ?_) (by omega)) rfl)⟩
        · rw [am_put_o (by decide), hM _ (by omega), hMn.get (o := 9) (k := 1) (j := 3) (by decide +kernel)]
        · have hb : ∀ q ∈ OKb, q.1 = 3 → q.2 = 9 := by decide +kernel
          rw [hb q hq e]; exact hn
      · repeat (
          (try conv => whnf)
          first
            | refine ⟨am_vin (by decide), ?_⟩
            | refine ⟨(by assumption : vp_in _ _), ?_⟩
            | refine br_f (by decide) ?_
            | refine br_t (by decide) ?_
            | refine br_t (by assumption) ?_
            | refine br_f (by assumption) ?_
            | refine x_withinY hJ (by assumption) ?_
            | refine x_withinN hJ (by assumption) ?_
            | refine m_in1Y hJ (by assumption) ?_
            | refine m_in1N hJ (by assumption) ?_
            | refine m_isGateY hJ (by assumption) ?_
            | refine m_isGateN hJ (by assumption) ?_
            | refine m_isDigitY hJ (by assumption) ?_
            | refine m_isDigitN hJ (by assumption) ?_
            | refine m_isNeedY hJ (by assumption) ?_
            | refine m_isNeedN hJ (by assumption) ?_
            | refine m_isPlanY hJ (by assumption) ?_
            | refine m_isPlanN hJ (by assumption) ?_
            | refine m_isSheetY hJ (by assumption) ?_
            | refine m_isSheetN hJ (by assumption) ?_
            | refine x_isSheetY hJ (by assumption) ?_
            | refine x_isSheetN hJ (by assumption) ?_
            | refine x_isShelfY hJ (by assumption) ?_
            | refine x_isShelfN hJ (by assumption) ?_
            | refine x_hasY hJ (by assumption) (by assumption) (by assumption) ?_
            | refine x_hasN hJ (by assumption) (by assumption) (by assumption) ?_
            | refine m_isPersonY hJ (by assumption) (by assumption) (by assumption) ?_
            | refine m_isPersonN hJ (by assumption) (by assumption) (by assumption) ?_
            | refine am_vc hJ 120 40 _ _ _ _ _ _ ?_
            | refine ⟨_, rfl, ?_⟩)
        exact ⟨rfl, hQc _ hI⟩
    · have e1 : a = 1 := by
        obtain ⟨k, hk, rfl⟩ := am_rng (N := 1) rfl (by decide) h1
        rcases (show k = 0 ∨ k = 1 by omega) with rfl | rfl
        · exact absurd rfl h3
        · rfl
      subst e1
      by_cases h2 : (0 : Int32) ≤ b ∧ b ≤ 999
      · obtain ⟨n, hn, rfl⟩ := am_rng (N := 999) rfl (by decide) h2
        repeat (
          (try conv => whnf)
          first
            | refine ⟨am_vin (by decide), ?_⟩
            | refine ⟨(by assumption : vp_in _ _), ?_⟩
            | refine br_f (by decide) ?_
            | refine br_t (by decide) ?_
            | refine br_t (by assumption) ?_
            | refine br_f (by assumption) ?_
            | refine x_withinY hJ (by assumption) ?_
            | refine x_withinN hJ (by assumption) ?_
            | refine m_in1Y hJ (by assumption) ?_
            | refine m_in1N hJ (by assumption) ?_
            | refine m_isGateY hJ (by assumption) ?_
            | refine m_isGateN hJ (by assumption) ?_
            | refine m_isDigitY hJ (by assumption) ?_
            | refine m_isDigitN hJ (by assumption) ?_
            | refine m_isNeedY hJ (by assumption) ?_
            | refine m_isNeedN hJ (by assumption) ?_
            | refine m_isPlanY hJ (by assumption) ?_
            | refine m_isPlanN hJ (by assumption) ?_
            | refine m_isSheetY hJ (by assumption) ?_
            | refine m_isSheetN hJ (by assumption) ?_
            | refine x_isSheetY hJ (by assumption) ?_
            | refine x_isSheetN hJ (by assumption) ?_
            | refine x_isShelfY hJ (by assumption) ?_
            | refine x_isShelfN hJ (by assumption) ?_
            | refine x_hasY hJ (by assumption) (by assumption) (by assumption) ?_
            | refine x_hasN hJ (by assumption) (by assumption) (by assumption) ?_
            | refine m_isPersonY hJ (by assumption) (by assumption) (by assumption) ?_
            | refine m_isPersonN hJ (by assumption) (by assumption) (by assumption) ?_
            | refine am_vc hJ 120 40 _ _ _ _ _ _ ?_
            | refine ⟨_, rfl, ?_⟩)
        refine m_becomes hJ (p := 4) rfl (by omega) ?_
        refine ⟨?_, hQc _ (Inv_up (n := n) hMn hK hRs (by decide +kernel) (OKu.up0 hO (fun q hq e => ?_) (by omega)) rfl)⟩
        · rw [am_put_o (by decide), hM _ (by omega), hMn.get (o := 9) (k := 2) (j := 4) (by decide +kernel)]
        · have hb : ∀ q ∈ OKb, q.1 = 4 → q.2 = 999 := by decide +kernel
          rw [hb q hq e]; exact hn
      · repeat (
          (try conv => whnf)
          first
            | refine ⟨am_vin (by decide), ?_⟩
            | refine ⟨(by assumption : vp_in _ _), ?_⟩
            | refine br_f (by decide) ?_
            | refine br_t (by decide) ?_
            | refine br_t (by assumption) ?_
            | refine br_f (by assumption) ?_
            | refine x_withinY hJ (by assumption) ?_
            | refine x_withinN hJ (by assumption) ?_
            | refine m_in1Y hJ (by assumption) ?_
            | refine m_in1N hJ (by assumption) ?_
            | refine m_isGateY hJ (by assumption) ?_
            | refine m_isGateN hJ (by assumption) ?_
            | refine m_isDigitY hJ (by assumption) ?_
            | refine m_isDigitN hJ (by assumption) ?_
            | refine m_isNeedY hJ (by assumption) ?_
            | refine m_isNeedN hJ (by assumption) ?_
            | refine m_isPlanY hJ (by assumption) ?_
            | refine m_isPlanN hJ (by assumption) ?_
            | refine m_isSheetY hJ (by assumption) ?_
            | refine m_isSheetN hJ (by assumption) ?_
            | refine x_isSheetY hJ (by assumption) ?_
            | refine x_isSheetN hJ (by assumption) ?_
            | refine x_isShelfY hJ (by assumption) ?_
            | refine x_isShelfN hJ (by assumption) ?_
            | refine x_hasY hJ (by assumption) (by assumption) (by assumption) ?_
            | refine x_hasN hJ (by assumption) (by assumption) (by assumption) ?_
            | refine m_isPersonY hJ (by assumption) (by assumption) (by assumption) ?_
            | refine m_isPersonN hJ (by assumption) (by assumption) (by assumption) ?_
            | refine am_vc hJ 120 40 _ _ _ _ _ _ ?_
            | refine ⟨_, rfl, ?_⟩)
        exact ⟨rfl, hQc _ hI⟩
  · repeat (
      (try conv => whnf)
      first
        | refine ⟨am_vin (by decide), ?_⟩
        | refine ⟨(by assumption : vp_in _ _), ?_⟩
        | refine br_f (by decide) ?_
        | refine br_t (by decide) ?_
        | refine br_t (by assumption) ?_
        | refine br_f (by assumption) ?_
        | refine x_withinY hJ (by assumption) ?_
        | refine x_withinN hJ (by assumption) ?_
        | refine m_in1Y hJ (by assumption) ?_
        | refine m_in1N hJ (by assumption) ?_
        | refine m_isGateY hJ (by assumption) ?_
        | refine m_isGateN hJ (by assumption) ?_
        | refine m_isDigitY hJ (by assumption) ?_
        | refine m_isDigitN hJ (by assumption) ?_
        | refine m_isNeedY hJ (by assumption) ?_
        | refine m_isNeedN hJ (by assumption) ?_
        | refine m_isPlanY hJ (by assumption) ?_
        | refine m_isPlanN hJ (by assumption) ?_
        | refine m_isSheetY hJ (by assumption) ?_
        | refine m_isSheetN hJ (by assumption) ?_
        | refine x_isSheetY hJ (by assumption) ?_
        | refine x_isSheetN hJ (by assumption) ?_
        | refine x_isShelfY hJ (by assumption) ?_
        | refine x_isShelfN hJ (by assumption) ?_
        | refine x_hasY hJ (by assumption) (by assumption) (by assumption) ?_
        | refine x_hasN hJ (by assumption) (by assumption) (by assumption) ?_
        | refine m_isPersonY hJ (by assumption) (by assumption) (by assumption) ?_
        | refine m_isPersonN hJ (by assumption) (by assumption) (by assumption) ?_
        | refine am_vc hJ 120 40 _ _ _ _ _ _ ?_
        | refine ⟨_, rfl, ?_⟩)
    exact ⟨rfl, hQc _ hI⟩
/-- a number of a person that is there -/
theorem OKu.upP {u : am_U} {k f n m : Nat} (h : OKu u) (hk : k < u 6) (hf : f < 6) (hb : n ≤ m) (hm : ∀ q ∈ OKb, q.1 = 38 + 6 * k + f → q.2 = m) (h0 : f = 0 → 1 ≤ n) : OKu (upN u (38 + 6 * k + f) n) := by
  obtain ⟨g1, g2, g3, g4, g5⟩ := h
  have h66 : u 6 ≤ 6 := g1 (6, 6) (by decide)
  have e6 : upN u (38 + 6 * k + f) n 6 = u 6 := upN_n (by omega)
  refine OKu.up ⟨g1, g2, g3, g4, g5⟩ (fun q hq e => by rw [hm q hq e]; exact hb) ?_ ?_ (fun i hi => ?_) (fun i g hi h6 hg => ?_)
  · rw [upN_n (by omega), upN_n (by omega)]; exact g2
  · rw [upN_n (by omega)]; exact g3
  · rw [e6] at hi
    by_cases e : 38 + 6 * i = 38 + 6 * k + f
    · rw [e, upN_s]
      exact h0 (by omega)
    · rw [upN_n e]
      exact g4 i hi
  · rw [e6] at hi
    rw [upN_n (by omega)]
    exact g5 i g hi h6 hg
theorem op_remake (hJ : am_Cl am_meth L xs J) (a b : Int32) : am_same Inv J q_X_remake q_M_remake [.int a, .int b] := by
  intro I hI Qc hQc
  obtain ⟨u, uk, hMn, hK, hRs⟩ := id hI
  obtain ⟨hM, hR, hC, hO⟩ := id hMn
  have h6 := hO.b 6 6 (by decide)
  have c6 : I 8 2 = nI (u 6) := hMn.get (j := 6) (by decide +kernel)
  have m6 : I 67 6 = nI (u 6) := hM 6 (by decide)
  by_cases h1 : ∃ j, j < u 6 ∧ a = nI j
  · by_cases h2 : (1 : Int32) ≤ b ∧ b ≤ 5
    · obtain ⟨n, hn, rfl⟩ := am_rng (N := 5) rfl (by decide) ⟨Int32.le_trans (by decide) h2.1, h2.2⟩
      have hn1 : 1 ≤ n := by
        have := h2.1
        rw [show (1 : Int32) = nI 1 from rfl, nI_leI (by decide) (by omega)] at this
        exact this
      obtain ⟨k, hk, rfl⟩ := id h1
      have g1 : vp_in (nI k) 6 := vp_in_nI (by omega) (by omega)
      have ht := (am_t10 k (by omega)).1
      repeat (
        (try conv => whnf)
        first
          | refine ⟨am_vin (by decide), ?_⟩
          | refine ⟨(by assumption : vp_in _ _), ?_⟩
          | refine br_f (by decide) ?_
          | refine br_t (by decide) ?_
          | refine br_t (by assumption) ?_
          | refine br_f (by assumption) ?_
          | refine x_withinY hJ (by assumption) ?_
          | refine x_withinN hJ (by assumption) ?_
          | refine m_in1Y hJ (by assumption) ?_
          | refine m_in1N hJ (by assumption) ?_
          | refine m_isGateY hJ (by assumption) ?_
          | refine m_isGateN hJ (by assumption) ?_
          | refine m_isDigitY hJ (by assumption) ?_
          | refine m_isDigitN hJ (by assumption) ?_
          | refine m_isNeedY hJ (by assumption) ?_
          | refine m_isNeedN hJ (by assumption) ?_
          | refine m_isPlanY hJ (by assumption) ?_
          | refine m_isPlanN hJ (by assumption) ?_
          | refine m_isSheetY hJ (by assumption) ?_
          | refine m_isSheetN hJ (by assumption) ?_
          | refine x_isSheetY hJ (by assumption) ?_
          | refine x_isSheetN hJ (by assumption) ?_
          | refine x_isShelfY hJ (by assumption) ?_
          | refine x_isShelfN hJ (by assumption) ?_
          | refine x_hasY hJ (by assumption) (by assumption) (by assumption) ?_
          | refine x_hasN hJ (by assumption) (by assumption) (by assumption) ?_
          | refine m_isPersonY hJ (by assumption) (by assumption) (by assumption) ?_
          | refine m_isPersonN hJ (by assumption) (by assumption) (by assumption) ?_
          | refine am_vc hJ 120 40 _ _ _ _ _ _ ?_
          | refine ⟨_, rfl, ?_⟩)
      refine m_becomes hJ (p := 38 + 6 * k) (by show 38 + 6 * nI k = _; rw [show (38 : Int32) = nI 38 from rfl, show (6 : Int32) = nI 6 from rfl, pk_mul, nI_add]) (by omega) ?_
      rw [nI_clamp (by omega)]
      refine ⟨?_, hQc _ (Inv_up (n := n) hMn hK hRs ht ?_ rfl)⟩
      · rw [am_put_o (by decide), hM _ (by omega), hMn.get ht]
      · refine OKu.upP (f := 0) (m := 5) hO hk (by decide) hn (fun q hq e => ?_) (fun _ => hn1)
        have hb : ∀ q ∈ OKb, ∀ k, k < 6 → q.1 = 38 + 6 * k + 0 → q.2 = 5 := by decide +kernel
        exact hb q hq k (by omega) e
    · repeat (
        (try conv => whnf)
        first
          | refine ⟨am_vin (by decide), ?_⟩
          | refine ⟨(by assumption : vp_in _ _), ?_⟩
          | refine br_f (by decide) ?_
          | refine br_t (by decide) ?_
          | refine br_t (by assumption) ?_
          | refine br_f (by assumption) ?_
          | refine x_withinY hJ (by assumption) ?_
          | refine x_withinN hJ (by assumption) ?_
          | refine m_in1Y hJ (by assumption) ?_
          | refine m_in1N hJ (by assumption) ?_
          | refine m_isGateY hJ (by assumption) ?_
          | refine m_isGateN hJ (by assumption) ?_
          | refine m_isDigitY hJ (by assumption) ?_
          | refine m_isDigitN hJ (by assumption) ?_
          | refine m_isNeedY hJ (by assumption) ?_
          | refine m_isNeedN hJ (by assumption) ?_
          | refine m_isPlanY hJ (by assumption) ?_
          | refine m_isPlanN hJ (by assumption) ?_
          | refine m_isSheetY hJ (by assumption) ?_
          | refine m_isSheetN hJ (by assumption) ?_
          | refine x_isSheetY hJ (by assumption) ?_
          | refine x_isSheetN hJ (by assumption) ?_
          | refine x_isShelfY hJ (by assumption) ?_
          | refine x_isShelfN hJ (by assumption) ?_
          | refine x_hasY hJ (by assumption) (by assumption) (by assumption) ?_
          | refine x_hasN hJ (by assumption) (by assumption) (by assumption) ?_
          | refine m_isPersonY hJ (by assumption) (by assumption) (by assumption) ?_
          | refine m_isPersonN hJ (by assumption) (by assumption) (by assumption) ?_
          | refine am_vc hJ 120 40 _ _ _ _ _ _ ?_
          | refine ⟨_, rfl, ?_⟩)
      exact ⟨rfl, hQc _ hI⟩
  · repeat (
      (try conv => whnf)
      first
        | refine ⟨am_vin (by decide), ?_⟩
        | refine ⟨(by assumption : vp_in _ _), ?_⟩
        | refine br_f (by decide) ?_
        | refine br_t (by decide) ?_
        | refine br_t (by assumption) ?_
        | refine br_f (by assumption) ?_
        | refine x_withinY hJ (by assumption) ?_
        | refine x_withinN hJ (by assumption) ?_
        | refine m_in1Y hJ (by assumption) ?_
        | refine m_in1N hJ (by assumption) ?_
        | refine m_isGateY hJ (by assumption) ?_
        | refine m_isGateN hJ (by assumption) ?_
        | refine m_isDigitY hJ (by assumption) ?_
        | refine m_isDigitN hJ (by assumption) ?_
        | refine m_isNeedY hJ (by assumption) ?_
        | refine m_isNeedN hJ (by assumption) ?_
        | refine m_isPlanY hJ (by assumption) ?_
        | refine m_isPlanN hJ (by assumption) ?_
        | refine m_isSheetY hJ (by assumption) ?_
        | refine m_isSheetN hJ (by assumption) ?_
        | refine x_isSheetY hJ (by assumption) ?_
        | refine x_isSheetN hJ (by assumption) ?_
        | refine x_isShelfY hJ (by assumption) ?_
        | refine x_isShelfN hJ (by assumption) ?_
        | refine x_hasY hJ (by assumption) (by assumption) (by assumption) ?_
        | refine x_hasN hJ (by assumption) (by assumption) (by assumption) ?_
        | refine m_isPersonY hJ (by assumption) (by assumption) (by assumption) ?_
        | refine m_isPersonN hJ (by assumption) (by assumption) (by assumption) ?_
        | refine am_vc hJ 120 40 _ _ _ _ _ _ ?_
        | refine ⟨_, rfl, ?_⟩)
    exact ⟨rfl, hQc _ hI⟩
end
