theorem am_sort {b : Int32} (h : (-1 : Int32) ≤ b ∧ b ≤ 4) : b = -1 ∨ ∃ so, so < 5 ∧ b = nI so := by
  by_cases h0 : 0 ≤ b
  · obtain ⟨n, hn, e⟩ := am_rng (N := 4) rfl (by decide) ⟨h0, h.2⟩
    exact Or.inr ⟨n, by omega, e⟩
  · left
    have h1 := h.1
    rw [Int32.le_iff_toInt_le] at h0 h1
    have e0 : (0 : Int32).toInt = 0 := rfl
    have e1 : (-1 : Int32).toInt = -1 := by decide
    rw [e0] at h0
    rw [e1] at h1
    exact Int32.toInt_inj.mp (by rw [e1]; omega)
section
variable {L : Nat} {xs : Nat → Int32} {J : am_J}
theorem op_sheet (hJ : am_Cl am_meth L xs J) (a b c : Int32) : am_same Inv J q_X_sheet q_M_sheet [.int a, .int b, .int c] := by
  intro I hI Qc hQc
  obtain ⟨u, uk, hMn, hK, hT, hRw, hSh, hSf, hTr, hLe⟩ := id hI
  by_cases h1 : (0 : Int32) ≤ a ∧ a ≤ 3
  · by_cases h2 : (-1 : Int32) ≤ b ∧ b ≤ 4
    · obtain ⟨h, hh, rfl⟩ := am_rng (N := 3) rfl (by decide) h1
      have hh4 : h < 4 := by omega
      have e : (nI h).toNatClampNeg = h := nI_clamp (by omega)
      rcases am_sort h2 with rfl | ⟨so, hso, rfl⟩
      · refine am_vc hJ 120 _ _ _ _ _ _ _ ?_
        repeat (
          (try conv => whnf)
          first
            | refine ⟨am_vin (by decide), ?_⟩
            | refine br_f (by decide) ?_
            | refine br_t (by decide) ?_
            | refine br_t (by assumption) ?_
            | refine br_f (by assumption) ?_
            | refine x_withinY hJ (by assumption) ?_
            | refine x_withinN hJ (by assumption) ?_
            | refine m_in1Y hJ (by assumption) ?_
            | refine m_in1N hJ (by assumption) ?_
            | refine m_isGateY hJ (by assumption) ?_
            | refine m_isGateN hJ (by assumption) ?_
            | refine m_isDigitY hJ (by assumption) ?_
            | refine m_isDigitN hJ (by assumption) ?_
            | refine m_isNeedY hJ (by assumption) ?_
            | refine m_isNeedN hJ (by assumption) ?_
            | refine m_isPlanY hJ (by assumption) ?_
            | refine m_isPlanN hJ (by assumption) ?_
            | refine m_isSheetY hJ (by assumption) ?_
            | refine m_isSheetN hJ (by assumption) ?_
            | refine x_isSheetY hJ (by assumption) ?_
            | refine x_isSheetN hJ (by assumption) ?_
            | refine x_isShelfY hJ (by assumption) ?_
            | refine x_isShelfN hJ (by assumption) ?_
            | refine x_hasY hJ (by assumption) (by assumption) (by assumption) ?_
            | refine x_hasN hJ (by assumption) (by assumption) (by assumption) ?_
            | refine m_isPersonY hJ (by assumption) (by assumption) (by assumption) ?_
            | refine m_isPersonN hJ (by assumption) (by assumption) (by assumption) ?_
            | fail
            | refine ⟨_, rfl, ?_⟩)
        refine ⟨vp_in_nI (by omega) (by omega), ?_⟩
        repeat (
          (try conv => whnf)
          first
            | refine ⟨am_vin (by decide), ?_⟩
            | refine br_f (by decide) ?_
            | refine br_t (by decide) ?_
            | refine br_t (by assumption) ?_
            | refine br_f (by assumption) ?_
            | refine x_withinY hJ (by assumption) ?_
            | refine x_withinN hJ (by assumption) ?_
            | refine m_in1Y hJ (by assumption) ?_
            | refine m_in1N hJ (by assumption) ?_
            | refine m_isGateY hJ (by assumption) ?_
            | refine m_isGateN hJ (by assumption) ?_
            | refine m_isDigitY hJ (by assumption) ?_
            | refine m_isDigitN hJ (by assumption) ?_
            | refine m_isNeedY hJ (by assumption) ?_
            | refine m_isNeedN hJ (by assumption) ?_
            | refine m_isPlanY hJ (by assumption) ?_
            | refine m_isPlanN hJ (by assumption) ?_
            | refine m_isSheetY hJ (by assumption) ?_
            | refine m_isSheetN hJ (by assumption) ?_
            | refine x_isSheetY hJ (by assumption) ?_
            | refine x_isSheetN hJ (by assumption) ?_
            | refine x_isShelfY hJ (by assumption) ?_
            | refine x_isShelfN hJ (by assumption) ?_
            | refine x_hasY hJ (by assumption) (by assumption) (by assumption) ?_
            | refine x_hasN hJ (by assumption) (by assumption) (by assumption) ?_
            | refine m_isPersonY hJ (by assumption) (by assumption) (by assumption) ?_
            | refine m_isPersonN hJ (by assumption) (by assumption) (by assumption) ?_
            | fail
            | refine ⟨_, rfl, ?_⟩)
        refine am_vcc hJ [64] 200 _ _ _ _ _ _ _ ?_
        repeat (
          (try conv => whnf)
          first
            | refine ⟨am_vin (by decide), ?_⟩
            | refine br_f (by decide) ?_
            | refine br_t (by decide) ?_
            | refine br_t (by assumption) ?_
            | refine br_f (by assumption) ?_
            | refine x_withinY hJ (by assumption) ?_
            | refine x_withinN hJ (by assumption) ?_
            | refine m_in1Y hJ (by assumption) ?_
            | refine m_in1N hJ (by assumption) ?_
            | refine m_isGateY hJ (by assumption) ?_
            | refine m_isGateN hJ (by assumption) ?_
            | refine m_isDigitY hJ (by assumption) ?_
            | refine m_isDigitN hJ (by assumption) ?_
            | refine m_isNeedY hJ (by assumption) ?_
            | refine m_isNeedN hJ (by assumption) ?_
            | refine m_isPlanY hJ (by assumption) ?_
            | refine m_isPlanN hJ (by assumption) ?_
            | refine m_isSheetY hJ (by assumption) ?_
            | refine m_isSheetN hJ (by assumption) ?_
            | refine x_isSheetY hJ (by assumption) ?_
            | refine x_isSheetN hJ (by assumption) ?_
            | refine x_isShelfY hJ (by assumption) ?_
            | refine x_isShelfN hJ (by assumption) ?_
            | refine x_hasY hJ (by assumption) (by assumption) (by assumption) ?_
            | refine x_hasN hJ (by assumption) (by assumption) (by assumption) ?_
            | refine m_isPersonY hJ (by assumption) (by assumption) (by assumption) ?_
            | refine m_isPersonN hJ (by assumption) (by assumption) (by assumption) ?_
            | fail
            | refine ⟨_, rfl, ?_⟩)
        refine ⟨vp_in_nI (by omega) (by omega), ?_⟩
        repeat (
          (try conv => whnf)
          first
            | refine ⟨am_vin (by decide), ?_⟩
            | refine br_f (by decide) ?_
            | refine br_t (by decide) ?_
            | refine br_t (by assumption) ?_
            | refine br_f (by assumption) ?_
            | refine x_withinY hJ (by assumption) ?_
            | refine x_withinN hJ (by assumption) ?_
            | refine m_in1Y hJ (by assumption) ?_
            | refine m_in1N hJ (by assumption) ?_
            | refine m_isGateY hJ (by assumption) ?_
            | refine m_isGateN hJ (by assumption) ?_
            | refine m_isDigitY hJ (by assumption) ?_
            | refine m_isDigitN hJ (by assumption) ?_
            | refine m_isNeedY hJ (by assumption) ?_
            | refine m_isNeedN hJ (by assumption) ?_
            | refine m_isPlanY hJ (by assumption) ?_
            | refine m_isPlanN hJ (by assumption) ?_
            | refine m_isSheetY hJ (by assumption) ?_
            | refine m_isSheetN hJ (by assumption) ?_
            | refine x_isSheetY hJ (by assumption) ?_
            | refine x_isSheetN hJ (by assumption) ?_
            | refine x_isShelfY hJ (by assumption) ?_
            | refine x_isShelfN hJ (by assumption) ?_
            | refine x_hasY hJ (by assumption) (by assumption) (by assumption) ?_
            | refine x_hasN hJ (by assumption) (by assumption) (by assumption) ?_
            | refine m_isPersonY hJ (by assumption) (by assumption) (by assumption) ?_
            | refine m_isPersonN hJ (by assumption) (by assumption) (by assumption) ?_
            | fail
            | refine ⟨_, rfl, ?_⟩)
        refine ⟨vp_in_nI (by omega) (by omega), ?_⟩
        (try conv => whnf)
        refine m_zero_loop hJ hh4 (fun I' k1 k2 => ⟨rfl, hQc _ ?_⟩) 40 0 _ (by omega) (fun _ _ => rfl) (fun j => by rw [if_neg (by omega)])
        rw [e] at k1 k2
        refine hI.sheet (fun o ho => ?_) (fun i hi => ?_)
        · simp only [List.mem_cons, List.not_mem_nil, or_false, not_or] at ho
          rw [k1 o (by omega), am_put_o (by omega), am_put_o (by omega), am_put_o (by omega)]
        · have f54 : I' 54 i = if i = h then -1 else I 54 i := by rw [k1 54 (by omega), am_put_o (by omega), am_put_o (by omega), put_if]
          have f81 : I' 81 i = if i = h then -1 else I 81 i := by rw [k1 81 (by omega), am_put_o (by omega), put_if, am_put_o (by omega)]
          by_cases z : i = h
          · left
            rw [f54, f81, if_pos z, if_pos z]
            exact ⟨rfl, rfl⟩
          · rw [f54, f81, if_neg z, if_neg z, k1 55 (by omega), am_put_o (o' := 55) (by omega), am_put_o (o' := 55) (by omega), am_put_o (o' := 55) (by omega), k1 82 (by omega), put_nk z, am_put_o (o' := 82) (by omega), am_put_o (o' := 82) (by omega), k1 (57 + i) (by omega), am_put_o (o' := 57 + i) (by omega), am_put_o (o' := 57 + i) (by omega), am_put_o (o' := 57 + i) (by omega)]
            rcases hSh i hi with q | ⟨so', n', w1, w2, w3, w4, w5, w6, w7⟩
            · exact Or.inl q
            · refine Or.inr ⟨so', n', w1, w2, w3, w4, w5, w6, fun l hl => ?_⟩
              rw [k2, if_neg (by omega), am_put_o (by omega), am_put_o (by omega), am_put_o (by omega), w7 l hl]
      · have b0 : ¬ nI so = -1 := am_neg1 (by omega)
        have b1 : ¬ nI so < 0 := nI_pos (by omega)
        have b2 : 0 ≤ nI so := nI_pos' (by omega)
        by_cases h3 : c ≤ 40
        · by_cases h4 : 0 ≤ c
          · obtain ⟨n, hn, rfl⟩ := am_rng (N := 40) rfl (by decide) ⟨h4, h3⟩
            have fin : ∀ I1 : am_I, (∀ o, o ≠ 57 + h → I1 o = I o) → (∀ j, j < 40 → I1 (57 + h) j = 0) → J 40 q_M_sheet 0 (am_ents q_M_sheet [Value.ref 66, .int (nI h), .int (nI so), .int (nI n)]) [] (am_put (am_put I1 55 (nI h).toNatClampNeg (nI n)) 54 (nI h).toNatClampNeg (nI so)) (fun r2 I2 => r2 = some (.int 1) ∧ Qc I2) := by
              intro I1 f1 f2
              refine am_vcc hJ [64] 200 _ _ _ _ _ _ _ ?_
              repeat (
                (try conv => whnf)
                first
                  | refine ⟨am_vin (by decide), ?_⟩
                  | refine br_f (by decide) ?_
                  | refine br_t (by decide) ?_
                  | refine br_t (by assumption) ?_
                  | refine br_f (by assumption) ?_
                  | refine x_withinY hJ (by assumption) ?_
                  | refine x_withinN hJ (by assumption) ?_
                  | refine m_in1Y hJ (by assumption) ?_
                  | refine m_in1N hJ (by assumption) ?_
                  | refine m_isGateY hJ (by assumption) ?_
                  | refine m_isGateN hJ (by assumption) ?_
                  | refine m_isDigitY hJ (by assumption) ?_
                  | refine m_isDigitN hJ (by assumption) ?_
                  | refine m_isNeedY hJ (by assumption) ?_
                  | refine m_isNeedN hJ (by assumption) ?_
                  | refine m_isPlanY hJ (by assumption) ?_
                  | refine m_isPlanN hJ (by assumption) ?_
                  | refine m_isSheetY hJ (by assumption) ?_
                  | refine m_isSheetN hJ (by assumption) ?_
                  | refine x_isSheetY hJ (by assumption) ?_
                  | refine x_isSheetN hJ (by assumption) ?_
                  | refine x_isShelfY hJ (by assumption) ?_
                  | refine x_isShelfN hJ (by assumption) ?_
                  | refine x_hasY hJ (by assumption) (by assumption) (by assumption) ?_
                  | refine x_hasN hJ (by assumption) (by assumption) (by assumption) ?_
                  | refine m_isPersonY hJ (by assumption) (by assumption) (by assumption) ?_
                  | refine m_isPersonN hJ (by assumption) (by assumption) (by assumption) ?_
                  | fail
                  | refine ⟨_, rfl, ?_⟩)
              refine ⟨vp_in_nI (by omega) (by omega), ?_⟩
              repeat (
                (try conv => whnf)
                first
                  | refine ⟨am_vin (by decide), ?_⟩
                  | refine br_f (by decide) ?_
                  | refine br_t (by decide) ?_
                  | refine br_t (by assumption) ?_
                  | refine br_f (by assumption) ?_
                  | refine x_withinY hJ (by assumption) ?_
                  | refine x_withinN hJ (by assumption) ?_
                  | refine m_in1Y hJ (by assumption) ?_
                  | refine m_in1N hJ (by assumption) ?_
                  | refine m_isGateY hJ (by assumption) ?_
                  | refine m_isGateN hJ (by assumption) ?_
                  | refine m_isDigitY hJ (by assumption) ?_
                  | refine m_isDigitN hJ (by assumption) ?_
                  | refine m_isNeedY hJ (by assumption) ?_
                  | refine m_isNeedN hJ (by assumption) ?_
                  | refine m_isPlanY hJ (by assumption) ?_
                  | refine m_isPlanN hJ (by assumption) ?_
                  | refine m_isSheetY hJ (by assumption) ?_
                  | refine m_isSheetN hJ (by assumption) ?_
                  | refine x_isSheetY hJ (by assumption) ?_
                  | refine x_isSheetN hJ (by assumption) ?_
                  | refine x_isShelfY hJ (by assumption) ?_
                  | refine x_isShelfN hJ (by assumption) ?_
                  | refine x_hasY hJ (by assumption) (by assumption) (by assumption) ?_
                  | refine x_hasN hJ (by assumption) (by assumption) (by assumption) ?_
                  | refine m_isPersonY hJ (by assumption) (by assumption) (by assumption) ?_
                  | refine m_isPersonN hJ (by assumption) (by assumption) (by assumption) ?_
                  | fail
                  | refine ⟨_, rfl, ?_⟩)
              refine ⟨vp_in_nI (by omega) (by omega), ?_⟩
              (try conv => whnf)
              refine m_zero_loop hJ hh4 (fun I' k1 k2 => ⟨rfl, hQc _ ?_⟩) 40 0 _ (by omega) (fun _ _ => rfl) (fun j => by rw [if_neg (by omega)])
              rw [e] at k1 k2
              refine hI.sheet (fun o ho => ?_) (fun i hi => ?_)
              · simp only [List.mem_cons, List.not_mem_nil, or_false, not_or] at ho
                rw [k1 o (by omega), am_put_o (by omega), am_put_o (by omega), am_put_o (by omega), am_put_o (by omega), f1 o (by omega)]
              · by_cases z : i = h
                · subst z
                  refine Or.inr ⟨so, n, hso, hn, ?_, ?_, ?_, ?_, fun l hl => ?_⟩
                  · rw [k1 54 (by omega), am_put_o (by omega), am_put_o (by omega), put_at]
                  · rw [k1 81 (by omega), am_put_o (by omega), put_at]
                  · rw [k1 55 (by omega), am_put_o (by omega), am_put_o (by omega), am_put_o (by omega), put_at]
                  · rw [k1 82 (by omega), put_at]
                  · rw [k1 (57 + i) (by omega), am_put_o (by omega), am_put_o (by omega), am_put_o (by omega), am_put_o (by omega), f2 l hl, k2, if_pos (by omega)]
                · rw [k1 54 (by omega), am_put_o (o' := 54) (by omega), am_put_o (o' := 54) (by omega), put_nk z, am_put_o (o' := 54) (by omega), f1 54 (by omega), k1 81 (by omega), am_put_o (o' := 81) (by omega), put_nk z, am_put_o (o' := 81) (by omega), am_put_o (o' := 81) (by omega), f1 81 (by omega), k1 55 (by omega), am_put_o (o' := 55) (by omega), am_put_o (o' := 55) (by omega), am_put_o (o' := 55) (by omega), put_nk z, f1 55 (by omega), k1 82 (by omega), put_nk z, am_put_o (o' := 82) (by omega), am_put_o (o' := 82) (by omega), am_put_o (o' := 82) (by omega), f1 82 (by omega), k1 (57 + i) (by omega), am_put_o (o' := 57 + i) (by omega), am_put_o (o' := 57 + i) (by omega), am_put_o (o' := 57 + i) (by omega), am_put_o (o' := 57 + i) (by omega), f1 (57 + i) (by omega)]
                  rcases hSh i hi with q | ⟨so', n', w1, w2, w3, w4, w5, w6, w7⟩
                  · exact Or.inl q
                  · refine Or.inr ⟨so', n', w1, w2, w3, w4, w5, w6, fun l hl => ?_⟩
                    rw [k2, if_neg (by omega), am_put_o (by omega), am_put_o (by omega), am_put_o (by omega), am_put_o (by omega), f1 83 (by omega), w7 l hl]
            refine am_vc hJ 120 _ _ _ _ _ _ _ ?_
            repeat (
              (try conv => whnf)
              first
                | refine ⟨am_vin (by decide), ?_⟩
                | refine br_f (by decide) ?_
                | refine br_t (by decide) ?_
                | refine br_t (by assumption) ?_
                | refine br_f (by assumption) ?_
                | refine x_withinY hJ (by assumption) ?_
                | refine x_withinN hJ (by assumption) ?_
                | refine m_in1Y hJ (by assumption) ?_
                | refine m_in1N hJ (by assumption) ?_
                | refine m_isGateY hJ (by assumption) ?_
                | refine m_isGateN hJ (by assumption) ?_
                | refine m_isDigitY hJ (by assumption) ?_
                | refine m_isDigitN hJ (by assumption) ?_
                | refine m_isNeedY hJ (by assumption) ?_
                | refine m_isNeedN hJ (by assumption) ?_
                | refine m_isPlanY hJ (by assumption) ?_
                | refine m_isPlanN hJ (by assumption) ?_
                | refine m_isSheetY hJ (by assumption) ?_
                | refine m_isSheetN hJ (by assumption) ?_
                | refine x_isSheetY hJ (by assumption) ?_
                | refine x_isSheetN hJ (by assumption) ?_
                | refine x_isShelfY hJ (by assumption) ?_
                | refine x_isShelfN hJ (by assumption) ?_
                | refine x_hasY hJ (by assumption) (by assumption) (by assumption) ?_
                | refine x_hasN hJ (by assumption) (by assumption) (by assumption) ?_
                | refine m_isPersonY hJ (by assumption) (by assumption) (by assumption) ?_
                | refine m_isPersonN hJ (by assumption) (by assumption) (by assumption) ?_
                | fail
                | refine ⟨_, rfl, ?_⟩)
            rcases (show h = 0 ∨ h = 1 ∨ h = 2 ∨ h = 3 by omega) with rfl | rfl | rfl | rfl
            all_goals
              refine ⟨am_vin (by decide), ?_⟩
              refine x_fill hJ (by decide) (fun I1 f1 f2 => ?_)
              refine ⟨am_vin (by decide), am_vin (by decide), ?_⟩
              refine ⟨_, rfl, ?_⟩
              exact fin I1 f1 f2
          · repeat (
              (try conv => whnf)
              first
                | refine ⟨am_vin (by decide), ?_⟩
                | refine br_f (by decide) ?_
                | refine br_t (by decide) ?_
                | refine br_t (by assumption) ?_
                | refine br_f (by assumption) ?_
                | refine x_withinY hJ (by assumption) ?_
                | refine x_withinN hJ (by assumption) ?_
                | refine m_in1Y hJ (by assumption) ?_
                | refine m_in1N hJ (by assumption) ?_
                | refine m_isGateY hJ (by assumption) ?_
                | refine m_isGateN hJ (by assumption) ?_
                | refine m_isDigitY hJ (by assumption) ?_
                | refine m_isDigitN hJ (by assumption) ?_
                | refine m_isNeedY hJ (by assumption) ?_
                | refine m_isNeedN hJ (by assumption) ?_
                | refine m_isPlanY hJ (by assumption) ?_
                | refine m_isPlanN hJ (by assumption) ?_
                | refine m_isSheetY hJ (by assumption) ?_
                | refine m_isSheetN hJ (by assumption) ?_
                | refine x_isSheetY hJ (by assumption) ?_
                | refine x_isSheetN hJ (by assumption) ?_
                | refine x_isShelfY hJ (by assumption) ?_
                | refine x_isShelfN hJ (by assumption) ?_
                | refine x_hasY hJ (by assumption) (by assumption) (by assumption) ?_
                | refine x_hasN hJ (by assumption) (by assumption) (by assumption) ?_
                | refine m_isPersonY hJ (by assumption) (by assumption) (by assumption) ?_
                | refine m_isPersonN hJ (by assumption) (by assumption) (by assumption) ?_
                | refine am_vc hJ 120 40 _ _ _ _ _ _ ?_
                | refine ⟨_, rfl, ?_⟩)
            exact ⟨rfl, hQc _ hI⟩
        · repeat (
            (try conv => whnf)
            first
              | refine ⟨am_vin (by decide), ?_⟩
              | refine br_f (by decide) ?_
              | refine br_t (by decide) ?_
              | refine br_t (by assumption) ?_
              | refine br_f (by assumption) ?_
              | refine x_withinY hJ (by assumption) ?_
              | refine x_withinN hJ (by assumption) ?_
              | refine m_in1Y hJ (by assumption) ?_
              | refine m_in1N hJ (by assumption) ?_
              | refine m_isGateY hJ (by assumption) ?_
              | refine m_isGateN hJ (by assumption) ?_
              | refine m_isDigitY hJ (by assumption) ?_
              | refine m_isDigitN hJ (by assumption) ?_
              | refine m_isNeedY hJ (by assumption) ?_
              | refine m_isNeedN hJ (by assumption) ?_
              | refine m_isPlanY hJ (by assumption) ?_
              | refine m_isPlanN hJ (by assumption) ?_
              | refine m_isSheetY hJ (by assumption) ?_
              | refine m_isSheetN hJ (by assumption) ?_
              | refine x_isSheetY hJ (by assumption) ?_
              | refine x_isSheetN hJ (by assumption) ?_
              | refine x_isShelfY hJ (by assumption) ?_
              | refine x_isShelfN hJ (by assumption) ?_
              | refine x_hasY hJ (by assumption) (by assumption) (by assumption) ?_
              | refine x_hasN hJ (by assumption) (by assumption) (by assumption) ?_
              | refine m_isPersonY hJ (by assumption) (by assumption) (by assumption) ?_
              | refine m_isPersonN hJ (by assumption) (by assumption) (by assumption) ?_
              | refine am_vc hJ 120 40 _ _ _ _ _ _ ?_
              | refine ⟨_, rfl, ?_⟩)
          exact ⟨rfl, hQc _ hI⟩
    · repeat (
        (try conv => whnf)
        first
          | refine ⟨am_vin (by decide), ?_⟩
          | refine ⟨(by assumption : vp_in _ _), ?_⟩
          | refine br_f (by decide) ?_
          | refine br_t (by decide) ?_
          | refine br_t (by assumption) ?_
          | refine br_f (by assumption) ?_
          | refine x_withinY hJ (by assumption) ?_
          | refine x_withinN hJ (by assumption) ?_
          | refine m_in1Y hJ (by assumption) ?_
          | refine m_in1N hJ (by assumption) ?_
          | refine m_isGateY hJ (by assumption) ?_
          | refine m_isGateN hJ (by assumption) ?_
          | refine m_isDigitY hJ (by assumption) ?_
          | refine m_isDigitN hJ (by assumption) ?_
          | refine m_isNeedY hJ (by assumption) ?_
          | refine m_isNeedN hJ (by assumption) ?_
          | refine m_isPlanY hJ (by assumption) ?_
          | refine m_isPlanN hJ (by assumption) ?_
          | refine m_isSheetY hJ (by assumption) ?_
          | refine m_isSheetN hJ (by assumption) ?_
          | refine x_isSheetY hJ (by assumption) ?_
          | refine x_isSheetN hJ (by assumption) ?_
          | refine x_isShelfY hJ (by assumption) ?_
          | refine x_isShelfN hJ (by assumption) ?_
          | refine x_hasY hJ (by assumption) (by assumption) (by assumption) ?_
          | refine x_hasN hJ (by assumption) (by assumption) (by assumption) ?_
          | refine m_isPersonY hJ (by assumption) (by assumption) (by assumption) ?_
          | refine m_isPersonN hJ (by assumption) (by assumption) (by assumption) ?_
          | refine am_vc hJ 120 40 _ _ _ _ _ _ ?_
          | refine ⟨_, rfl, ?_⟩)
      exact ⟨rfl, hQc _ hI⟩
  · repeat (
      (try conv => whnf)
      first
        | refine ⟨am_vin (by decide), ?_⟩
        | refine ⟨(by assumption : vp_in _ _), ?_⟩
        | refine br_f (by decide) ?_
        | refine br_t (by decide) ?_
        | refine br_t (by assumption) ?_
        | refine br_f (by assumption) ?_
        | refine x_withinY hJ (by assumption) ?_
        | refine x_withinN hJ (by assumption) ?_
        | refine m_in1Y hJ (by assumption) ?_
        | refine m_in1N hJ (by assumption) ?_
        | refine m_isGateY hJ (by assumption) ?_
        | refine m_isGateN hJ (by assumption) ?_
        | refine m_isDigitY hJ (by assumption) ?_
        | refine m_isDigitN hJ (by assumption) ?_
        | refine m_isNeedY hJ (by assumption) ?_
        | refine m_isNeedN hJ (by assumption) ?_
        | refine m_isPlanY hJ (by assumption) ?_
        | refine m_isPlanN hJ (by assumption) ?_
        | refine m_isSheetY hJ (by assumption) ?_
        | refine m_isSheetN hJ (by assumption) ?_
        | refine x_isSheetY hJ (by assumption) ?_
        | refine x_isSheetN hJ (by assumption) ?_
        | refine x_isShelfY hJ (by assumption) ?_
        | refine x_isShelfN hJ (by assumption) ?_
        | refine x_hasY hJ (by assumption) (by assumption) (by assumption) ?_
        | refine x_hasN hJ (by assumption) (by assumption) (by assumption) ?_
        | refine m_isPersonY hJ (by assumption) (by assumption) (by assumption) ?_
        | refine m_isPersonN hJ (by assumption) (by assumption) (by assumption) ?_
        | refine am_vc hJ 120 40 _ _ _ _ _ _ ?_
        | refine ⟨_, rfl, ?_⟩)
    exact ⟨rfl, hQc _ hI⟩
end
