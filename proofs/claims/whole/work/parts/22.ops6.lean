theorem am_in_of {S : List Nat} {I I' : am_I} (hS : am_only S I I') {A : List Nat} (hd : am_dis S A = true) : ∀ o ∈ A, I' o = I o := fun o ho => hS o (am_dis_use hd o ho)
theorem Inv.sheet {I I' : am_I} (h : Inv I) (hS : am_only [54, 55, 57, 58, 59, 60, 81, 82, 83] I I') (hs : SheetR I') : Inv I' := by
  obtain ⟨u, uk, hMn, hK, hT, hRw, hSh, hSf, hTr, hLe⟩ := h
  have k := fun (A : List Nat) (hd : am_dis [54, 55, 57, 58, 59, 60, 81, 82, 83] A = true) => am_in_of hS hd
  have k0 := k [0, 66, 38, 71, 39, 53, 80, 64, 65, 86, 72] (by decide)
  refine ⟨u, uk, hMn.kept (k _ (by decide)), hK.kept (k _ (by decide)), hT.kept ?_ ?_ (k0 _ (by decide)) (k0 _ (by decide)), hRw.kept ?_ ?_ (k0 _ (by decide)) (k0 _ (by decide)), hs, hSf.kept (k _ (by decide)), hTr.kept ?_ ?_ (k0 _ (by decide)) (k0 _ (by decide)), hLe.kept (k0 _ (by decide))⟩
  all_goals rw [k0 _ (by decide)]
theorem Inv.shelf {I I' : am_I} (h : Inv I) (hS : am_only [61, 62, 63, 84, 85] I I') (hs : ShelfR I') : Inv I' := by
  obtain ⟨u, uk, hMn, hK, hT, hRw, hSh, hSf, hTr, hLe⟩ := h
  have k := fun (A : List Nat) (hd : am_dis [61, 62, 63, 84, 85] A = true) => am_in_of hS hd
  have k0 := k [0, 66, 38, 71, 39, 53, 80, 64, 65, 86, 72] (by decide)
  refine ⟨u, uk, hMn.kept (k _ (by decide)), hK.kept (k _ (by decide)), hT.kept ?_ ?_ (k0 _ (by decide)) (k0 _ (by decide)), hRw.kept ?_ ?_ (k0 _ (by decide)) (k0 _ (by decide)), hSh.kept (k _ (by decide)), hs, hTr.kept ?_ ?_ (k0 _ (by decide)) (k0 _ (by decide)), hLe.kept (k0 _ (by decide))⟩
  all_goals rw [k0 _ (by decide)]
theorem am_neg1 {n : Nat} (h : n < 2 ^ 31) : ¬ nI n = -1 := by
  intro e
  have := nI_pos (n := n) h
  rw [e] at this
  exact this (by decide)
section
variable {L : Nat} {xs : Nat → Int32} {J : am_J}
theorem op_item (hJ : am_Cl am_meth L xs J) (a b c : Int32) : am_same Inv J q_X_item q_M_item [.int a, .int b, .int c] := by
  intro I hI Qc hQc
  obtain ⟨u, uk, hMn, hK, hT, hRw, hSh, hSf, hTr, hLe⟩ := id hI
  by_cases h1 : (0 : Int32) ≤ a ∧ a ≤ 3
  · by_cases h2 : (0 : Int32) ≤ b ∧ b ≤ 4
    · obtain ⟨h, hh, rfl⟩ := am_rng (N := 3) rfl (by decide) h1
      have hh4 : h < 4 := by omega
      repeat (
        (try conv => whnf)
        first
          | refine ⟨am_vin (by decide), ?_⟩
          | refine br_f (by decide) ?_
          | refine br_t (by decide) ?_
          | refine br_t (by assumption) ?_
          | refine br_f (by assumption) ?_
          | refine x_withinY hJ (by assumption) ?_
          | refine x_withinN hJ (by assumption) ?_
          | refine m_in1Y hJ (by assumption) ?_
          | refine m_in1N hJ (by assumption) ?_
          | refine m_isGateY hJ (by assumption) ?_
          | refine m_isGateN hJ (by assumption) ?_
          | refine m_isDigitY hJ (by assumption) ?_
          | refine m_isDigitN hJ (by assumption) ?_
          | refine m_isNeedY hJ (by assumption) ?_
          | refine m_isNeedN hJ (by assumption) ?_
          | refine m_isPlanY hJ (by assumption) ?_
          | refine m_isPlanN hJ (by assumption) ?_
          | refine m_isSheetY hJ (by assumption) ?_
          | refine m_isSheetN hJ (by assumption) ?_
          | refine x_isSheetY hJ (by assumption) ?_
          | refine x_isSheetN hJ (by assumption) ?_
          | refine x_isShelfY hJ (by assumption) ?_
          | refine x_isShelfN hJ (by assumption) ?_
          | refine x_hasY hJ (by assumption) (by assumption) (by assumption) ?_
          | refine x_hasN hJ (by assumption) (by assumption) (by assumption) ?_
          | refine m_isPersonY hJ (by assumption) (by assumption) (by assumption) ?_
          | refine m_isPersonN hJ (by assumption) (by assumption) (by assumption) ?_
          | refine am_vc hJ 120 40 _ _ _ _ _ _ ?_
          | refine ⟨_, rfl, ?_⟩)
      refine x_refusalAs hJ hh4 (fun g => ?_) (fun g g2 => ?_) (fun g g2 => ?_)
      · have s : I 81 h = -1 := by
          rcases hSh h hh4 with ⟨q1, q2⟩ | ⟨so, n, q1, q2, q3, q4, q5, q6, q7⟩
          · exact q2
          · exact absurd (q3.symm.trans g) (am_neg1 (by omega))
        repeat (
          (try conv => whnf)
          first
            | refine ⟨am_vin (by decide), ?_⟩
            | refine br_f (by decide) ?_
            | refine br_t (by decide) ?_
            | refine br_t (by assumption) ?_
            | refine br_f (by assumption) ?_
            | refine x_withinY hJ (by assumption) ?_
            | refine x_withinN hJ (by assumption) ?_
            | refine m_in1Y hJ (by assumption) ?_
            | refine m_in1N hJ (by assumption) ?_
            | refine m_isGateY hJ (by assumption) ?_
            | refine m_isGateN hJ (by assumption) ?_
            | refine m_isDigitY hJ (by assumption) ?_
            | refine m_isDigitN hJ (by assumption) ?_
            | refine m_isNeedY hJ (by assumption) ?_
            | refine m_isNeedN hJ (by assumption) ?_
            | refine m_isPlanY hJ (by assumption) ?_
            | refine m_isPlanN hJ (by assumption) ?_
            | refine m_isSheetY hJ (by assumption) ?_
            | refine m_isSheetN hJ (by assumption) ?_
            | refine x_isSheetY hJ (by assumption) ?_
            | refine x_isSheetN hJ (by assumption) ?_
            | refine x_isShelfY hJ (by assumption) ?_
            | refine x_isShelfN hJ (by assumption) ?_
            | refine x_hasY hJ (by assumption) (by assumption) (by assumption) ?_
            | refine x_hasN hJ (by assumption) (by assumption) (by assumption) ?_
            | refine m_isPersonY hJ (by assumption) (by assumption) (by assumption) ?_
            | refine m_isPersonN hJ (by assumption) (by assumption) (by assumption) ?_
            | refine am_vc hJ 120 40 _ _ _ _ _ _ ?_
            | refine ⟨_, rfl, ?_⟩)
        refine m_lacks hJ hh4 (fun _ => ?_) (fun z => ?_) (fun z => ?_)
        · repeat (
            (try conv => whnf)
            first
              | refine ⟨am_vin (by decide), ?_⟩
              | refine br_f (by decide) ?_
              | refine br_t (by decide) ?_
              | refine br_t (by assumption) ?_
              | refine br_f (by assumption) ?_
              | refine x_withinY hJ (by assumption) ?_
              | refine x_withinN hJ (by assumption) ?_
              | refine m_in1Y hJ (by assumption) ?_
              | refine m_in1N hJ (by assumption) ?_
              | refine m_isGateY hJ (by assumption) ?_
              | refine m_isGateN hJ (by assumption) ?_
              | refine m_isDigitY hJ (by assumption) ?_
              | refine m_isDigitN hJ (by assumption) ?_
              | refine m_isNeedY hJ (by assumption) ?_
              | refine m_isNeedN hJ (by assumption) ?_
              | refine m_isPlanY hJ (by assumption) ?_
              | refine m_isPlanN hJ (by assumption) ?_
              | refine m_isSheetY hJ (by assumption) ?_
              | refine m_isSheetN hJ (by assumption) ?_
              | refine x_isSheetY hJ (by assumption) ?_
              | refine x_isSheetN hJ (by assumption) ?_
              | refine x_isShelfY hJ (by assumption) ?_
              | refine x_isShelfN hJ (by assumption) ?_
              | refine x_hasY hJ (by assumption) (by assumption) (by assumption) ?_
              | refine x_hasN hJ (by assumption) (by assumption) (by assumption) ?_
              | refine m_isPersonY hJ (by assumption) (by assumption) (by assumption) ?_
              | refine m_isPersonN hJ (by assumption) (by assumption) (by assumption) ?_
              | refine am_vc hJ 120 40 _ _ _ _ _ _ ?_
              | refine ⟨_, rfl, ?_⟩)
          exact ⟨rfl, hQc _ hI⟩
        · rw [s] at z; exact absurd z (by decide)
        · rw [s] at z; exact absurd z (by decide)
      · rcases hSh h hh4 with ⟨q1, q2⟩ | ⟨so, n, q1, q2, q3, q4, q5, q6, q7⟩
        · exact absurd q1 g
        · have g3 : I 81 h = b := by rw [q4, ← q3]; exact g2
          repeat (
            (try conv => whnf)
            first
              | refine ⟨am_vin (by decide), ?_⟩
              | refine br_f (by decide) ?_
              | refine br_t (by decide) ?_
              | refine br_t (by assumption) ?_
              | refine br_f (by assumption) ?_
              | refine x_withinY hJ (by assumption) ?_
              | refine x_withinN hJ (by assumption) ?_
              | refine m_in1Y hJ (by assumption) ?_
              | refine m_in1N hJ (by assumption) ?_
              | refine m_isGateY hJ (by assumption) ?_
              | refine m_isGateN hJ (by assumption) ?_
              | refine m_isDigitY hJ (by assumption) ?_
              | refine m_isDigitN hJ (by assumption) ?_
              | refine m_isNeedY hJ (by assumption) ?_
              | refine m_isNeedN hJ (by assumption) ?_
              | refine m_isPlanY hJ (by assumption) ?_
              | refine m_isPlanN hJ (by assumption) ?_
              | refine m_isSheetY hJ (by assumption) ?_
              | refine m_isSheetN hJ (by assumption) ?_
              | refine x_isSheetY hJ (by assumption) ?_
              | refine x_isSheetN hJ (by assumption) ?_
              | refine x_isShelfY hJ (by assumption) ?_
              | refine x_isShelfN hJ (by assumption) ?_
              | refine x_hasY hJ (by assumption) (by assumption) (by assumption) ?_
              | refine x_hasN hJ (by assumption) (by assumption) (by assumption) ?_
              | refine m_isPersonY hJ (by assumption) (by assumption) (by assumption) ?_
              | refine m_isPersonN hJ (by assumption) (by assumption) (by assumption) ?_
              | refine am_vc hJ 120 40 _ _ _ _ _ _ ?_
              | refine ⟨_, rfl, ?_⟩)
          refine x_hasItem hJ hh4 q5 q2 (fun z => ?_) (fun z => ?_)
          · obtain ⟨j, hj, rfl⟩ := id z
            have e : 40 * nI h + nI j = nI (40 * h + j) := by rw [show (40 : Int32) = nI 40 from rfl, pk_mul, nI_add]
            have fin : J 40 q_M_item 0 (am_ents q_M_item [Value.ref 66, .int (nI h), .int b, .int (nI j)]) [] I (fun r2 I2 => r2 = some (.int (I (57 + h) j)) ∧ Qc I2) := by
              repeat (
                (try conv => whnf)
                first
                  | refine ⟨am_vin (by decide), ?_⟩
                  | refine br_f (by decide) ?_
                  | refine br_t (by decide) ?_
                  | refine br_t (by assumption) ?_
                  | refine br_f (by assumption) ?_
                  | refine x_withinY hJ (by assumption) ?_
                  | refine x_withinN hJ (by assumption) ?_
                  | refine m_in1Y hJ (by assumption) ?_
                  | refine m_in1N hJ (by assumption) ?_
                  | refine m_isGateY hJ (by assumption) ?_
                  | refine m_isGateN hJ (by assumption) ?_
                  | refine m_isDigitY hJ (by assumption) ?_
                  | refine m_isDigitN hJ (by assumption) ?_
                  | refine m_isNeedY hJ (by assumption) ?_
                  | refine m_isNeedN hJ (by assumption) ?_
                  | refine m_isPlanY hJ (by assumption) ?_
                  | refine m_isPlanN hJ (by assumption) ?_
                  | refine m_isSheetY hJ (by assumption) ?_
                  | refine m_isSheetN hJ (by assumption) ?_
                  | refine x_isSheetY hJ (by assumption) ?_
                  | refine x_isSheetN hJ (by assumption) ?_
                  | refine x_isShelfY hJ (by assumption) ?_
                  | refine x_isShelfN hJ (by assumption) ?_
                  | refine x_hasY hJ (by assumption) (by assumption) (by assumption) ?_
                  | refine x_hasN hJ (by assumption) (by assumption) (by assumption) ?_
                  | refine m_isPersonY hJ (by assumption) (by assumption) (by assumption) ?_
                  | refine m_isPersonN hJ (by assumption) (by assumption) (by assumption) ?_
                  | refine am_vc hJ 120 40 _ _ _ _ _ _ ?_
                  | refine ⟨_, rfl, ?_⟩)
              refine m_lacks hJ hh4 (fun z => ?_) (fun _ _ => ?_) (fun _ z => absurd g3 z)
              · rw [q4] at z; exact absurd z (nI_pos (by omega))
              repeat (
                (try conv => whnf)
                first
                  | refine ⟨am_vin (by decide), ?_⟩
                  | refine br_f (by decide) ?_
                  | refine br_t (by decide) ?_
                  | refine br_t (by assumption) ?_
                  | refine br_f (by assumption) ?_
                  | refine x_withinY hJ (by assumption) ?_
                  | refine x_withinN hJ (by assumption) ?_
                  | refine m_in1Y hJ (by assumption) ?_
                  | refine m_in1N hJ (by assumption) ?_
                  | refine m_isGateY hJ (by assumption) ?_
                  | refine m_isGateN hJ (by assumption) ?_
                  | refine m_isDigitY hJ (by assumption) ?_
                  | refine m_isDigitN hJ (by assumption) ?_
                  | refine m_isNeedY hJ (by assumption) ?_
                  | refine m_isNeedN hJ (by assumption) ?_
                  | refine m_isPlanY hJ (by assumption) ?_
                  | refine m_isPlanN hJ (by assumption) ?_
                  | refine m_isSheetY hJ (by assumption) ?_
                  | refine m_isSheetN hJ (by assumption) ?_
                  | refine x_isSheetY hJ (by assumption) ?_
                  | refine x_isSheetN hJ (by assumption) ?_
                  | refine x_isShelfY hJ (by assumption) ?_
                  | refine x_isShelfN hJ (by assumption) ?_
                  | refine x_hasY hJ (by assumption) (by assumption) (by assumption) ?_
                  | refine x_hasN hJ (by assumption) (by assumption) (by assumption) ?_
                  | refine m_isPersonY hJ (by assumption) (by assumption) (by assumption) ?_
                  | refine m_isPersonN hJ (by assumption) (by assumption) (by assumption) ?_
                  | refine am_vc hJ 120 40 _ _ _ _ _ _ ?_
                  | refine ⟨_, rfl, ?_⟩)
              refine ⟨vp_in_nI (by omega) (by omega), ?_⟩
              refine m_in1 hJ (fun _ => ?_) (fun z2 => ?_)
              · repeat (
                  (try conv => whnf)
                  first
                    | refine ⟨am_vin (by decide), ?_⟩
                    | refine br_f (by decide) ?_
                    | refine br_t (by decide) ?_
                    | refine br_t (by assumption) ?_
                    | refine br_f (by assumption) ?_
                    | refine x_withinY hJ (by assumption) ?_
                    | refine x_withinN hJ (by assumption) ?_
                    | refine m_in1Y hJ (by assumption) ?_
                    | refine m_in1N hJ (by assumption) ?_
                    | refine m_isGateY hJ (by assumption) ?_
                    | refine m_isGateN hJ (by assumption) ?_
                    | refine m_isDigitY hJ (by assumption) ?_
                    | refine m_isDigitN hJ (by assumption) ?_
                    | refine m_isNeedY hJ (by assumption) ?_
                    | refine m_isNeedN hJ (by assumption) ?_
                    | refine m_isPlanY hJ (by assumption) ?_
                    | refine m_isPlanN hJ (by assumption) ?_
                    | refine m_isSheetY hJ (by assumption) ?_
                    | refine m_isSheetN hJ (by assumption) ?_
                    | refine x_isSheetY hJ (by assumption) ?_
                    | refine x_isSheetN hJ (by assumption) ?_
                    | refine x_isShelfY hJ (by assumption) ?_
                    | refine x_isShelfN hJ (by assumption) ?_
                    | refine x_hasY hJ (by assumption) (by assumption) (by assumption) ?_
                    | refine x_hasN hJ (by assumption) (by assumption) (by assumption) ?_
                    | refine m_isPersonY hJ (by assumption) (by assumption) (by assumption) ?_
                    | refine m_isPersonN hJ (by assumption) (by assumption) (by assumption) ?_
                    | refine am_vc hJ 120 40 _ _ _ _ _ _ ?_
                    | refine ⟨_, rfl, ?_⟩)
                refine ⟨am_vinN e (by omega) (by omega), ?_⟩
                refine ⟨?_, hQc _ hI⟩
                show some (Value.int (I 83 (40 * nI h + nI j).toNatClampNeg)) = some (Value.int (I (57 + h) j))
                rw [am_clN e (by omega), q7 j (by omega)]
              · have z2 : ¬ (0 ≤ nI j ∧ nI j ≤ I 82 (nI h).toNatClampNeg - 1) := z2
                rw [nI_clamp (by omega), q6, am_cnt (by omega)] at z2
                exact absurd z z2
            rcases (show h = 0 ∨ h = 1 ∨ h = 2 ∨ h = 3 by omega) with rfl | rfl | rfl | rfl
            all_goals
              refine br_f (by decide) ?_
              refine ⟨am_vin (by decide), ?_⟩
              refine ⟨vp_in_nI (by omega) (by omega), ?_⟩
              refine ⟨_, rfl, ?_⟩
              rw [nI_clamp (n := j) (by omega)]
              exact fin
          · repeat (
              (try conv => whnf)
              first
                | refine ⟨am_vin (by decide), ?_⟩
                | refine br_f (by decide) ?_
                | refine br_t (by decide) ?_
                | refine br_t (by assumption) ?_
                | refine br_f (by assumption) ?_
                | refine x_withinY hJ (by assumption) ?_
                | refine x_withinN hJ (by assumption) ?_
                | refine m_in1Y hJ (by assumption) ?_
                | refine m_in1N hJ (by assumption) ?_
                | refine m_isGateY hJ (by assumption) ?_
                | refine m_isGateN hJ (by assumption) ?_
                | refine m_isDigitY hJ (by assumption) ?_
                | refine m_isDigitN hJ (by assumption) ?_
                | refine m_isNeedY hJ (by assumption) ?_
                | refine m_isNeedN hJ (by assumption) ?_
                | refine m_isPlanY hJ (by assumption) ?_
                | refine m_isPlanN hJ (by assumption) ?_
                | refine m_isSheetY hJ (by assumption) ?_
                | refine m_isSheetN hJ (by assumption) ?_
                | refine x_isSheetY hJ (by assumption) ?_
                | refine x_isSheetN hJ (by assumption) ?_
                | refine x_isShelfY hJ (by assumption) ?_
                | refine x_isShelfN hJ (by assumption) ?_
                | refine x_hasY hJ (by assumption) (by assumption) (by assumption) ?_
                | refine x_hasN hJ (by assumption) (by assumption) (by assumption) ?_
                | refine m_isPersonY hJ (by assumption) (by assumption) (by assumption) ?_
                | refine m_isPersonN hJ (by assumption) (by assumption) (by assumption) ?_
                | refine am_vc hJ 120 40 _ _ _ _ _ _ ?_
                | refine ⟨_, rfl, ?_⟩)
            refine m_lacks hJ hh4 (fun z => ?_) (fun _ _ => ?_) (fun _ z => absurd g3 z)
            · rw [q4] at z; exact absurd z (nI_pos (by omega))
            repeat (
              (try conv => whnf)
              first
                | refine ⟨am_vin (by decide), ?_⟩
                | refine br_f (by decide) ?_
                | refine br_t (by decide) ?_
                | refine br_t (by assumption) ?_
                | refine br_f (by assumption) ?_
                | refine x_withinY hJ (by assumption) ?_
                | refine x_withinN hJ (by assumption) ?_
                | refine m_in1Y hJ (by assumption) ?_
                | refine m_in1N hJ (by assumption) ?_
                | refine m_isGateY hJ (by assumption) ?_
                | refine m_isGateN hJ (by assumption) ?_
                | refine m_isDigitY hJ (by assumption) ?_
                | refine m_isDigitN hJ (by assumption) ?_
                | refine m_isNeedY hJ (by assumption) ?_
                | refine m_isNeedN hJ (by assumption) ?_
                | refine m_isPlanY hJ (by assumption) ?_
                | refine m_isPlanN hJ (by assumption) ?_
                | refine m_isSheetY hJ (by assumption) ?_
                | refine m_isSheetN hJ (by assumption) ?_
                | refine x_isSheetY hJ (by assumption) ?_
                | refine x_isSheetN hJ (by assumption) ?_
                | refine x_isShelfY hJ (by assumption) ?_
                | refine x_isShelfN hJ (by assumption) ?_
                | refine x_hasY hJ (by assumption) (by assumption) (by assumption) ?_
                | refine x_hasN hJ (by assumption) (by assumption) (by assumption) ?_
                | refine m_isPersonY hJ (by assumption) (by assumption) (by assumption) ?_
                | refine m_isPersonN hJ (by assumption) (by assumption) (by assumption) ?_
                | refine am_vc hJ 120 40 _ _ _ _ _ _ ?_
                | refine ⟨_, rfl, ?_⟩)
            refine ⟨vp_in_nI (by omega) (by omega), ?_⟩
            refine m_in1 hJ (fun z2 => ?_) (fun _ => ?_)
            · have z2 : 0 ≤ c ∧ c ≤ I 82 (nI h).toNatClampNeg - 1 := z2
              rw [nI_clamp (by omega), q6, am_cnt (by omega)] at z2
              exact absurd z2 z
            · repeat (
                (try conv => whnf)
                first
                  | refine ⟨am_vin (by decide), ?_⟩
                  | refine br_f (by decide) ?_
                  | refine br_t (by decide) ?_
                  | refine br_t (by assumption) ?_
                  | refine br_f (by assumption) ?_
                  | refine x_withinY hJ (by assumption) ?_
                  | refine x_withinN hJ (by assumption) ?_
                  | refine m_in1Y hJ (by assumption) ?_
                  | refine m_in1N hJ (by assumption) ?_
                  | refine m_isGateY hJ (by assumption) ?_
                  | refine m_isGateN hJ (by assumption) ?_
                  | refine m_isDigitY hJ (by assumption) ?_
                  | refine m_isDigitN hJ (by assumption) ?_
                  | refine m_isNeedY hJ (by assumption) ?_
                  | refine m_isNeedN hJ (by assumption) ?_
                  | refine m_isPlanY hJ (by assumption) ?_
                  | refine m_isPlanN hJ (by assumption) ?_
                  | refine m_isSheetY hJ (by assumption) ?_
                  | refine m_isSheetN hJ (by assumption) ?_
                  | refine x_isSheetY hJ (by assumption) ?_
                  | refine x_isSheetN hJ (by assumption) ?_
                  | refine x_isShelfY hJ (by assumption) ?_
                  | refine x_isShelfN hJ (by assumption) ?_
                  | refine x_hasY hJ (by assumption) (by assumption) (by assumption) ?_
                  | refine x_hasN hJ (by assumption) (by assumption) (by assumption) ?_
                  | refine m_isPersonY hJ (by assumption) (by assumption) (by assumption) ?_
                  | refine m_isPersonN hJ (by assumption) (by assumption) (by assumption) ?_
                  | refine am_vc hJ 120 40 _ _ _ _ _ _ ?_
                  | refine ⟨_, rfl, ?_⟩)
              exact ⟨rfl, hQc _ hI⟩
      · rcases hSh h hh4 with ⟨q1, q2⟩ | ⟨so, n, q1, q2, q3, q4, q5, q6, q7⟩
        · exact absurd q1 g
        · have g3 : ¬ I 81 h = b := by rw [q4, ← q3]; exact g2
          repeat (
            (try conv => whnf)
            first
              | refine ⟨am_vin (by decide), ?_⟩
              | refine br_f (by decide) ?_
              | refine br_t (by decide) ?_
              | refine br_t (by assumption) ?_
              | refine br_f (by assumption) ?_
              | refine x_withinY hJ (by assumption) ?_
              | refine x_withinN hJ (by assumption) ?_
              | refine m_in1Y hJ (by assumption) ?_
              | refine m_in1N hJ (by assumption) ?_
              | refine m_isGateY hJ (by assumption) ?_
              | refine m_isGateN hJ (by assumption) ?_
              | refine m_isDigitY hJ (by assumption) ?_
              | refine m_isDigitN hJ (by assumption) ?_
              | refine m_isNeedY hJ (by assumption) ?_
              | refine m_isNeedN hJ (by assumption) ?_
              | refine m_isPlanY hJ (by assumption) ?_
              | refine m_isPlanN hJ (by assumption) ?_
              | refine m_isSheetY hJ (by assumption) ?_
              | refine m_isSheetN hJ (by assumption) ?_
              | refine x_isSheetY hJ (by assumption) ?_
              | refine x_isSheetN hJ (by assumption) ?_
              | refine x_isShelfY hJ (by assumption) ?_
              | refine x_isShelfN hJ (by assumption) ?_
              | refine x_hasY hJ (by assumption) (by assumption) (by assumption) ?_
              | refine x_hasN hJ (by assumption) (by assumption) (by assumption) ?_
              | refine m_isPersonY hJ (by assumption) (by assumption) (by assumption) ?_
              | refine m_isPersonN hJ (by assumption) (by assumption) (by assumption) ?_
              | refine am_vc hJ 120 40 _ _ _ _ _ _ ?_
              | refine ⟨_, rfl, ?_⟩)
          refine m_lacks hJ hh4 (fun z => ?_) (fun _ z => absurd z g3) (fun _ _ => ?_)
          · rw [q4] at z; exact absurd z (nI_pos (by omega))
          repeat (
            (try conv => whnf)
            first
              | refine ⟨am_vin (by decide), ?_⟩
              | refine br_f (by decide) ?_
              | refine br_t (by decide) ?_
              | refine br_t (by assumption) ?_
              | refine br_f (by assumption) ?_
              | refine x_withinY hJ (by assumption) ?_
              | refine x_withinN hJ (by assumption) ?_
              | refine m_in1Y hJ (by assumption) ?_
              | refine m_in1N hJ (by assumption) ?_
              | refine m_isGateY hJ (by assumption) ?_
              | refine m_isGateN hJ (by assumption) ?_
              | refine m_isDigitY hJ (by assumption) ?_
              | refine m_isDigitN hJ (by assumption) ?_
              | refine m_isNeedY hJ (by assumption) ?_
              | refine m_isNeedN hJ (by assumption) ?_
              | refine m_isPlanY hJ (by assumption) ?_
              | refine m_isPlanN hJ (by assumption) ?_
              | refine m_isSheetY hJ (by assumption) ?_
              | refine m_isSheetN hJ (by assumption) ?_
              | refine x_isSheetY hJ (by assumption) ?_
              | refine x_isSheetN hJ (by assumption) ?_
              | refine x_isShelfY hJ (by assumption) ?_
              | refine x_isShelfN hJ (by assumption) ?_
              | refine x_hasY hJ (by assumption) (by assumption) (by assumption) ?_
              | refine x_hasN hJ (by assumption) (by assumption) (by assumption) ?_
              | refine m_isPersonY hJ (by assumption) (by assumption) (by assumption) ?_
              | refine m_isPersonN hJ (by assumption) (by assumption) (by assumption) ?_
              | refine am_vc hJ 120 40 _ _ _ _ _ _ ?_
              | refine ⟨_, rfl, ?_⟩)
          exact ⟨rfl, hQc _ hI⟩
    · repeat (
        (try conv => whnf)
        first
          | refine ⟨am_vin (by decide), ?_⟩
          | refine ⟨(by assumption : vp_in _ _), ?_⟩
          | refine br_f (by decide) ?_
          | refine br_t (by decide) ?_
          | refine br_t (by assumption) ?_
          | refine br_f (by assumption) ?_
          | refine x_withinY hJ (by assumption) ?_
          | refine x_withinN hJ (by assumption) ?_
          | refine m_in1Y hJ (by assumption) ?_
          | refine m_in1N hJ (by assumption) ?_
          | refine m_isGateY hJ (by assumption) ?_
          | refine m_isGateN hJ (by assumption) ?_
          | refine m_isDigitY hJ (by assumption) ?_
          | refine m_isDigitN hJ (by assumption) ?_
          | refine m_isNeedY hJ (by assumption) ?_
          | refine m_isNeedN hJ (by assumption) ?_
          | refine m_isPlanY hJ (by assumption) ?_
          | refine m_isPlanN hJ (by assumption) ?_
          | refine m_isSheetY hJ (by assumption) ?_
          | refine m_isSheetN hJ (by assumption) ?_
          | refine x_isSheetY hJ (by assumption) ?_
          | refine x_isSheetN hJ (by assumption) ?_
          | refine x_isShelfY hJ (by assumption) ?_
          | refine x_isShelfN hJ (by assumption) ?_
          | refine x_hasY hJ (by assumption) (by assumption) (by assumption) ?_
          | refine x_hasN hJ (by assumption) (by assumption) (by assumption) ?_
          | refine m_isPersonY hJ (by assumption) (by assumption) (by assumption) ?_
          | refine m_isPersonN hJ (by assumption) (by assumption) (by assumption) ?_
          | refine am_vc hJ 120 40 _ _ _ _ _ _ ?_
          | refine ⟨_, rfl, ?_⟩)
      exact ⟨rfl, hQc _ hI⟩
  · repeat (
      (try conv => whnf)
      first
        | refine ⟨am_vin (by decide), ?_⟩
        | refine ⟨(by assumption : vp_in _ _), ?_⟩
        | refine br_f (by decide) ?_
        | refine br_t (by decide) ?_
        | refine br_t (by assumption) ?_
        | refine br_f (by assumption) ?_
        | refine x_withinY hJ (by assumption) ?_
        | refine x_withinN hJ (by assumption) ?_
        | refine m_in1Y hJ (by assumption) ?_
        | refine m_in1N hJ (by assumption) ?_
        | refine m_isGateY hJ (by assumption) ?_
        | refine m_isGateN hJ (by assumption) ?_
        | refine m_isDigitY hJ (by assumption) ?_
        | refine m_isDigitN hJ (by assumption) ?_
        | refine m_isNeedY hJ (by assumption) ?_
        | refine m_isNeedN hJ (by assumption) ?_
        | refine m_isPlanY hJ (by assumption) ?_
        | refine m_isPlanN hJ (by assumption) ?_
        | refine m_isSheetY hJ (by assumption) ?_
        | refine m_isSheetN hJ (by assumption) ?_
        | refine x_isSheetY hJ (by assumption) ?_
        | refine x_isSheetN hJ (by assumption) ?_
        | refine x_isShelfY hJ (by assumption) ?_
        | refine x_isShelfN hJ (by assumption) ?_
        | refine x_hasY hJ (by assumption) (by assumption) (by assumption) ?_
        | refine x_hasN hJ (by assumption) (by assumption) (by assumption) ?_
        | refine m_isPersonY hJ (by assumption) (by assumption) (by assumption) ?_
        | refine m_isPersonN hJ (by assumption) (by assumption) (by assumption) ?_
        | refine am_vc hJ 120 40 _ _ _ _ _ _ ?_
        | refine ⟨_, rfl, ?_⟩)
    exact ⟨rfl, hQc _ hI⟩
theorem op_write (hJ : am_Cl am_meth L xs J) (a b c : Int32) : am_same Inv J q_X_write q_M_write [.int a, .int b, .int c] := by
  intro I hI Qc hQc
  obtain ⟨u, uk, hMn, hK, hT, hRw, hSh, hSf, hTr, hLe⟩ := id hI
  by_cases h1 : (0 : Int32) ≤ a ∧ a ≤ 3
  · obtain ⟨h, hh, rfl⟩ := am_rng (N := 3) rfl (by decide) h1
    have hh4 : h < 4 := by omega
    have e : (nI h).toNatClampNeg = h := nI_clamp (by omega)
    rcases hSh h hh4 with ⟨q1, q2⟩ | ⟨so, n, q1, q2, q3, q4, q5, q6, q7⟩
    · have g1 : I 54 (nI h).toNatClampNeg = -1 := by rw [e]; exact q1
      have g2 : ¬ 0 ≤ I 81 (nI h).toNatClampNeg := by rw [e, q2]; decide
      repeat (
        (try conv => whnf)
        first
          | refine ⟨am_vin (by decide), ?_⟩
          | refine br_f (by decide) ?_
          | refine br_t (by decide) ?_
          | refine br_t (by assumption) ?_
          | refine br_f (by assumption) ?_
          | refine x_withinY hJ (by assumption) ?_
          | refine x_withinN hJ (by assumption) ?_
          | refine m_in1Y hJ (by assumption) ?_
          | refine m_in1N hJ (by assumption) ?_
          | refine m_isGateY hJ (by assumption) ?_
          | refine m_isGateN hJ (by assumption) ?_
          | refine m_isDigitY hJ (by assumption) ?_
          | refine m_isDigitN hJ (by assumption) ?_
          | refine m_isNeedY hJ (by assumption) ?_
          | refine m_isNeedN hJ (by assumption) ?_
          | refine m_isPlanY hJ (by assumption) ?_
          | refine m_isPlanN hJ (by assumption) ?_
          | refine m_isSheetY hJ (by assumption) ?_
          | refine m_isSheetN hJ (by assumption) ?_
          | refine x_isSheetY hJ (by assumption) ?_
          | refine x_isSheetN hJ (by assumption) ?_
          | refine x_isShelfY hJ (by assumption) ?_
          | refine x_isShelfN hJ (by assumption) ?_
          | refine x_hasY hJ (by assumption) (by assumption) (by assumption) ?_
          | refine x_hasN hJ (by assumption) (by assumption) (by assumption) ?_
          | refine m_isPersonY hJ (by assumption) (by assumption) (by assumption) ?_
          | refine m_isPersonN hJ (by assumption) (by assumption) (by assumption) ?_
          | refine am_vc hJ 120 40 _ _ _ _ _ _ ?_
          | refine ⟨_, rfl, ?_⟩)
      refine ⟨vp_in_nI (by omega) (by omega), ?_⟩
      repeat (
        (try conv => whnf)
        first
          | refine ⟨am_vin (by decide), ?_⟩
          | refine br_f (by decide) ?_
          | refine br_t (by decide) ?_
          | refine br_t (by assumption) ?_
          | refine br_f (by assumption) ?_
          | refine x_withinY hJ (by assumption) ?_
          | refine x_withinN hJ (by assumption) ?_
          | refine m_in1Y hJ (by assumption) ?_
          | refine m_in1N hJ (by assumption) ?_
          | refine m_isGateY hJ (by assumption) ?_
          | refine m_isGateN hJ (by assumption) ?_
          | refine m_isDigitY hJ (by assumption) ?_
          | refine m_isDigitN hJ (by assumption) ?_
          | refine m_isNeedY hJ (by assumption) ?_
          | refine m_isNeedN hJ (by assumption) ?_
          | refine m_isPlanY hJ (by assumption) ?_
          | refine m_isPlanN hJ (by assumption) ?_
          | refine m_isSheetY hJ (by assumption) ?_
          | refine m_isSheetN hJ (by assumption) ?_
          | refine x_isSheetY hJ (by assumption) ?_
          | refine x_isSheetN hJ (by assumption) ?_
          | refine x_isShelfY hJ (by assumption) ?_
          | refine x_isShelfN hJ (by assumption) ?_
          | refine x_hasY hJ (by assumption) (by assumption) (by assumption) ?_
          | refine x_hasN hJ (by assumption) (by assumption) (by assumption) ?_
          | refine m_isPersonY hJ (by assumption) (by assumption) (by assumption) ?_
          | refine m_isPersonN hJ (by assumption) (by assumption) (by assumption) ?_
          | refine am_vc hJ 120 40 _ _ _ _ _ _ ?_
          | refine ⟨_, rfl, ?_⟩)
      refine ⟨vp_in_nI (by omega) (by omega), ?_⟩
      repeat (
        (try conv => whnf)
        first
          | refine ⟨am_vin (by decide), ?_⟩
          | refine br_f (by decide) ?_
          | refine br_t (by decide) ?_
          | refine br_t (by assumption) ?_
          | refine br_f (by assumption) ?_
          | refine x_withinY hJ (by assumption) ?_
          | refine x_withinN hJ (by assumption) ?_
          | refine m_in1Y hJ (by assumption) ?_
          | refine m_in1N hJ (by assumption) ?_
          | refine m_isGateY hJ (by assumption) ?_
          | refine m_isGateN hJ (by assumption) ?_
          | refine m_isDigitY hJ (by assumption) ?_
          | refine m_isDigitN hJ (by assumption) ?_
          | refine m_isNeedY hJ (by assumption) ?_
          | refine m_isNeedN hJ (by assumption) ?_
          | refine m_isPlanY hJ (by assumption) ?_
          | refine m_isPlanN hJ (by assumption) ?_
          | refine m_isSheetY hJ (by assumption) ?_
          | refine m_isSheetN hJ (by assumption) ?_
          | refine x_isSheetY hJ (by assumption) ?_
          | refine x_isSheetN hJ (by assumption) ?_
          | refine x_isShelfY hJ (by assumption) ?_
          | refine x_isShelfN hJ (by assumption) ?_
          | refine x_hasY hJ (by assumption) (by assumption) (by assumption) ?_
          | refine x_hasN hJ (by assumption) (by assumption) (by assumption) ?_
          | refine m_isPersonY hJ (by assumption) (by assumption) (by assumption) ?_
          | refine m_isPersonN hJ (by assumption) (by assumption) (by assumption) ?_
          | refine am_vc hJ 120 40 _ _ _ _ _ _ ?_
          | refine ⟨_, rfl, ?_⟩)
      exact ⟨rfl, hQc _ hI⟩
    · have g1 : ¬ I 54 (nI h).toNatClampNeg = -1 := by rw [e, q3]; exact am_neg1 (by omega)
      have g2 : 0 ≤ I 81 (nI h).toNatClampNeg := by rw [e, q4]; exact nI_pos' (by omega)
      repeat (
        (try conv => whnf)
        first
          | refine ⟨am_vin (by decide), ?_⟩
          | refine br_f (by decide) ?_
          | refine br_t (by decide) ?_
          | refine br_t (by assumption) ?_
          | refine br_f (by assumption) ?_
          | refine x_withinY hJ (by assumption) ?_
          | refine x_withinN hJ (by assumption) ?_
          | refine m_in1Y hJ (by assumption) ?_
          | refine m_in1N hJ (by assumption) ?_
          | refine m_isGateY hJ (by assumption) ?_
          | refine m_isGateN hJ (by assumption) ?_
          | refine m_isDigitY hJ (by assumption) ?_
          | refine m_isDigitN hJ (by assumption) ?_
          | refine m_isNeedY hJ (by assumption) ?_
          | refine m_isNeedN hJ (by assumption) ?_
          | refine m_isPlanY hJ (by assumption) ?_
          | refine m_isPlanN hJ (by assumption) ?_
          | refine m_isSheetY hJ (by assumption) ?_
          | refine m_isSheetN hJ (by assumption) ?_
          | refine x_isSheetY hJ (by assumption) ?_
          | refine x_isSheetN hJ (by assumption) ?_
          | refine x_isShelfY hJ (by assumption) ?_
          | refine x_isShelfN hJ (by assumption) ?_
          | refine x_hasY hJ (by assumption) (by assumption) (by assumption) ?_
          | refine x_hasN hJ (by assumption) (by assumption) (by assumption) ?_
          | refine m_isPersonY hJ (by assumption) (by assumption) (by assumption) ?_
          | refine m_isPersonN hJ (by assumption) (by assumption) (by assumption) ?_
          | refine am_vc hJ 120 40 _ _ _ _ _ _ ?_
          | refine ⟨_, rfl, ?_⟩)
      refine ⟨vp_in_nI (by omega) (by omega), ?_⟩
      repeat (
        (try conv => whnf)
        first
          | refine ⟨am_vin (by decide), ?_⟩
          | refine br_f (by decide) ?_
          | refine br_t (by decide) ?_
          | refine br_t (by assumption) ?_
          | refine br_f (by assumption) ?_
          | refine x_withinY hJ (by assumption) ?_
          | refine x_withinN hJ (by assumption) ?_
          | refine m_in1Y hJ (by assumption) ?_
          | refine m_in1N hJ (by assumption) ?_
          | refine m_isGateY hJ (by assumption) ?_
          | refine m_isGateN hJ (by assumption) ?_
          | refine m_isDigitY hJ (by assumption) ?_
          | refine m_isDigitN hJ (by assumption) ?_
          | refine m_isNeedY hJ (by assumption) ?_
          | refine m_isNeedN hJ (by assumption) ?_
          | refine m_isPlanY hJ (by assumption) ?_
          | refine m_isPlanN hJ (by assumption) ?_
          | refine m_isSheetY hJ (by assumption) ?_
          | refine m_isSheetN hJ (by assumption) ?_
          | refine x_isSheetY hJ (by assumption) ?_
          | refine x_isSheetN hJ (by assumption) ?_
          | refine x_isShelfY hJ (by assumption) ?_
          | refine x_isShelfN hJ (by assumption) ?_
          | refine x_hasY hJ (by assumption) (by assumption) (by assumption) ?_
          | refine x_hasN hJ (by assumption) (by assumption) (by assumption) ?_
          | refine m_isPersonY hJ (by assumption) (by assumption) (by assumption) ?_
          | refine m_isPersonN hJ (by assumption) (by assumption) (by assumption) ?_
          | refine am_vc hJ 120 40 _ _ _ _ _ _ ?_
          | refine ⟨_, rfl, ?_⟩)
      refine x_hasItem hJ hh4 q5 q2 (fun z => ?_) (fun z => ?_)
      · obtain ⟨j, hj, rfl⟩ := id z
        have e4 : 40 * nI h + nI j = nI (40 * h + j) := by rw [show (40 : Int32) = nI 40 from rfl, pk_mul, nI_add]
        have fin : J 40 q_M_write 0 (am_ents q_M_write [Value.ref 66, .int (nI h), .int (nI j), .int c]) [] (am_put I (57 + h) j (sp_nar (nI so) c)) (fun r2 I2 => r2 = some (.int 1) ∧ Qc I2) := by
          have n83 : ∀ o, 61 ≤ o → am_put I (57 + h) j (sp_nar (nI so) c) o = I o := fun o ho => am_put_o (by omega)
          have g2' : 0 ≤ am_put I (57 + h) j (sp_nar (nI so) c) 81 (nI h).toNatClampNeg := by rw [n83 81 (by omega)]; exact g2
          repeat (
            (try conv => whnf)
            first
              | refine ⟨am_vin (by decide), ?_⟩
              | refine br_f (by decide) ?_
              | refine br_t (by decide) ?_
              | refine br_t (by assumption) ?_
              | refine br_f (by assumption) ?_
              | refine x_withinY hJ (by assumption) ?_
              | refine x_withinN hJ (by assumption) ?_
              | refine m_in1Y hJ (by assumption) ?_
              | refine m_in1N hJ (by assumption) ?_
              | refine m_isGateY hJ (by assumption) ?_
              | refine m_isGateN hJ (by assumption) ?_
              | refine m_isDigitY hJ (by assumption) ?_
              | refine m_isDigitN hJ (by assumption) ?_
              | refine m_isNeedY hJ (by assumption) ?_
              | refine m_isNeedN hJ (by assumption) ?_
              | refine m_isPlanY hJ (by assumption) ?_
              | refine m_isPlanN hJ (by assumption) ?_
              | refine m_isSheetY hJ (by assumption) ?_
              | refine m_isSheetN hJ (by assumption) ?_
              | refine x_isSheetY hJ (by assumption) ?_
              | refine x_isSheetN hJ (by assumption) ?_
              | refine x_isShelfY hJ (by assumption) ?_
              | refine x_isShelfN hJ (by assumption) ?_
              | refine x_hasY hJ (by assumption) (by assumption) (by assumption) ?_
              | refine x_hasN hJ (by assumption) (by assumption) (by assumption) ?_
              | refine m_isPersonY hJ (by assumption) (by assumption) (by assumption) ?_
              | refine m_isPersonN hJ (by assumption) (by assumption) (by assumption) ?_
              | refine am_vc hJ 120 40 _ _ _ _ _ _ ?_
              | refine ⟨_, rfl, ?_⟩)
          refine ⟨vp_in_nI (by omega) (by omega), ?_⟩
          repeat (
            (try conv => whnf)
            first
              | refine ⟨am_vin (by decide), ?_⟩
              | refine br_f (by decide) ?_
              | refine br_t (by decide) ?_
              | refine br_t (by assumption) ?_
              | refine br_f (by assumption) ?_
              | refine x_withinY hJ (by assumption) ?_
              | refine x_withinN hJ (by assumption) ?_
              | refine m_in1Y hJ (by assumption) ?_
              | refine m_in1N hJ (by assumption) ?_
              | refine m_isGateY hJ (by assumption) ?_
              | refine m_isGateN hJ (by assumption) ?_
              | refine m_isDigitY hJ (by assumption) ?_
              | refine m_isDigitN hJ (by assumption) ?_
              | refine m_isNeedY hJ (by assumption) ?_
              | refine m_isNeedN hJ (by assumption) ?_
              | refine m_isPlanY hJ (by assumption) ?_
              | refine m_isPlanN hJ (by assumption) ?_
              | refine m_isSheetY hJ (by assumption) ?_
              | refine m_isSheetN hJ (by assumption) ?_
              | refine x_isSheetY hJ (by assumption) ?_
              | refine x_isSheetN hJ (by assumption) ?_
              | refine x_isShelfY hJ (by assumption) ?_
              | refine x_isShelfN hJ (by assumption) ?_
              | refine x_hasY hJ (by assumption) (by assumption) (by assumption) ?_
              | refine x_hasN hJ (by assumption) (by assumption) (by assumption) ?_
              | refine m_isPersonY hJ (by assumption) (by assumption) (by assumption) ?_
              | refine m_isPersonN hJ (by assumption) (by assumption) (by assumption) ?_
              | refine am_vc hJ 120 40 _ _ _ _ _ _ ?_
              | refine ⟨_, rfl, ?_⟩)
          refine ⟨vp_in_nI (by omega) (by omega), ?_⟩
          refine m_in1 hJ (fun _ => ?_) (fun z2 => ?_)
          · repeat (
              (try conv => whnf)
              first
                | refine ⟨am_vin (by decide), ?_⟩
                | refine br_f (by decide) ?_
                | refine br_t (by decide) ?_
                | refine br_t (by assumption) ?_
                | refine br_f (by assumption) ?_
                | refine x_withinY hJ (by assumption) ?_
                | refine x_withinN hJ (by assumption) ?_
                | refine m_in1Y hJ (by assumption) ?_
                | refine m_in1N hJ (by assumption) ?_
                | refine m_isGateY hJ (by assumption) ?_
                | refine m_isGateN hJ (by assumption) ?_
                | refine m_isDigitY hJ (by assumption) ?_
                | refine m_isDigitN hJ (by assumption) ?_
                | refine m_isNeedY hJ (by assumption) ?_
                | refine m_isNeedN hJ (by assumption) ?_
                | refine m_isPlanY hJ (by assumption) ?_
                | refine m_isPlanN hJ (by assumption) ?_
                | refine m_isSheetY hJ (by assumption) ?_
                | refine m_isSheetN hJ (by assumption) ?_
                | refine x_isSheetY hJ (by assumption) ?_
                | refine x_isSheetN hJ (by assumption) ?_
                | refine x_isShelfY hJ (by assumption) ?_
                | refine x_isShelfN hJ (by assumption) ?_
                | refine x_hasY hJ (by assumption) (by assumption) (by assumption) ?_
                | refine x_hasN hJ (by assumption) (by assumption) (by assumption) ?_
                | refine m_isPersonY hJ (by assumption) (by assumption) (by assumption) ?_
                | refine m_isPersonN hJ (by assumption) (by assumption) (by assumption) ?_
                | refine am_vc hJ 120 40 _ _ _ _ _ _ ?_
                | refine ⟨_, rfl, ?_⟩)
            refine ⟨vp_in_nI (by omega) (by omega), ?_⟩
            have e81 : am_put I (57 + h) j (sp_nar (nI so) c) 81 (nI h).toNatClampNeg = nI so := by rw [n83 81 (by omega), e, q4]
            (try conv => whnf)
            show J 39 q_M_narrowed 0 [some (.int c), some (.int (am_put I (57 + h) j (sp_nar (nI so) c) 81 (nI h).toNatClampNeg))] [] _ _
            rw [e81]
            refine m_narrowed hJ q1 ?_
            refine ⟨am_vinN e4 (by omega) (by omega), ?_⟩
            refine ⟨rfl, hQc _ ?_⟩
            show Inv (am_put (am_put I (57 + h) j (sp_nar (nI so) c)) 83 (40 * nI h + nI j).toNatClampNeg (sp_nar (nI so) c))
            rw [am_clN e4 (by omega)]
            refine hI.sheet (fun o ho => ?_) (fun i hi => ?_)
            · simp only [List.mem_cons, List.not_mem_nil, or_false, not_or] at ho
              rw [am_put_o (by omega), am_put_o (by omega)]
            · have k54 : ∀ o, o = 54 ∨ o = 55 ∨ o = 81 ∨ o = 82 → am_put (am_put I (57 + h) j (sp_nar (nI so) c)) 83 (40 * h + j) (sp_nar (nI so) c) o = I o := fun o ho => by rw [am_put_o (by omega), am_put_o (by omega)]
              rw [k54 54 (by omega), k54 81 (by omega), k54 55 (by omega), k54 82 (by omega)]
              rcases hSh i hi with ⟨w1, w2⟩ | ⟨so', n', w1, w2, w3, w4, w5, w6, w7⟩
              · exact Or.inl ⟨w1, w2⟩
              · refine Or.inr ⟨so', n', w1, w2, w3, w4, w5, w6, fun l hl => ?_⟩
                rw [am_put_o (o' := 57 + i) (by omega), put_if, am_put_o (o' := 83) (by omega)]
                by_cases z3 : i = h
                · subst z3
                  rw [put_if]
                  by_cases z4 : l = j
                  · subst z4
                    rw [if_pos rfl, if_pos rfl]
                  · rw [if_neg z4, if_neg (by omega), w7 l hl]
                · rw [am_put_o (by omega), if_neg (by omega), w7 l hl]
          · have z2 : ¬ (0 ≤ nI j ∧ nI j ≤ am_put I (57 + h) j (sp_nar (nI so) c) 82 (nI h).toNatClampNeg - 1) := z2
            rw [n83 82 (by omega), e, q6, am_cnt (by omega)] at z2
            exact absurd z z2
        rcases (show h = 0 ∨ h = 1 ∨ h = 2 ∨ h = 3 by omega) with rfl | rfl | rfl | rfl
        all_goals
          refine br_f (by decide) ?_
          refine ⟨am_vin (by decide), am_vin (by decide), ?_⟩
          (try conv => whnf)
          show J 39 q_X_narrowed 0 [some (.int (I 54 (nI _).toNatClampNeg)), some (.int c)] [] _ _
          rw [e, q3]
          refine x_narrowed hJ q1 ?_
          refine ⟨vp_in_nI (by omega) (by omega), ?_⟩
          refine ⟨_, rfl, ?_⟩
          rw [nI_clamp (n := j) (by omega)]
          exact fin
      · repeat (
          (try conv => whnf)
          first
            | refine ⟨am_vin (by decide), ?_⟩
            | refine br_f (by decide) ?_
            | refine br_t (by decide) ?_
            | refine br_t (by assumption) ?_
            | refine br_f (by assumption) ?_
            | refine x_withinY hJ (by assumption) ?_
            | refine x_withinN hJ (by assumption) ?_
            | refine m_in1Y hJ (by assumption) ?_
            | refine m_in1N hJ (by assumption) ?_
            | refine m_isGateY hJ (by assumption) ?_
            | refine m_isGateN hJ (by assumption) ?_
            | refine m_isDigitY hJ (by assumption) ?_
            | refine m_isDigitN hJ (by assumption) ?_
            | refine m_isNeedY hJ (by assumption) ?_
            | refine m_isNeedN hJ (by assumption) ?_
            | refine m_isPlanY hJ (by assumption) ?_
            | refine m_isPlanN hJ (by assumption) ?_
            | refine m_isSheetY hJ (by assumption) ?_
            | refine m_isSheetN hJ (by assumption) ?_
            | refine x_isSheetY hJ (by assumption) ?_
            | refine x_isSheetN hJ (by assumption) ?_
            | refine x_isShelfY hJ (by assumption) ?_
            | refine x_isShelfN hJ (by assumption) ?_
            | refine x_hasY hJ (by assumption) (by assumption) (by assumption) ?_
            | refine x_hasN hJ (by assumption) (by assumption) (by assumption) ?_
            | refine m_isPersonY hJ (by assumption) (by assumption) (by assumption) ?_
            | refine m_isPersonN hJ (by assumption) (by assumption) (by assumption) ?_
            | refine am_vc hJ 120 40 _ _ _ _ _ _ ?_
            | refine ⟨_, rfl, ?_⟩)
        refine ⟨vp_in_nI (by omega) (by omega), ?_⟩
        repeat (
          (try conv => whnf)
          first
            | refine ⟨am_vin (by decide), ?_⟩
            | refine br_f (by decide) ?_
            | refine br_t (by decide) ?_
            | refine br_t (by assumption) ?_
            | refine br_f (by assumption) ?_
            | refine x_withinY hJ (by assumption) ?_
            | refine x_withinN hJ (by assumption) ?_
            | refine m_in1Y hJ (by assumption) ?_
            | refine m_in1N hJ (by assumption) ?_
            | refine m_isGateY hJ (by assumption) ?_
            | refine m_isGateN hJ (by assumption) ?_
            | refine m_isDigitY hJ (by assumption) ?_
            | refine m_isDigitN hJ (by assumption) ?_
            | refine m_isNeedY hJ (by assumption) ?_
            | refine m_isNeedN hJ (by assumption) ?_
            | refine m_isPlanY hJ (by assumption) ?_
            | refine m_isPlanN hJ (by assumption) ?_
            | refine m_isSheetY hJ (by assumption) ?_
            | refine m_isSheetN hJ (by assumption) ?_
            | refine x_isSheetY hJ (by assumption) ?_
            | refine x_isSheetN hJ (by assumption) ?_
            | refine x_isShelfY hJ (by assumption) ?_
            | refine x_isShelfN hJ (by assumption) ?_
            | refine x_hasY hJ (by assumption) (by assumption) (by assumption) ?_
            | refine x_hasN hJ (by assumption) (by assumption) (by assumption) ?_
            | refine m_isPersonY hJ (by assumption) (by assumption) (by assumption) ?_
            | refine m_isPersonN hJ (by assumption) (by assumption) (by assumption) ?_
            | refine am_vc hJ 120 40 _ _ _ _ _ _ ?_
            | refine ⟨_, rfl, ?_⟩)
        refine ⟨vp_in_nI (by omega) (by omega), ?_⟩
        refine m_in1 hJ (fun z2 => ?_) (fun _ => ?_)
        · have z2 : 0 ≤ b ∧ b ≤ I 82 (nI h).toNatClampNeg - 1 := z2
          rw [e, q6, am_cnt (by omega)] at z2
          exact absurd z2 z
        · repeat (
            (try conv => whnf)
            first
              | refine ⟨am_vin (by decide), ?_⟩
              | refine br_f (by decide) ?_
              | refine br_t (by decide) ?_
              | refine br_t (by assumption) ?_
              | refine br_f (by assumption) ?_
              | refine x_withinY hJ (by assumption) ?_
              | refine x_withinN hJ (by assumption) ?_
              | refine m_in1Y hJ (by assumption) ?_
              | refine m_in1N hJ (by assumption) ?_
              | refine m_isGateY hJ (by assumption) ?_
              | refine m_isGateN hJ (by assumption) ?_
              | refine m_isDigitY hJ (by assumption) ?_
              | refine m_isDigitN hJ (by assumption) ?_
              | refine m_isNeedY hJ (by assumption) ?_
              | refine m_isNeedN hJ (by assumption) ?_
              | refine m_isPlanY hJ (by assumption) ?_
              | refine m_isPlanN hJ (by assumption) ?_
              | refine m_isSheetY hJ (by assumption) ?_
              | refine m_isSheetN hJ (by assumption) ?_
              | refine x_isSheetY hJ (by assumption) ?_
              | refine x_isSheetN hJ (by assumption) ?_
              | refine x_isShelfY hJ (by assumption) ?_
              | refine x_isShelfN hJ (by assumption) ?_
              | refine x_hasY hJ (by assumption) (by assumption) (by assumption) ?_
              | refine x_hasN hJ (by assumption) (by assumption) (by assumption) ?_
              | refine m_isPersonY hJ (by assumption) (by assumption) (by assumption) ?_
              | refine m_isPersonN hJ (by assumption) (by assumption) (by assumption) ?_
              | refine am_vc hJ 120 40 _ _ _ _ _ _ ?_
              | refine ⟨_, rfl, ?_⟩)
          exact ⟨rfl, hQc _ hI⟩
  · repeat (
      (try conv => whnf)
      first
        | refine ⟨am_vin (by decide), ?_⟩
        | refine ⟨(by assumption : vp_in _ _), ?_⟩
        | refine br_f (by decide) ?_
        | refine br_t (by decide) ?_
        | refine br_t (by assumption) ?_
        | refine br_f (by assumption) ?_
        | refine x_withinY hJ (by assumption) ?_
        | refine x_withinN hJ (by assumption) ?_
        | refine m_in1Y hJ (by assumption) ?_
        | refine m_in1N hJ (by assumption) ?_
        | refine m_isGateY hJ (by assumption) ?_
        | refine m_isGateN hJ (by assumption) ?_
        | refine m_isDigitY hJ (by assumption) ?_
        | refine m_isDigitN hJ (by assumption) ?_
        | refine m_isNeedY hJ (by assumption) ?_
        | refine m_isNeedN hJ (by assumption) ?_
        | refine m_isPlanY hJ (by assumption) ?_
        | refine m_isPlanN hJ (by assumption) ?_
        | refine m_isSheetY hJ (by assumption) ?_
        | refine m_isSheetN hJ (by assumption) ?_
        | refine x_isSheetY hJ (by assumption) ?_
        | refine x_isSheetN hJ (by assumption) ?_
        | refine x_isShelfY hJ (by assumption) ?_
        | refine x_isShelfN hJ (by assumption) ?_
        | refine x_hasY hJ (by assumption) (by assumption) (by assumption) ?_
        | refine x_hasN hJ (by assumption) (by assumption) (by assumption) ?_
        | refine m_isPersonY hJ (by assumption) (by assumption) (by assumption) ?_
        | refine m_isPersonN hJ (by assumption) (by assumption) (by assumption) ?_
        | refine am_vc hJ 120 40 _ _ _ _ _ _ ?_
        | refine ⟨_, rfl, ?_⟩)
    exact ⟨rfl, hQc _ hI⟩
end
