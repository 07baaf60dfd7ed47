/-! PERSONOF, CHANGE, ANEW, STATE -/
def am_ac : List Nat := am_mc ++ am_rc ++ am_kc
/-- cells and places that the invariant doesn't read -/
theorem Inv.scr {I I' : am_I} (h : Inv I) (hS : ∀ o ∈ am_ac, o ≠ 66 → o ≠ 38 → I' o = I o) (h66 : ∀ j ∈ [3, 6, 29, 36], I' 66 j = I 66 j) (h38 : I' 38 1 = I 38 1) : Inv I' := by
  obtain ⟨u, uk, hM, hK, h1, h2, h3, h4, h5, h6⟩ := h
  have a1 : ∀ o ∈ am_mc, o ∈ am_ac ∧ o ≠ 66 ∧ o ≠ 38 := by decide
  have a2 : ∀ o ∈ am_kd, o ∈ am_ac ∧ o ≠ 66 ∧ o ≠ 38 := by decide
  have a3 : ∀ o ∈ [54, 55, 57, 58, 59, 60, 81, 82, 83], o ∈ am_ac ∧ o ≠ 66 ∧ o ≠ 38 := by decide
  have a4 : ∀ o ∈ [61, 62, 63, 84, 85], o ∈ am_ac ∧ o ≠ 66 ∧ o ≠ 38 := by decide
  have k : ∀ o, o ∈ am_ac → o ≠ 66 → o ≠ 38 → I' o = I o := hS
  refine ⟨u, uk, hM.kept (fun o ho => k o (a1 o ho).1 (a1 o ho).2.1 (a1 o ho).2.2), ?_, ?_, ?_, ?_, ?_, ?_, ?_⟩
  · exact hK.kept2 (by rw [k 0 (by decide) (by decide) (by decide)]) (h66 3 (by decide)) (fun o ho => k o (a2 o ho).1 (a2 o ho).2.1 (a2 o ho).2.2)
  · exact h1.kept h38 (h66 6 (by decide)) (k 71 (by decide) (by decide) (by decide)) (k 39 (by decide) (by decide) (by decide))
  · exact h2.kept (by rw [k 0 (by decide) (by decide) (by decide)]) (h66 29 (by decide)) (k 53 (by decide) (by decide) (by decide)) (k 80 (by decide) (by decide) (by decide))
  · exact h3.kept (fun o ho => k o (a3 o ho).1 (a3 o ho).2.1 (a3 o ho).2.2)
  · exact h4.kept (fun o ho => k o (a4 o ho).1 (a4 o ho).2.1 (a4 o ho).2.2)
  · exact h5.kept (by rw [k 64 (by decide) (by decide) (by decide)]) (h66 36 (by decide)) (k 65 (by decide) (by decide) (by decide)) (k 86 (by decide) (by decide) (by decide))
  · exact h6.kept (k 72 (by decide) (by decide) (by decide))
theorem Inv.scr0 {S : List Nat} {I I' : am_I} (h : Inv I) (hS : am_only S I I') (hd : am_dis S am_ac = true) : Inv I' := by
  have q := am_in_of hS hd
  exact h.scr (fun o ho _ _ => q o ho) (fun j _ => by rw [q 66 (by decide)]) (by rw [q 38 (by decide)])
def sp_pv (u : am_U) (k w : Nat) : Nat := if w < 6 then u (38 + 6 * k + w) else if w = 6 then sp_still u k else if w = 7 then sp_eats u k else if w = 8 then sp_will u k else if sp_tk u k then 1 else 0
section
variable {L : Nat} {xs : Nat → Int32} {J : am_J} {d : Nat} {Q : am_Q}
theorem x_personOf (hJ : am_Cl am_meth L xs J) {I : am_I} {k w : Nat} {u : am_U} (hR : RRep I 8 u) (hC : CRep I 9 u) (hO : OKu u) (hk : k < u 6) (hw : w ≤ 9) (h : ∀ I' : am_I, (∀ o, o ≠ 18 → I' o = I o) → Q (some (.int (nI (sp_pv u k w)))) I') {z : Option Value} : J (d + 5) q_X_personOf 0 [some (.ref 0), some (.int (nI k)), some (.int (nI w)), z] [] I Q := by
  obtain ⟨c1, c2, c3, c4, c5, c6, c7⟩ := hO.Cn
  have hk6 : k < 6 := by omega
  obtain ⟨p1, p2, p3, p4, p5, p6⟩ := hO.P hk6
  obtain ⟨t1, t2, t3, t4⟩ := TR8_p k hk6
  have e6 : I 8 2 = nI (u 6) := hR.1.get 8 2 6 (by decide +kernel)
  have hc : 9 ∈ am_cl := by decide
  have gv : vp_in (nI k) 6 := vp_in_nI hk6 (by omega)
  have ec : (nI k).toNatClampNeg = k := nI_clamp (by omega)
  have h' := h I (fun _ _ => rfl)
  unfold sp_pv at h h'
  refine am_vc hJ 60 _ _ _ _ _ _ _ ?_
  refine x_hasY hJ e6 c1 ⟨k, hk, rfl⟩ ?_
  refine br_f (by decide) ?_
  rcases (show w = 0 ∨ w = 1 ∨ w = 2 ∨ w = 3 ∨ w = 4 ∨ w = 5 ∨ w = 6 ∨ w = 7 ∨ w = 8 ∨ w = 9 by omega) with rfl | rfl | rfl | rfl | rfl | rfl | rfl | rfl | rfl | rfl
  · repeat (first | refine br_f (by decide) ?_ | refine br_t (by decide) ?_)
    refine ⟨gv, ?_⟩
    show Q (some (.int (I 10 (nI k).toNatClampNeg))) I
    rw [ec, hR.1.get 10 k _ t1]
    exact h'
  · repeat (first | refine br_f (by decide) ?_ | refine br_t (by decide) ?_)
    refine ⟨gv, ?_⟩
    show Q (some (.int (I 11 (nI k).toNatClampNeg))) I
    rw [ec, hR.1.get 11 k _ t2, show 39 + 6 * k = 38 + 6 * k + 1 by omega]
    exact h'
  · repeat (first | refine br_f (by decide) ?_ | refine br_t (by decide) ?_)
    refine ⟨gv, ?_⟩
    show Q (some (.int (I 12 (nI k).toNatClampNeg))) I
    rw [ec, hR.1.get 12 k _ t3, show 40 + 6 * k = 38 + 6 * k + 2 by omega]
    exact h'
  · repeat (first | refine br_f (by decide) ?_ | refine br_t (by decide) ?_)
    refine ⟨gv, ?_⟩
    show Q (some (.int (I 13 (nI k).toNatClampNeg))) I
    rw [ec, hR.1.get 13 k _ t4, show 41 + 6 * k = 38 + 6 * k + 3 by omega]
    exact h'
  · repeat (first | refine br_f (by decide) ?_ | refine br_t (by decide) ?_)
    refine x_metOf hJ hc hC.2.1 hk6 ?_
    rw [show 42 + 6 * k = 38 + 6 * k + 4 by omega]
    exact h'
  · repeat (first | refine br_f (by decide) ?_ | refine br_t (by decide) ?_)
    have e : 38 + 6 * k + 5 = 43 + 6 * k := by omega
    rw [if_pos (by decide), e] at h'
    refine x_isFed hJ hc hC.2.2 hO.fed hk6 (fun q => ?_) (fun q => ?_)
    · rw [q] at h'
      refine br_f (by decide) ?_
      exact h'
    · rw [q] at h'
      refine br_t (by decide) ?_
      exact h'
  · repeat (first | refine br_f (by decide) ?_ | refine br_t (by decide) ?_)
    refine x_strangeStill hJ hc hR.1 hC hO hk6 ?_
    exact h'
  · repeat (first | refine br_f (by decide) ?_ | refine br_t (by decide) ?_)
    obtain ⟨kd, hkd⟩ : ∃ kd, u (38 + 6 * k) = kd := ⟨_, rfl⟩
    have h5 : kd ≤ 5 := by omega
    refine x_thingOf hJ hR.1 hk6 hkd h5 ?_
    rw [if_neg (by decide), if_neg (by decide), if_pos rfl] at h'
    unfold sp_eats at h'
    rw [hkd] at h'
    rcases (show kd = 0 ∨ kd = 1 ∨ kd = 2 ∨ kd = 3 ∨ kd = 4 ∨ kd = 5 by omega) with rfl | rfl | rfl | rfl | rfl | rfl
    · refine x_Person_eats hJ ?_
      exact h'
    · refine x_Tramp_eats hJ ?_
      rw [show (3 : Int32) = nI 3 from rfl, nI_add]
      exact h'
    · refine x_Pilgrim_eats hJ (Or.inl rfl) ?_
      exact h'
    · refine x_Bishop_eats hJ ?_
      exact h'
    · refine x_Friend_eats hJ (Or.inl rfl) ?_
      exact h'
    · refine x_Twin_eats hJ ?_
      exact h'
  · repeat (first | refine br_f (by decide) ?_ | refine br_t (by decide) ?_)
    refine x_strangeStill hJ hc hR.1 hC hO hk6 ?_
    refine x_willOf hJ hc hR hC hO hk6 (fun I' hI' => ?_)
    exact h I' hI'
  · repeat (first | refine br_f (by decide) ?_ | refine br_t (by decide) ?_)
    have e1 : I 9 1 = nI (u 3) := hC.day.2.1
    conv => whnf
    rw [e1]
    refine x_takesBy hJ hR.1 hO hk6 c4 (fun q => ?_) (fun q => ?_)
    · rw [if_neg (by decide), if_neg (by decide), if_neg (by decide), if_neg (by decide), if_pos q] at h'
      refine br_f (by decide) ?_
      exact h'
    · rw [if_neg (by decide), if_neg (by decide), if_neg (by decide), if_neg (by decide), if_neg q] at h'
      refine br_t (by decide) ?_
      exact h'
theorem op_personOf (hJ : am_Cl am_meth L xs J) (a b : Int32) : am_same Inv J q_X_personOf q_M_personOf [.int a, .int b] := by
  intro I hI Qc hQc
  obtain ⟨u, uk, hMn, hK, hRs⟩ := id hI
  obtain ⟨hM, hR, hC, hO⟩ := id hMn
  obtain ⟨c1, c2, c3, c4, c5, c6, c7⟩ := hO.Cn
  have x6 : I 8 2 = nI (u 6) := hMn.get (j := 6) (by decide +kernel)
  have m6 : I 67 6 = nI (u 6) := hM 6 (by decide)
  by_cases h1 : ∃ j, j < u 6 ∧ a = nI j
  · by_cases h2 : (0 : Int32) ≤ b ∧ b ≤ 9
    · obtain ⟨w, hw, rfl⟩ := am_rng (N := 9) rfl (by decide) h2
      obtain ⟨k, hk, rfl⟩ := id h1
      have hk6 : k < 6 := by omega
      refine x_personOf hJ hR hC hO hk hw (fun I1 q1 => ?_)
      refine ⟨_, rfl, ?_⟩
      have hI1 : Inv I1 := hI.scr0 (S := [18]) (fun o ho => q1 o (by simpa using ho)) (by decide)
      have M1 : MRep I1 67 u := by
        unfold MRep
        rw [q1 67 (by decide)]
        exact hM
      have n6 : I1 67 6 = nI (u 6) := M1 6 (by decide)
      refine am_vc hJ 60 _ _ _ _ _ _ _ ?_
      refine m_isPersonY hJ n6 c1 h1 ?_
      refine br_f (by decide) ?_
      refine m_in1Y hJ h2 ?_
      refine br_f (by decide) ?_
      unfold sp_pv
      by_cases g6 : w < 6
      · rw [if_pos g6]
        refine br_f (by show ¬ nI w = nI 6; rw [nI_eq (by omega) (by omega)]; omega) ?_
        refine br_f (by show ¬ nI w = nI 7; rw [nI_eq (by omega) (by omega)]; omega) ?_
        refine br_f (by show ¬ nI w = nI 8; rw [nI_eq (by omega) (by omega)]; omega) ?_
        refine br_f (by show ¬ nI w = nI 9; rw [nI_eq (by omega) (by omega)]; omega) ?_
        refine m_get hJ (a := k) (b := w) rfl rfl hk6 g6 ?_
        refine ⟨?_, hQc _ hI1⟩
        show some (Value.int (I1 67 (38 + 6 * k + w))) = _
        rw [M1 _ (by omega)]
      · rw [if_neg g6]
        rcases (show w = 6 ∨ w = 7 ∨ w = 8 ∨ w = 9 by omega) with rfl | rfl | rfl | rfl
        · repeat (first | refine br_f (by decide) ?_ | refine br_t (by decide) ?_)
          refine m_stillOf hJ M1 hO hk6 ?_
          exact ⟨rfl, hQc _ hI1⟩
        · repeat (first | refine br_f (by decide) ?_ | refine br_t (by decide) ?_)
          refine m_eatsOf hJ M1 hO hk6 ?_
          exact ⟨rfl, hQc _ hI1⟩
        · repeat (first | refine br_f (by decide) ?_ | refine br_t (by decide) ?_)
          refine m_willOf hJ M1 hR.2 hO hk6 (fun I2 q2 => ?_)
          exact ⟨rfl, hQc _ (hI1.scr0 (S := [70]) (fun o ho => q2 o (by simpa using ho)) (by decide))⟩
        · repeat (first | refine br_f (by decide) ?_ | refine br_t (by decide) ?_)
          refine m_isTaken hJ M1 hO hk6 (fun q => ?_) (fun q => ?_)
          · refine br_f (by decide) ?_
            rw [if_neg (by decide), if_neg (by decide), if_neg (by decide), if_pos q]
            exact ⟨rfl, hQc _ hI1⟩
          · refine br_t (by decide) ?_
            rw [if_neg (by decide), if_neg (by decide), if_neg (by decide), if_neg q]
            exact ⟨rfl, hQc _ hI1⟩
    · refine am_vc hJ 60 _ _ _ _ _ _ _ ?_
      refine x_hasY hJ x6 c1 h1 ?_
      refine br_f (by decide) ?_
      repeat (refine br_f (fun z => h2 (by have z : b = _ := z; rw [z]; decide)) ?_)
      refine ⟨_, rfl, ?_⟩
      refine am_vc hJ 60 _ _ _ _ _ _ _ ?_
      refine m_isPersonY hJ m6 c1 h1 ?_
      refine br_f (by decide) ?_
      refine m_in1N hJ h2 ?_
      refine br_t (by decide) ?_
      exact ⟨rfl, hQc _ hI⟩
  · repeat (
      (try conv => whnf)
      first
        | refine ⟨am_vin (by decide), ?_⟩
        | refine ⟨(by assumption : vp_in _ _), ?_⟩
        | refine br_f (by decide) ?_
        | refine br_t (by decide) ?_
        | refine br_t (by assumption) ?_
        | refine br_f (by assumption) ?_
        | refine x_withinY hJ (by assumption) ?_
        | refine x_withinN hJ (by assumption) ?_
        | refine m_in1Y hJ (by assumption) ?_
        | refine m_in1N hJ (by assumption) ?_
        | refine m_isGateY hJ (by assumption) ?_
        | refine m_isGateN hJ (by assumption) ?_
        | refine m_isDigitY hJ (by assumption) ?_
        | refine m_isDigitN hJ (by assumption) ?_
        | refine m_isNeedY hJ (by assumption) ?_
        | refine m_isNeedN hJ (by assumption) ?_
        | refine m_isPlanY hJ (by assumption) ?_
        | refine m_isPlanN hJ (by assumption) ?_
        | refine m_isSheetY hJ (by assumption) ?_
        | refine m_isSheetN hJ (by assumption) ?_
        | refine x_isSheetY hJ (by assumption) ?_
        | refine x_isSheetN hJ (by assumption) ?_
        | refine x_isShelfY hJ (by assumption) ?_
        | refine x_isShelfN hJ (by assumption) ?_
        | refine x_hasY hJ (by assumption) (by assumption) (by assumption) ?_
        | refine x_hasN hJ (by assumption) (by assumption) (by assumption) ?_
        | refine m_isPersonY hJ (by assumption) (by assumption) (by assumption) ?_
        | refine m_isPersonN hJ (by assumption) (by assumption) (by assumption) ?_
        | refine am_vc hJ 120 40 _ _ _ _ _ _ ?_
        | refine ⟨_, rfl, ?_⟩)
    exact ⟨rfl, hQc _ hI⟩
end
