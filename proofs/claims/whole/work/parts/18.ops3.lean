section
variable {L : Nat} {xs : Nat → Int32} {J : am_J} {d : Nat} {I : am_I} {Q : am_Q}
theorem x_isInRows (hJ : am_Cl am_meth L xs J) {a b : Int32} {n : Nat} (hn : I 0 7 = nI n) (h4 : n ≤ 4) (h1 : (∃ j, j < n ∧ a = nI j) → (0 ≤ b ∧ b ≤ 2) → Q (some (.int 1)) I) (h0 : ¬ ((∃ j, j < n ∧ a = nI j) ∧ (0 ≤ b ∧ b ≤ 2)) → Q (some (.int 0)) I) : J (d + 1) q_X_isInRows 0 [some (.ref 0), some (.int a), some (.int b)] [] I Q := by
  refine am_vc hJ 20 _ _ _ _ _ _ _ ?_
  refine x_within hJ (fun h => ?_) (fun h => ?_)
  · have h : 0 ≤ a ∧ a ≤ I 0 7 - 1 := h
    rw [hn, am_cnt (by omega)] at h
    refine br_f (by decide) ?_
    refine x_within hJ (fun h2 => ?_) (fun h2 => ?_)
    · refine br_f (by decide) ?_
      exact ⟨Or.inr rfl, h1 h h2⟩
    · refine br_t (by decide) ?_
      exact ⟨Or.inl rfl, h0 (fun q => h2 q.2)⟩
  · have h : ¬ (0 ≤ a ∧ a ≤ I 0 7 - 1) := h
    rw [hn, am_cnt (by omega)] at h
    refine br_t (by decide) ?_
    exact ⟨Or.inl rfl, h0 (fun q => h q.1)⟩
theorem m_isRow (hJ : am_Cl am_meth L xs J) {a b : Int32} {n : Nat} (hn : I 66 29 = nI n) (h4 : n ≤ 4) (h1 : (∃ j, j < n ∧ a = nI j) → (0 ≤ b ∧ b ≤ 2) → Q (some (.int 1)) I) (h0 : ¬ ((∃ j, j < n ∧ a = nI j) ∧ (0 ≤ b ∧ b ≤ 2)) → Q (some (.int 0)) I) : J (d + 1) q_M_isRow 0 [some (.ref 66), some (.int a), some (.int b)] [] I Q := by
  refine am_vc hJ 20 _ _ _ _ _ _ _ ?_
  refine m_in1 hJ (fun h => ?_) (fun h => ?_)
  · have h : 0 ≤ a ∧ a ≤ I 66 29 - 1 := h
    rw [hn, am_cnt (by omega)] at h
    refine br_f (by decide) ?_
    refine m_in1 hJ (fun h2 => ?_) (fun h2 => ?_)
    · refine br_f (by decide) ?_
      exact ⟨Or.inr rfl, h1 h h2⟩
    · refine br_t (by decide) ?_
      exact ⟨Or.inl rfl, h0 (fun q => h2 q.2)⟩
  · have h : ¬ (0 ≤ a ∧ a ≤ I 66 29 - 1) := h
    rw [hn, am_cnt (by omega)] at h
    refine br_t (by decide) ?_
    exact ⟨Or.inl rfl, h0 (fun q => h q.1)⟩
theorem x_placeInRow (hJ : am_Cl am_meth L xs J) {a b : Int32} (h : Q (some (.int (3 * a + b))) I) : J d q_X_placeInRow 0 [some (.int a), some (.int b)] [] I Q := by
  refine am_vc hJ 6 _ _ _ _ _ _ _ ?_
  exact h
theorem am_rix {a b : Nat} : 3 * nI a + nI b = nI (3 * a + b) := by
  rw [show (3 : Int32) = nI 3 from rfl, pk_mul, nI_add]
theorem op_row (hJ : am_Cl am_meth L xs J) (a b : Int32) : am_same Inv J q_X_row q_M_row [.int a, .int b] := by
  intro I hI Qc hQc
  obtain ⟨u, uk, hMn, hK, hRs⟩ := id hI
  obtain ⟨n, hn, r1, r2, r3⟩ := hRs.2.1
  refine am_vc hJ 60 _ _ _ _ _ _ _ ?_
  refine x_isInRows hJ r1 hn (fun g1 g2 => ?_) (fun g => ?_)
  · obtain ⟨k, hk, rfl⟩ := id g1
    obtain ⟨w, hw, rfl⟩ := am_rng (N := 2) rfl (by decide) g2
    have e : 3 * nI k + nI w = nI (3 * k + w) := am_rix
    refine br_f (by decide) ?_
    refine x_placeInRow hJ ?_
    refine ⟨am_vinN e (by omega) (by omega), ?_⟩
    refine ⟨_, rfl, ?_⟩
    refine am_vc hJ 60 _ _ _ _ _ _ _ ?_
    refine m_isRow hJ r2 hn (fun _ _ => ?_) (fun g => absurd ⟨g1, g2⟩ g)
    refine br_f (by decide) ?_
    refine ⟨am_vinN e (by omega) (by omega), ?_⟩
    refine ⟨?_, hQc _ hI⟩
    show some (Value.int (I 80 (3 * nI k + nI w).toNatClampNeg)) = some (Value.int (I 53 (3 * nI k + nI w).toNatClampNeg))
    rw [am_clN e (by omega), r3 _ (by omega)]
  · refine br_t (by decide) ?_
    refine ⟨_, rfl, ?_⟩
    refine am_vc hJ 60 _ _ _ _ _ _ _ ?_
    refine m_isRow hJ r2 hn (fun g1 g2 => absurd ⟨g1, g2⟩ g) (fun _ => ?_)
    refine br_t (by decide) ?_
    exact ⟨rfl, hQc _ hI⟩
theorem op_alterRow (hJ : am_Cl am_meth L xs J) (a b c : Int32) : am_same Inv J q_X_alterRow q_M_alterRow [.int a, .int b, .int c] := by
  intro I hI Qc hQc
  obtain ⟨u, uk, hMn, hK, hRs⟩ := id hI
  obtain ⟨hT, hRw, hSh, hSf, hTr, hLe⟩ := id hRs
  obtain ⟨n, hn, r1, r2, r3⟩ := id hRw
  refine am_vc hJ 60 _ _ _ _ _ _ _ ?_
  refine x_isInRows hJ r1 hn (fun g1 g2 => ?_) (fun g => ?_)
  · obtain ⟨k, hk, rfl⟩ := id g1
    obtain ⟨w, hw, rfl⟩ := am_rng (N := 2) rfl (by decide) g2
    have e : 3 * nI k + nI w = nI (3 * k + w) := am_rix
    refine br_f (by decide) ?_
    refine x_placeInRow hJ ?_
    refine ⟨am_vinN e (by omega) (by omega), ?_⟩
    refine x_placeInRow hJ ?_
    refine ⟨am_vinN e (by omega) (by omega), ?_⟩
    refine ⟨_, rfl, ?_⟩
    refine am_vc hJ 60 _ _ _ _ _ _ _ ?_
    refine m_isRow hJ (n := n) r2 hn (fun _ _ => ?_) (fun g => absurd ⟨g1, g2⟩ g)
    refine br_f (by decide) ?_
    refine ⟨am_vinN e (by omega) (by omega), am_vinN e (by omega) (by omega), ?_⟩
    refine ⟨?_, hQc _ ?_⟩
    · show some (Value.int (am_put I 53 (3 * nI k + nI w).toNatClampNeg c 80 (3 * nI k + nI w).toNatClampNeg)) = some (Value.int (I 53 (3 * nI k + nI w).toNatClampNeg))
      rw [am_put_o (by decide), am_clN e (by omega), r3 _ (by omega)]
    · show Inv (am_put (am_put I 53 (3 * nI k + nI w).toNatClampNeg c) 80 (3 * nI k + nI w).toNatClampNeg c)
      rw [am_clN e (by omega)]
      refine ⟨u, uk, hMn.kept (fun o ho => ?_), hK.kept2 ?_ ?_ (fun o ho => ?_), hT.kept ?_ ?_ ?_ ?_, ⟨n, hn, ?_, ?_, fun j hj => ?_⟩, hSh.kept (fun o ho => ?_), hSf.kept (fun o ho => ?_), hTr.kept ?_ ?_ ?_ ?_, hLe.kept ?_⟩
      · exact put2_ne (fun z => by subst z; revert ho; decide) (fun z => by subst z; revert ho; decide)
      · rw [put2_ne (by decide) (by decide)]
      · rw [put2_ne (by decide) (by decide)]
      · exact put2_ne (fun z => by subst z; revert ho; decide) (fun z => by subst z; revert ho; decide)
      · rw [put2_ne (by decide) (by decide)]
      · rw [put2_ne (by decide) (by decide)]
      · rw [put2_ne (by decide) (by decide)]
      · rw [put2_ne (by decide) (by decide)]
      · rw [put2_ne (by decide) (by decide)]; exact r1
      · rw [put2_ne (by decide) (by decide)]; exact r2
      · rw [am_put_o (o' := 53) (by decide), put_if, put_if, am_put_o (o' := 80) (by decide), r3 j hj]
      · exact put2_ne (fun z => by subst z; revert ho; decide) (fun z => by subst z; revert ho; decide)
      · exact put2_ne (fun z => by subst z; revert ho; decide) (fun z => by subst z; revert ho; decide)
      · rw [put2_ne (by decide) (by decide)]
      · rw [put2_ne (by decide) (by decide)]
      · rw [put2_ne (by decide) (by decide)]
      · rw [put2_ne (by decide) (by decide)]
      · rw [put2_ne (by decide) (by decide)]
  · refine br_t (by decide) ?_
    refine ⟨_, rfl, ?_⟩
    refine am_vc hJ 60 _ _ _ _ _ _ _ ?_
    refine m_isRow hJ r2 hn (fun g1 g2 => absurd ⟨g1, g2⟩ g) (fun _ => ?_)
    refine br_t (by decide) ?_
    exact ⟨rfl, hQc _ hI⟩
theorem op_trace (hJ : am_Cl am_meth L xs J) (a : Int32) : am_same Inv J q_X_trace q_M_trace [.int a] := by
  intro I hI Qc hQc
  obtain ⟨u, uk, hMn, hK, hRs⟩ := id hI
  obtain ⟨hT, hRw, hSh, hSf, hTr, hLe⟩ := id hRs
  obtain ⟨n, hn, r1, r2, r3⟩ := id hTr
  refine am_vc hJ 60 _ _ _ _ _ _ _ ?_
  refine x_within hJ (fun g => ?_) (fun g => ?_)
  · have g : 0 ≤ a ∧ a ≤ I 64 4 - 1 := g
    rw [r1, am_cnt (by omega)] at g
    obtain ⟨k, hk, rfl⟩ := id g
    refine br_f (by decide) ?_
    refine ⟨vp_in_nI (by omega) (by omega), ?_⟩
    refine ⟨_, rfl, ?_⟩
    refine am_vc hJ 60 _ _ _ _ _ _ _ ?_
    refine m_in1 hJ (fun _ => ?_) (fun z => ?_)
    · refine br_f (by decide) ?_
      refine ⟨vp_in_nI (by omega) (by omega), ?_⟩
      refine ⟨?_, hQc _ hI⟩
      show some (Value.int (I 86 (nI k).toNatClampNeg)) = some (Value.int (I 65 (nI k).toNatClampNeg))
      rw [nI_clamp (by omega), r3 _ hk]
    · have z : ¬ (0 ≤ nI k ∧ nI k ≤ I 66 36 - 1) := z
      rw [r2, am_cnt (by omega)] at z
      exact absurd g z
  · have g : ¬ (0 ≤ a ∧ a ≤ I 64 4 - 1) := g
    rw [r1, am_cnt (by omega)] at g
    refine br_t (by decide) ?_
    refine ⟨_, rfl, ?_⟩
    refine am_vc hJ 60 _ _ _ _ _ _ _ ?_
    refine m_in1 hJ (fun z => ?_) (fun _ => ?_)
    · have z : 0 ≤ a ∧ a ≤ I 66 36 - 1 := z
      rw [r2, am_cnt (by omega)] at z
      exact absurd z g
    · refine br_t (by decide) ?_
      exact ⟨rfl, hQc _ hI⟩
end
