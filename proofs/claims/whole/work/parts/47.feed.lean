/-! FEED -/
def bt64 (x : Int64) (i : Nat) : Bool := x.toBitVec.getLsbD i
/-- the byte that the reference takes -/
def fd_m (e : Int64) (s : Int64) : Int32 := ((e >>> s) &&& 255).toInt32
def fd_x (e : Int64) (s : Int64) : Int32 := ((e.toUInt64 >>> s.toUInt64).toInt64).toInt32
theorem fd_s : ∀ k, k < 8 → ((8 * nI k).toInt64 &&& 63 = Int64.ofNat (8 * k)) ∧ ((8 * nI k).toInt64.toUInt64 &&& Int64.toUInt64 63 = (Int64.ofNat (8 * k)).toUInt64) := by decide +kernel
theorem fd_n : ∀ k, k < 8 → ((Int64.ofNat (8 * k)).toBitVec.smod 64).toNat = 8 * k ∧ ((Int64.ofNat (8 * k)).toUInt64.toBitVec % 64).toNat = 8 * k := by decide +kernel
theorem b64_255 : ∀ i, i < 64 → bt64 255 i = decide (i < 8) := by decide +kernel
theorem fd_mb (e : Int64) {k : Nat} (hk : k < 8) {i : Nat} (hi : i < 32) : bt (fd_m e (Int64.ofNat (8 * k))) i = (decide (i < 8) && bt64 e (8 * k + i)) := by
  unfold fd_m bt
  rw [Int64.toBitVec_toInt32, BitVec.getLsbD_signExtend, if_pos (by omega), Int64.toBitVec_and, BitVec.getLsbD_and]
  have h1 : (255 : Int64).toBitVec.getLsbD i = decide (i < 8) := b64_255 i (by omega)
  rw [h1, Int64.toBitVec_shiftRight]
  show (decide (i < 32) && ((e.toBitVec.sshiftRight ((Int64.ofNat (8 * k)).toBitVec.smod 64).toNat).getLsbD i && decide (i < 8))) = _
  rw [(fd_n k hk).1, BitVec.getLsbD_sshiftRight]
  by_cases g : i < 8
  · have g2 : 8 * k + i < 64 := by omega
    simp [g, hi, g2, bt64]
    omega
  · simp [g]
theorem fd_xb (e : Int64) {k : Nat} (hk : k < 8) {i : Nat} (hi : i < 32) : bt (fd_x e (Int64.ofNat (8 * k))) i = bt64 e (8 * k + i) := by
  unfold fd_x bt
  rw [Int64.toBitVec_toInt32, BitVec.getLsbD_signExtend, if_pos (by omega)]
  show (decide (i < 32) && (e.toUInt64 >>> (Int64.ofNat (8 * k)).toUInt64).toBitVec.getLsbD i) = _
  rw [UInt64.toBitVec_shiftRight]
  show (decide (i < 32) && (e.toBitVec >>> ((Int64.ofNat (8 * k)).toUInt64.toBitVec % 64).toNat).getLsbD i) = _
  rw [(fd_n k hk).2, BitVec.getLsbD_ushiftRight]
  simp [hi, bt64]
theorem i8_ext {x y : Int32} (h : ∀ i, i < 8 → bt x i = bt y i) : x.toInt8 = y.toInt8 := by
  apply Int8.toBitVec_inj.mp
  rw [Int32.toBitVec_toInt8, Int32.toBitVec_toInt8]
  apply BitVec.eq_of_getLsbD_eq
  intro i hi
  rw [BitVec.getLsbD_signExtend, BitVec.getLsbD_signExtend, if_pos (by omega), if_pos (by omega)]
  have := h i hi
  unfold bt at this
  rw [this]
theorem i8_back (y : Int8) : y.toInt32.toInt8 = y := by simp
theorem fd_lt (e : Int64) {k : Nat} (hk : k < 8) : ∃ x, x < 256 ∧ fd_m e (Int64.ofNat (8 * k)) = nI x := by
  refine ⟨sp_z (fd_m e (Int64.ofNat (8 * k))), ?_, (sp_z_eq _).symm⟩
  have : fd_m e (Int64.ofNat (8 * k)) &&& 255 = fd_m e (Int64.ofNat (8 * k)) := by
    apply b_ext
    intro i hi
    rw [b_and, b_255, fd_mb e hk hi]
    by_cases g : i < 8 <;> simp [g]
  unfold sp_z
  rw [← this, Int32.toBitVec_and, BitVec.toNat_and]
  have h255 : (255 : Int32).toBitVec.toNat = 255 := by decide
  rw [h255]
  exact Nat.lt_of_le_of_lt Nat.and_le_right (by decide)
theorem fd_8 (e : Int64) {k : Nat} (hk : k < 8) : (fd_x e (Int64.ofNat (8 * k))).toInt8 = (fd_m e (Int64.ofNat (8 * k))).toInt8 := by
  apply i8_ext
  intro i hi
  rw [fd_xb e hk (by omega), fd_mb e hk (by omega)]
  simp [hi]
section
variable {L : Nat} {xs : Nat → Int32} {J : am_J} {d : Nat} {Q : am_Q}
theorem x_takeByte (hJ : am_Cl am_meth L xs J) {I : am_I} {n : Nat} {b : Int32} (hn : n < 200) (h1 : I 38 1 = nI n) (h : Q none (am_put (am_put I 39 n b.toInt8.toInt32) 38 1 (nI (n + 1)))) : J d q_RuleText_takeByte 0 [some (.ref 38), some (.int b)] [] I Q := by
  refine am_vc hJ 30 _ _ _ _ _ _ _ ?_
  refine br_f (by show ¬ nI 200 ≤ I 38 1; rw [h1]; exact nI_ge hn (by omega)) ?_
  refine ⟨am_vinN h1 hn (by omega), ?_⟩
  have e : am_put I 39 (I 38 1).toNatClampNeg b.toInt8.toInt32 38 1 + 1 = nI (n + 1) := by rw [am_put_o (by decide), h1]; exact nI_1 n
  show Q none (am_put (am_put I 39 (I 38 1).toNatClampNeg b.toInt8.toInt32) 38 1 (am_put I 39 (I 38 1).toNatClampNeg b.toInt8.toInt32 38 1 + 1))
  rw [e, am_clN h1 (by omega)]
  exact h
theorem x_feed_loop (hJ : am_Cl am_meth L xs J) {I0 : am_I} {e : Int64} {n0 m : Nat} (hm : m ≤ 8) (hn0 : n0 + m ≤ 200) (h : ∀ I : am_I, (∀ o, o ≠ 38 → o ≠ 39 → I o = I0 o) → (∀ j, j ≠ 1 → I 38 j = I0 38 j) → I 38 1 = nI (n0 + m) → (∀ j, j < n0 → I 39 j = I0 39 j) → (∀ i, i < m → I 39 (n0 + i) = (fd_m e (Int64.ofNat (8 * i))).toInt8.toInt32) → Q (some (.int (nI (n0 + m)))) I) : ∀ (n k : Nat) (I : am_I), k + n = m → (∀ o, o ≠ 38 → o ≠ 39 → I o = I0 o) → (∀ j, j ≠ 1 → I 38 j = I0 38 j) → I 38 1 = nI (n0 + k) → (∀ j, j < n0 → I 39 j = I0 39 j) → (∀ i, i < k → I 39 (n0 + i) = (fd_m e (Int64.ofNat (8 * i))).toInt8.toInt32) → J (d + 1) q_X_feed 33 [some (.ref 0), some (.long e), none, some (.int (nI m)), some (.int (nI k))] [] I Q
  | 0, k, I, hn, h1, h2, h3, h4, h5 => by
    have ek : k = m := by omega
    subst ek
    refine am_vcl hJ [33] 200 ?_
    refine br_t (by show nI k ≤ nI k; exact nI_le (by omega) (by omega)) ?_
    show Q (some (.int (I 38 1))) I
    rw [h3]
    exact h I h1 h2 h3 h4 h5
  | n + 1, k, I, hn, h1, h2, h3, h4, h5 => by
    have hk8 : k < 8 := by omega
    have k9 := x_feed_loop hJ hm hn0 h n (k + 1) (am_put (am_put I 39 (n0 + k) (fd_m e (Int64.ofNat (8 * k))).toInt8.toInt32) 38 1 (nI (n0 + k + 1))) (by omega) (fun o o1 o2 => by rw [am_put_o o1, am_put_o o2]; exact h1 o o1 o2) (fun j hj => by rw [put_nk hj, am_put_o (by decide)]; exact h2 j hj) put_at (fun j hj => by rw [am_put_o (by decide), put_nk (by omega)]; exact h4 j hj) (fun i hi => by
      rw [am_put_o (by decide)]
      by_cases z : i = k
      · subst z
        exact put_at
      · rw [put_nk (by omega)]
        exact h5 i (by omega))
    rw [← nI_1] at k9
    refine am_vcl hJ [33] 200 ?_
    refine br_f (by show ¬ nI m ≤ nI k; exact nI_ge (by omega) (by omega)) ?_
    refine x_takeByte hJ (n := n0 + k) (by omega) h3 ?_
    have ev : ((fun x y => (x.toUInt64 >>> (y.toInt64.toUInt64 &&& Int64.toUInt64 63)).toInt64) e (8 * nI k) : Int64).toInt32.toInt8.toInt32.toInt8.toInt32 = (fd_m e (Int64.ofNat (8 * k))).toInt8.toInt32 := by
      rw [i8_back, ← fd_8 e hk8]
      show ((e.toUInt64 >>> ((8 * nI k).toInt64.toUInt64 &&& Int64.toUInt64 63)).toInt64.toInt32.toInt8.toInt32) = _
      rw [(fd_s k hk8).2]
      rfl
    conv => whnf
    show J (d + 1) q_X_feed 33 _ [] (am_put (am_put I 39 (n0 + k) ((fun x y => (x.toUInt64 >>> (y.toInt64.toUInt64 &&& Int64.toUInt64 63)).toInt64) e (8 * nI k) : Int64).toInt32.toInt8.toInt32.toInt8.toInt32) 38 1 (nI (n0 + k + 1))) Q
    rw [ev]
    exact k9
theorem m_feed_loop (hJ : am_Cl am_meth L xs J) {I0 : am_I} {e : Int64} {n0 m : Nat} (hm : m ≤ 8) (hn0 : n0 + m ≤ 200) (h : ∀ I : am_I, (∀ o, o ≠ 66 → o ≠ 71 → I o = I0 o) → (∀ j, j ≠ 6 → I 66 j = I0 66 j) → I 66 6 = nI (n0 + m) → (∀ j, j < n0 → I 71 j = I0 71 j) → (∀ i, i < m → I 71 (n0 + i) = fd_m e (Int64.ofNat (8 * i))) → Q (some (.int (nI (n0 + m)))) I) : ∀ (n k : Nat) (I : am_I), k + n = m → (∀ o, o ≠ 66 → o ≠ 71 → I o = I0 o) → (∀ j, j ≠ 6 → I 66 j = I0 66 j) → I 66 6 = nI (n0 + k) → (∀ j, j < n0 → I 71 j = I0 71 j) → (∀ i, i < k → I 71 (n0 + i) = fd_m e (Int64.ofNat (8 * i))) → J d q_M_feed 30 [some (.ref 66), some (.long e), none, some (.int (nI m)), some (.int (nI k))] [] I Q
  | 0, k, I, hn, h1, h2, h3, h4, h5 => by
    have ek : k = m := by omega
    subst ek
    refine am_vcl hJ [30] 200 ?_
    refine br_t (by show nI k ≤ nI k; exact nI_le (by omega) (by omega)) ?_
    show Q (some (.int (I 66 6))) I
    rw [h3]
    exact h I h1 h2 h3 h4 h5
  | n + 1, k, I, hn, h1, h2, h3, h4, h5 => by
    have hk8 : k < 8 := by omega
    have k9 := m_feed_loop hJ hm hn0 h n (k + 1) (am_put (am_put I 71 (n0 + k) (fd_m e (Int64.ofNat (8 * k)))) 66 6 (nI (n0 + k + 1))) (by omega) (fun o o1 o2 => by rw [am_put_o o1, am_put_o o2]; exact h1 o o1 o2) (fun j hj => by rw [put_nk hj, am_put_o (by decide)]; exact h2 j hj) put_at (fun j hj => by rw [am_put_o (by decide), put_nk (by omega)]; exact h4 j hj) (fun i hi => by
      rw [am_put_o (by decide)]
      by_cases z : i = k
      · subst z
        exact put_at
      · rw [put_nk (by omega)]
        exact h5 i (by omega))
    rw [← nI_1] at k9
    refine am_vcl hJ [30] 200 ?_
    refine br_f (by show ¬ nI m ≤ nI k; exact nI_ge (by omega) (by omega)) ?_
    refine ⟨am_vinN h3 (by omega) (by omega), ?_⟩
    have ev : ((e >>> ((8 * nI k).toInt64 &&& 63)) &&& Int64.ofNat 255).toInt32 = fd_m e (Int64.ofNat (8 * k)) := by
      rw [(fd_s k hk8).1]
      rfl
    have e6 : am_put I 71 (n0 + k) (fd_m e (Int64.ofNat (8 * k))) 66 6 + 1 = nI (n0 + k + 1) := by rw [am_put_o (by decide), h3]; exact nI_1 _
    conv => whnf
    show J d q_M_feed 30 _ [] (am_put (am_put I 71 (I 66 6).toNatClampNeg ((e >>> ((8 * nI k).toInt64 &&& 63)) &&& Int64.ofNat 255).toInt32) 66 6 (am_put I 71 (I 66 6).toNatClampNeg ((e >>> ((8 * nI k).toInt64 &&& 63)) &&& Int64.ofNat 255).toInt32 66 6 + 1)) Q
    rw [ev, am_clN h3 (by omega), e6]
    exact k9
theorem op_feed (hJ : am_Cl am_meth L xs J) (e : Int64) (b : Int32) : am_same Inv J q_X_feed q_M_feed [.long e, .int b] := by
  intro I hI Qc hQc
  obtain ⟨u, uk, hMn, hK, hRs⟩ := id hI
  obtain ⟨⟨n0, t1, t2, t3, t4⟩, hRw, hSh, hSf, hTr, hLe⟩ := id hRs
  by_cases h1 : (1 : Int32) ≤ b ∧ b ≤ 8
  · obtain ⟨m, hm, rfl⟩ := am_rng (N := 8) rfl (by decide) ⟨Int32.le_trans (by decide) h1.1, h1.2⟩
    refine am_vcc hJ [33] 200 _ _ _ _ _ _ _ ?_
    refine x_withinY hJ h1 ?_
    refine br_f (by decide) ?_
    by_cases g : n0 + m ≤ 200
    · refine br_t (by show I 38 1 + nI m ≤ nI 200; rw [t2, nI_add]; exact nI_le g (by omega)) ?_
      refine x_feed_loop (I0 := I) (n0 := n0) hJ hm g (fun I1 q1 q2 q3 q4 q5 => ?_) m 0 I (Nat.zero_add _) (fun _ _ _ => rfl) (fun _ _ => rfl) t2 (fun _ _ => rfl) (fun i hi => by omega)
      refine ⟨_, rfl, ?_⟩
      have r3 : I1 66 6 = nI n0 := by rw [q1 66 (by decide) (by decide)]; exact t3
      refine am_vcc hJ [30] 200 _ _ _ _ _ _ _ ?_
      refine m_in1Y hJ h1 ?_
      refine br_f (by decide) ?_
      refine br_t (by show I1 66 6 + nI m ≤ nI 200; rw [r3, nI_add]; exact nI_le g (by omega)) ?_
      refine m_feed_loop (I0 := I1) (n0 := n0) (e := e) hJ hm g (fun I2 w1 w2 w3 w4 w5 => ?_) m 0 I1 (Nat.zero_add _) (fun _ _ _ => rfl) (fun _ _ => rfl) r3 (fun _ _ => rfl) (fun i hi => by omega)
      refine ⟨rfl, hQc _ ?_⟩
      have fo : ∀ o, o ≠ 38 → o ≠ 39 → o ≠ 66 → o ≠ 71 → I2 o = I o := fun o a1 a2 a3 a4 => by rw [w1 o a3 a4, q1 o a1 a2]
      have a1 : ∀ o ∈ am_mc, o ≠ 38 ∧ o ≠ 39 ∧ o ≠ 66 ∧ o ≠ 71 := by decide
      have a2 : ∀ o ∈ am_kd, o ≠ 38 ∧ o ≠ 39 ∧ o ≠ 66 ∧ o ≠ 71 := by decide
      have a3 : ∀ o ∈ [54, 55, 57, 58, 59, 60, 81, 82, 83], o ≠ 38 ∧ o ≠ 39 ∧ o ≠ 66 ∧ o ≠ 71 := by decide
      have a4 : ∀ o ∈ [61, 62, 63, 84, 85], o ≠ 38 ∧ o ≠ 39 ∧ o ≠ 66 ∧ o ≠ 71 := by decide
      have e66 : ∀ j, j ≠ 6 → I2 66 j = I 66 j := fun j hj => by rw [w2 j hj, q1 66 (by decide) (by decide)]
      refine ⟨u, uk, hMn.kept (fun o ho => fo o (a1 o ho).1 (a1 o ho).2.1 (a1 o ho).2.2.1 (a1 o ho).2.2.2), hK.kept2 ?_ (e66 3 (by decide)) (fun o ho => fo o (a2 o ho).1 (a2 o ho).2.1 (a2 o ho).2.2.1 (a2 o ho).2.2.2), ?_, ?_, ?_, ?_, ?_, ?_⟩
      · rw [fo 0 (by decide) (by decide) (by decide) (by decide)]
      · refine ⟨n0 + m, g, ?_, w3, fun j hj => ?_⟩
        · rw [w1 38 (by decide) (by decide)]
          exact q3
        · by_cases gj : j < n0
          · obtain ⟨x, x1, x2, x3⟩ := t4 j gj
            refine ⟨x, x1, ?_, ?_⟩
            · rw [w4 j gj, q1 71 (by decide) (by decide)]
              exact x2
            · rw [w1 39 (by decide) (by decide), q4 j gj]
              exact x3
          · obtain ⟨i, rfl⟩ : ∃ i, j = n0 + i := ⟨j - n0, by omega⟩
            obtain ⟨x, x1, x2⟩ := fd_lt e (k := i) (by omega)
            refine ⟨x, x1, ?_, ?_⟩
            · rw [w5 i (by omega)]
              exact x2
            · rw [w1 39 (by decide) (by decide), q5 i (by omega), x2]
      · exact hRw.kept (by rw [fo 0 (by decide) (by decide) (by decide) (by decide)]) (e66 29 (by decide)) (fo 53 (by decide) (by decide) (by decide) (by decide)) (fo 80 (by decide) (by decide) (by decide) (by decide))
      · exact hSh.kept (fun o ho => fo o (a3 o ho).1 (a3 o ho).2.1 (a3 o ho).2.2.1 (a3 o ho).2.2.2)
      · exact hSf.kept (fun o ho => fo o (a4 o ho).1 (a4 o ho).2.1 (a4 o ho).2.2.1 (a4 o ho).2.2.2)
      · exact hTr.kept (by rw [fo 64 (by decide) (by decide) (by decide) (by decide)]) (e66 36 (by decide)) (fo 65 (by decide) (by decide) (by decide) (by decide)) (fo 86 (by decide) (by decide) (by decide) (by decide))
      · exact hLe.kept (fo 72 (by decide) (by decide) (by decide) (by decide))
    · refine br_f (by show ¬ I 38 1 + nI m ≤ nI 200; rw [t2, nI_add, nI_leI (by omega) (by omega)]; exact g) ?_
      refine ⟨_, rfl, ?_⟩
      refine am_vcc hJ [30] 200 _ _ _ _ _ _ _ ?_
      refine m_in1Y hJ h1 ?_
      refine br_f (by decide) ?_
      refine br_f (by show ¬ I 66 6 + nI m ≤ nI 200; rw [t3, nI_add, nI_leI (by omega) (by omega)]; exact g) ?_
      exact ⟨rfl, hQc _ hI⟩
  · repeat (
      (try conv => whnf)
      first
        | refine ⟨am_vin (by decide), ?_⟩
        | refine ⟨(by assumption : vp_in _ _), ?_⟩
        | refine br_f (by decide) ?_
        | refine br_t (by decide) ?_
        | refine br_t (by assumption) ?_
        | refine br_f (by assumption) ?_
        | refine x_withinY hJ (by assumption) ?_
        | refine x_withinN hJ (by assumption) ?_
        | refine m_in1Y hJ (by assumption) ?_
        | refine m_in1N hJ (by assumption) ?_
        | refine m_isGateY hJ (by assumption) ?_
        | refine m_isGateN hJ (by assumption) ?_
        | refine m_isDigitY hJ (by assumption) ?_
        | refine m_isDigitN hJ (by assumption) ?_
        | refine m_isNeedY hJ (by assumption) ?_
        | refine m_isNeedN hJ (by assumption) ?_
        | refine m_isPlanY hJ (by assumption) ?_
        | refine m_isPlanN hJ (by assumption) ?_
        | refine m_isSheetY hJ (by assumption) ?_
        | refine m_isSheetN hJ (by assumption) ?_
        | refine x_isSheetY hJ (by assumption) ?_
        | refine x_isSheetN hJ (by assumption) ?_
        | refine x_isShelfY hJ (by assumption) ?_
        | refine x_isShelfN hJ (by assumption) ?_
        | refine x_hasY hJ (by assumption) (by assumption) (by assumption) ?_
        | refine x_hasN hJ (by assumption) (by assumption) (by assumption) ?_
        | refine m_isPersonY hJ (by assumption) (by assumption) (by assumption) ?_
        | refine m_isPersonN hJ (by assumption) (by assumption) (by assumption) ?_
        | refine am_vc hJ 120 40 _ _ _ _ _ _ ?_
        | refine ⟨_, rfl, ?_⟩)
    exact ⟨rfl, hQc _ hI⟩
end
