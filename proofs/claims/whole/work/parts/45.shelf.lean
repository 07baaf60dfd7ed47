/-! MANY, SHELF, TAKEN -/
def sp_us (x n : Int32) : Int32 := (x.toUInt32 >>> (n.toUInt32 &&& Int32.toUInt32 31)).toInt32
def sp_b1 (i : Int32) : Int32 := i - (sp_us i 1 &&& 1431655765)
def sp_b2 (i : Int32) : Int32 := (i &&& 858993459) + (sp_us i 2 &&& 858993459)
def sp_b3 (i : Int32) : Int32 := (i + sp_us i 4) &&& 252645135
def sp_b4 (i : Int32) : Int32 := i + sp_us i 8
def sp_b5 (i : Int32) : Int32 := i + sp_us i 16
def sp_bc (i : Int32) : Int32 := sp_b5 (sp_b4 (sp_b3 (sp_b2 (sp_b1 i)))) &&& 63
def sp_pc (F : Nat) : Nat := F % 2 + F / 2 % 2 + F / 4 % 2 + F / 8 % 2 + F / 16 % 2 + F / 32 % 2
theorem sp_bc_eq : ∀ F, F < 64 → sp_bc (nI F) = nI (sp_pc F) := by decide +kernel
theorem sp_pc_step : ∀ F, F < 64 → F ≠ 0 → (F &&& (F - 1)) < F ∧ nI F &&& (nI F - 1) = nI (F &&& (F - 1)) ∧ sp_pc F = sp_pc (F &&& (F - 1)) + 1 := by decide +kernel
section
variable {L : Nat} {xs : Nat → Int32} {J : am_J} {d : Nat} {Q : am_Q}
theorem x_bitCount (hJ : am_Cl am_meth L xs J) {I : am_I} {F : Nat} (hF : F < 64) (h : Q (some (.int (nI (sp_pc F)))) I) : J d q_Integer_bitCount 0 [some (.int (nI F))] [] I Q := by
  rw [← sp_bc_eq F hF] at h
  refine am_vc hJ 60 _ _ _ _ _ _ _ ?_
  exact h
theorem m_ones_loop (hJ : am_Cl am_meth L xs J) {I : am_I} {p : Option Value} (w : Nat) (h : Q (some (.int (nI w))) I) : ∀ (N F n : Nat), F < N → F < 64 → w = n + sp_pc F → J d q_M_ones 4 [p, some (.int (nI n)), some (.int (nI F))] [] I Q
  | N, F, n, hN, hF, hw => by
    by_cases z : F = 0
    · subst z
      refine am_vcl hJ [4] 200 ?_
      refine br_t (by decide) ?_
      rw [show n = w by rw [hw]; rfl]
      exact h
    · cases N with
      | zero => omega
      | succ N =>
        obtain ⟨a, b, c⟩ := sp_pc_step F hF z
        have k9 := m_ones_loop (p := p) hJ w h N (F &&& (F - 1)) (n + 1) (by omega) (by omega) (by omega)
        rw [← b, ← nI_1] at k9
        refine am_vcl hJ [4] 200 ?_
        refine br_f (by show ¬ nI F = nI 0; rw [nI_eq (by omega) (by omega)]; exact z) ?_
        exact k9
theorem m_ones (hJ : am_Cl am_meth L xs J) {I : am_I} {F : Nat} (hF : F < 64) (h : Q (some (.int (nI (sp_pc F)))) I) {z1 z2 : Option Value} : J d q_M_ones 0 [some (.int (nI F)), z1, z2] [] I Q := by
  have k9 := m_ones_loop (d := d) (p := some (.int (nI F))) hJ (sp_pc F) h (F + 1) F 0 (by omega) hF (by omega)
  refine am_vcc hJ [4] 200 _ _ _ _ _ _ _ ?_
  exact k9
theorem op_many (hJ : am_Cl am_meth L xs J) (a : Int32) : am_same Inv J q_X_many q_M_many [.int a] := by
  intro I hI Qc hQc
  obtain ⟨u, uk, hMn, hK, ⟨tn, t1, t2, t3, t4⟩, ⟨cnt, h4, x7, m29, hrw⟩, hSh, hSf, ⟨rn, r1, r2, r3, r4⟩, hLe⟩ := id hI
  obtain ⟨hM, hR, hC, hO⟩ := id hMn
  have lf := fedN_lt hO.fed
  by_cases h1 : (0 : Int32) ≤ a ∧ a ≤ 6
  · obtain ⟨w, hw, rfl⟩ := am_rng (N := 6) rfl (by decide) h1
    refine am_vc hJ 60 _ _ _ _ _ _ _ ?_
    rcases (show w = 0 ∨ w = 1 ∨ w = 2 ∨ w = 3 ∨ w = 4 ∨ w = 5 ∨ w = 6 by omega) with rfl | rfl | rfl | rfl | rfl | rfl | rfl
    · repeat (first | refine br_f (by decide) ?_ | refine br_t (by decide) ?_)
      refine ⟨_, rfl, ?_⟩
      refine am_vc hJ 60 _ _ _ _ _ _ _ ?_
      repeat (first | refine br_f (by decide) ?_ | refine br_t (by decide) ?_)
      refine ⟨am_vin (by decide), ?_⟩
      refine ⟨?_, hQc _ hI⟩
      show some (Value.int (I 67 6)) = some (Value.int (I 8 2))
      rw [hM 6 (by decide), hMn.get (j := 6) (by decide +kernel)]
    · repeat (first | refine br_f (by decide) ?_ | refine br_t (by decide) ?_)
      refine ⟨_, rfl, ?_⟩
      refine am_vc hJ 60 _ _ _ _ _ _ _ ?_
      repeat (first | refine br_f (by decide) ?_ | refine br_t (by decide) ?_)
      refine ⟨am_vin (by decide), ?_⟩
      refine ⟨?_, hQc _ hI⟩
      show some (Value.int (I 67 7)) = some (Value.int (I 8 12))
      rw [hM 7 (by decide), hR.1.get 8 12 7 (by decide +kernel)]
    · repeat (first | refine br_f (by decide) ?_ | refine br_t (by decide) ?_)
      conv => whnf
      rw [hC.2.2]
      refine x_bitCount hJ lf ?_
      refine ⟨_, rfl, ?_⟩
      refine am_vc hJ 60 _ _ _ _ _ _ _ ?_
      repeat (first | refine br_f (by decide) ?_ | refine br_t (by decide) ?_)
      refine m_thoseFed hJ hM hO ?_
      refine m_ones hJ lf ?_
      exact ⟨rfl, hQc _ hI⟩
    · repeat (first | refine br_f (by decide) ?_ | refine br_t (by decide) ?_)
      refine ⟨_, rfl, ?_⟩
      refine am_vc hJ 60 _ _ _ _ _ _ _ ?_
      repeat (first | refine br_f (by decide) ?_ | refine br_t (by decide) ?_)
      refine ⟨am_vin (by decide), ?_⟩
      refine ⟨?_, hQc _ hI⟩
      show some (Value.int (I 67 8)) = some (Value.int (I 8 15))
      rw [hM 8 (by decide), hMn.get (j := 8) (by decide +kernel)]
    · repeat (first | refine br_f (by decide) ?_ | refine br_t (by decide) ?_)
      refine ⟨_, rfl, ?_⟩
      refine am_vc hJ 60 _ _ _ _ _ _ _ ?_
      repeat (first | refine br_f (by decide) ?_ | refine br_t (by decide) ?_)
      refine ⟨?_, hQc _ hI⟩
      show some (Value.int (I 66 29)) = some (Value.int (I 0 7))
      rw [m29, x7]
    · repeat (first | refine br_f (by decide) ?_ | refine br_t (by decide) ?_)
      refine ⟨_, rfl, ?_⟩
      refine am_vc hJ 60 _ _ _ _ _ _ _ ?_
      repeat (first | refine br_f (by decide) ?_ | refine br_t (by decide) ?_)
      refine ⟨?_, hQc _ hI⟩
      show some (Value.int (I 66 6)) = some (Value.int (I 38 1))
      rw [t2, t3]
    · repeat (first | refine br_f (by decide) ?_ | refine br_t (by decide) ?_)
      refine ⟨_, rfl, ?_⟩
      refine am_vc hJ 60 _ _ _ _ _ _ _ ?_
      repeat (first | refine br_f (by decide) ?_ | refine br_t (by decide) ?_)
      refine ⟨?_, hQc _ hI⟩
      show some (Value.int (I 66 36)) = some (Value.int (I 64 4))
      rw [r2, r3]
  · refine am_vc hJ 60 _ _ _ _ _ _ _ ?_
    repeat (refine br_f (fun z => h1 (by have z : a = _ := z; rw [z]; decide)) ?_)
    refine ⟨_, rfl, ?_⟩
    refine am_vc hJ 60 _ _ _ _ _ _ _ ?_
    repeat (refine br_f (fun z => h1 (by have z : a = _ := z; rw [z]; decide)) ?_)
    exact ⟨rfl, hQc _ hI⟩
theorem put_nj {I : am_I} {o k o' j : Nat} {v : Int32} (h : j ≠ k) : am_put I o k v o' j = I o' j := by unfold am_put; rw [if_neg (fun q => h q.2)]
/-- one shelf changes -/
theorem ShelfR.one {I I' : am_I} {h : Nat} (hS : ShelfR I) (hk : ∀ j, j ≠ h → ∀ o ∈ [61, 62, 63, 84, 85], I' o j = I o j) (hn : (I' 61 h = 2 ∧ I' 84 h = -1) ∨ (I' 61 h = 0 ∧ I' 84 h = 0 ∧ ∃ k, k < 6 ∧ I' 62 h = nI k ∧ I' 85 h = nI k) ∨ (I' 61 h = 1 ∧ ∃ so n, so < 5 ∧ n ≤ 40 ∧ I' 84 h = nI (10 + so) ∧ I' 62 h = nI so ∧ I' 63 h = nI n ∧ I' 85 h = nI n)) : ShelfR I' := by
  intro j hj
  by_cases e : j = h
  · subst e
    exact hn
  · have k := hk j e
    rw [k 61 (by decide), k 62 (by decide), k 63 (by decide), k 84 (by decide), k 85 (by decide)]
    exact hS j hj
theorem op_shelf (hJ : am_Cl am_meth L xs J) (a b c : Int32) : am_same Inv J q_X_shelf q_M_shelf [.int a, .int b, .int c] := by
  intro I hI Qc hQc
  obtain ⟨u, uk, hMn, hK, hRs⟩ := id hI
  obtain ⟨hT, hRw, hSh, hSf, hTr, hLe⟩ := id hRs
  obtain ⟨hM, hR, hC, hO⟩ := id hMn
  have c1 := hO.Cn.1
  have x6 : I 8 2 = nI (u 6) := hMn.get (j := 6) (by decide +kernel)
  have m6 : I 67 6 = nI (u 6) := hM 6 (by decide)
  by_cases h1 : (0 : Int32) ≤ a ∧ a ≤ 3
  · obtain ⟨h, hh, rfl⟩ := am_rng (N := 3) rfl (by decide) h1
    have hh4 : h < 4 := by omega
    have gv : vp_in (nI h) 4 := vp_in_nI hh4 (by omega)
    have ec : (nI h).toNatClampNeg = h := nI_clamp (by omega)
    by_cases h2 : (0 : Int32) ≤ b ∧ b ≤ 2
    · obtain ⟨w, hw, rfl⟩ := am_rng (N := 2) rfl (by decide) h2
      rcases (show w = 0 ∨ w = 1 ∨ w = 2 by omega) with rfl | rfl | rfl
      · refine am_vc hJ 60 _ _ _ _ _ _ _ ?_
        refine x_isShelfY hJ h1 ?_
        refine br_f (by decide) ?_
        repeat (first | refine br_f (by decide) ?_ | refine br_t (by decide) ?_)
        refine am_vc hJ 60 _ _ _ _ _ _ _ ?_
        by_cases g : ∃ j, j < u 6 ∧ c = nI j
        · refine x_hasY hJ x6 c1 g ?_
          refine br_f (by decide) ?_
          refine ⟨gv, gv, ?_⟩
          refine ⟨_, rfl, ?_⟩
          conv => whnf
          rw [ec]
          have n6 : am_put (am_put I 61 h 0) 62 h c 67 6 = nI (u 6) := by rw [am_put_o (by decide), am_put_o (by decide)]; exact m6
          refine am_vc hJ 60 _ _ _ _ _ _ _ ?_
          refine m_isSheetY hJ h1 ?_
          refine br_f (by decide) ?_
          refine m_in1Y hJ h2 ?_
          refine br_f (by decide) ?_
          refine br_t (by decide) ?_
          refine m_isPersonY hJ n6 c1 g ?_
          refine br_f (by decide) ?_
          refine br_f (by decide) ?_
          refine br_t (by decide) ?_
          refine ⟨gv, ?_⟩
          refine br_t (by decide) ?_
          refine ⟨gv, ?_⟩
          refine ⟨rfl, hQc _ ?_⟩
          obtain ⟨k, hk, rfl⟩ := g
          show Inv (am_put (am_put (am_put (am_put I 61 h 0) 62 h (nI k)) 84 (nI h).toNatClampNeg 0) 85 (nI h).toNatClampNeg (nI k))
          rw [ec]
          refine hI.shelf (fun o ho => ?_) (hSf.one (h := h) (fun j hj o ho => ?_) (Or.inr (Or.inl ⟨?_, ?_, k, by omega, ?_, ?_⟩)))
          · simp only [List.mem_cons, List.not_mem_nil, or_false, not_or] at ho
            rw [am_put_o ho.2.2.2.2, am_put_o ho.2.2.2.1, am_put_o ho.2.1, am_put_o ho.1]
          · rw [put_nj hj, put_nj hj, put_nj hj, put_nj hj]
          all_goals simp [am_put]
        · refine x_hasN hJ x6 c1 g ?_
          refine br_t (by decide) ?_
          refine ⟨_, rfl, ?_⟩
          refine am_vc hJ 60 _ _ _ _ _ _ _ ?_
          refine m_isSheetY hJ h1 ?_
          refine br_f (by decide) ?_
          refine m_in1Y hJ h2 ?_
          refine br_f (by decide) ?_
          refine br_t (by decide) ?_
          refine m_isPersonN hJ m6 c1 g ?_
          refine br_t (by decide) ?_
          exact ⟨rfl, hQc _ hI⟩
      · refine am_vc hJ 60 _ _ _ _ _ _ _ ?_
        refine x_isShelfY hJ h1 ?_
        refine br_f (by decide) ?_
        repeat (first | refine br_f (by decide) ?_ | refine br_t (by decide) ?_)
        refine am_vc hJ 60 _ _ _ _ _ _ _ ?_
        by_cases g : (0 : Int32) ≤ c ∧ c ≤ 3
        · obtain ⟨m, hm, rfl⟩ := am_rng (N := 3) rfl (by decide) g
          have gm : vp_in (nI m) 4 := vp_in_nI (by omega) (by omega)
          have em : (nI m).toNatClampNeg = m := nI_clamp (by omega)
          refine x_isSheetY hJ g ?_
          refine br_f (by decide) ?_
          refine ⟨gm, ?_⟩
          rcases hSh m (by omega) with ⟨q1, q2⟩ | ⟨so, n, q1, q2, q3, q4, q5, q6, q7⟩
          · refine br_t (by show I 54 (nI m).toNatClampNeg = -1; rw [em]; exact q1) ?_
            refine ⟨gv, gm, gv, gm, gv, ?_⟩
            refine ⟨_, rfl, ?_⟩
            obtain ⟨y1, hy1⟩ : ∃ y, y = am_put I 61 (nI h).toNatClampNeg 2 54 (nI m).toNatClampNeg := ⟨_, rfl⟩
            obtain ⟨y2, hy2⟩ : ∃ y, y = am_put (am_put I 61 (nI h).toNatClampNeg 2) 62 (nI h).toNatClampNeg y1 55 (nI m).toNatClampNeg := ⟨_, rfl⟩
            conv => whnf
            show J 40 q_M_shelf 0 (am_ents q_M_shelf [.ref 66, .int (nI h), .int (nI 1), .int (nI m)]) [] (am_put (am_put (am_put I 61 (nI h).toNatClampNeg 2) 62 (nI h).toNatClampNeg (am_put I 61 (nI h).toNatClampNeg 2 54 (nI m).toNatClampNeg)) 63 (nI h).toNatClampNeg (am_put (am_put I 61 (nI h).toNatClampNeg 2) 62 (nI h).toNatClampNeg (am_put I 61 (nI h).toNatClampNeg 2 54 (nI m).toNatClampNeg) 55 (nI m).toNatClampNeg)) _
            rw [← hy1, ← hy2, ec]
            have e81 : am_put (am_put (am_put I 61 h 2) 62 h y1) 63 h y2 81 (nI m).toNatClampNeg = -1 := by rw [am_put_o (by decide), am_put_o (by decide), am_put_o (by decide), em]; exact q2
            refine am_vc hJ 60 _ _ _ _ _ _ _ ?_
            refine m_isSheetY hJ h1 ?_
            refine br_f (by decide) ?_
            refine m_in1Y hJ h2 ?_
            refine br_f (by decide) ?_
            refine br_f (by decide) ?_
            refine br_t (by decide) ?_
            refine m_isSheetY hJ g ?_
            refine br_f (by decide) ?_
            refine br_f (by decide) ?_
            refine br_t (by decide) ?_
            refine ⟨gm, ?_⟩
            refine br_t (by show am_put (am_put (am_put I 61 h 2) 62 h y1) 63 h y2 81 (nI m).toNatClampNeg < 0; rw [e81]; decide) ?_
            refine ⟨gv, ?_⟩
            refine br_f (by decide) ?_
            refine br_t (by decide) ?_
            refine ⟨gm, gv, ?_⟩
            refine ⟨rfl, hQc _ ?_⟩
            obtain ⟨y3, hy3⟩ : ∃ y, y = am_put (am_put (am_put (am_put I 61 h 2) 62 h y1) 63 h y2) 84 (nI h).toNatClampNeg (-1) 82 (nI m).toNatClampNeg := ⟨_, rfl⟩
            show Inv (am_put (am_put (am_put (am_put (am_put I 61 h 2) 62 h y1) 63 h y2) 84 (nI h).toNatClampNeg (-1)) 85 (nI h).toNatClampNeg (am_put (am_put (am_put (am_put I 61 h 2) 62 h y1) 63 h y2) 84 (nI h).toNatClampNeg (-1) 82 (nI m).toNatClampNeg))
            rw [← hy3, ec]
            refine hI.shelf (fun o ho => ?_) (hSf.one (h := h) (fun j hj o ho => ?_) (Or.inl ⟨?_, ?_⟩))
            · simp only [List.mem_cons, List.not_mem_nil, or_false, not_or] at ho
              rw [am_put_o ho.2.2.2.2, am_put_o ho.2.2.2.1, am_put_o ho.2.2.1, am_put_o ho.2.1, am_put_o ho.1]
            · rw [put_nj hj, put_nj hj, put_nj hj, put_nj hj, put_nj hj]
            all_goals simp [am_put]
          · refine br_f (by show ¬ I 54 (nI m).toNatClampNeg = -1; rw [em, q3]; exact am_neg1 (by omega)) ?_
            refine ⟨gv, gm, gv, gm, gv, ?_⟩
            refine ⟨_, rfl, ?_⟩
            have hy1 : am_put I 61 h 1 54 m = nI so := by rw [am_put_o (by decide)]; exact q3
            have hy2 : am_put (am_put I 61 h 1) 62 h (nI so) 55 m = nI n := by rw [am_put_o (by decide), am_put_o (by decide)]; exact q5
            conv => whnf
            show J 40 q_M_shelf 0 (am_ents q_M_shelf [.ref 66, .int (nI h), .int (nI 1), .int (nI m)]) [] (am_put (am_put (am_put I 61 (nI h).toNatClampNeg 1) 62 (nI h).toNatClampNeg (am_put I 61 (nI h).toNatClampNeg 1 54 (nI m).toNatClampNeg)) 63 (nI h).toNatClampNeg (am_put (am_put I 61 (nI h).toNatClampNeg 1) 62 (nI h).toNatClampNeg (am_put I 61 (nI h).toNatClampNeg 1 54 (nI m).toNatClampNeg) 55 (nI m).toNatClampNeg)) _
            rw [ec, em, hy1, hy2]
            have e81 : am_put (am_put (am_put I 61 h 1) 62 h (nI so)) 63 h (nI n) 81 (nI m).toNatClampNeg = nI so := by rw [am_put_o (by decide), am_put_o (by decide), am_put_o (by decide), em]; exact q4
            refine am_vc hJ 60 _ _ _ _ _ _ _ ?_
            refine m_isSheetY hJ h1 ?_
            refine br_f (by decide) ?_
            refine m_in1Y hJ h2 ?_
            refine br_f (by decide) ?_
            refine br_f (by decide) ?_
            refine br_t (by decide) ?_
            refine m_isSheetY hJ g ?_
            refine br_f (by decide) ?_
            refine br_f (by decide) ?_
            refine br_t (by decide) ?_
            refine ⟨gm, ?_⟩
            refine br_f (by show ¬ am_put (am_put (am_put I 61 h 1) 62 h (nI so)) 63 h (nI n) 81 (nI m).toNatClampNeg < 0; rw [e81]; exact nI_pos (by omega)) ?_
            refine ⟨gm, gv, ?_⟩
            refine br_f (by decide) ?_
            refine br_t (by decide) ?_
            refine ⟨gm, gv, ?_⟩
            refine ⟨rfl, hQc _ ?_⟩
            show Inv (am_put (am_put (am_put (am_put (am_put I 61 h 1) 62 h (nI so)) 63 h (nI n)) 84 (nI h).toNatClampNeg (10 + am_put (am_put (am_put I 61 h 1) 62 h (nI so)) 63 h (nI n) 81 (nI m).toNatClampNeg)) 85 (nI h).toNatClampNeg (am_put (am_put (am_put (am_put I 61 h 1) 62 h (nI so)) 63 h (nI n)) 84 (nI h).toNatClampNeg (10 + am_put (am_put (am_put I 61 h 1) 62 h (nI so)) 63 h (nI n) 81 (nI m).toNatClampNeg) 82 (nI m).toNatClampNeg))
            have e82 : ∀ y, am_put (am_put (am_put (am_put I 61 h 1) 62 h (nI so)) 63 h (nI n)) 84 h y 82 m = nI n := by
              intro y
              rw [am_put_o (by decide), am_put_o (by decide), am_put_o (by decide), am_put_o (by decide)]
              exact q6
            have e10 : (10 : Int32) + nI so = nI (10 + so) := nI_add 10 so
            rw [e81, e10, ec, em, e82]
            refine hI.shelf (fun o ho => ?_) (hSf.one (h := h) (fun j hj o ho => ?_) (Or.inr (Or.inr ⟨?_, so, n, q1, q2, ?_, ?_, ?_, ?_⟩)))
            · simp only [List.mem_cons, List.not_mem_nil, or_false, not_or] at ho
              rw [am_put_o ho.2.2.2.2, am_put_o ho.2.2.2.1, am_put_o ho.2.2.1, am_put_o ho.2.1, am_put_o ho.1]
            · rw [put_nj hj, put_nj hj, put_nj hj, put_nj hj, put_nj hj]
            all_goals simp [am_put]
        · refine x_isSheetN hJ g ?_
          refine br_t (by decide) ?_
          refine ⟨_, rfl, ?_⟩
          refine am_vc hJ 60 _ _ _ _ _ _ _ ?_
          refine m_isSheetY hJ h1 ?_
          refine br_f (by decide) ?_
          refine m_in1Y hJ h2 ?_
          refine br_f (by decide) ?_
          refine br_f (by decide) ?_
          refine br_t (by decide) ?_
          refine m_isSheetN hJ g ?_
          refine br_t (by decide) ?_
          exact ⟨rfl, hQc _ hI⟩
      · refine am_vc hJ 60 _ _ _ _ _ _ _ ?_
        refine x_isShelfY hJ h1 ?_
        refine br_f (by decide) ?_
        repeat (first | refine br_f (by decide) ?_ | refine br_t (by decide) ?_)
        refine ⟨gv, ?_⟩
        refine ⟨_, rfl, ?_⟩
        refine am_vc hJ 60 _ _ _ _ _ _ _ ?_
        refine m_isSheetY hJ h1 ?_
        refine br_f (by decide) ?_
        refine m_in1Y hJ h2 ?_
        refine br_f (by decide) ?_
        refine br_f (by decide) ?_
        refine br_f (by decide) ?_
        refine br_f (by decide) ?_
        refine br_f (by decide) ?_
        refine ⟨gv, ?_⟩
        refine br_f (by decide) ?_
        refine br_f (by decide) ?_
        refine ⟨gv, ?_⟩
        refine ⟨rfl, hQc _ ?_⟩
        show Inv (am_put (am_put (am_put I 61 (nI h).toNatClampNeg 2) 84 (nI h).toNatClampNeg (-1)) 85 (nI h).toNatClampNeg 0)
        rw [ec]
        refine hI.shelf (fun o ho => ?_) (hSf.one (h := h) (fun j hj o ho => ?_) (Or.inl ⟨?_, ?_⟩))
        · simp only [List.mem_cons, List.not_mem_nil, or_false, not_or] at ho
          rw [am_put_o ho.2.2.2.2, am_put_o ho.2.2.2.1, am_put_o ho.1]
        · rw [put_nj hj, put_nj hj, put_nj hj]
        all_goals simp [am_put]
    · refine am_vc hJ 60 _ _ _ _ _ _ _ ?_
      refine x_isShelfY hJ h1 ?_
      refine br_f (by decide) ?_
      repeat (refine br_f (fun z => h2 (by have z : b = _ := z; rw [z]; decide)) ?_)
      refine ⟨_, rfl, ?_⟩
      refine am_vc hJ 60 _ _ _ _ _ _ _ ?_
      refine m_isSheetY hJ h1 ?_
      refine br_f (by decide) ?_
      refine m_in1N hJ h2 ?_
      refine br_t (by decide) ?_
      exact ⟨rfl, hQc _ hI⟩
  · repeat (
      (try conv => whnf)
      first
        | refine ⟨am_vin (by decide), ?_⟩
        | refine ⟨(by assumption : vp_in _ _), ?_⟩
        | refine br_f (by decide) ?_
        | refine br_t (by decide) ?_
        | refine br_t (by assumption) ?_
        | refine br_f (by assumption) ?_
        | refine x_withinY hJ (by assumption) ?_
        | refine x_withinN hJ (by assumption) ?_
        | refine m_in1Y hJ (by assumption) ?_
        | refine m_in1N hJ (by assumption) ?_
        | refine m_isGateY hJ (by assumption) ?_
        | refine m_isGateN hJ (by assumption) ?_
        | refine m_isDigitY hJ (by assumption) ?_
        | refine m_isDigitN hJ (by assumption) ?_
        | refine m_isNeedY hJ (by assumption) ?_
        | refine m_isNeedN hJ (by assumption) ?_
        | refine m_isPlanY hJ (by assumption) ?_
        | refine m_isPlanN hJ (by assumption) ?_
        | refine m_isSheetY hJ (by assumption) ?_
        | refine m_isSheetN hJ (by assumption) ?_
        | refine x_isSheetY hJ (by assumption) ?_
        | refine x_isSheetN hJ (by assumption) ?_
        | refine x_isShelfY hJ (by assumption) ?_
        | refine x_isShelfN hJ (by assumption) ?_
        | refine x_hasY hJ (by assumption) (by assumption) (by assumption) ?_
        | refine x_hasN hJ (by assumption) (by assumption) (by assumption) ?_
        | refine m_isPersonY hJ (by assumption) (by assumption) (by assumption) ?_
        | refine m_isPersonN hJ (by assumption) (by assumption) (by assumption) ?_
        | refine am_vc hJ 120 40 _ _ _ _ _ _ ?_
        | refine ⟨_, rfl, ?_⟩)
    exact ⟨rfl, hQc _ hI⟩
theorem x_personOn (hJ : am_Cl am_meth L xs J) {I : am_I} {h n : Nat} {res : Int32} (hh : h < 4) (hn : I 8 2 = nI n) (h6 : n ≤ 6) (hy : I 61 h = 0 → (∃ j, j < n ∧ I 62 h = nI j) → res = I 62 h) (hno : ¬ (I 61 h = 0 ∧ ∃ j, j < n ∧ I 62 h = nI j) → res = -3) (hQ : Q (some (.int res)) I) {z : Option Value} : J (d + 2) q_X_personOn 0 [some (.ref 0), some (.int (nI h)), z] [] I Q := by
  have gv : vp_in (nI h) 4 := vp_in_nI hh (by omega)
  have ec : (nI h).toNatClampNeg = h := nI_clamp (by omega)
  refine am_vc hJ 60 _ _ _ _ _ _ _ ?_
  refine ⟨gv, ?_⟩
  rw [ec]
  refine ⟨fun g => ?_, fun g => ?_⟩
  · refine ⟨gv, ?_⟩
    rw [ec]
    by_cases g2 : ∃ j, j < n ∧ I 62 h = nI j
    · refine x_hasY hJ hn h6 g2 ?_
      refine br_f (by decide) ?_
      refine br_f (by decide) ?_
      refine ⟨gv, ?_⟩
      rw [ec, ← hy g g2]
      exact hQ
    · refine x_hasN hJ hn h6 g2 ?_
      refine br_t (by decide) ?_
      refine br_t (by decide) ?_
      rw [hno (fun z => g2 z.2)] at hQ
      exact hQ
  · refine br_t (by decide) ?_
    rw [hno (fun z => g z.1)] at hQ
    exact hQ
theorem m_heldOn (hJ : am_Cl am_meth L xs J) {I : am_I} {h n : Nat} {res : Int32} (hh : h < 4) (hn : I 67 6 = nI n) (h6 : n ≤ 6) (hy : I 84 h = 0 → ¬ (∃ j, j < n ∧ I 85 h = nI j) → res = -1) (hno : ¬ (I 84 h = 0 ∧ ¬ ∃ j, j < n ∧ I 85 h = nI j) → res = I 84 h) (hQ : Q (some (.int res)) I) : J (d + 2) q_M_heldOn 0 [some (.ref 66), some (.int (nI h))] [] I Q := by
  have gv : vp_in (nI h) 4 := vp_in_nI hh (by omega)
  have ec : (nI h).toNatClampNeg = h := nI_clamp (by omega)
  refine am_vc hJ 60 _ _ _ _ _ _ _ ?_
  refine ⟨gv, ?_⟩
  rw [ec]
  refine ⟨fun g => ?_, fun g => ?_⟩
  · refine ⟨gv, ?_⟩
    rw [ec]
    by_cases g2 : ∃ j, j < n ∧ I 85 h = nI j
    · refine m_isPersonY hJ hn h6 g2 ?_
      refine br_f (by decide) ?_
      refine ⟨gv, ?_⟩
      rw [ec, ← hno (fun z => z.2 g2)]
      exact hQ
    · refine m_isPersonN hJ hn h6 g2 ?_
      refine br_t (by decide) ?_
      rw [hy g g2] at hQ
      exact hQ
  · refine ⟨gv, ?_⟩
    rw [ec, ← hno (fun z => g z.1)]
    exact hQ
end
