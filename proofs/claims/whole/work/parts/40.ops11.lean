/-! WHEN, BAKERY, WINTER, TALEFOR, GATEFOR -/
def sp_find (u : am_U) (P : am_U → Bool) : Nat → Nat → Int32
  | 0, _ => -3
  | n + 1, i => if P (sp_rU u (i + 1)) then nI (u 0 + i) else sp_find u P n (i + 1)
theorem sp_find_succ (u : am_U) (P : am_U → Bool) (n i : Nat) : sp_find u P (n + 1) i = if P (sp_rU u (i + 1)) = true then nI (u 0 + i) else sp_find u P n (i + 1) := rfl
def sp_wn (u : am_U) : Nat → Nat
  | 0 => 0
  | n + 1 => sp_wn u n + if fedN (sp_rU u (n + 1)) = fedN (sp_rU u n) then 1 else 0
theorem sp_wn_le {u : am_U} : ∀ n, sp_wn u n ≤ n
  | 0 => Nat.le_refl _
  | n + 1 => by
    have := sp_wn_le (u := u) n
    show sp_wn u n + _ ≤ _
    split <;> omega
theorem RuR.same {cd : Nat → Int32} {u u' : am_U} (h : RuR cd u) (hs : SameR u u') : RuR cd u' := h.keptu (hs 7 (by decide)) (fun j hj => hs j (am_dy_98 (by omega)))
section
variable {L : Nat} {xs : Nat → Int32} {J : am_J} {d : Nat} {Q : am_Q}
theorem x_when_loop (hJ : am_Cl am_meth L xs J) {I0 : am_I} {u : am_U} {k : Nat} (hO : OKu u) (hk : k < 6) (w : Int32) (h : ∀ I : am_I, (∀ o, o ≠ 52 → o ≠ 18 → I o = I0 o) → Q (some (.int w)) I) : ∀ (n i : Nat) (I : am_I), i + n = u 1 - u 0 → (∀ o, o ≠ 52 → o ≠ 18 → I o = I0 o) → RRep I 8 (sp_rU u i) → CRep I 52 (sp_rU u i) → w = sp_find u (fun v => decide (v (43 + 6 * k) = 1)) n i → J (d + 5) q_X_when 35 [some (.ref 0), some (.int (nI k)), some (.int (nI n))] [] I Q
  | 0, i, I, hn, hI, hR, hC, hw => by
    refine am_vcl hJ [35] 200 ?_
    refine br_t (by decide) ?_
    have hw : w = -3 := hw
    subst hw
    exact h I hI
  | n + 1, i, I, hn, hI, hR, hC, hw => by
    have c1 := hO.Cn
    have hOi := (sp_rU_ok hO i (by omega)).1
    obtain ⟨oi, si, di⟩ := sp_rU_ok hO (i + 1) (by omega)
    rw [sp_find_succ] at hw
    refine am_vcl hJ [35] 200 ?_
    refine br_f (by show ¬ nI (n + 1) ≤ nI 0; exact nI_ge (by omega) (by omega)) ?_
    refine x_restAct hJ (by decide) hR hC hOi ?_
    refine x_goBy hJ (by decide) hR hC hOi sp_rest_le (fun I1 q1 R1 C1 => ?_)
    have R1 : RRep I1 8 (sp_rU u (i + 1)) := R1
    have C1 : CRep I1 52 (sp_rU u (i + 1)) := C1
    have f1 : ∀ o, o ≠ 52 → o ≠ 18 → I1 o = I0 o := fun o h1 h2 => by rw [q1 o h1 h2]; exact hI o h1 h2
    refine x_isFed hJ (by decide) C1.2.2 oi.fed hk (fun q => ?_) (fun q => ?_)
    · rw [if_pos (by simpa using q)] at hw
      refine br_f (by decide) ?_
      have e : I1 52 0 - 1 = w := by
        rw [hw, C1.day.1, di, show u 0 + (i + 1) = u 0 + i + 1 by omega]
        exact nI_pred _
      show Q (some (.int (I1 52 0 - 1))) I1
      rw [e]
      exact h I1 f1
    · rw [if_neg (by simp [q])] at hw
      refine br_t (by decide) ?_
      have k9 := x_when_loop hJ hO hk w h n (i + 1) I1 (by omega) f1 R1 C1 hw
      have e1 : nI (n + 1) + (-1) = nI n := by rw [← Int32.sub_eq_add_neg]; exact nI_pred n
      rw [← e1] at k9
      exact k9
theorem m_when_loop (hJ : am_Cl am_meth L xs J) {I0 : am_I} {u : am_U} {cd : Nat → Int32} {k : Nat} (hRu : RuR cd u) (hO : OKu u) (hk : k < 6) (w : Int32) (h : ∀ I : am_I, (∀ o, o ≠ 67 → o ≠ 70 → I o = I0 o) → MRep I 67 u → Q (some (.int w)) I) (hL : LaidR I0 u) : ∀ (n i : Nat) (I : am_I) (z : Option Value), i + n = u 1 - u 0 → (∀ o, o ≠ 67 → o ≠ 70 → I o = I0 o) → MRep I 67 (sp_rU u i) → w = sp_find u (fun v => decide (v (43 + 6 * k) = 1)) n i → J (d + 7) q_M_when 32 [some (.ref 66), some (.int (nI k)), some (.int (-3)), some (.int 1), z] [] I Q
  | n, i, I, z, hn, hI, hM, hw => by
    obtain ⟨c1, c2, c3, c4, c5, c6, c7⟩ := hO.Cn
    have c01 := hO.2.1
    obtain ⟨oi, si, di⟩ := sp_rU_ok hO i (by omega)
    have d1 : sp_rU u i 1 = u 1 := si 1 (by decide)
    have oc := oi.Cn
    have back : ∀ (i : Nat) (I : am_I) (b : Int32) (y z : Option Value), i ≤ u 1 - u 0 → (∀ o, o ≠ 67 → o ≠ 70 → I o = I0 o) → MRep I 67 (sp_rU u i) → b = w → J (d + 7) q_M_when 91 [some (.ref 66), some (.int (nI k)), some (.int b), y, z] [] I Q := by
      intro i I b y z hi hI hM hb
      subst hb
      refine am_vc hJ 20 _ _ _ _ _ _ _ ?_
      refine m_layBack hJ hM (hL.kept (hI 69 (by decide) (by decide))) (sp_rU_ok hO i hi).2.1.hi (fun I4 q4 M4 => ?_)
      exact h I4 (fun o h1 h2 => by rw [q4 o h1]; exact hI o h1 h2) M4
    cases n with
    | zero =>
      refine am_vcl hJ [32, 91] 200 ?_
      refine br_f (by decide) ?_
      refine m_isOver hJ (hM 0 (by decide)) (hM 1 (by decide)) (by omega) (by omega) (fun q => ?_) (fun q => by exfalso; omega)
      refine br_f (by decide) ?_
      exact back i I _ _ _ (by omega) hI hM hw.symm
    | succ n =>
      rw [sp_find_succ] at hw
      obtain ⟨o2, s2, d2⟩ := sp_rU_ok hO (i + 1) (by omega)
      have p6 := (o2.P hk).2.2.2.2.2
      refine am_vcl hJ [32, 91] 200 ?_
      refine br_f (by decide) ?_
      refine m_isOver hJ (hM 0 (by decide)) (hM 1 (by decide)) (by omega) (by omega) (fun q => by exfalso; omega) (fun q => ?_)
      refine br_t (by decide) ?_
      refine m_goesRest hJ hM (hRu.same si) oi (fun I1 q1 M1 => ?_)
      have M1 : MRep I1 67 (sp_rU u (i + 1)) := M1
      have f1 : ∀ o, o ≠ 67 → o ≠ 70 → I1 o = I0 o := fun o h1 h2 => by rw [q1 o h1 h2]; exact hI o h1 h2
      have e5 : I1 67 (38 + 6 * k + 5) = nI (sp_rU u (i + 1) (43 + 6 * k)) := by rw [M1 _ (by omega), show 38 + 6 * k + 5 = 43 + 6 * k by omega]
      have hwl := sp_goW_le oi (sp_rest_le (u := sp_rU u i))
      refine m_get hJ (a := k) (b := 5) rfl rfl hk (by decide) ?_
      refine ⟨fun g => ?_, fun g => ?_⟩
      · have g : I1 67 (38 + 6 * k + 5) = nI 0 := g
        rw [e5, nI_eq (by omega) (by omega)] at g
        rw [if_neg (by simp [g])] at hw
        refine br_f (by decide) ?_
        exact m_when_loop hJ hRu hO hk w h hL n (i + 1) I1 _ (by omega) f1 M1 hw
      · have g : ¬ I1 67 (38 + 6 * k + 5) = nI 0 := g
        rw [e5, nI_eq (by omega) (by omega)] at g
        have g1 : sp_rU u (i + 1) (43 + 6 * k) = 1 := by omega
        rw [if_pos (by simpa using g1)] at hw
        refine br_t (by decide) ?_
        refine br_t (by show 0 ≤ nI (sp_goW (sp_rU u i) (sp_rest (sp_rU u i))); exact nI_pos' (by omega)) ?_
        refine ⟨am_vin (by decide), ?_⟩
        refine am_vcl hJ [32, 91] 200 ?_
        refine br_t (by decide) ?_
        refine back (i + 1) I1 _ _ _ (by omega) f1 M1 ?_
        rw [hw]
        show I1 67 0 - 1 = _
        rw [M1 0 (by decide), d2, show u 0 + (i + 1) = u 0 + i + 1 by omega]
        exact nI_pred _
theorem op_when (hJ : am_Cl am_meth L xs J) (a : Int32) : am_same Inv J q_X_when q_M_when [.int a] := by
  intro I hI Qc hQc
  obtain ⟨u, uk, hMn, hK, hRs⟩ := id hI
  obtain ⟨hM, hR, hC, hO⟩ := id hMn
  obtain ⟨c1, c2, c3, c4, c5, c6, c7⟩ := hO.Cn
  have x6 : I 8 2 = nI (u 6) := hMn.get (j := 6) (by decide +kernel)
  have m6 : I 67 6 = nI (u 6) := hM 6 (by decide)
  by_cases h1 : ∃ j, j < u 6 ∧ a = nI j
  · obtain ⟨k, hk, rfl⟩ := id h1
    have hk6 : k < 6 := by omega
    have p6 := (hO.P hk6).2.2.2.2.2
    refine am_vcc hJ [35] 200 _ _ _ _ _ _ _ ?_
    refine x_hasY hJ x6 c1 h1 ?_
    refine br_f (by decide) ?_
    refine x_isFed hJ (by decide) hC.2.2 hO.fed hk6 (fun q => ?_) (fun q => ?_)
    · refine br_f (by decide) ?_
      refine ⟨_, rfl, ?_⟩
      refine am_vcc hJ [32] 200 _ _ _ _ _ _ _ ?_
      refine m_isPersonY hJ m6 c1 h1 ?_
      refine br_f (by decide) ?_
      refine m_layDown hJ hM (fun I2 q2 L2 => ?_)
      have M2 : MRep I2 67 u := hM.kept (q2 67 (by decide))
      refine m_get hJ (a := k) (b := 5) rfl rfl hk6 (by decide) ?_
      have e5 : I2 67 (38 + 6 * k + 5) = nI (u (43 + 6 * k)) := by rw [M2 _ (by omega), show 38 + 6 * k + 5 = 43 + 6 * k by omega]
      refine br_f (by show ¬ I2 67 (38 + 6 * k + 5) = nI 0; rw [e5, q]; decide) ?_
      refine am_vcl hJ [32] 200 ?_
      refine br_t (by decide) ?_
      refine m_layBack hJ M2 L2 (fun _ _ => rfl) (fun I4 q4 M4 => ?_)
      refine ⟨rfl, hQc _ (Inv.thought hI hMn (I1 := I) (fun _ _ => rfl) (am_only3 (fun o h1 h2 h3 => ?_)) M4)⟩
      rw [q4 o h1, q2 o h2]
    · refine br_t (by decide) ?_
      refine x_startAhead hJ hR hC hO (fun I1 q1 R1 C1 => ?_)
      refine x_when_loop (I0 := I) hJ hO hk6 (sp_find u (fun v => decide (v (43 + 6 * k) = 1)) (u 1 - u 0) 0) (fun I2 q2 => ?_) (u 1 - u 0) 0 I1 (Nat.zero_add _) (fun o h1 _ => q1 o h1) R1 C1 rfl
      refine ⟨_, rfl, ?_⟩
      have M1 : MRep I2 67 u := hM.kept (q2 67 (by decide) (by decide))
      refine am_vcc hJ [32] 200 _ _ _ _ _ _ _ ?_
      refine m_isPersonY hJ (M1 6 (by decide)) c1 h1 ?_
      refine br_f (by decide) ?_
      refine m_layDown hJ M1 (fun I3 q3 L3 => ?_)
      have M3 : MRep I3 67 u := M1.kept (q3 67 (by decide))
      refine m_get hJ (a := k) (b := 5) rfl rfl hk6 (by decide) ?_
      have e5 : I3 67 (38 + 6 * k + 5) = nI (u (43 + 6 * k)) := by rw [M3 _ (by omega), show 38 + 6 * k + 5 = 43 + 6 * k by omega]
      refine br_t (by show I3 67 (38 + 6 * k + 5) = nI 0; rw [e5, q]) ?_
      refine m_when_loop (I0 := I3) hJ hR.2 hO hk6 _ (fun I4 q4 M4 => ?_) L3 (u 1 - u 0) 0 I3 _ (Nat.zero_add _) (fun _ _ _ => rfl) M3 rfl
      refine ⟨rfl, hQc _ (Inv.thought hI hMn (am_only2 (fun o h1 h2 => q2 o h2 h1)) (am_only3 (fun o h1 h2 h3 => ?_)) M4)⟩
      rw [q4 o h1 h3, q3 o h2]
  · repeat (
      (try conv => whnf)
      first
        | refine ⟨am_vin (by decide), ?_⟩
        | refine ⟨(by assumption : vp_in _ _), ?_⟩
        | refine br_f (by decide) ?_
        | refine br_t (by decide) ?_
        | refine br_t (by assumption) ?_
        | refine br_f (by assumption) ?_
        | refine x_withinY hJ (by assumption) ?_
        | refine x_withinN hJ (by assumption) ?_
        | refine m_in1Y hJ (by assumption) ?_
        | refine m_in1N hJ (by assumption) ?_
        | refine m_isGateY hJ (by assumption) ?_
        | refine m_isGateN hJ (by assumption) ?_
        | refine m_isDigitY hJ (by assumption) ?_
        | refine m_isDigitN hJ (by assumption) ?_
        | refine m_isNeedY hJ (by assumption) ?_
        | refine m_isNeedN hJ (by assumption) ?_
        | refine m_isPlanY hJ (by assumption) ?_
        | refine m_isPlanN hJ (by assumption) ?_
        | refine m_isSheetY hJ (by assumption) ?_
        | refine m_isSheetN hJ (by assumption) ?_
        | refine x_isSheetY hJ (by assumption) ?_
        | refine x_isSheetN hJ (by assumption) ?_
        | refine x_isShelfY hJ (by assumption) ?_
        | refine x_isShelfN hJ (by assumption) ?_
        | refine x_hasY hJ (by assumption) (by assumption) (by assumption) ?_
        | refine x_hasN hJ (by assumption) (by assumption) (by assumption) ?_
        | refine m_isPersonY hJ (by assumption) (by assumption) (by assumption) ?_
        | refine m_isPersonN hJ (by assumption) (by assumption) (by assumption) ?_
        | refine am_vc hJ 120 40 _ _ _ _ _ _ ?_
        | refine ⟨_, rfl, ?_⟩)
    exact ⟨rfl, hQc _ hI⟩
/-! bakery -/
theorem x_bak_loop (hJ : am_Cl am_meth L xs J) {I0 : am_I} {u : am_U} {v : Nat} (hO : OKu u) (hv : v ≤ 999) (w : Int32) (h : ∀ I : am_I, (∀ o, o ≠ 52 → o ≠ 18 → I o = I0 o) → Q (some (.int w)) I) : ∀ (n i : Nat) (I : am_I), i + n = u 1 - u 0 → (∀ o, o ≠ 52 → o ≠ 18 → I o = I0 o) → RRep I 8 (sp_rU u i) → CRep I 52 (sp_rU u i) → w = sp_find u (fun y => decide (v ≤ y 4)) n i → J (d + 5) q_X_bakery 18 [some (.ref 0), some (.int (nI v)), some (.int (nI n))] [] I Q
  | 0, i, I, hn, hI, hR, hC, hw => by
    refine am_vcl hJ [18] 200 ?_
    refine br_t (by decide) ?_
    have hw : w = -3 := hw
    subst hw
    exact h I hI
  | n + 1, i, I, hn, hI, hR, hC, hw => by
    have c1 := hO.Cn
    have hOi := (sp_rU_ok hO i (by omega)).1
    obtain ⟨oi, si, di⟩ := sp_rU_ok hO (i + 1) (by omega)
    have o4 := oi.Cn.2.2.2.2.1
    rw [sp_find_succ] at hw
    refine am_vcl hJ [18] 200 ?_
    refine br_f (by show ¬ nI (n + 1) ≤ nI 0; exact nI_ge (by omega) (by omega)) ?_
    refine x_restAct hJ (by decide) hR hC hOi ?_
    refine x_goBy hJ (by decide) hR hC hOi sp_rest_le (fun I1 q1 R1 C1 => ?_)
    have R1 : RRep I1 8 (sp_rU u (i + 1)) := R1
    have C1 : CRep I1 52 (sp_rU u (i + 1)) := C1
    have f1 : ∀ o, o ≠ 52 → o ≠ 18 → I1 o = I0 o := fun o h1 h2 => by rw [q1 o h1 h2]; exact hI o h1 h2
    have e2 : I1 52 2 = nI (sp_rU u (i + 1) 4) := C1.day.2.2.1
    refine ⟨fun g => ?_, fun g => ?_⟩
    · have g : I1 52 2 < nI v := g
      rw [e2, nI_ltI (by omega) (by omega)] at g
      rw [if_neg (by simp; omega)] at hw
      have k9 := x_bak_loop hJ hO hv w h n (i + 1) I1 (by omega) f1 R1 C1 hw
      have e1 : nI (n + 1) + (-1) = nI n := by rw [← Int32.sub_eq_add_neg]; exact nI_pred n
      rw [← e1] at k9
      exact k9
    · have g : ¬ I1 52 2 < nI v := g
      rw [e2, nI_ltI (by omega) (by omega)] at g
      rw [if_pos (by simp; omega)] at hw
      have e : I1 52 0 - 1 = w := by
        rw [hw, C1.day.1, di, show u 0 + (i + 1) = u 0 + i + 1 by omega]
        exact nI_pred _
      show Q (some (.int (I1 52 0 - 1))) I1
      rw [e]
      exact h I1 f1
theorem am_neg3 {n : Nat} (h : n < 2 ^ 31) : ¬ nI n = -3 := by
  intro z
  have := nI_pos' h
  rw [z] at this
  revert this
  decide
theorem m_bak_loop (hJ : am_Cl am_meth L xs J) {I0 : am_I} {u : am_U} {cd : Nat → Int32} {v : Nat} (hRu : RuR cd u) (hO : OKu u) (hv : v ≤ 999) (w : Int32) (h : ∀ I : am_I, (∀ o, o ≠ 67 → o ≠ 70 → I o = I0 o) → MRep I 67 u → Q (some (.int w)) I) (hL : LaidR I0 u) : ∀ (n i : Nat) (I : am_I) (z : Option Value), i + n = u 1 - u 0 → (∀ o, o ≠ 67 → o ≠ 70 → I o = I0 o) → MRep I 67 (sp_rU u i) → w = sp_find u (fun y => decide (v ≤ y 4)) n i → J (d + 7) q_M_bakery 20 [some (.ref 66), some (.int (nI v)), some (.int (-3)), z] [] I Q
  | n, i, I, z, hn, hI, hM, hw => by
    obtain ⟨c1, c2, c3, c4, c5, c6, c7⟩ := hO.Cn
    have c01 := hO.2.1
    obtain ⟨oi, si, di⟩ := sp_rU_ok hO i (by omega)
    have d1 : sp_rU u i 1 = u 1 := si 1 (by decide)
    have oc := oi.Cn
    have back : ∀ (i : Nat) (I : am_I) (b : Int32) (z : Option Value), i ≤ u 1 - u 0 → (∀ o, o ≠ 67 → o ≠ 70 → I o = I0 o) → MRep I 67 (sp_rU u i) → b = w → J (d + 7) q_M_bakery 70 [some (.ref 66), some (.int (nI v)), some (.int b), z] [] I Q := by
      intro i I b z hi hI hM hb
      subst hb
      refine am_vc hJ 20 _ _ _ _ _ _ _ ?_
      refine m_layBack hJ hM (hL.kept (hI 69 (by decide) (by decide))) (sp_rU_ok hO i hi).2.1.hi (fun I4 q4 M4 => ?_)
      exact h I4 (fun o h1 h2 => by rw [q4 o h1]; exact hI o h1 h2) M4
    cases n with
    | zero =>
      refine am_vcl hJ [20, 70] 200 ?_
      refine br_t (by decide) ?_
      refine m_isOver hJ (hM 0 (by decide)) (hM 1 (by decide)) (by omega) (by omega) (fun q => ?_) (fun q => by exfalso; omega)
      refine br_f (by decide) ?_
      exact back i I _ _ (by omega) hI hM hw.symm
    | succ n =>
      rw [sp_find_succ] at hw
      obtain ⟨o2, s2, d2⟩ := sp_rU_ok hO (i + 1) (by omega)
      have o4 := o2.Cn.2.2.2.2.1
      refine am_vcl hJ [20, 70] 200 ?_
      refine br_t (by decide) ?_
      refine m_isOver hJ (hM 0 (by decide)) (hM 1 (by decide)) (by omega) (by omega) (fun q => by exfalso; omega) (fun q => ?_)
      refine br_t (by decide) ?_
      refine m_goesRest hJ hM (hRu.same si) oi (fun I1 q1 M1 => ?_)
      have M1 : MRep I1 67 (sp_rU u (i + 1)) := M1
      have f1 : ∀ o, o ≠ 67 → o ≠ 70 → I1 o = I0 o := fun o h1 h2 => by rw [q1 o h1 h2]; exact hI o h1 h2
      have e4 : I1 67 4 = nI (sp_rU u (i + 1) 4) := M1 4 (by decide)
      have hwl := sp_goW_le oi (sp_rest_le (u := sp_rU u i))
      refine ⟨am_vin (by decide), ?_⟩
      refine ⟨fun g => ?_, fun g => ?_⟩
      · have g : I1 67 4 < nI v := g
        rw [e4, nI_ltI (by omega) (by omega)] at g
        rw [if_neg (by simp; omega)] at hw
        exact m_bak_loop hJ hRu hO hv w h hL n (i + 1) I1 _ (by omega) f1 M1 hw
      · have g : ¬ I1 67 4 < nI v := g
        rw [e4, nI_ltI (by omega) (by omega)] at g
        rw [if_pos (by simp; omega)] at hw
        refine br_f (by show ¬ nI (sp_goW (sp_rU u i) (sp_rest (sp_rU u i))) < 0; exact nI_pos (by omega)) ?_
        refine ⟨am_vin (by decide), ?_⟩
        have ee : I1 67 0 - 1 = w := by
          rw [M1 0 (by decide), d2, hw, show u 0 + (i + 1) = u 0 + i + 1 by omega]
          exact nI_pred _
        refine am_vcl hJ [20, 70] 200 ?_
        refine br_f (by show ¬ I1 67 0 - 1 = -3; rw [ee, hw]; exact am_neg3 (by omega)) ?_
        exact back (i + 1) I1 _ _ (by omega) f1 M1 ee
theorem op_bakery (hJ : am_Cl am_meth L xs J) (a : Int32) : am_same Inv J q_X_bakery q_M_bakery [.int a] := by
  intro I hI Qc hQc
  obtain ⟨u, uk, hMn, hK, hRs⟩ := id hI
  obtain ⟨hM, hR, hC, hO⟩ := id hMn
  obtain ⟨c1, c2, c3, c4, c5, c6, c7⟩ := hO.Cn
  by_cases h1 : (0 : Int32) ≤ a ∧ a ≤ 999
  · obtain ⟨v, hv, rfl⟩ := am_rng (N := 999) rfl (by decide) h1
    refine am_vcc hJ [18] 200 _ _ _ _ _ _ _ ?_
    refine x_withinY hJ h1 ?_
    refine br_f (by decide) ?_
    refine x_startAhead hJ hR hC hO (fun I1 q1 R1 C1 => ?_)
    refine x_bak_loop (I0 := I) hJ hO hv (sp_find u (fun y => decide (v ≤ y 4)) (u 1 - u 0) 0) (fun I2 q2 => ?_) (u 1 - u 0) 0 I1 (Nat.zero_add _) (fun o h1 _ => q1 o h1) R1 C1 rfl
    refine ⟨_, rfl, ?_⟩
    have M1 : MRep I2 67 u := hM.kept (q2 67 (by decide) (by decide))
    refine am_vcc hJ [20] 200 _ _ _ _ _ _ _ ?_
    refine m_in1Y hJ h1 ?_
    refine br_f (by decide) ?_
    refine m_layDown hJ M1 (fun I3 q3 L3 => ?_)
    have M3 : MRep I3 67 u := M1.kept (q3 67 (by decide))
    refine m_bak_loop (I0 := I3) hJ hR.2 hO hv _ (fun I4 q4 M4 => ?_) L3 (u 1 - u 0) 0 I3 _ (Nat.zero_add _) (fun _ _ _ => rfl) M3 rfl
    refine ⟨rfl, hQc _ (Inv.thought hI hMn (am_only2 (fun o h1 h2 => q2 o h2 h1)) (am_only3 (fun o h1 h2 h3 => ?_)) M4)⟩
    rw [q4 o h1 h3, q3 o h2]
  · repeat (
      (try conv => whnf)
      first
        | refine ⟨am_vin (by decide), ?_⟩
        | refine ⟨(by assumption : vp_in _ _), ?_⟩
        | refine br_f (by decide) ?_
        | refine br_t (by decide) ?_
        | refine br_t (by assumption) ?_
        | refine br_f (by assumption) ?_
        | refine x_withinY hJ (by assumption) ?_
        | refine x_withinN hJ (by assumption) ?_
        | refine m_in1Y hJ (by assumption) ?_
        | refine m_in1N hJ (by assumption) ?_
        | refine m_isGateY hJ (by assumption) ?_
        | refine m_isGateN hJ (by assumption) ?_
        | refine m_isDigitY hJ (by assumption) ?_
        | refine m_isDigitN hJ (by assumption) ?_
        | refine m_isNeedY hJ (by assumption) ?_
        | refine m_isNeedN hJ (by assumption) ?_
        | refine m_isPlanY hJ (by assumption) ?_
        | refine m_isPlanN hJ (by assumption) ?_
        | refine m_isSheetY hJ (by assumption) ?_
        | refine m_isSheetN hJ (by assumption) ?_
        | refine x_isSheetY hJ (by assumption) ?_
        | refine x_isSheetN hJ (by assumption) ?_
        | refine x_isShelfY hJ (by assumption) ?_
        | refine x_isShelfN hJ (by assumption) ?_
        | refine x_hasY hJ (by assumption) (by assumption) (by assumption) ?_
        | refine x_hasN hJ (by assumption) (by assumption) (by assumption) ?_
        | refine m_isPersonY hJ (by assumption) (by assumption) (by assumption) ?_
        | refine m_isPersonN hJ (by assumption) (by assumption) (by assumption) ?_
        | refine am_vc hJ 120 40 _ _ _ _ _ _ ?_
        | refine ⟨_, rfl, ?_⟩)
    exact ⟨rfl, hQc _ hI⟩
/-! winter -/
theorem x_win_loop (hJ : am_Cl am_meth L xs J) {I0 : am_I} {u : am_U} {a : Int32} (hO : OKu u) (h : ∀ I : am_I, (∀ o, o ≠ 52 → o ≠ 18 → I o = I0 o) → Q (some (.int (if a = 0 then nI (sp_wn u (u 1 - u 0)) else nI (sp_rU u (u 1 - u 0) 4)))) I) : ∀ (n i : Nat) (I : am_I) (z : Option Value), i + n = u 1 - u 0 → (∀ o, o ≠ 52 → o ≠ 18 → I o = I0 o) → RRep I 8 (sp_rU u i) → CRep I 52 (sp_rU u i) → J (d + 5) q_X_winter 18 [some (.ref 0), some (.int a), some (.int (nI (sp_wn u i))), some (.int (nI n)), z] [] I Q
  | 0, i, I, z, hn, hI, hR, hC => by
    have k9 := h I hI
    have e2 : I 52 2 = nI (sp_rU u i 4) := hC.day.2.2.1
    rw [show u 1 - u 0 = i by omega, ← e2] at k9
    refine am_vcl hJ [18] 200 ?_
    refine br_t (by decide) ?_
    refine ⟨fun g => ?_, fun g => ?_⟩
    · rw [if_pos g] at k9
      exact k9
    · rw [if_neg g] at k9
      exact k9
  | n + 1, i, I, z, hn, hI, hR, hC => by
    have c1 := hO.Cn
    have hOi := (sp_rU_ok hO i (by omega)).1
    obtain ⟨oi, si, di⟩ := sp_rU_ok hO (i + 1) (by omega)
    refine am_vcl hJ [18] 200 ?_
    refine br_f (by show ¬ nI (n + 1) ≤ nI 0; exact nI_ge (by omega) (by omega)) ?_
    refine x_restAct hJ (by decide) hR hC hOi ?_
    refine x_goBy hJ (by decide) hR hC hOi sp_rest_le (fun I1 q1 R1 C1 => ?_)
    have R1 : RRep I1 8 (sp_rU u (i + 1)) := R1
    have C1 : CRep I1 52 (sp_rU u (i + 1)) := C1
    have f1 : ∀ o, o ≠ 52 → o ≠ 18 → I1 o = I0 o := fun o h1 h2 => by rw [q1 o h1 h2]; exact hI o h1 h2
    have e5 : I1 52 5 = nI (fedN (sp_rU u (i + 1))) := C1.2.2
    have e5' : I 52 5 = nI (fedN (sp_rU u i)) := hC.2.2
    have l1 := fedN_lt oi.fed
    have l2 := fedN_lt hOi.fed
    have k9 := fun z => x_win_loop hJ hO h n (i + 1) I1 z (by omega) f1 R1 C1
    have e1 : nI (n + 1) + (-1) = nI n := by rw [← Int32.sub_eq_add_neg]; exact nI_pred n
    rw [← e1] at k9
    refine ⟨fun g => ?_, fun g => ?_⟩
    · have g : I1 52 5 = I 52 5 := g
      rw [e5, e5', nI_eq (by omega) (by omega)] at g
      have ew : sp_wn u (i + 1) = sp_wn u i + 1 := by
        show sp_wn u i + _ = _
        rw [if_pos g]
      rw [ew, ← nI_1] at k9
      exact k9 _
    · have g : ¬ I1 52 5 = I 52 5 := g
      rw [e5, e5', nI_eq (by omega) (by omega)] at g
      have ew : sp_wn u (i + 1) = sp_wn u i := by
        show sp_wn u i + _ = _
        rw [if_neg g]
        rfl
      rw [ew] at k9
      exact k9 _
theorem m_win_loop (hJ : am_Cl am_meth L xs J) {I0 : am_I} {u : am_U} {cd : Nat → Int32} {a : Int32} (hRu : RuR cd u) (hO : OKu u) (h : ∀ I : am_I, (∀ o, o ≠ 67 → o ≠ 70 → I o = I0 o) → MRep I 67 u → Q (some (.int (if a = 0 then nI (sp_wn u (u 1 - u 0)) else nI (sp_rU u (u 1 - u 0) 4)))) I) (hL : LaidR I0 u) : ∀ (n i : Nat) (I : am_I) (z1 z2 : Option Value), i + n = u 1 - u 0 → (∀ o, o ≠ 67 → o ≠ 70 → I o = I0 o) → MRep I 67 (sp_rU u i) → J (d + 7) q_M_winter 17 [some (.ref 66), some (.int a), some (.int (nI (sp_wn u i))), z1, z2] [] I Q
  | n, i, I, z1, z2, hn, hI, hM => by
    obtain ⟨c1, c2, c3, c4, c5, c6, c7⟩ := hO.Cn
    have c01 := hO.2.1
    obtain ⟨oi, si, di⟩ := sp_rU_ok hO i (by omega)
    have d1 : sp_rU u i 1 = u 1 := si 1 (by decide)
    have oc := oi.Cn
    cases n with
    | zero =>
      have ei : u 1 - u 0 = i := by omega
      rw [ei] at h
      have e4 : I 67 4 = nI (sp_rU u i 4) := hM 4 (by decide)
      have back : ∀ (b : Int32) (y z : Option Value), b = (if a = 0 then nI (sp_wn u i) else nI (sp_rU u i 4)) → J (d + 7) q_M_winter 77 [some (.ref 66), some (.int a), y, some (.int b), z] [] I Q := by
        intro b y z hb
        rw [← hb] at h
        refine am_vc hJ 20 _ _ _ _ _ _ _ ?_
        refine m_layBack hJ hM (hL.kept (hI 69 (by decide) (by decide))) si.hi (fun I4 q4 M4 => ?_)
        exact h I4 (fun o h1 h2 => by rw [q4 o h1]; exact hI o h1 h2) M4
      refine am_vcl hJ [17, 77] 200 ?_
      refine m_isOver hJ (hM 0 (by decide)) (hM 1 (by decide)) (by omega) (by omega) (fun q => ?_) (fun q => by exfalso; omega)
      refine br_f (by decide) ?_
      refine ⟨fun g => ?_, fun g => ?_⟩
      · exact back _ _ _ (if_pos g).symm
      · refine ⟨am_vin (by decide), ?_⟩
        refine back _ _ _ ?_
        rw [if_neg g]
        exact e4
    | succ n =>
      obtain ⟨o2, s2, d2⟩ := sp_rU_ok hO (i + 1) (by omega)
      refine am_vcl hJ [17] 200 ?_
      refine m_isOver hJ (hM 0 (by decide)) (hM 1 (by decide)) (by omega) (by omega) (fun q => by exfalso; omega) (fun q => ?_)
      refine br_t (by decide) ?_
      refine m_thoseFed hJ hM oi ?_
      refine m_goesRest hJ hM (hRu.same si) oi (fun I1 q1 M1 => ?_)
      have M1 : MRep I1 67 (sp_rU u (i + 1)) := M1
      have f1 : ∀ o, o ≠ 67 → o ≠ 70 → I1 o = I0 o := fun o h1 h2 => by rw [q1 o h1 h2]; exact hI o h1 h2
      have hwl := sp_goW_le oi (sp_rest_le (u := sp_rU u i))
      have l1 := fedN_lt o2.fed
      have l2 := fedN_lt oi.fed
      refine m_thoseFed hJ M1 o2 ?_
      have k9 := fun z1 z2 => m_win_loop hJ hRu hO h hL n (i + 1) I1 z1 z2 (by omega) f1 M1
      refine ⟨fun g => ?_, fun g => ?_⟩
      · have g : nI (fedN (sp_rU u i)) = nI (fedN (sp_rU u (i + 1))) := g
        rw [nI_eq (by omega) (by omega)] at g
        refine br_f (by show ¬ nI (sp_goW (sp_rU u i) (sp_rest (sp_rU u i))) < 0; exact nI_pos (by omega)) ?_
        have ew : sp_wn u (i + 1) = sp_wn u i + 1 := by
          show sp_wn u i + _ = _
          rw [if_pos g.symm]
        rw [ew, ← nI_1] at k9
        exact k9 _ _
      · have g : ¬ nI (fedN (sp_rU u i)) = nI (fedN (sp_rU u (i + 1))) := g
        rw [nI_eq (by omega) (by omega)] at g
        have ew : sp_wn u (i + 1) = sp_wn u i + 0 := by
          show sp_wn u i + _ = _
          rw [if_neg (fun z => g z.symm)]
        rw [ew, ← nI_add] at k9
        exact k9 _ _
theorem op_winter (hJ : am_Cl am_meth L xs J) (a : Int32) : am_same Inv J q_X_winter q_M_winter [.int a] := by
  intro I hI Qc hQc
  obtain ⟨u, uk, hMn, hK, hRs⟩ := id hI
  obtain ⟨hM, hR, hC, hO⟩ := id hMn
  obtain ⟨c1, c2, c3, c4, c5, c6, c7⟩ := hO.Cn
  by_cases h1 : (0 : Int32) ≤ a ∧ a ≤ 1
  · refine am_vcc hJ [18] 200 _ _ _ _ _ _ _ ?_
    refine x_withinY hJ h1 ?_
    refine br_f (by decide) ?_
    refine x_startAhead hJ hR hC hO (fun I1 q1 R1 C1 => ?_)
    refine x_win_loop (I0 := I) hJ hO (fun I2 q2 => ?_) (u 1 - u 0) 0 I1 _ (Nat.zero_add _) (fun o h1 _ => q1 o h1) R1 C1
    refine ⟨_, rfl, ?_⟩
    have M1 : MRep I2 67 u := hM.kept (q2 67 (by decide) (by decide))
    refine am_vcc hJ [17] 200 _ _ _ _ _ _ _ ?_
    refine m_in1Y hJ h1 ?_
    refine br_f (by decide) ?_
    refine m_layDown hJ M1 (fun I3 q3 L3 => ?_)
    have M3 : MRep I3 67 u := M1.kept (q3 67 (by decide))
    refine m_win_loop (I0 := I3) hJ hR.2 hO (fun I4 q4 M4 => ?_) L3 (u 1 - u 0) 0 I3 _ _ (Nat.zero_add _) (fun _ _ _ => rfl) M3
    refine ⟨rfl, hQc _ (Inv.thought hI hMn (am_only2 (fun o h1 h2 => q2 o h2 h1)) (am_only3 (fun o h1 h2 h3 => ?_)) M4)⟩
    rw [q4 o h1 h3, q3 o h2]
  · repeat (
      (try conv => whnf)
      first
        | refine ⟨am_vin (by decide), ?_⟩
        | refine ⟨(by assumption : vp_in _ _), ?_⟩
        | refine br_f (by decide) ?_
        | refine br_t (by decide) ?_
        | refine br_t (by assumption) ?_
        | refine br_f (by assumption) ?_
        | refine x_withinY hJ (by assumption) ?_
        | refine x_withinN hJ (by assumption) ?_
        | refine m_in1Y hJ (by assumption) ?_
        | refine m_in1N hJ (by assumption) ?_
        | refine m_isGateY hJ (by assumption) ?_
        | refine m_isGateN hJ (by assumption) ?_
        | refine m_isDigitY hJ (by assumption) ?_
        | refine m_isDigitN hJ (by assumption) ?_
        | refine m_isNeedY hJ (by assumption) ?_
        | refine m_isNeedN hJ (by assumption) ?_
        | refine m_isPlanY hJ (by assumption) ?_
        | refine m_isPlanN hJ (by assumption) ?_
        | refine m_isSheetY hJ (by assumption) ?_
        | refine m_isSheetN hJ (by assumption) ?_
        | refine x_isSheetY hJ (by assumption) ?_
        | refine x_isSheetN hJ (by assumption) ?_
        | refine x_isShelfY hJ (by assumption) ?_
        | refine x_isShelfN hJ (by assumption) ?_
        | refine x_hasY hJ (by assumption) (by assumption) (by assumption) ?_
        | refine x_hasN hJ (by assumption) (by assumption) (by assumption) ?_
        | refine m_isPersonY hJ (by assumption) (by assumption) (by assumption) ?_
        | refine m_isPersonN hJ (by assumption) (by assumption) (by assumption) ?_
        | refine am_vc hJ 120 40 _ _ _ _ _ _ ?_
        | refine ⟨_, rfl, ?_⟩)
    exact ⟨rfl, hQc _ hI⟩
end
