/-! JUDGE, GOALL, WOULDBE -/
theorem am_R56 : ∀ h, h < 4 → am_R 56 h = some (57 + h) := by decide +kernel
theorem am_G57 : ∀ h, h < 4 → am_G (57 + h) = some (.inr (.int, 40)) := by decide +kernel
theorem sp_z_nI {n : Nat} (h : n < 2 ^ 32) : sp_z (nI n) = n := pk_tn h
theorem sp_z_in {v : Int32} {n : Nat} (hn : n ≤ 6) : (0 ≤ v ∧ v ≤ nI n) ↔ sp_z v ≤ n := by
  constructor
  · intro h
    obtain ⟨k, hk, rfl⟩ := am_rng (N := n) rfl (by omega) h
    rw [sp_z_nI (by omega)]
    exact hk
  · intro h
    exact am_rngI (n := sp_z v) (sp_z_eq v).symm h (by omega)
def sp_jd (rw : Nat → Int32) : Nat → Nat → am_U → Int32
  | 0, _, _ => 0
  | n + 1, r, v => if v 0 < v 1 ∧ sp_z (rw (3 * r)) ≤ v 6 ∧ nI (sp_goW v (sp_z (rw (3 * r)))) = rw (3 * r + 1) ∧ nI (fedN (sp_goU v (sp_z (rw (3 * r))))) = rw (3 * r + 2) then sp_jd rw n (r + 1) (sp_goU v (sp_z (rw (3 * r)))) else nI (r + 1)
theorem sp_jd_succ (rw : Nat → Int32) (n r : Nat) (v : am_U) : sp_jd rw (n + 1) r v = if v 0 < v 1 ∧ sp_z (rw (3 * r)) ≤ v 6 ∧ nI (sp_goW v (sp_z (rw (3 * r)))) = rw (3 * r + 1) ∧ nI (fedN (sp_goU v (sp_z (rw (3 * r))))) = rw (3 * r + 2) then sp_jd rw n (r + 1) (sp_goU v (sp_z (rw (3 * r)))) else nI (r + 1) := rfl
section
variable {L : Nat} {xs : Nat → Int32} {J : am_J} {d : Nat} {Q : am_Q}
theorem x_isAct (hJ : am_Cl am_meth L xs J) {I : am_I} {v : Int32} {n : Nat} (h6 : I 8 2 = nI n) (hn : n ≤ 6) (h1 : sp_z v ≤ n → Q (some (.int 1)) I) (h0 : ¬ sp_z v ≤ n → Q (some (.int 0)) I) : J (d + 1) q_Road_isAct 0 [some (.ref 8), some (.int v)] [] I Q := by
  refine am_vc hJ 10 _ _ _ _ _ _ _ ?_
  refine x_within hJ (fun g => ?_) (fun g => ?_)
  · have g : 0 ≤ v ∧ v ≤ I 8 2 := g
    rw [h6, sp_z_in hn] at g
    exact ⟨Or.inr rfl, h1 g⟩
  · have g : ¬ (0 ≤ v ∧ v ≤ I 8 2) := g
    rw [h6, sp_z_in hn] at g
    exact ⟨Or.inl rfl, h0 g⟩
theorem m_isAct (hJ : am_Cl am_meth L xs J) {I : am_I} {v : Int32} {n : Nat} (h6 : I 67 6 = nI n) (hn : n ≤ 6) (h1 : sp_z v ≤ n → Q (some (.int 1)) I) (h0 : ¬ sp_z v ≤ n → Q (some (.int 0)) I) : J (d + 1) q_M_isAct 0 [some (.ref 66), some (.int v)] [] I Q := by
  refine am_vc hJ 10 _ _ _ _ _ _ _ ?_
  refine ⟨am_vin (by decide), ?_⟩
  refine m_in1 hJ (fun g => ?_) (fun g => ?_)
  · have g : 0 ≤ v ∧ v ≤ I 67 6 := g
    rw [h6, sp_z_in hn] at g
    exact ⟨Or.inr rfl, h1 g⟩
  · have g : ¬ (0 ≤ v ∧ v ≤ I 67 6) := g
    rw [h6, sp_z_in hn] at g
    exact ⟨Or.inl rfl, h0 g⟩
theorem x_judge_loop (hJ : am_Cl am_meth L xs J) {I0 : am_I} {u : am_U} {cnt : Nat} (hO0 : OKu u) (h4 : cnt ≤ 4) (hcnt : I0 0 7 = nI cnt) (w : Int32) (h : ∀ I : am_I, (∀ o, o ≠ 52 → o ≠ 18 → I o = I0 o) → Q (some (.int w)) I) : ∀ (n r : Nat) (v : am_U) (I : am_I) (z3 z4 : Option Value), r + n = cnt → (∀ o, o ≠ 52 → o ≠ 18 → I o = I0 o) → OKu v → SameR u v → v 0 = u 0 + r → RRep I 8 v → CRep I 52 v → w = sp_jd (I0 53) n r v → J (d + 5) q_X_judge 7 [some (.ref 0), some (.int (nI (u 1 - u 0))), some (.int (nI r)), z3, z4] [] I Q
  | 0, r, v, I, z3, z4, hn, hI, hO, hS, hd, hR, hC, hw => by
    have e7 : I 0 7 = nI cnt := by rw [hI 0 (by decide) (by decide)]; exact hcnt
    refine am_vcl hJ [7] 200 ?_
    refine br_t (by show I 0 7 ≤ nI r; rw [e7]; exact nI_le (by omega) (by omega)) ?_
    have hw : w = 0 := hw
    subst hw
    exact h I hI
  | n + 1, r, v, I, z3, z4, hn, hI, hO, hS, hd, hR, hC, hw => by
    have e7 : I 0 7 = nI cnt := by rw [hI 0 (by decide) (by decide)]; exact hcnt
    have e53 : I 53 = I0 53 := hI 53 (by decide) (by decide)
    have c := hO0.Cn
    have cv := hO.Cn
    have v1 : v 1 = u 1 := hS 1 (by decide)
    have v01 := hO.2.1
    have u01 := hO0.2.1
    have x6 : I 8 2 = nI (v 6) := hR.1.get 8 2 6 (by decide +kernel)
    have i0 : 3 * nI r + 0 = nI (3 * r + 0) := am_rix
    have i1 : 3 * nI r + 1 = nI (3 * r + 1) := am_rix
    have i2 : 3 * nI r + 2 = nI (3 * r + 2) := am_rix
    rw [sp_jd_succ] at hw
    have bad : ∀ I1 : am_I, (∀ o, o ≠ 52 → o ≠ 18 → I1 o = I0 o) → ¬ (v 0 < v 1 ∧ sp_z (I0 53 (3 * r)) ≤ v 6 ∧ nI (sp_goW v (sp_z (I0 53 (3 * r)))) = I0 53 (3 * r + 1) ∧ nI (fedN (sp_goU v (sp_z (I0 53 (3 * r))))) = I0 53 (3 * r + 2)) → Q (some (.int (nI r + 1))) I1 := by
      intro I1 q1 hno
      rw [if_neg hno] at hw
      rw [nI_1, ← hw]
      exact h I1 q1
    refine am_vcl hJ [7] 200 ?_
    refine br_f (by show ¬ I 0 7 ≤ nI r; rw [e7]; exact nI_ge (by omega) (by omega)) ?_
    refine x_placeInRow hJ ?_
    refine ⟨am_vinN i0 (by omega) (by omega), ?_⟩
    rw [am_clN i0 (by omega), e53]
    by_cases g : r < u 1 - u 0
    · refine br_f (by show ¬ nI (u 1 - u 0) ≤ nI r; exact nI_ge g (by omega)) ?_
      refine x_isAct hJ x6 (by omega) (fun ga => ?_) (fun ga => ?_)
      · have hlt : v 0 < v 1 := by omega
        refine br_f (by decide) ?_
        have eA : I0 53 (3 * r + 0) = nI (sp_z (I0 53 (3 * r))) := (sp_z_eq _).symm
        conv => whnf
        rw [eA]
        refine x_goBy hJ (by decide) hR hC hO ga (fun I1 q1 R1 C1 => ?_)
        have f1 : ∀ o, o ≠ 52 → o ≠ 18 → I1 o = I0 o := fun o h1 h2 => by rw [q1 o h1 h2]; exact hI o h1 h2
        have e53' : I1 53 = I0 53 := f1 53 (by decide) (by decide)
        have e5 : I1 52 5 = nI (fedN (sp_goU v (sp_z (I0 53 (3 * r))))) := C1.2.2
        refine x_placeInRow hJ ?_
        refine ⟨am_vinN i1 (by omega) (by omega), ?_⟩
        refine ⟨fun g1 => ?_, fun g1 => ?_⟩
        · have g1 : nI (sp_goW v (sp_z (I0 53 (3 * r)))) = I1 53 (3 * nI r + 1).toNatClampNeg := g1
          rw [am_clN i1 (by omega), e53'] at g1
          refine x_placeInRow hJ ?_
          refine ⟨am_vinN i2 (by omega) (by omega), ?_⟩
          refine ⟨fun g2 => ?_, fun g2 => ?_⟩
          · have g2 : I1 52 5 = I1 53 (3 * nI r + 2).toNatClampNeg := g2
            rw [am_clN i2 (by omega), e53', e5] at g2
            rw [if_pos ⟨hlt, ga, g1, g2⟩] at hw
            have k9 := fun z3 z4 => x_judge_loop hJ hO0 h4 hcnt w h n (r + 1) _ I1 z3 z4 (by omega) f1 (sp_goU_ok hO ga hlt) (hS.trans (sp_goU_same hO ga)) (by rw [(sp_goU_0 hO ga).1]; omega) R1 C1 hw
            rw [← nI_1] at k9
            exact k9 _ _
          · have g2 : ¬ I1 52 5 = I1 53 (3 * nI r + 2).toNatClampNeg := g2
            rw [am_clN i2 (by omega), e53', e5] at g2
            exact bad I1 f1 (fun z => g2 z.2.2.2)
        · have g1 : ¬ nI (sp_goW v (sp_z (I0 53 (3 * r)))) = I1 53 (3 * nI r + 1).toNatClampNeg := g1
          rw [am_clN i1 (by omega), e53'] at g1
          exact bad I1 f1 (fun z => g1 z.2.2.1)
      · refine br_t (by decide) ?_
        exact bad I hI (fun z => ga z.2.1)
    · refine br_t (by show nI (u 1 - u 0) ≤ nI r; exact nI_le (by omega) (by omega)) ?_
      exact bad I hI (fun z => by omega)
theorem m_judge_loop (hJ : am_Cl am_meth L xs J) {I0 : am_I} {u : am_U} {cd rw' : Nat → Int32} {cnt : Nat} (hRu : RuR cd u) (hO0 : OKu u) (h4 : cnt ≤ 4) (hcnt : I0 66 29 = nI cnt) (hrw : ∀ j, j < 3 * cnt → I0 80 j = rw' j) (hL : LaidR I0 u) (w : Int32) (h : ∀ I : am_I, (∀ o, o ≠ 67 → o ≠ 70 → I o = I0 o) → MRep I 67 u → Q (some (.int w)) I) : ∀ (n r : Nat) (v : am_U) (I : am_I) (z3 z4 z5 : Option Value), r + n = cnt → (∀ o, o ≠ 67 → o ≠ 70 → I o = I0 o) → OKu v → SameR u v → MRep I 67 v → w = sp_jd rw' n r v → J (d + 7) q_M_judge 8 [some (.ref 66), some (.int 0), some (.int (nI r)), z3, z4, z5] [] I Q
  | n, r, v, I, z3, z4, z5, hn, hI, hO, hS, hM, hw => by
    have e7 : I 66 29 = nI cnt := by rw [hI 66 (by decide) (by decide)]; exact hcnt
    have back : ∀ (v : am_U) (I : am_I) (b : Int32) (z2 z3 z4 z5 : Option Value), (∀ o, o ≠ 67 → o ≠ 70 → I o = I0 o) → SameR u v → MRep I 67 v → b = w → J (d + 7) q_M_judge 133 [some (.ref 66), some (.int b), z2, z3, z4, z5] [] I Q := by
      intro v I b z2 z3 z4 z5 hI hS hM hb
      subst hb
      refine am_vc hJ 20 _ _ _ _ _ _ _ ?_
      refine m_layBack hJ hM (hL.kept (hI 69 (by decide) (by decide))) hS.hi (fun I4 q4 M4 => ?_)
      exact h I4 (fun o h1 h2 => by rw [q4 o h1]; exact hI o h1 h2) M4
    cases n with
    | zero =>
      refine am_vcl hJ [8, 133] 200 ?_
      refine br_t (by show I 66 29 ≤ nI r; rw [e7]; exact nI_le (by omega) (by omega)) ?_
      exact back v I _ _ _ _ _ hI hS hM hw.symm
    | succ n =>
      have e80 : I 80 = I0 80 := hI 80 (by decide) (by decide)
      have cv := hO.Cn
      have x6 : I 67 6 = nI (v 6) := hM 6 (by decide)
      have i0 : 3 * nI r = nI (3 * r) := pk_mul 3 r
      have i1 : 3 * nI r + 1 = nI (3 * r + 1) := am_rix
      have i2 : 3 * nI r + 2 = nI (3 * r + 2) := am_rix
      have r0 : I 80 (3 * nI r).toNatClampNeg = rw' (3 * r) := by rw [am_clN i0 (by omega), e80]; exact hrw _ (by omega)
      rw [sp_jd_succ] at hw
      have fin : ∀ (v' : am_U) (I1 : am_I) (z3 z4 : Option Value), (∀ o, o ≠ 67 → o ≠ 70 → I1 o = I0 o) → SameR u v' → MRep I1 67 v' → ¬ (v 0 < v 1 ∧ sp_z (rw' (3 * r)) ≤ v 6 ∧ nI (sp_goW v (sp_z (rw' (3 * r)))) = rw' (3 * r + 1) ∧ nI (fedN (sp_goU v (sp_z (rw' (3 * r))))) = rw' (3 * r + 2)) → J (d + 7) q_M_judge 111 [some (.ref 66), some (.int 0), some (.int (nI r)), z3, z4, z5] [] I1 Q := by
        intro v' I1 z3 z4 q1 s1 M1 hno
        rw [if_neg hno] at hw
        have ew : 1 + nI r = w := by rw [hw, show (1 : Int32) = nI 1 from rfl, nI_add]; congr 1; omega
        refine am_vcc hJ [8] 200 _ _ _ _ _ _ _ ?_
        refine br_t (by decide) ?_
        refine am_vcl hJ [8, 133] 200 ?_
        by_cases g : I1 66 29 ≤ nI r + 1
        · refine br_t g ?_
          exact back v' I1 _ _ _ _ _ q1 s1 M1 ew
        · refine br_f g ?_
          refine br_f (by show ¬ 1 + nI r = 0; rw [ew, hw, show (0 : Int32) = nI 0 from rfl, nI_eq (by omega) (by omega)]; omega) ?_
          exact back v' I1 _ _ _ _ _ q1 s1 M1 ew
      have stop : ¬ (v 0 < v 1 ∧ sp_z (rw' (3 * r)) ≤ v 6) → J (d + 7) q_M_judge 46 [some (.ref 66), some (.int 0), some (.int (nI r)), z3, z4, z5] [] I Q := by
        intro hno
        refine am_vcc hJ [8, 111] 200 _ _ _ _ _ _ _ ?_
        refine br_t (by decide) ?_
        refine br_t (by decide) ?_
        exact fin v I _ _ hI hS hM (fun z => hno ⟨z.1, z.2.1⟩)
      refine am_vcl hJ [8, 46, 111, 133] 200 ?_
      refine br_f (by show ¬ I 66 29 ≤ nI r; rw [e7]; exact nI_ge (by omega) (by omega)) ?_
      refine br_t (by decide) ?_
      refine ⟨am_vinN i0 (by omega) (by omega), ?_⟩
      rw [r0]
      refine m_isAct hJ x6 (by omega) (fun ga => ?_) (fun ga => ?_)
      · refine br_f (by decide) ?_
        refine m_isOver hJ (hM 0 (by decide)) (hM 1 (by decide)) (by omega) (by omega) (fun q => ?_) (fun q => ?_)
        · refine br_f (by decide) ?_
          exact stop (fun z => by omega)
        · refine br_t (by decide) ?_
          refine br_f (by decide) ?_
          refine ⟨am_vinN i0 (by omega) (by omega), ?_⟩
          rw [r0]
          have eA : rw' (3 * r) = nI (sp_z (rw' (3 * r))) := (sp_z_eq _).symm
          conv => whnf
          rw [eA]
          refine m_goesBy hJ hM (hRu.same hS) hO ga (fun I1 q1 M1 => ?_)
          have f1 : ∀ o, o ≠ 67 → o ≠ 70 → I1 o = I0 o := fun o h1 h2 => by rw [q1 o h1 h2]; exact hI o h1 h2
          have O1 := sp_goU_ok hO ga q
          have S1 := hS.trans (sp_goU_same hO ga)
          have e80' : I1 80 = I0 80 := f1 80 (by decide) (by decide)
          refine br_f (by decide) ?_
          refine ⟨am_vinN i1 (by omega) (by omega), ?_⟩
          refine ⟨fun g1 => ?_, fun g1 => ?_⟩
          · have g1 : nI (sp_goW v (sp_z (rw' (3 * r)))) = I1 80 (3 * nI r + 1).toNatClampNeg := g1
            rw [am_clN i1 (by omega), e80', hrw _ (by omega)] at g1
            refine m_thoseFed hJ M1 O1 ?_
            refine ⟨am_vinN i2 (by omega) (by omega), ?_⟩
            refine ⟨fun g2 => ?_, fun g2 => ?_⟩
            · have g2 : nI (fedN (sp_goU v (sp_z (rw' (3 * r))))) = I1 80 (3 * nI r + 2).toNatClampNeg := g2
              rw [am_clN i2 (by omega), e80', hrw _ (by omega)] at g2
              rw [if_pos ⟨q, ga, g1, g2⟩] at hw
              have k9 := fun z3 z4 z5 => m_judge_loop hJ hRu hO0 h4 hcnt hrw hL w h n (r + 1) _ I1 z3 z4 z5 (by omega) f1 O1 S1 M1 hw
              rw [← nI_1] at k9
              refine br_f (by decide) ?_
              exact k9 _ _ _
            · have g2 : ¬ nI (fedN (sp_goU v (sp_z (rw' (3 * r))))) = I1 80 (3 * nI r + 2).toNatClampNeg := g2
              rw [am_clN i2 (by omega), e80', hrw _ (by omega)] at g2
              exact fin _ I1 _ _ f1 S1 M1 (fun z => g2 z.2.2.2)
          · have g1 : ¬ nI (sp_goW v (sp_z (rw' (3 * r)))) = I1 80 (3 * nI r + 1).toNatClampNeg := g1
            rw [am_clN i1 (by omega), e80', hrw _ (by omega)] at g1
            exact fin _ I1 _ _ f1 S1 M1 (fun z => g1 z.2.2.1)
      · refine br_t (by decide) ?_
        exact stop (fun z => ga z.2)
theorem op_judge (hJ : am_Cl am_meth L xs J) : am_same Inv J q_X_judge q_M_judge [] := by
  intro I hI Qc hQc
  obtain ⟨u, uk, hMn, hK, hT, ⟨cnt, h4, x7, m29, hrw⟩, hSh, hSf, hTr, hLe⟩ := id hI
  obtain ⟨hM, hR, hC, hO⟩ := id hMn
  refine am_vcc hJ [7] 200 _ _ _ _ _ _ _ ?_
  refine x_startAhead hJ hR hC hO (fun I1 q1 R1 C1 => ?_)
  have w1 : I1 53 = I 53 := q1 53 (by decide)
  refine x_judge_loop (I0 := I) hJ hO h4 x7 (sp_jd (I 53) cnt 0 u) (fun I2 q2 => ?_) cnt 0 u I1 _ _ (Nat.zero_add _) (fun o h1 _ => q1 o h1) hO (SameR.refl u) rfl R1 C1 rfl
  refine ⟨_, rfl, ?_⟩
  have M1 : MRep I2 67 u := hM.kept (q2 67 (by decide) (by decide))
  refine am_vcc hJ [8] 200 _ _ _ _ _ _ _ ?_
  refine m_layDown hJ M1 (fun I3 q3 L3 => ?_)
  have M3 : MRep I3 67 u := M1.kept (q3 67 (by decide))
  refine m_judge_loop (I0 := I3) (rw' := I 53) hJ hR.2 hO h4 (by rw [q3 66 (by decide), q2 66 (by decide) (by decide)]; exact m29) (fun j hj => by rw [q3 80 (by decide), q2 80 (by decide) (by decide)]; exact (hrw j hj).symm) L3 _ (fun I4 q4 M4 => ?_) cnt 0 u I3 _ _ _ (Nat.zero_add _) (fun _ _ _ => rfl) hO (SameR.refl u) M3 rfl
  refine ⟨rfl, hQc _ (Inv.thought hI hMn (am_only2 (fun o h1 h2 => q2 o h2 h1)) (am_only3 (fun o h1 h2 h3 => ?_)) M4)⟩
  rw [q4 o h1 h3, q3 o h2]
end
