/-! THE LAW'S LOOP, over what each call promises: both answers are the same, and the invariant stands -/
def am_ents (q : Nat) (as : List Value) : List (Option Value) := match am_meth q with
  | some M => am_pad M.2.2.1 (am_exp as)
  | none => []
/-- one call of both: the same int comes back, and Inv holds behind -/
def am_same (Inv : am_I → Prop) (J : am_J) (qx qm : Nat) (as : List Value) : Prop := ∀ (I : am_I), Inv I → ∀ (Qc : am_I → Prop), (∀ I', Inv I' → Qc I') →
  J 40 qx 0 (am_ents qx (.ref 0 :: as)) [] I (fun r1 I1 => ∃ v, r1 = some (.int v) ∧ J 40 qm 0 (am_ents qm (.ref 66 :: as)) [] I1 (fun r2 I2 => r2 = some (.int v) ∧ Qc I2))
section
variable {L : Nat} {xs : Nat → Int32} {J : am_J} {Inv : am_I → Prop} {I : am_I} {Q : am_Q} {i : Int32}
abbrev am_lw (i : Int32) : List (Option Value) := [some (.ref 200), some (.ref 0), some (.ref 66), some (.int i)]
theorem law_c0 (hJ : am_Cl am_meth L xs J) (hI : Inv I) (g1 : vp_in (i + 1) L) (g2 : vp_in (i + 2) L) (g3 : vp_in (i + 3) L) (g4 : vp_in (i + 4) L) (h : am_same Inv J q_X_person q_M_person [.int (xs (i + 1).toNatClampNeg), .int (xs (i + 2).toNatClampNeg), .int (xs (i + 3).toNatClampNeg), .int (xs (i + 4).toNatClampNeg)]) (K : ∀ I', Inv I' → J 41 q_L_law 1782 (am_lw i) [] I' Q) : J 41 q_L_law 256 (am_lw i) [] I Q := by
  refine am_vc hJ 45 _ _ _ _ _ _ _ ?_
  refine ⟨g1, g2, g3, g4, ?_⟩
  refine hJ.2 _ _ _ _ _ _ _ _ ?_ (h I hI Inv (fun _ z => z))
  rintro r I1 ⟨v, rfl, h2⟩
  refine ⟨g1, g2, g3, g4, ?_⟩
  refine hJ.2 _ _ _ _ _ _ _ _ ?_ h2
  rintro r I2 ⟨rfl, h3⟩
  refine ⟨fun _ => ?_, fun hne => absurd rfl hne⟩
  exact K I2 h3
theorem law_c1 (hJ : am_Cl am_meth L xs J) (hI : Inv I) (g1 : vp_in (i + 1) L) (g2 : vp_in (i + 2) L) (h : am_same Inv J q_X_personOf q_M_personOf [.int (xs (i + 1).toNatClampNeg), .int (xs (i + 2).toNatClampNeg)]) (K : ∀ I', Inv I' → J 41 q_L_law 1782 (am_lw i) [] I' Q) : J 41 q_L_law 309 (am_lw i) [] I Q := by
  refine am_vc hJ 25 _ _ _ _ _ _ _ ?_
  refine ⟨g1, g2, ?_⟩
  refine hJ.2 _ _ _ _ _ _ _ _ ?_ (h I hI Inv (fun _ z => z))
  rintro r I1 ⟨v, rfl, h2⟩
  refine ⟨g1, g2, ?_⟩
  refine hJ.2 _ _ _ _ _ _ _ _ ?_ h2
  rintro r I2 ⟨rfl, h3⟩
  refine ⟨fun _ => ?_, fun hne => absurd rfl hne⟩
  exact K I2 h3
theorem law_c2 (hJ : am_Cl am_meth L xs J) (hI : Inv I) (g1 : vp_in (i + 1) L) (g2 : vp_in (i + 2) L) (g3 : vp_in (i + 3) L) (h : am_same Inv J q_X_change q_M_change [.int (xs (i + 1).toNatClampNeg), .int (xs (i + 2).toNatClampNeg), .int (xs (i + 3).toNatClampNeg)]) (K : ∀ I', Inv I' → J 41 q_L_law 1782 (am_lw i) [] I' Q) : J 41 q_L_law 342 (am_lw i) [] I Q := by
  refine am_vc hJ 35 _ _ _ _ _ _ _ ?_
  refine ⟨g1, g2, g3, ?_⟩
  refine hJ.2 _ _ _ _ _ _ _ _ ?_ (h I hI Inv (fun _ z => z))
  rintro r I1 ⟨v, rfl, h2⟩
  refine ⟨g1, g2, g3, ?_⟩
  refine hJ.2 _ _ _ _ _ _ _ _ ?_ h2
  rintro r I2 ⟨rfl, h3⟩
  refine ⟨fun _ => ?_, fun hne => absurd rfl hne⟩
  exact K I2 h3
theorem law_c3 (hJ : am_Cl am_meth L xs J) (hI : Inv I) (g1 : vp_in (i + 1) L) (g2 : vp_in (i + 2) L) (h : am_same Inv J q_X_remake q_M_remake [.int (xs (i + 1).toNatClampNeg), .int (xs (i + 2).toNatClampNeg)]) (K : ∀ I', Inv I' → J 41 q_L_law 1782 (am_lw i) [] I' Q) : J 41 q_L_law 385 (am_lw i) [] I Q := by
  refine am_vc hJ 25 _ _ _ _ _ _ _ ?_
  refine ⟨g1, g2, ?_⟩
  refine hJ.2 _ _ _ _ _ _ _ _ ?_ (h I hI Inv (fun _ z => z))
  rintro r I1 ⟨v, rfl, h2⟩
  refine ⟨g1, g2, ?_⟩
  refine hJ.2 _ _ _ _ _ _ _ _ ?_ h2
  rintro r I2 ⟨rfl, h3⟩
  refine ⟨fun _ => ?_, fun hne => absurd rfl hne⟩
  exact K I2 h3
theorem law_c4 (hJ : am_Cl am_meth L xs J) (hI : Inv I) (g1 : vp_in (i + 1) L) (g2 : vp_in (i + 2) L) (h : am_same Inv J q_X_weather q_M_weather [.int (xs (i + 1).toNatClampNeg), .int (xs (i + 2).toNatClampNeg)]) (K : ∀ I', Inv I' → J 41 q_L_law 1782 (am_lw i) [] I' Q) : J 41 q_L_law 418 (am_lw i) [] I Q := by
  refine am_vc hJ 25 _ _ _ _ _ _ _ ?_
  refine ⟨g1, g2, ?_⟩
  refine hJ.2 _ _ _ _ _ _ _ _ ?_ (h I hI Inv (fun _ z => z))
  rintro r I1 ⟨v, rfl, h2⟩
  refine ⟨g1, g2, ?_⟩
  refine hJ.2 _ _ _ _ _ _ _ _ ?_ h2
  rintro r I2 ⟨rfl, h3⟩
  refine ⟨fun _ => ?_, fun hne => absurd rfl hne⟩
  exact K I2 h3
theorem law_c5 (hJ : am_Cl am_meth L xs J) (hI : Inv I) (g1 : vp_in (i + 1) L) (g2 : vp_in (i + 2) L) (g3 : vp_in (i + 3) L) (h : am_same Inv J q_X_gate q_M_gate [.int (xs (i + 1).toNatClampNeg), .int (xs (i + 2).toNatClampNeg), .int (xs (i + 3).toNatClampNeg)]) (K : ∀ I', Inv I' → J 41 q_L_law 1782 (am_lw i) [] I' Q) : J 41 q_L_law 451 (am_lw i) [] I Q := by
  refine am_vc hJ 35 _ _ _ _ _ _ _ ?_
  refine ⟨g1, g2, g3, ?_⟩
  refine hJ.2 _ _ _ _ _ _ _ _ ?_ (h I hI Inv (fun _ z => z))
  rintro r I1 ⟨v, rfl, h2⟩
  refine ⟨g1, g2, g3, ?_⟩
  refine hJ.2 _ _ _ _ _ _ _ _ ?_ h2
  rintro r I2 ⟨rfl, h3⟩
  refine ⟨fun _ => ?_, fun hne => absurd rfl hne⟩
  exact K I2 h3
theorem law_c6 (hJ : am_Cl am_meth L xs J) (hI : Inv I) (g1 : vp_in (i + 1) L) (g2 : vp_in (i + 2) L) (h : am_same Inv J q_X_gateOf q_M_gateOf [.int (xs (i + 1).toNatClampNeg), .int (xs (i + 2).toNatClampNeg)]) (K : ∀ I', Inv I' → J 41 q_L_law 1782 (am_lw i) [] I' Q) : J 41 q_L_law 494 (am_lw i) [] I Q := by
  refine am_vc hJ 25 _ _ _ _ _ _ _ ?_
  refine ⟨g1, g2, ?_⟩
  refine hJ.2 _ _ _ _ _ _ _ _ ?_ (h I hI Inv (fun _ z => z))
  rintro r I1 ⟨v, rfl, h2⟩
  refine ⟨g1, g2, ?_⟩
  refine hJ.2 _ _ _ _ _ _ _ _ ?_ h2
  rintro r I2 ⟨rfl, h3⟩
  refine ⟨fun _ => ?_, fun hne => absurd rfl hne⟩
  exact K I2 h3
theorem law_c7 (hJ : am_Cl am_meth L xs J) (hI : Inv I) (g1 : vp_in (i + 1) L) (g2 : vp_in (i + 2) L) (h : am_same Inv J q_X_house q_M_house [.int (xs (i + 1).toNatClampNeg), .int (xs (i + 2).toNatClampNeg)]) (K : ∀ I', Inv I' → J 41 q_L_law 1782 (am_lw i) [] I' Q) : J 41 q_L_law 527 (am_lw i) [] I Q := by
  refine am_vc hJ 25 _ _ _ _ _ _ _ ?_
  refine ⟨g1, g2, ?_⟩
  refine hJ.2 _ _ _ _ _ _ _ _ ?_ (h I hI Inv (fun _ z => z))
  rintro r I1 ⟨v, rfl, h2⟩
  refine ⟨g1, g2, ?_⟩
  refine hJ.2 _ _ _ _ _ _ _ _ ?_ h2
  rintro r I2 ⟨rfl, h3⟩
  refine ⟨fun _ => ?_, fun hne => absurd rfl hne⟩
  exact K I2 h3
theorem law_c8 (hJ : am_Cl am_meth L xs J) (hI : Inv I) (g1 : vp_in (i + 1) L) (h : am_same Inv J q_X_ends q_M_ends [.int (xs (i + 1).toNatClampNeg)]) (K : ∀ I', Inv I' → J 41 q_L_law 1782 (am_lw i) [] I' Q) : J 41 q_L_law 560 (am_lw i) [] I Q := by
  refine am_vc hJ 15 _ _ _ _ _ _ _ ?_
  refine ⟨g1, ?_⟩
  refine hJ.2 _ _ _ _ _ _ _ _ ?_ (h I hI Inv (fun _ z => z))
  rintro r I1 ⟨v, rfl, h2⟩
  refine ⟨g1, ?_⟩
  refine hJ.2 _ _ _ _ _ _ _ _ ?_ h2
  rintro r I2 ⟨rfl, h3⟩
  refine ⟨fun _ => ?_, fun hne => absurd rfl hne⟩
  exact K I2 h3
theorem law_c9 (hJ : am_Cl am_meth L xs J) (hI : Inv I)  (h : am_same Inv J q_X_anew q_M_anew []) (K : ∀ I', Inv I' → J 41 q_L_law 1782 (am_lw i) [] I' Q) : J 41 q_L_law 583 (am_lw i) [] I Q := by
  refine am_vc hJ 5 _ _ _ _ _ _ _ ?_
  refine hJ.2 _ _ _ _ _ _ _ _ ?_ (h I hI Inv (fun _ z => z))
  rintro r I1 ⟨v, rfl, h2⟩
  refine hJ.2 _ _ _ _ _ _ _ _ ?_ h2
  rintro r I2 ⟨rfl, h3⟩
  refine ⟨fun _ => ?_, fun hne => absurd rfl hne⟩
  exact K I2 h3
theorem law_c10 (hJ : am_Cl am_meth L xs J) (hI : Inv I) (g1 : vp_in (i + 1) L) (h : am_same Inv J q_X_state q_M_state [.int (xs (i + 1).toNatClampNeg)]) (K : ∀ I', Inv I' → J 41 q_L_law 1782 (am_lw i) [] I' Q) : J 41 q_L_law 596 (am_lw i) [] I Q := by
  refine am_vc hJ 15 _ _ _ _ _ _ _ ?_
  refine ⟨g1, ?_⟩
  refine hJ.2 _ _ _ _ _ _ _ _ ?_ (h I hI Inv (fun _ z => z))
  rintro r I1 ⟨v, rfl, h2⟩
  refine ⟨g1, ?_⟩
  refine hJ.2 _ _ _ _ _ _ _ _ ?_ h2
  rintro r I2 ⟨rfl, h3⟩
  refine ⟨fun _ => ?_, fun hne => absurd rfl hne⟩
  exact K I2 h3
theorem law_c11 (hJ : am_Cl am_meth L xs J) (hI : Inv I) (g1 : vp_in (i + 1) L) (g2 : vp_in (i + 2) L) (g3 : vp_in (i + 3) L) (h : am_same Inv J q_X_feed q_M_feed [.long (((xs (i + 1).toNatClampNeg).toInt64 <<< ((32 : Int32).toInt64 &&& 63)) ||| ((xs (i + 2).toNatClampNeg).toInt64 &&& Int64.ofNat 4294967295)), .int (xs (i + 3).toNatClampNeg)]) (K : ∀ I', Inv I' → J 41 q_L_law 1782 (am_lw i) [] I' Q) : J 41 q_L_law 619 (am_lw i) [] I Q := by
  refine am_vc hJ 49 _ _ _ _ _ _ _ ?_
  refine ⟨g1, g2, g3, ?_⟩
  refine hJ.2 _ _ _ _ _ _ _ _ ?_ (h I hI Inv (fun _ z => z))
  rintro r I1 ⟨v, rfl, h2⟩
  refine ⟨g1, g2, g3, ?_⟩
  refine hJ.2 _ _ _ _ _ _ _ _ ?_ h2
  rintro r I2 ⟨rfl, h3⟩
  refine ⟨fun _ => ?_, fun hne => absurd rfl hne⟩
  exact K I2 h3
theorem law_c12 (hJ : am_Cl am_meth L xs J) (hI : Inv I)  (h : am_same Inv J q_X_rules q_M_rules []) (K : ∀ I', Inv I' → J 41 q_L_law 1782 (am_lw i) [] I' Q) : J 41 q_L_law 682 (am_lw i) [] I Q := by
  refine am_vc hJ 5 _ _ _ _ _ _ _ ?_
  refine hJ.2 _ _ _ _ _ _ _ _ ?_ (h I hI Inv (fun _ z => z))
  rintro r I1 ⟨v, rfl, h2⟩
  refine hJ.2 _ _ _ _ _ _ _ _ ?_ h2
  rintro r I2 ⟨rfl, h3⟩
  refine ⟨fun _ => ?_, fun hne => absurd rfl hne⟩
  exact K I2 h3
theorem law_c13 (hJ : am_Cl am_meth L xs J) (hI : Inv I)  (h : am_same Inv J q_X_day q_M_day []) (K : ∀ I', Inv I' → J 41 q_L_law 1782 (am_lw i) [] I' Q) : J 41 q_L_law 695 (am_lw i) [] I Q := by
  refine am_vc hJ 5 _ _ _ _ _ _ _ ?_
  refine hJ.2 _ _ _ _ _ _ _ _ ?_ (h I hI Inv (fun _ z => z))
  rintro r I1 ⟨v, rfl, h2⟩
  refine hJ.2 _ _ _ _ _ _ _ _ ?_ h2
  rintro r I2 ⟨rfl, h3⟩
  refine ⟨fun _ => ?_, fun hne => absurd rfl hne⟩
  exact K I2 h3
theorem law_c14 (hJ : am_Cl am_meth L xs J) (hI : Inv I) (g1 : vp_in (i + 1) L) (h : am_same Inv J q_X_on q_M_on [.int (xs (i + 1).toNatClampNeg)]) (K : ∀ I', Inv I' → J 41 q_L_law 1782 (am_lw i) [] I' Q) : J 41 q_L_law 708 (am_lw i) [] I Q := by
  refine am_vc hJ 15 _ _ _ _ _ _ _ ?_
  refine ⟨g1, ?_⟩
  refine hJ.2 _ _ _ _ _ _ _ _ ?_ (h I hI Inv (fun _ z => z))
  rintro r I1 ⟨v, rfl, h2⟩
  refine ⟨g1, ?_⟩
  refine hJ.2 _ _ _ _ _ _ _ _ ?_ h2
  rintro r I2 ⟨rfl, h3⟩
  refine ⟨fun _ => ?_, fun hne => absurd rfl hne⟩
  exact K I2 h3
theorem law_c15 (hJ : am_Cl am_meth L xs J) (hI : Inv I) (g1 : vp_in (i + 1) L) (h : am_same Inv J q_X_when q_M_when [.int (xs (i + 1).toNatClampNeg)]) (K : ∀ I', Inv I' → J 41 q_L_law 1782 (am_lw i) [] I' Q) : J 41 q_L_law 731 (am_lw i) [] I Q := by
  refine am_vc hJ 15 _ _ _ _ _ _ _ ?_
  refine ⟨g1, ?_⟩
  refine hJ.2 _ _ _ _ _ _ _ _ ?_ (h I hI Inv (fun _ z => z))
  rintro r I1 ⟨v, rfl, h2⟩
  refine ⟨g1, ?_⟩
  refine hJ.2 _ _ _ _ _ _ _ _ ?_ h2
  rintro r I2 ⟨rfl, h3⟩
  refine ⟨fun _ => ?_, fun hne => absurd rfl hne⟩
  exact K I2 h3
theorem law_c16 (hJ : am_Cl am_meth L xs J) (hI : Inv I) (g1 : vp_in (i + 1) L) (h : am_same Inv J q_X_taleFor q_M_taleFor [.int (xs (i + 1).toNatClampNeg)]) (K : ∀ I', Inv I' → J 41 q_L_law 1782 (am_lw i) [] I' Q) : J 41 q_L_law 754 (am_lw i) [] I Q := by
  refine am_vc hJ 15 _ _ _ _ _ _ _ ?_
  refine ⟨g1, ?_⟩
  refine hJ.2 _ _ _ _ _ _ _ _ ?_ (h I hI Inv (fun _ z => z))
  rintro r I1 ⟨v, rfl, h2⟩
  refine ⟨g1, ?_⟩
  refine hJ.2 _ _ _ _ _ _ _ _ ?_ h2
  rintro r I2 ⟨rfl, h3⟩
  refine ⟨fun _ => ?_, fun hne => absurd rfl hne⟩
  exact K I2 h3
theorem law_c17 (hJ : am_Cl am_meth L xs J) (hI : Inv I) (g1 : vp_in (i + 1) L) (h : am_same Inv J q_X_gateFor q_M_gateFor [.int (xs (i + 1).toNatClampNeg)]) (K : ∀ I', Inv I' → J 41 q_L_law 1782 (am_lw i) [] I' Q) : J 41 q_L_law 777 (am_lw i) [] I Q := by
  refine am_vc hJ 15 _ _ _ _ _ _ _ ?_
  refine ⟨g1, ?_⟩
  refine hJ.2 _ _ _ _ _ _ _ _ ?_ (h I hI Inv (fun _ z => z))
  rintro r I1 ⟨v, rfl, h2⟩
  refine ⟨g1, ?_⟩
  refine hJ.2 _ _ _ _ _ _ _ _ ?_ h2
  rintro r I2 ⟨rfl, h3⟩
  refine ⟨fun _ => ?_, fun hne => absurd rfl hne⟩
  exact K I2 h3
theorem law_c18 (hJ : am_Cl am_meth L xs J) (hI : Inv I) (g1 : vp_in (i + 1) L) (h : am_same Inv J q_X_bakery q_M_bakery [.int (xs (i + 1).toNatClampNeg)]) (K : ∀ I', Inv I' → J 41 q_L_law 1782 (am_lw i) [] I' Q) : J 41 q_L_law 800 (am_lw i) [] I Q := by
  refine am_vc hJ 15 _ _ _ _ _ _ _ ?_
  refine ⟨g1, ?_⟩
  refine hJ.2 _ _ _ _ _ _ _ _ ?_ (h I hI Inv (fun _ z => z))
  rintro r I1 ⟨v, rfl, h2⟩
  refine ⟨g1, ?_⟩
  refine hJ.2 _ _ _ _ _ _ _ _ ?_ h2
  rintro r I2 ⟨rfl, h3⟩
  refine ⟨fun _ => ?_, fun hne => absurd rfl hne⟩
  exact K I2 h3
theorem law_c19 (hJ : am_Cl am_meth L xs J) (hI : Inv I) (g1 : vp_in (i + 1) L) (h : am_same Inv J q_X_winter q_M_winter [.int (xs (i + 1).toNatClampNeg)]) (K : ∀ I', Inv I' → J 41 q_L_law 1782 (am_lw i) [] I' Q) : J 41 q_L_law 823 (am_lw i) [] I Q := by
  refine am_vc hJ 15 _ _ _ _ _ _ _ ?_
  refine ⟨g1, ?_⟩
  refine hJ.2 _ _ _ _ _ _ _ _ ?_ (h I hI Inv (fun _ z => z))
  rintro r I1 ⟨v, rfl, h2⟩
  refine ⟨g1, ?_⟩
  refine hJ.2 _ _ _ _ _ _ _ _ ?_ h2
  rintro r I2 ⟨rfl, h3⟩
  refine ⟨fun _ => ?_, fun hne => absurd rfl hne⟩
  exact K I2 h3
theorem law_c20 (hJ : am_Cl am_meth L xs J) (hI : Inv I) (g1 : vp_in (i + 1) L) (h : am_same Inv J q_X_tables q_M_tables [.int (xs (i + 1).toNatClampNeg)]) (K : ∀ I', Inv I' → J 41 q_L_law 1782 (am_lw i) [] I' Q) : J 41 q_L_law 846 (am_lw i) [] I Q := by
  refine am_vc hJ 15 _ _ _ _ _ _ _ ?_
  refine ⟨g1, ?_⟩
  refine hJ.2 _ _ _ _ _ _ _ _ ?_ (h I hI Inv (fun _ z => z))
  rintro r I1 ⟨v, rfl, h2⟩
  refine ⟨g1, ?_⟩
  refine hJ.2 _ _ _ _ _ _ _ _ ?_ h2
  rintro r I2 ⟨rfl, h3⟩
  refine ⟨fun _ => ?_, fun hne => absurd rfl hne⟩
  exact K I2 h3
theorem law_c21 (hJ : am_Cl am_meth L xs J) (hI : Inv I) (g1 : vp_in (i + 1) L) (g2 : vp_in (i + 2) L) (h : am_same Inv J q_X_rounds q_M_rounds [.int (xs (i + 1).toNatClampNeg), .int (xs (i + 2).toNatClampNeg)]) (K : ∀ I', Inv I' → J 41 q_L_law 1782 (am_lw i) [] I' Q) : J 41 q_L_law 869 (am_lw i) [] I Q := by
  refine am_vc hJ 25 _ _ _ _ _ _ _ ?_
  refine ⟨g1, g2, ?_⟩
  refine hJ.2 _ _ _ _ _ _ _ _ ?_ (h I hI Inv (fun _ z => z))
  rintro r I1 ⟨v, rfl, h2⟩
  refine ⟨g1, g2, ?_⟩
  refine hJ.2 _ _ _ _ _ _ _ _ ?_ h2
  rintro r I2 ⟨rfl, h3⟩
  refine ⟨fun _ => ?_, fun hne => absurd rfl hne⟩
  exact K I2 h3
theorem law_c22 (hJ : am_Cl am_meth L xs J) (hI : Inv I) (g1 : vp_in (i + 1) L) (h : am_same Inv J q_X_best q_M_best [.int (xs (i + 1).toNatClampNeg)]) (K : ∀ I', Inv I' → J 41 q_L_law 1782 (am_lw i) [] I' Q) : J 41 q_L_law 902 (am_lw i) [] I Q := by
  refine am_vc hJ 15 _ _ _ _ _ _ _ ?_
  refine ⟨g1, ?_⟩
  refine hJ.2 _ _ _ _ _ _ _ _ ?_ (h I hI Inv (fun _ z => z))
  rintro r I1 ⟨v, rfl, h2⟩
  refine ⟨g1, ?_⟩
  refine hJ.2 _ _ _ _ _ _ _ _ ?_ h2
  rintro r I2 ⟨rfl, h3⟩
  refine ⟨fun _ => ?_, fun hne => absurd rfl hne⟩
  exact K I2 h3
theorem law_c23 (hJ : am_Cl am_meth L xs J) (hI : Inv I) (g1 : vp_in (i + 1) L) (g2 : vp_in (i + 2) L) (h : am_same Inv J q_X_ith q_M_ith [.int (xs (i + 1).toNatClampNeg), .int (xs (i + 2).toNatClampNeg)]) (K : ∀ I', Inv I' → J 41 q_L_law 1782 (am_lw i) [] I' Q) : J 41 q_L_law 925 (am_lw i) [] I Q := by
  refine am_vc hJ 25 _ _ _ _ _ _ _ ?_
  refine ⟨g1, g2, ?_⟩
  refine hJ.2 _ _ _ _ _ _ _ _ ?_ (h I hI Inv (fun _ z => z))
  rintro r I1 ⟨v, rfl, h2⟩
  refine ⟨g1, g2, ?_⟩
  refine hJ.2 _ _ _ _ _ _ _ _ ?_ h2
  rintro r I2 ⟨rfl, h3⟩
  refine ⟨fun _ => ?_, fun hne => absurd rfl hne⟩
  exact K I2 h3
theorem law_c24 (hJ : am_Cl am_meth L xs J) (hI : Inv I) (g1 : vp_in (i + 1) L) (h : am_same Inv J q_X_ways q_M_ways [.int (xs (i + 1).toNatClampNeg)]) (K : ∀ I', Inv I' → J 41 q_L_law 1782 (am_lw i) [] I' Q) : J 41 q_L_law 958 (am_lw i) [] I Q := by
  refine am_vc hJ 15 _ _ _ _ _ _ _ ?_
  refine ⟨g1, ?_⟩
  refine hJ.2 _ _ _ _ _ _ _ _ ?_ (h I hI Inv (fun _ z => z))
  rintro r I1 ⟨v, rfl, h2⟩
  refine ⟨g1, ?_⟩
  refine hJ.2 _ _ _ _ _ _ _ _ ?_ h2
  rintro r I2 ⟨rfl, h3⟩
  refine ⟨fun _ => ?_, fun hne => absurd rfl hne⟩
  exact K I2 h3
theorem law_c25 (hJ : am_Cl am_meth L xs J) (hI : Inv I) (g1 : vp_in (i + 1) L) (g2 : vp_in (i + 2) L) (h : am_same Inv J q_X_feast q_M_feast [.int (xs (i + 1).toNatClampNeg), .int (xs (i + 2).toNatClampNeg)]) (K : ∀ I', Inv I' → J 41 q_L_law 1782 (am_lw i) [] I' Q) : J 41 q_L_law 981 (am_lw i) [] I Q := by
  refine am_vc hJ 25 _ _ _ _ _ _ _ ?_
  refine ⟨g1, g2, ?_⟩
  refine hJ.2 _ _ _ _ _ _ _ _ ?_ (h I hI Inv (fun _ z => z))
  rintro r I1 ⟨v, rfl, h2⟩
  refine ⟨g1, g2, ?_⟩
  refine hJ.2 _ _ _ _ _ _ _ _ ?_ h2
  rintro r I2 ⟨rfl, h3⟩
  refine ⟨fun _ => ?_, fun hne => absurd rfl hne⟩
  exact K I2 h3
theorem law_c26 (hJ : am_Cl am_meth L xs J) (hI : Inv I) (g1 : vp_in (i + 1) L) (g2 : vp_in (i + 2) L) (h : am_same Inv J q_X_bars q_M_bars [.int (xs (i + 1).toNatClampNeg), .int (xs (i + 2).toNatClampNeg)]) (K : ∀ I', Inv I' → J 41 q_L_law 1782 (am_lw i) [] I' Q) : J 41 q_L_law 1014 (am_lw i) [] I Q := by
  refine am_vc hJ 25 _ _ _ _ _ _ _ ?_
  refine ⟨g1, g2, ?_⟩
  refine hJ.2 _ _ _ _ _ _ _ _ ?_ (h I hI Inv (fun _ z => z))
  rintro r I1 ⟨v, rfl, h2⟩
  refine ⟨g1, g2, ?_⟩
  refine hJ.2 _ _ _ _ _ _ _ _ ?_ h2
  rintro r I2 ⟨rfl, h3⟩
  refine ⟨fun _ => ?_, fun hne => absurd rfl hne⟩
  exact K I2 h3
theorem law_c27 (hJ : am_Cl am_meth L xs J) (hI : Inv I) (g1 : vp_in (i + 1) L) (h : am_same Inv J q_X_game q_M_game [.int (xs (i + 1).toNatClampNeg)]) (K : ∀ I', Inv I' → J 41 q_L_law 1782 (am_lw i) [] I' Q) : J 41 q_L_law 1047 (am_lw i) [] I Q := by
  refine am_vc hJ 15 _ _ _ _ _ _ _ ?_
  refine ⟨g1, ?_⟩
  refine hJ.2 _ _ _ _ _ _ _ _ ?_ (h I hI Inv (fun _ z => z))
  rintro r I1 ⟨v, rfl, h2⟩
  refine ⟨g1, ?_⟩
  refine hJ.2 _ _ _ _ _ _ _ _ ?_ h2
  rintro r I2 ⟨rfl, h3⟩
  refine ⟨fun _ => ?_, fun hne => absurd rfl hne⟩
  exact K I2 h3
theorem law_c28 (hJ : am_Cl am_meth L xs J) (hI : Inv I) (g1 : vp_in (i + 1) L) (h : am_same Inv J q_X_play q_M_play [.int (xs (i + 1).toNatClampNeg)]) (K : ∀ I', Inv I' → J 41 q_L_law 1782 (am_lw i) [] I' Q) : J 41 q_L_law 1070 (am_lw i) [] I Q := by
  refine am_vc hJ 15 _ _ _ _ _ _ _ ?_
  refine ⟨g1, ?_⟩
  refine hJ.2 _ _ _ _ _ _ _ _ ?_ (h I hI Inv (fun _ z => z))
  rintro r I1 ⟨v, rfl, h2⟩
  refine ⟨g1, ?_⟩
  refine hJ.2 _ _ _ _ _ _ _ _ ?_ h2
  rintro r I2 ⟨rfl, h3⟩
  refine ⟨fun _ => ?_, fun hne => absurd rfl hne⟩
  exact K I2 h3
theorem law_c29 (hJ : am_Cl am_meth L xs J) (hI : Inv I) (g1 : vp_in (i + 1) L) (g2 : vp_in (i + 2) L) (g3 : vp_in (i + 3) L) (g4 : vp_in (i + 4) L) (h : am_same Inv J q_X_report q_M_report [.int (xs (i + 1).toNatClampNeg), .int (xs (i + 2).toNatClampNeg), .int (xs (i + 3).toNatClampNeg), .int (xs (i + 4).toNatClampNeg)]) (K : ∀ I', Inv I' → J 41 q_L_law 1782 (am_lw i) [] I' Q) : J 41 q_L_law 1093 (am_lw i) [] I Q := by
  refine am_vc hJ 45 _ _ _ _ _ _ _ ?_
  refine ⟨g1, g2, g3, g4, ?_⟩
  refine hJ.2 _ _ _ _ _ _ _ _ ?_ (h I hI Inv (fun _ z => z))
  rintro r I1 ⟨v, rfl, h2⟩
  refine ⟨g1, g2, g3, g4, ?_⟩
  refine hJ.2 _ _ _ _ _ _ _ _ ?_ h2
  rintro r I2 ⟨rfl, h3⟩
  refine ⟨fun _ => ?_, fun hne => absurd rfl hne⟩
  exact K I2 h3
theorem law_c30 (hJ : am_Cl am_meth L xs J) (hI : Inv I)  (h : am_same Inv J q_X_forget q_M_forget []) (K : ∀ I', Inv I' → J 41 q_L_law 1782 (am_lw i) [] I' Q) : J 41 q_L_law 1146 (am_lw i) [] I Q := by
  refine am_vc hJ 5 _ _ _ _ _ _ _ ?_
  refine hJ.2 _ _ _ _ _ _ _ _ ?_ (h I hI Inv (fun _ z => z))
  rintro r I1 ⟨v, rfl, h2⟩
  refine hJ.2 _ _ _ _ _ _ _ _ ?_ h2
  rintro r I2 ⟨rfl, h3⟩
  refine ⟨fun _ => ?_, fun hne => absurd rfl hne⟩
  exact K I2 h3
theorem law_c31 (hJ : am_Cl am_meth L xs J) (hI : Inv I) (g1 : vp_in (i + 1) L) (h : am_same Inv J q_X_tales q_M_tales [.int (xs (i + 1).toNatClampNeg)]) (K : ∀ I', Inv I' → J 41 q_L_law 1782 (am_lw i) [] I' Q) : J 41 q_L_law 1159 (am_lw i) [] I Q := by
  refine am_vc hJ 15 _ _ _ _ _ _ _ ?_
  refine ⟨g1, ?_⟩
  refine hJ.2 _ _ _ _ _ _ _ _ ?_ (h I hI Inv (fun _ z => z))
  rintro r I1 ⟨v, rfl, h2⟩
  refine ⟨g1, ?_⟩
  refine hJ.2 _ _ _ _ _ _ _ _ ?_ h2
  rintro r I2 ⟨rfl, h3⟩
  refine ⟨fun _ => ?_, fun hne => absurd rfl hne⟩
  exact K I2 h3
theorem law_c32 (hJ : am_Cl am_meth L xs J) (hI : Inv I)  (h : am_same Inv J q_X_liar q_M_liar []) (K : ∀ I', Inv I' → J 41 q_L_law 1782 (am_lw i) [] I' Q) : J 41 q_L_law 1182 (am_lw i) [] I Q := by
  refine am_vc hJ 5 _ _ _ _ _ _ _ ?_
  refine hJ.2 _ _ _ _ _ _ _ _ ?_ (h I hI Inv (fun _ z => z))
  rintro r I1 ⟨v, rfl, h2⟩
  refine hJ.2 _ _ _ _ _ _ _ _ ?_ h2
  rintro r I2 ⟨rfl, h3⟩
  refine ⟨fun _ => ?_, fun hne => absurd rfl hne⟩
  exact K I2 h3
theorem law_c33 (hJ : am_Cl am_meth L xs J) (hI : Inv I) (g1 : vp_in (i + 1) L) (h : am_same Inv J q_X_seed q_M_seed [.int (xs (i + 1).toNatClampNeg)]) (K : ∀ I', Inv I' → J 41 q_L_law 1782 (am_lw i) [] I' Q) : J 41 q_L_law 1195 (am_lw i) [] I Q := by
  refine am_vc hJ 15 _ _ _ _ _ _ _ ?_
  refine ⟨g1, ?_⟩
  refine hJ.2 _ _ _ _ _ _ _ _ ?_ (h I hI Inv (fun _ z => z))
  rintro r I1 ⟨v, rfl, h2⟩
  refine ⟨g1, ?_⟩
  refine hJ.2 _ _ _ _ _ _ _ _ ?_ h2
  rintro r I2 ⟨rfl, h3⟩
  refine ⟨fun _ => ?_, fun hne => absurd rfl hne⟩
  exact K I2 h3
theorem law_c34 (hJ : am_Cl am_meth L xs J) (hI : Inv I)  (h : am_same Inv J q_X_lot q_M_lot []) (K : ∀ I', Inv I' → J 41 q_L_law 1782 (am_lw i) [] I' Q) : J 41 q_L_law 1218 (am_lw i) [] I Q := by
  refine am_vc hJ 5 _ _ _ _ _ _ _ ?_
  refine hJ.2 _ _ _ _ _ _ _ _ ?_ (h I hI Inv (fun _ z => z))
  rintro r I1 ⟨v, rfl, h2⟩
  refine hJ.2 _ _ _ _ _ _ _ _ ?_ h2
  rintro r I2 ⟨rfl, h3⟩
  refine ⟨fun _ => ?_, fun hne => absurd rfl hne⟩
  exact K I2 h3
theorem law_c35 (hJ : am_Cl am_meth L xs J) (hI : Inv I) (g1 : vp_in (i + 1) L) (g2 : vp_in (i + 2) L) (h : am_same Inv J q_X_times q_M_times [.int (xs (i + 1).toNatClampNeg), .int (xs (i + 2).toNatClampNeg)]) (K : ∀ I', Inv I' → J 41 q_L_law 1782 (am_lw i) [] I' Q) : J 41 q_L_law 1231 (am_lw i) [] I Q := by
  refine am_vc hJ 25 _ _ _ _ _ _ _ ?_
  refine ⟨g1, g2, ?_⟩
  refine hJ.2 _ _ _ _ _ _ _ _ ?_ (h I hI Inv (fun _ z => z))
  rintro r I1 ⟨v, rfl, h2⟩
  refine ⟨g1, g2, ?_⟩
  refine hJ.2 _ _ _ _ _ _ _ _ ?_ h2
  rintro r I2 ⟨rfl, h3⟩
  refine ⟨fun _ => ?_, fun hne => absurd rfl hne⟩
  exact K I2 h3
theorem law_c36 (hJ : am_Cl am_meth L xs J) (hI : Inv I) (g1 : vp_in (i + 1) L) (h : am_same Inv J q_X_prove q_M_prove [.int (xs (i + 1).toNatClampNeg)]) (K : ∀ I', Inv I' → J 41 q_L_law 1782 (am_lw i) [] I' Q) : J 41 q_L_law 1264 (am_lw i) [] I Q := by
  refine am_vc hJ 15 _ _ _ _ _ _ _ ?_
  refine ⟨g1, ?_⟩
  refine hJ.2 _ _ _ _ _ _ _ _ ?_ (h I hI Inv (fun _ z => z))
  rintro r I1 ⟨v, rfl, h2⟩
  refine ⟨g1, ?_⟩
  refine hJ.2 _ _ _ _ _ _ _ _ ?_ h2
  rintro r I2 ⟨rfl, h3⟩
  refine ⟨fun _ => ?_, fun hne => absurd rfl hne⟩
  exact K I2 h3
theorem law_c37 (hJ : am_Cl am_meth L xs J) (hI : Inv I) (g1 : vp_in (i + 1) L) (g2 : vp_in (i + 2) L) (h : am_same Inv J q_X_row q_M_row [.int (xs (i + 1).toNatClampNeg), .int (xs (i + 2).toNatClampNeg)]) (K : ∀ I', Inv I' → J 41 q_L_law 1782 (am_lw i) [] I' Q) : J 41 q_L_law 1287 (am_lw i) [] I Q := by
  refine am_vc hJ 25 _ _ _ _ _ _ _ ?_
  refine ⟨g1, g2, ?_⟩
  refine hJ.2 _ _ _ _ _ _ _ _ ?_ (h I hI Inv (fun _ z => z))
  rintro r I1 ⟨v, rfl, h2⟩
  refine ⟨g1, g2, ?_⟩
  refine hJ.2 _ _ _ _ _ _ _ _ ?_ h2
  rintro r I2 ⟨rfl, h3⟩
  refine ⟨fun _ => ?_, fun hne => absurd rfl hne⟩
  exact K I2 h3
theorem law_c38 (hJ : am_Cl am_meth L xs J) (hI : Inv I) (g1 : vp_in (i + 1) L) (g2 : vp_in (i + 2) L) (g3 : vp_in (i + 3) L) (h : am_same Inv J q_X_alterRow q_M_alterRow [.int (xs (i + 1).toNatClampNeg), .int (xs (i + 2).toNatClampNeg), .int (xs (i + 3).toNatClampNeg)]) (K : ∀ I', Inv I' → J 41 q_L_law 1782 (am_lw i) [] I' Q) : J 41 q_L_law 1320 (am_lw i) [] I Q := by
  refine am_vc hJ 35 _ _ _ _ _ _ _ ?_
  refine ⟨g1, g2, g3, ?_⟩
  refine hJ.2 _ _ _ _ _ _ _ _ ?_ (h I hI Inv (fun _ z => z))
  rintro r I1 ⟨v, rfl, h2⟩
  refine ⟨g1, g2, g3, ?_⟩
  refine hJ.2 _ _ _ _ _ _ _ _ ?_ h2
  rintro r I2 ⟨rfl, h3⟩
  refine ⟨fun _ => ?_, fun hne => absurd rfl hne⟩
  exact K I2 h3
theorem law_c39 (hJ : am_Cl am_meth L xs J) (hI : Inv I)  (h : am_same Inv J q_X_judge q_M_judge []) (K : ∀ I', Inv I' → J 41 q_L_law 1782 (am_lw i) [] I' Q) : J 41 q_L_law 1363 (am_lw i) [] I Q := by
  refine am_vc hJ 5 _ _ _ _ _ _ _ ?_
  refine hJ.2 _ _ _ _ _ _ _ _ ?_ (h I hI Inv (fun _ z => z))
  rintro r I1 ⟨v, rfl, h2⟩
  refine hJ.2 _ _ _ _ _ _ _ _ ?_ h2
  rintro r I2 ⟨rfl, h3⟩
  refine ⟨fun _ => ?_, fun hne => absurd rfl hne⟩
  exact K I2 h3
theorem law_c40 (hJ : am_Cl am_meth L xs J) (hI : Inv I) (g1 : vp_in (i + 1) L) (g2 : vp_in (i + 2) L) (g3 : vp_in (i + 3) L) (h : am_same Inv J q_X_sheet q_M_sheet [.int (xs (i + 1).toNatClampNeg), .int (xs (i + 2).toNatClampNeg), .int (xs (i + 3).toNatClampNeg)]) (K : ∀ I', Inv I' → J 41 q_L_law 1782 (am_lw i) [] I' Q) : J 41 q_L_law 1376 (am_lw i) [] I Q := by
  refine am_vc hJ 35 _ _ _ _ _ _ _ ?_
  refine ⟨g1, g2, g3, ?_⟩
  refine hJ.2 _ _ _ _ _ _ _ _ ?_ (h I hI Inv (fun _ z => z))
  rintro r I1 ⟨v, rfl, h2⟩
  refine ⟨g1, g2, g3, ?_⟩
  refine hJ.2 _ _ _ _ _ _ _ _ ?_ h2
  rintro r I2 ⟨rfl, h3⟩
  refine ⟨fun _ => ?_, fun hne => absurd rfl hne⟩
  exact K I2 h3
theorem law_c41 (hJ : am_Cl am_meth L xs J) (hI : Inv I) (g1 : vp_in (i + 1) L) (g2 : vp_in (i + 2) L) (g3 : vp_in (i + 3) L) (h : am_same Inv J q_X_write q_M_write [.int (xs (i + 1).toNatClampNeg), .int (xs (i + 2).toNatClampNeg), .int (xs (i + 3).toNatClampNeg)]) (K : ∀ I', Inv I' → J 41 q_L_law 1782 (am_lw i) [] I' Q) : J 41 q_L_law 1419 (am_lw i) [] I Q := by
  refine am_vc hJ 35 _ _ _ _ _ _ _ ?_
  refine ⟨g1, g2, g3, ?_⟩
  refine hJ.2 _ _ _ _ _ _ _ _ ?_ (h I hI Inv (fun _ z => z))
  rintro r I1 ⟨v, rfl, h2⟩
  refine ⟨g1, g2, g3, ?_⟩
  refine hJ.2 _ _ _ _ _ _ _ _ ?_ h2
  rintro r I2 ⟨rfl, h3⟩
  refine ⟨fun _ => ?_, fun hne => absurd rfl hne⟩
  exact K I2 h3
theorem law_c42 (hJ : am_Cl am_meth L xs J) (hI : Inv I) (g1 : vp_in (i + 1) L) (g2 : vp_in (i + 2) L) (g3 : vp_in (i + 3) L) (h : am_same Inv J q_X_item q_M_item [.int (xs (i + 1).toNatClampNeg), .int (xs (i + 2).toNatClampNeg), .int (xs (i + 3).toNatClampNeg)]) (K : ∀ I', Inv I' → J 41 q_L_law 1782 (am_lw i) [] I' Q) : J 41 q_L_law 1462 (am_lw i) [] I Q := by
  refine am_vc hJ 35 _ _ _ _ _ _ _ ?_
  refine ⟨g1, g2, g3, ?_⟩
  refine hJ.2 _ _ _ _ _ _ _ _ ?_ (h I hI Inv (fun _ z => z))
  rintro r I1 ⟨v, rfl, h2⟩
  refine ⟨g1, g2, g3, ?_⟩
  refine hJ.2 _ _ _ _ _ _ _ _ ?_ h2
  rintro r I2 ⟨rfl, h3⟩
  refine ⟨fun _ => ?_, fun hne => absurd rfl hne⟩
  exact K I2 h3
theorem law_c43 (hJ : am_Cl am_meth L xs J) (hI : Inv I) (g1 : vp_in (i + 1) L) (g2 : vp_in (i + 2) L) (g3 : vp_in (i + 3) L) (h : am_same Inv J q_X_goAll q_M_goAll [.int (xs (i + 1).toNatClampNeg), .int (xs (i + 2).toNatClampNeg), .int (xs (i + 3).toNatClampNeg)]) (K : ∀ I', Inv I' → J 41 q_L_law 1782 (am_lw i) [] I' Q) : J 41 q_L_law 1505 (am_lw i) [] I Q := by
  refine am_vc hJ 35 _ _ _ _ _ _ _ ?_
  refine ⟨g1, g2, g3, ?_⟩
  refine hJ.2 _ _ _ _ _ _ _ _ ?_ (h I hI Inv (fun _ z => z))
  rintro r I1 ⟨v, rfl, h2⟩
  refine ⟨g1, g2, g3, ?_⟩
  refine hJ.2 _ _ _ _ _ _ _ _ ?_ h2
  rintro r I2 ⟨rfl, h3⟩
  refine ⟨fun _ => ?_, fun hne => absurd rfl hne⟩
  exact K I2 h3
theorem law_c44 (hJ : am_Cl am_meth L xs J) (hI : Inv I) (g1 : vp_in (i + 1) L) (g2 : vp_in (i + 2) L) (g3 : vp_in (i + 3) L) (h : am_same Inv J q_X_wouldBe q_M_wouldBe [.int (xs (i + 1).toNatClampNeg), .int (xs (i + 2).toNatClampNeg), .int (xs (i + 3).toNatClampNeg)]) (K : ∀ I', Inv I' → J 41 q_L_law 1782 (am_lw i) [] I' Q) : J 41 q_L_law 1548 (am_lw i) [] I Q := by
  refine am_vc hJ 35 _ _ _ _ _ _ _ ?_
  refine ⟨g1, g2, g3, ?_⟩
  refine hJ.2 _ _ _ _ _ _ _ _ ?_ (h I hI Inv (fun _ z => z))
  rintro r I1 ⟨v, rfl, h2⟩
  refine ⟨g1, g2, g3, ?_⟩
  refine hJ.2 _ _ _ _ _ _ _ _ ?_ h2
  rintro r I2 ⟨rfl, h3⟩
  refine ⟨fun _ => ?_, fun hne => absurd rfl hne⟩
  exact K I2 h3
theorem law_c45 (hJ : am_Cl am_meth L xs J) (hI : Inv I) (g1 : vp_in (i + 1) L) (g2 : vp_in (i + 2) L) (g3 : vp_in (i + 3) L) (h : am_same Inv J q_X_shelf q_M_shelf [.int (xs (i + 1).toNatClampNeg), .int (xs (i + 2).toNatClampNeg), .int (xs (i + 3).toNatClampNeg)]) (K : ∀ I', Inv I' → J 41 q_L_law 1782 (am_lw i) [] I' Q) : J 41 q_L_law 1591 (am_lw i) [] I Q := by
  refine am_vc hJ 35 _ _ _ _ _ _ _ ?_
  refine ⟨g1, g2, g3, ?_⟩
  refine hJ.2 _ _ _ _ _ _ _ _ ?_ (h I hI Inv (fun _ z => z))
  rintro r I1 ⟨v, rfl, h2⟩
  refine ⟨g1, g2, g3, ?_⟩
  refine hJ.2 _ _ _ _ _ _ _ _ ?_ h2
  rintro r I2 ⟨rfl, h3⟩
  refine ⟨fun _ => ?_, fun hne => absurd rfl hne⟩
  exact K I2 h3
theorem law_c46 (hJ : am_Cl am_meth L xs J) (hI : Inv I) (g1 : vp_in (i + 1) L) (g2 : vp_in (i + 2) L) (h : am_same Inv J q_X_taken q_M_taken [.int (xs (i + 1).toNatClampNeg), .int (xs (i + 2).toNatClampNeg)]) (K : ∀ I', Inv I' → J 41 q_L_law 1782 (am_lw i) [] I' Q) : J 41 q_L_law 1634 (am_lw i) [] I Q := by
  refine am_vc hJ 25 _ _ _ _ _ _ _ ?_
  refine ⟨g1, g2, ?_⟩
  refine hJ.2 _ _ _ _ _ _ _ _ ?_ (h I hI Inv (fun _ z => z))
  rintro r I1 ⟨v, rfl, h2⟩
  refine ⟨g1, g2, ?_⟩
  refine hJ.2 _ _ _ _ _ _ _ _ ?_ h2
  rintro r I2 ⟨rfl, h3⟩
  refine ⟨fun _ => ?_, fun hne => absurd rfl hne⟩
  exact K I2 h3
theorem law_c47 (hJ : am_Cl am_meth L xs J) (hI : Inv I) (g1 : vp_in (i + 1) L) (g2 : vp_in (i + 2) L) (g3 : vp_in (i + 3) L) (h : am_same Inv J q_X_act q_M_act [.int (xs (i + 1).toNatClampNeg), .int (xs (i + 2).toNatClampNeg), .int (xs (i + 3).toNatClampNeg)]) (K : ∀ I', Inv I' → J 41 q_L_law 1782 (am_lw i) [] I' Q) : J 41 q_L_law 1667 (am_lw i) [] I Q := by
  refine am_vc hJ 35 _ _ _ _ _ _ _ ?_
  refine ⟨g1, g2, g3, ?_⟩
  refine hJ.2 _ _ _ _ _ _ _ _ ?_ (h I hI Inv (fun _ z => z))
  rintro r I1 ⟨v, rfl, h2⟩
  refine ⟨g1, g2, g3, ?_⟩
  refine hJ.2 _ _ _ _ _ _ _ _ ?_ h2
  rintro r I2 ⟨rfl, h3⟩
  refine ⟨fun _ => ?_, fun hne => absurd rfl hne⟩
  exact K I2 h3
theorem law_c48 (hJ : am_Cl am_meth L xs J) (hI : Inv I) (g1 : vp_in (i + 1) L) (h : am_same Inv J q_X_trace q_M_trace [.int (xs (i + 1).toNatClampNeg)]) (K : ∀ I', Inv I' → J 41 q_L_law 1782 (am_lw i) [] I' Q) : J 41 q_L_law 1710 (am_lw i) [] I Q := by
  refine am_vc hJ 15 _ _ _ _ _ _ _ ?_
  refine ⟨g1, ?_⟩
  refine hJ.2 _ _ _ _ _ _ _ _ ?_ (h I hI Inv (fun _ z => z))
  rintro r I1 ⟨v, rfl, h2⟩
  refine ⟨g1, ?_⟩
  refine hJ.2 _ _ _ _ _ _ _ _ ?_ h2
  rintro r I2 ⟨rfl, h3⟩
  refine ⟨fun _ => ?_, fun hne => absurd rfl hne⟩
  exact K I2 h3
theorem law_c49 (hJ : am_Cl am_meth L xs J) (hI : Inv I) (g1 : vp_in (i + 1) L) (h : am_same Inv J q_X_many q_M_many [.int (xs (i + 1).toNatClampNeg)]) (K : ∀ I', Inv I' → J 41 q_L_law 1782 (am_lw i) [] I' Q) : J 41 q_L_law 1733 (am_lw i) [] I Q := by
  refine am_vc hJ 15 _ _ _ _ _ _ _ ?_
  refine ⟨g1, ?_⟩
  refine hJ.2 _ _ _ _ _ _ _ _ ?_ (h I hI Inv (fun _ z => z))
  rintro r I1 ⟨v, rfl, h2⟩
  refine ⟨g1, ?_⟩
  refine hJ.2 _ _ _ _ _ _ _ _ ?_ h2
  rintro r I2 ⟨rfl, h3⟩
  refine ⟨fun _ => ?_, fun hne => absurd rfl hne⟩
  exact K I2 h3
theorem law_c50 (hJ : am_Cl am_meth L xs J) (hI : Inv I)  (h : am_same Inv J q_X_keep q_M_keep []) (K : ∀ I', Inv I' → J 41 q_L_law 1782 (am_lw i) [] I' Q) : J 41 q_L_law 1756 (am_lw i) [] I Q := by
  refine am_vc hJ 5 _ _ _ _ _ _ _ ?_
  refine hJ.2 _ _ _ _ _ _ _ _ ?_ (h I hI Inv (fun _ z => z))
  rintro r I1 ⟨v, rfl, h2⟩
  refine hJ.2 _ _ _ _ _ _ _ _ ?_ h2
  rintro r I2 ⟨rfl, h3⟩
  refine ⟨fun _ => ?_, fun hne => absurd rfl hne⟩
  exact K I2 h3
theorem law_c51 (hJ : am_Cl am_meth L xs J) (hI : Inv I)  (h : am_same Inv J q_X_again q_M_again []) (K : ∀ I', Inv I' → J 41 q_L_law 1782 (am_lw i) [] I' Q) : J 41 q_L_law 1769 (am_lw i) [] I Q := by
  refine am_vc hJ 5 _ _ _ _ _ _ _ ?_
  refine hJ.2 _ _ _ _ _ _ _ _ ?_ (h I hI Inv (fun _ z => z))
  rintro r I1 ⟨v, rfl, h2⟩
  refine hJ.2 _ _ _ _ _ _ _ _ ?_ h2
  rintro r I2 ⟨rfl, h3⟩
  refine ⟨fun _ => ?_, fun hne => absurd rfl hne⟩
  exact K I2 h3
/-- what is owed of the 52 calls -/
def am_Ops (Inv : am_I → Prop) (J : am_J) : Prop :=
  (∀ (a b c e : Int32), am_same Inv J q_X_person q_M_person [.int a, .int b, .int c, .int e]) ∧
  (∀ (a b : Int32), am_same Inv J q_X_personOf q_M_personOf [.int a, .int b]) ∧
  (∀ (a b c : Int32), am_same Inv J q_X_change q_M_change [.int a, .int b, .int c]) ∧
  (∀ (a b : Int32), am_same Inv J q_X_remake q_M_remake [.int a, .int b]) ∧
  (∀ (a b : Int32), am_same Inv J q_X_weather q_M_weather [.int a, .int b]) ∧
  (∀ (a b c : Int32), am_same Inv J q_X_gate q_M_gate [.int a, .int b, .int c]) ∧
  (∀ (a b : Int32), am_same Inv J q_X_gateOf q_M_gateOf [.int a, .int b]) ∧
  (∀ (a b : Int32), am_same Inv J q_X_house q_M_house [.int a, .int b]) ∧
  (∀ (a : Int32), am_same Inv J q_X_ends q_M_ends [.int a]) ∧
  am_same Inv J q_X_anew q_M_anew [] ∧
  (∀ (a : Int32), am_same Inv J q_X_state q_M_state [.int a]) ∧
  (∀ (a : Int64) (b : Int32), am_same Inv J q_X_feed q_M_feed [.long a, .int b]) ∧
  am_same Inv J q_X_rules q_M_rules [] ∧
  am_same Inv J q_X_day q_M_day [] ∧
  (∀ (a : Int32), am_same Inv J q_X_on q_M_on [.int a]) ∧
  (∀ (a : Int32), am_same Inv J q_X_when q_M_when [.int a]) ∧
  (∀ (a : Int32), am_same Inv J q_X_taleFor q_M_taleFor [.int a]) ∧
  (∀ (a : Int32), am_same Inv J q_X_gateFor q_M_gateFor [.int a]) ∧
  (∀ (a : Int32), am_same Inv J q_X_bakery q_M_bakery [.int a]) ∧
  (∀ (a : Int32), am_same Inv J q_X_winter q_M_winter [.int a]) ∧
  (∀ (a : Int32), am_same Inv J q_X_tables q_M_tables [.int a]) ∧
  (∀ (a b : Int32), am_same Inv J q_X_rounds q_M_rounds [.int a, .int b]) ∧
  (∀ (a : Int32), am_same Inv J q_X_best q_M_best [.int a]) ∧
  (∀ (a b : Int32), am_same Inv J q_X_ith q_M_ith [.int a, .int b]) ∧
  (∀ (a : Int32), am_same Inv J q_X_ways q_M_ways [.int a]) ∧
  (∀ (a b : Int32), am_same Inv J q_X_feast q_M_feast [.int a, .int b]) ∧
  (∀ (a b : Int32), am_same Inv J q_X_bars q_M_bars [.int a, .int b]) ∧
  (∀ (a : Int32), am_same Inv J q_X_game q_M_game [.int a]) ∧
  (∀ (a : Int32), am_same Inv J q_X_play q_M_play [.int a]) ∧
  (∀ (a b c e : Int32), am_same Inv J q_X_report q_M_report [.int a, .int b, .int c, .int e]) ∧
  am_same Inv J q_X_forget q_M_forget [] ∧
  (∀ (a : Int32), am_same Inv J q_X_tales q_M_tales [.int a]) ∧
  am_same Inv J q_X_liar q_M_liar [] ∧
  (∀ (a : Int32), am_same Inv J q_X_seed q_M_seed [.int a]) ∧
  am_same Inv J q_X_lot q_M_lot [] ∧
  (∀ (a b : Int32), am_same Inv J q_X_times q_M_times [.int a, .int b]) ∧
  (∀ (a : Int32), am_same Inv J q_X_prove q_M_prove [.int a]) ∧
  (∀ (a b : Int32), am_same Inv J q_X_row q_M_row [.int a, .int b]) ∧
  (∀ (a b c : Int32), am_same Inv J q_X_alterRow q_M_alterRow [.int a, .int b, .int c]) ∧
  am_same Inv J q_X_judge q_M_judge [] ∧
  (∀ (a b c : Int32), am_same Inv J q_X_sheet q_M_sheet [.int a, .int b, .int c]) ∧
  (∀ (a b c : Int32), am_same Inv J q_X_write q_M_write [.int a, .int b, .int c]) ∧
  (∀ (a b c : Int32), am_same Inv J q_X_item q_M_item [.int a, .int b, .int c]) ∧
  (∀ (a b c : Int32), am_same Inv J q_X_goAll q_M_goAll [.int a, .int b, .int c]) ∧
  (∀ (a b c : Int32), am_same Inv J q_X_wouldBe q_M_wouldBe [.int a, .int b, .int c]) ∧
  (∀ (a b c : Int32), am_same Inv J q_X_shelf q_M_shelf [.int a, .int b, .int c]) ∧
  (∀ (a b : Int32), am_same Inv J q_X_taken q_M_taken [.int a, .int b]) ∧
  (∀ (a b c : Int32), am_same Inv J q_X_act q_M_act [.int a, .int b, .int c]) ∧
  (∀ (a : Int32), am_same Inv J q_X_trace q_M_trace [.int a]) ∧
  (∀ (a : Int32), am_same Inv J q_X_many q_M_many [.int a]) ∧
  am_same Inv J q_X_keep q_M_keep [] ∧
  am_same Inv J q_X_again q_M_again []
theorem am_idx {j L k : Nat} (h : j + k < L) (hL : L ≤ 2560) : vp_in (nI j + nI k) L := by
  rw [nI_add]
  exact vp_in_nI h (by omega)
theorem law_loop (hJ : am_Cl am_meth L xs J) (hL : L ≤ 2560) (hops : am_Ops Inv J) (hQ : ∀ I, Q (some (.int 1)) I) : ∀ (n j : Nat) (I : am_I), Inv I → j ≤ L + 5 → L + 5 - j < n → J 41 q_L_law 18 (am_lw (nI j)) [] I Q
  | 0, j, I, hI, hj, hn => by omega
  | n + 1, j, I, hI, hj, hn => by
    obtain ⟨o0, o1, o2, o3, o4, o5, o6, o7, o8, o9, o10, o11, o12, o13, o14, o15, o16, o17, o18, o19, o20, o21, o22, o23, o24, o25, o26, o27, o28, o29, o30, o31, o32, o33, o34, o35, o36, o37, o38, o39, o40, o41, o42, o43, o44, o45, o46, o47, o48, o49, o50, o51⟩ := hops
    have K : ∀ I', Inv I' → j + 5 ≤ L → J 41 q_L_law 1782 (am_lw (nI j)) [] I' Q := by
      intro I' hI' hjl
      refine am_vc hJ 2 _ _ _ _ _ _ _ ?_
      have e : nI j + 5 = nI (j + 5) := nI_add j 5
      show J 41 q_L_law 18 (am_lw (nI j + 5)) [] I' Q
      rw [e]
      exact law_loop hJ hL ⟨o0, o1, o2, o3, o4, o5, o6, o7, o8, o9, o10, o11, o12, o13, o14, o15, o16, o17, o18, o19, o20, o21, o22, o23, o24, o25, o26, o27, o28, o29, o30, o31, o32, o33, o34, o35, o36, o37, o38, o39, o40, o41, o42, o43, o44, o45, o46, o47, o48, o49, o50, o51⟩ hQ n (j + 5) I' hI' (by omega) (by omega)
    refine am_vc hJ 12 _ _ _ _ _ _ _ ?_
    refine ⟨fun _ => ?_, fun h1 => ?_⟩
    · exact ⟨Or.inr rfl, hQ I⟩
    · have hjl : j + 5 ≤ L := by
        by_cases h5 : 5 ≤ L
        · have e : nI L - 5 = nI (L - 5) := pk_sub (a := L) (b := 5) h5
          have h1' : ¬ nI (L - 5) < nI j := by rw [← e]; exact h1
          rw [nI_ltI (by omega) (by omega)] at h1'
          omega
        · exfalso
          apply h1
          have hs : nI L - nI 5 < 0 := pk_sneg (by omega) (by omega)
          have h0 : 0 ≤ nI j := nI_pos' (by omega)
          show nI L - 5 < nI j
          rw [Int32.lt_iff_toInt_lt] at hs ⊢
          rw [Int32.le_iff_toInt_le] at h0
          have e0 : (0 : Int32).toInt = 0 := rfl
          rw [e0] at hs h0
          exact Int.lt_of_lt_of_le hs h0
      have g0 : vp_in (nI j) L := vp_in_nI (by omega) (by omega)
      have g1 : vp_in (nI j + 1) L := am_idx (k := 1) (by omega) hL
      have g2 : vp_in (nI j + 2) L := am_idx (k := 2) (by omega) hL
      have g3 : vp_in (nI j + 3) L := am_idx (k := 3) (by omega) hL
      have g4 : vp_in (nI j + 4) L := am_idx (k := 4) (by omega) hL
      refine ⟨g0, ?_⟩
      refine ⟨fun _ => law_c0 hJ hI g1 g2 g3 g4 (o0 _ _ _ _) (fun I' q => K I' q hjl), fun _ => ?_⟩
      refine ⟨fun _ => law_c1 hJ hI g1 g2 (o1 _ _) (fun I' q => K I' q hjl), fun _ => ?_⟩
      refine ⟨fun _ => law_c2 hJ hI g1 g2 g3 (o2 _ _ _) (fun I' q => K I' q hjl), fun _ => ?_⟩
      refine ⟨fun _ => law_c3 hJ hI g1 g2 (o3 _ _) (fun I' q => K I' q hjl), fun _ => ?_⟩
      refine ⟨fun _ => law_c4 hJ hI g1 g2 (o4 _ _) (fun I' q => K I' q hjl), fun _ => ?_⟩
      refine ⟨fun _ => law_c5 hJ hI g1 g2 g3 (o5 _ _ _) (fun I' q => K I' q hjl), fun _ => ?_⟩
      refine ⟨fun _ => law_c6 hJ hI g1 g2 (o6 _ _) (fun I' q => K I' q hjl), fun _ => ?_⟩
      refine ⟨fun _ => law_c7 hJ hI g1 g2 (o7 _ _) (fun I' q => K I' q hjl), fun _ => ?_⟩
      refine ⟨fun _ => law_c8 hJ hI g1 (o8 _) (fun I' q => K I' q hjl), fun _ => ?_⟩
      refine ⟨fun _ => law_c9 hJ hI (o9) (fun I' q => K I' q hjl), fun _ => ?_⟩
      refine ⟨fun _ => law_c10 hJ hI g1 (o10 _) (fun I' q => K I' q hjl), fun _ => ?_⟩
      refine ⟨fun _ => law_c11 hJ hI g1 g2 g3 (o11 _ _) (fun I' q => K I' q hjl), fun _ => ?_⟩
      refine ⟨fun _ => law_c12 hJ hI (o12) (fun I' q => K I' q hjl), fun _ => ?_⟩
      refine ⟨fun _ => law_c13 hJ hI (o13) (fun I' q => K I' q hjl), fun _ => ?_⟩
      refine ⟨fun _ => law_c14 hJ hI g1 (o14 _) (fun I' q => K I' q hjl), fun _ => ?_⟩
      refine ⟨fun _ => law_c15 hJ hI g1 (o15 _) (fun I' q => K I' q hjl), fun _ => ?_⟩
      refine ⟨fun _ => law_c16 hJ hI g1 (o16 _) (fun I' q => K I' q hjl), fun _ => ?_⟩
      refine ⟨fun _ => law_c17 hJ hI g1 (o17 _) (fun I' q => K I' q hjl), fun _ => ?_⟩
      refine ⟨fun _ => law_c18 hJ hI g1 (o18 _) (fun I' q => K I' q hjl), fun _ => ?_⟩
      refine ⟨fun _ => law_c19 hJ hI g1 (o19 _) (fun I' q => K I' q hjl), fun _ => ?_⟩
      refine ⟨fun _ => law_c20 hJ hI g1 (o20 _) (fun I' q => K I' q hjl), fun _ => ?_⟩
      refine ⟨fun _ => law_c21 hJ hI g1 g2 (o21 _ _) (fun I' q => K I' q hjl), fun _ => ?_⟩
      refine ⟨fun _ => law_c22 hJ hI g1 (o22 _) (fun I' q => K I' q hjl), fun _ => ?_⟩
      refine ⟨fun _ => law_c23 hJ hI g1 g2 (o23 _ _) (fun I' q => K I' q hjl), fun _ => ?_⟩
      refine ⟨fun _ => law_c24 hJ hI g1 (o24 _) (fun I' q => K I' q hjl), fun _ => ?_⟩
      refine ⟨fun _ => law_c25 hJ hI g1 g2 (o25 _ _) (fun I' q => K I' q hjl), fun _ => ?_⟩
      refine ⟨fun _ => law_c26 hJ hI g1 g2 (o26 _ _) (fun I' q => K I' q hjl), fun _ => ?_⟩
      refine ⟨fun _ => law_c27 hJ hI g1 (o27 _) (fun I' q => K I' q hjl), fun _ => ?_⟩
      refine ⟨fun _ => law_c28 hJ hI g1 (o28 _) (fun I' q => K I' q hjl), fun _ => ?_⟩
      refine ⟨fun _ => law_c29 hJ hI g1 g2 g3 g4 (o29 _ _ _ _) (fun I' q => K I' q hjl), fun _ => ?_⟩
      refine ⟨fun _ => law_c30 hJ hI (o30) (fun I' q => K I' q hjl), fun _ => ?_⟩
      refine ⟨fun _ => law_c31 hJ hI g1 (o31 _) (fun I' q => K I' q hjl), fun _ => ?_⟩
      refine ⟨fun _ => law_c32 hJ hI (o32) (fun I' q => K I' q hjl), fun _ => ?_⟩
      refine ⟨fun _ => law_c33 hJ hI g1 (o33 _) (fun I' q => K I' q hjl), fun _ => ?_⟩
      refine ⟨fun _ => law_c34 hJ hI (o34) (fun I' q => K I' q hjl), fun _ => ?_⟩
      refine ⟨fun _ => law_c35 hJ hI g1 g2 (o35 _ _) (fun I' q => K I' q hjl), fun _ => ?_⟩
      refine ⟨fun _ => law_c36 hJ hI g1 (o36 _) (fun I' q => K I' q hjl), fun _ => ?_⟩
      refine ⟨fun _ => law_c37 hJ hI g1 g2 (o37 _ _) (fun I' q => K I' q hjl), fun _ => ?_⟩
      refine ⟨fun _ => law_c38 hJ hI g1 g2 g3 (o38 _ _ _) (fun I' q => K I' q hjl), fun _ => ?_⟩
      refine ⟨fun _ => law_c39 hJ hI (o39) (fun I' q => K I' q hjl), fun _ => ?_⟩
      refine ⟨fun _ => law_c40 hJ hI g1 g2 g3 (o40 _ _ _) (fun I' q => K I' q hjl), fun _ => ?_⟩
      refine ⟨fun _ => law_c41 hJ hI g1 g2 g3 (o41 _ _ _) (fun I' q => K I' q hjl), fun _ => ?_⟩
      refine ⟨fun _ => law_c42 hJ hI g1 g2 g3 (o42 _ _ _) (fun I' q => K I' q hjl), fun _ => ?_⟩
      refine ⟨fun _ => law_c43 hJ hI g1 g2 g3 (o43 _ _ _) (fun I' q => K I' q hjl), fun _ => ?_⟩
      refine ⟨fun _ => law_c44 hJ hI g1 g2 g3 (o44 _ _ _) (fun I' q => K I' q hjl), fun _ => ?_⟩
      refine ⟨fun _ => law_c45 hJ hI g1 g2 g3 (o45 _ _ _) (fun I' q => K I' q hjl), fun _ => ?_⟩
      refine ⟨fun _ => law_c46 hJ hI g1 g2 (o46 _ _) (fun I' q => K I' q hjl), fun _ => ?_⟩
      refine ⟨fun _ => law_c47 hJ hI g1 g2 g3 (o47 _ _ _) (fun I' q => K I' q hjl), fun _ => ?_⟩
      refine ⟨fun _ => law_c48 hJ hI g1 (o48 _) (fun I' q => K I' q hjl), fun _ => ?_⟩
      refine ⟨fun _ => law_c49 hJ hI g1 (o49 _) (fun I' q => K I' q hjl), fun _ => ?_⟩
      refine ⟨fun _ => law_c50 hJ hI (o50) (fun I' q => K I' q hjl), fun _ => ?_⟩
      refine ⟨fun _ => law_c51 hJ hI (o51) (fun I' q => K I' q hjl), fun _ => ?_⟩
      exact K I hI hjl
end
