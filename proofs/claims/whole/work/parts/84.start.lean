/-! the law's first steps: both objects are made -/
def cm_cl (b : Nat) (S : cm_S) : Option cm_S := match Nat.beq b 12 with
  | true => match @decide (S = cm_Q0) (cm_dS S cm_Q0) with
    | true => some cm_Q14
    | false => none
  | false => cm_go 4 b S
theorem cm_Q_run : cm_Rl (cm_go 3) cm_m12 68 [(264, 2000, cm_Q1), (480, 2000, cm_Q2), (696, 2000, cm_Q3), (928, 2000, cm_Q4), (1143, 40, cm_Q5), (1143, 40, cm_Q6), (1143, 40, cm_Q7), (1143, 40, cm_Q8), (1143, 40, cm_Q9), (1143, 40, cm_Q10), (1143, 40, cm_Q11), (1143, 40, cm_Q12), (1143, 40, cm_Q13), (1143, 2000, cm_Q14)] cm_Q0 cm_Q14 := ⟨cm_Q1_ok, Nat.le_of_ble_eq_true rfl, cm_Q2_ok, Nat.le_of_ble_eq_true rfl, cm_Q3_ok, Nat.le_of_ble_eq_true rfl, cm_Q4_ok, Nat.le_of_ble_eq_true rfl, cm_Q5_ok, Nat.le_of_ble_eq_true rfl, cm_Q6_ok, Nat.le_of_ble_eq_true rfl, cm_Q7_ok, Nat.le_of_ble_eq_true rfl, cm_Q8_ok, Nat.le_of_ble_eq_true rfl, cm_Q9_ok, Nat.le_of_ble_eq_true rfl, cm_Q10_ok, Nat.le_of_ble_eq_true rfl, cm_Q11_ok, Nat.le_of_ble_eq_true rfl, cm_Q12_ok, Nat.le_of_ble_eq_true rfl, cm_Q13_ok, Nat.le_of_ble_eq_true rfl, cm_Q14_ok, Nat.le_of_ble_eq_true rfl, rfl⟩
theorem cm_cl_ok {l : Launch} {D : va_G} {cA : FieldType → ClassId} (hmna : cm_MnaOk) : cm_CallOk l D cA 4 cm_cl := by
  intro b M av lv C nx pc' lv' C' nx' k' n' hM ha h
  unfold cm_cl at h
  split at h
  · next e =>
    have hb := Nat.eq_of_beq_eq_true e
    subst hb
    split at h
    · next e2 =>
      have e3 := @of_decide_eq_true _ (cm_dS _ cm_Q0) e2
      have hM' : M = cm_m12 := (Option.some.inj (hM.symm.trans (rfl : am_nth cm_mt 12 = some cm_m12)))
      subst hM'
      obtain ⟨o1, o2⟩ := cm_mt_ok hM
      have hr := cm_Q_run
      rw [Option.some.inj h, ← e3] at hr
      have h4 : cm_Q14 = (pc', lv', [], C', nx', k', n') := Option.some.inj h
      have hpc : pc' = cm_m12.2.2.1 := by
        have := congrArg (fun S : cm_S => S.1) h4
        exact this.symm
      have hnx : nx = 68 := congrArg (fun S : cm_S => S.2.2.2.2.1) e3
      have hk : k' = 20 := (congrArg (fun S : cm_S => S.2.2.2.2.2.1) h4).symm
      have hn : n' = 2114 := (congrArg (fun S : cm_S => S.2.2.2.2.2.2) h4).symm
      have hlv : lv = [(0, .ref 67)] := congrArg (fun S : cm_S => S.2.1) e3
      subst hpc; subst hnx; subst hk; subst hn
      exact cm_met hmna (cm_go_ok hmna 3) o1 o2 ha (by rw [cm_args_ln ha, hlv]; decide) hr (Nat.le_refl _) (Nat.le_refl _)
    · cases h
  · exact cm_go_ok hmna 4 b M av lv C nx pc' lv' C' nx' k' n' hM ha h
def cm_S8 : cm_S := (8, [(1, .ref 1), (0, .ref 0)], [], [], 67, 66, 1735)
def cm_S18 : cm_S := (18, [(3, .int 0), (2, .ref 67), (1, .ref 1), (0, .ref 0)], [], cm_Q14.2.2.2.1, 88, 87, 3888)
set_option maxRecDepth 100000 in
theorem cm_T_ok : cm_lp cm_cl (cm_msp cm_m14 18) 2000 cm_S8 = some cm_S18 := cm_beq_eq (by decide +kernel)
set_option maxRecDepth 100000 in
theorem cm_B_nc : cm_nc 67 cm_B = true := by decide +kernel
set_option maxHeartbeats 4000000 in
theorem cm_start {l : Launch} {D : va_G} {cA : FieldType → ClassId} {A : Nat → Prop} {p : Program} {e : Env} {R : Room} {s : State} {m : MethodId} {args : Array Value} {below : List Frame} {meth : Method} {c : Code} {Z : State → Prop} (hmna : cm_MnaOk) (hC : cm_Cx D cA A cm_m14.2.1 87 3888 p R s m args meth c) (hN : cm_N s) (hRd : 5 ≤ R.frames ∧ 64 * 5 ≤ R.locals) {b : Nat} {ls : Array Slot} (hl : lv_has ls 4 [(0, .ref b)])
    (K : ∀ (ad : Nat → Nat) (H : Heap) (locs : List Loc) (ls : Array Slot), ad 0 = b → va_P D vwCl (cm_w cA ad (cm_B ++ cm_Q14.2.2.2.1)) H → va_D A (cm_w cA ad (cm_B ++ cm_Q14.2.2.2.1)) → va_S A s.heap H locs → lv_has ls 4 [(3, .int 0), (2, .ref (ad 67)), (1, .ref (ad 1)), (0, .ref b)] → W p l e R s m args below meth c H locs 87 3888 Z (F0 m 18 ls [])) : W p l e R s m args below meth c s.heap [] 0 0 Z (F0 m 0 ls []) := by
  have hMc : cm_m14.1.cls = cm_m14.2.1.1 := rfl
  refine cm_Rl_sound (M := cm_m14) (wr := []) (n0 := 1) (ad0 := fun _ => b) (d := 4) hmna (cm_go_ok hmna 4) hC cm_okM_law hMc hN hRd [(8, 2000, (8, [(1, .ref 1), (0, .ref 0)], [], cm_B, 67, 66, 1735))] cm_S0 _ ⟨cm_B_ok, Nat.le_of_ble_eq_true rfl, rfl⟩ (Nat.le_refl _) ?_ (fun _ => b) s.heap [] ls (fun _ _ => rfl) ⟨fun k q hq => (by cases hq), ⟨fun i j x y hx => (by cases hx), fun k q hq => (by cases hq)⟩, va_S.rf, hl⟩
  intro ad H locs ls1 hag hI
  obtain ⟨hP, hD, hS, hl1⟩ := hI
  have e1 : ([] : va_W) ++ cm_w cA ad cm_B = cm_w cA ad cm_B ++ cm_w cA ad [] := by
    rw [show cm_w cA ad ([] : cm_C) = [] from rfl, List.append_nil, List.nil_append]
  dsimp only at hP hD hl1
  rw [e1] at hP hD
  refine cm_Rl_sound (M := cm_m14) (wr := cm_w cA ad cm_B) (n0 := 67) (ad0 := ad) (d := 4) hmna (cm_cl_ok hmna) hC cm_okM_law hMc hN hRd [(18, 2000, cm_S18)] cm_S8 cm_S18 ⟨cm_T_ok, Nat.le_of_ble_eq_true rfl, rfl⟩ (Nat.le_refl _) ?_ ad H locs ls1 (fun _ _ => rfl) ⟨hP, hD, hS, hl1⟩
  intro ad' H' locs' ls2 hag' hI'
  obtain ⟨hP', hD', hS', hl2⟩ := hI'
  have e2 : cm_w cA ad cm_B ++ cm_w cA ad' cm_Q14.2.2.2.1 = cm_w cA ad' (cm_B ++ cm_Q14.2.2.2.1) := by
    rw [← cm_ag_c hag' cm_B_nc]
    unfold cm_w
    rw [List.map_append]
  have hb : ad' 0 = b := (hag' 0 (by decide)).trans (hag 0 (by decide))
  have hP2 : va_P D vwCl (cm_w cA ad cm_B ++ cm_w cA ad' cm_Q14.2.2.2.1) H' := hP'
  have hD2 : va_D A (cm_w cA ad cm_B ++ cm_w cA ad' cm_Q14.2.2.2.1) := hD'
  rw [e2] at hP2 hD2
  have hl3 : lv_has ls2 4 [(3, .int 0), (2, .ref (ad' 67)), (1, .ref (ad' 1)), (0, .ref (ad' 0))] := hl2
  rw [hb] at hl3
  exact K ad' H' locs' ls2 hb hP2 hD2 hS' hl3
