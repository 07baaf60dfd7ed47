section
variable {D : va_G} {cA : FieldType → ClassId} {wr : va_W} {A : Nat → Prop} {T : cm_T} {p : Program} {l : Launch} {e : Env} {R : Room} {s : State} {m : MethodId} {args : Array Value} {below : List Frame} {meth : Method} {c : Code} {Z : State → Prop} {n0 : Nat} {ad0 : Nat → Nat} {Kc Ks : Nat}
theorem cm_up_ag {ad : Nat → Nat} {nx q : Nat} : cm_ag nx ad (va_up ad nx q) := fun i hi => by unfold va_up; rw [if_neg (by omega)]
theorem cm_up_at {ad : Nat → Nat} {nx q : Nat} : va_up ad nx q nx = q := by unfold va_up; rw [if_pos rfl]
/-- a new cell at the end -/
theorem cm_grow {ad : Nat → Nat} {pc : Nat} {lv : cm_L} {st : List Value} {C : cm_C} {nx k n q : Nat} {H : Heap} {locs : List Loc} {ls : Array Slot} {ce : cm_E} {x : va_E} (hn : n0 ≤ nx) (hag : cm_ag n0 ad0 ad) (hfr : cm_fresh nx lv st C = true) (hx : x = cm_e cA (va_up ad nx q) ce)
    (K : cm_G D cA wr A T p l e R s m args below meth c Z n0 ad0 (pc, lv, .ref nx :: st, C ++ [(nx, ce)], nx + 1, k, n)) (hP : va_P D vwCl ((wr ++ cm_w cA ad C) ++ [(q, x)]) H) (hD : va_D A ((wr ++ cm_w cA ad C) ++ [(q, x)])) (hS : va_S A s.heap H locs) (hl : lv_has ls T.2.2.1 (cm_ul ad lv)) :
    W p l e R s m args below meth c H locs k n Z (F0 m pc ls (.ref q :: st.map (am_up ad))) := by
  unfold cm_fresh at hfr
  rw [Bool.and_eq_true, Bool.and_eq_true] at hfr
  have ag := cm_up_ag (ad := ad) (nx := nx) (q := q)
  have e1 : (wr ++ cm_w cA ad C) ++ [(q, x)] = wr ++ cm_w cA (va_up ad nx q) (C ++ [(nx, ce)]) := by
    rw [← cm_ag_c ag hfr.2.2]
    exact cm_w_app cm_up_at.symm hx
  rw [e1] at hP hD
  have h := K (va_up ad nx q) H locs ls (fun i hi => by rw [ag i (by omega)]; exact hag i hi) ⟨hP, hD, hS, by rw [cm_ag_u ag hfr.1]; exact hl⟩
  have e2 : (Value.ref nx :: st).map (am_up (va_up ad nx q)) = .ref q :: st.map (am_up ad) := by
    rw [List.map_cons, (cm_ag_l ag hfr.2.1).1]
    show Value.ref (va_up ad nx q nx) :: _ = _
    rw [cm_up_at]
  dsimp only at h
  rw [e2] at h
  exact h
theorem cm_df_up (ad : Nat → Nat) (ci : Nat) : (cm_df ci).map (am_up ad) = cm_df ci := by
  unfold cm_df
  rw [List.map_map]
  refine List.map_congr_left fun k _ => ?_
  show am_up ad (cm_dv (am_ft ci k)) = cm_dv (am_ft ci k)
  unfold cm_dv
  split <;> rfl
theorem cm_aast {cc : ByteArray} {H : Heap} {locs : List Loc} {ad : Nat → Nat} {C : cm_C} {pc k n o v q q2 N ci : Nat} {z : Int32} {ls : Array Slot} {rest : List Value} {ty : FieldType} {l' fs2 : List Value} (hx : p.tables.exec = Jvm.exec) (hb : c.code = cc) (hK : va_K D vwCl (am_tys cA) s) (hP : va_P D vwCl (wr ++ cm_w cA ad C) H) (hD : va_D A (wr ++ cm_w cA ad C)) (hS : va_S A s.heap H locs) (hX : cm_X s) (hw2 : (decide (ty = .object RX4 ∧ ci ∈ cm_cs) || decide (ty = .object RX1 ∧ ci = 1)) = true) (hf : cm_fd C o = some (q, .inl (ty, N, l'))) (hg : cm_fd C v = some (q2, .inr (ci, fs2))) (p3 : vp_in z N) (hN : N = l'.length) (hd : decode cc pc = .ok (.aastore, 1))
    (kk : ∀ (H1 : Heap) (locs1 : List Loc), va_P D vwCl (wr ++ cm_w cA ad (C.set q (o, .inl (ty, N, l'.set z.toNatClampNeg (.ref v))))) H1 → va_D A (wr ++ cm_w cA ad (C.set q (o, .inl (ty, N, l'.set z.toNatClampNeg (.ref v))))) → va_S A s.heap H1 locs1 → W p l e R s m args below meth c H1 locs1 k n Z (F0 m (pc + 1) ls rest)) : W p l e R s m args below meth c H locs k n Z (F0 m pc ls (.ref (ad v) :: .int z :: .ref (ad o) :: rest)) := by
  have hlt : z.toNatClampNeg < N := Nat.not_le.mp fun q => p3 (Or.inr q)
  have h0 : ¬ z < 0 := fun q => p3 (Or.inl q)
  have hty : ∃ E, ty = .object E ∧ ty ∈ am_tl ∧ (∃ (cE : Nat) (qE : vw_C), vwCl[cE]? = some qE ∧ qE.1 = E) ∧ ∀ qc : vw_C, vwCl[ci]? = some qc → (qc.1 = E ∨ va_Nw (.castable qc.1 E) s) := by
    rw [Bool.or_eq_true, decide_eq_true_eq, decide_eq_true_eq] at hw2
    rcases hw2 with ⟨rfl, h⟩ | ⟨rfl, rfl⟩
    · refine ⟨RX4, rfl, by decide, ⟨4, _, rfl, rfl⟩, fun qc hqc => ?_⟩
      rcases List.mem_cons.mp h with rfl | h
      · cases hqc; exact Or.inl rfl
      · exact Or.inr (hX.2.2.1 ci h qc hqc)
    · exact ⟨RX1, rfl, by decide, ⟨1, _, rfl, rfl⟩, fun qc hqc => by cases hqc; exact Or.inl rfl⟩
  obtain ⟨E, rfl, htl, ⟨cE, qE, hqE, hqE1⟩, hcast⟩ := hty
  obtain ⟨t0, ht0⟩ := cm_tl_at (cA := cA) htl
  obtain ⟨qc, hqc, cellV, g1, g2, g3, -⟩ := hP _ _ (cm_w_at hg)
  obtain ⟨kA, comp, k1, k2, k3, -⟩ := (hK.2 t0 _ ht0).2
  have hcls := (hK.1 ci qc hqc).2
  obtain ⟨kC, hkC, hkk⟩ := hcls.2
  have hassign : s.vm.assignable (D.1 ci) comp = true ∧ ∃ kc, s.vm.classes[comp]? = some kc := by
    rcases hcast qc hqc with h | h
    · subst h
      have := Option.some.inj (k3.symm.trans hcls.1)
      subst this
      exact ⟨va_assign hcls, kC, hkC⟩
    · obtain ⟨c0, t0, f1, f2, f3⟩ := Cond.castable_spec (va_Nw.use (A := args) rfl h)
      have e1 := Option.some.inj (hcls.1.symm.trans f1)
      have e2 := Option.some.inj (k3.symm.trans f2)
      have hE := (hK.1 cE qE hqE).2
      rw [hqE1] at hE
      have e3 := Option.some.inj (k3.symm.trans hE.1)
      obtain ⟨kc, hkc, -⟩ := hE.2
      exact ⟨by rw [e1, e2]; exact f3, kc, by rw [e3]; exact hkc⟩
  obtain ⟨hasg, kc, hkc⟩ := hassign
  refine W.aast hx hb (hP _ _ (cm_w_at hf)) (fun q h => by cases h) (fun h => by cases h) k1 k2 rfl hkc ⟨h0, by show _ < (arrV _ _ _).slots.size; rw [arrV_size]; exact hlt⟩ g1 (fun q h => by rw [g3] at h; cases h) (by rw [g2]; exact hkC) (by rw [g2]; exact hasg) rfl rfl hd fun H1 e1 z1 oq => ?_
  have hh : H1[ad o]? = some (vp_cell (cA (.object E)) (N, .inr (.inr (.inr (.inr (va_up (fun j => cm_rr ad (l'.getD j .null)) z.toNatClampNeg (some (ad v)))))))) := by
    rw [e1]
    show some ((vp_cell _ (N, .inr (.inr (.inr (.inr (fun j => cm_rr ad (l'.getD j .null)))))) ).setSlot _ _) = _
    rw [vp_cell_q, vp_cell_q, arrV_store]
    congr 2
    funext j
    by_cases hj : j = z.toNatClampNeg
    · subst hj
      simp [updV, va_up, va_rf]
    · simp [updV, va_up, hj]
  have hP1 := hP.set (e := .inl (cA (.object E), N, .inr (.inr (.inr (.inr (va_up (fun j => cm_rr ad (l'.getD j .null)) z.toNatClampNeg (some (ad v)))))))) hD (cm_w_at hf) hh oq
  have hD1 := hD.set (e := .inl (cA (.object E), N, .inr (.inr (.inr (.inr (va_up (fun j => cm_rr ad (l'.getD j .null)) z.toNatClampNeg (some (ad v)))))))) (cm_w_at hf)
  rw [cm_w_set (e := .inl (.object E, N, l'.set z.toNatClampNeg (.ref v))) (by unfold cm_e cm_ar; dsimp only [am_isR]; rw [cm_set_r (by omega)])] at hP1 hD1
  exact kk H1 _ hP1 hD1 (hS.put z1 oq (hD.2 _ _ (cm_w_at hf)))
set_option maxHeartbeats 4000000 in
theorem cm_sound (hC : cm_Cx D cA A T Kc Ks p R s m args meth c) (hT : cm_okT T = true) {S S' : cm_S} (hs : cm_step T Kc Ks S = some S') (hn : n0 ≤ S.2.2.2.2.1) (K : cm_G D cA wr A T p l e R s m args below meth c Z n0 ad0 S') : cm_G D cA wr A T p l e R s m args below meth c Z n0 ad0 S := by
  obtain ⟨hx, hb, hml, hown, hts, hK, hA, hin, hX, hR⟩ := hC
  obtain ⟨pc, lv, st, C, nx, k, n⟩ := S
  intro ad H locs ls hag hI
  obtain ⟨hP, hD, hS, hl⟩ := hI
  dsimp only at hP hD hS hl hn ⊢
  unfold cm_step at hs
  split at hs
  · next i w hd =>
    dsimp only at hd
    unfold cm_ex at hs
    dsimp only at hs
    simp only [cm_fl_eq, cm_sp_eq] at hs
    split at hs
    · -- iconst
      obtain ⟨hw, rfl⟩ := cm_c_eq hs
      rw [Nat.eq_of_beq_eq_true hw] at hd
      exact lv_iconst hx hb hd rfl (K ad H locs ls hag ⟨hP, hD, hS, hl⟩)
    · obtain ⟨hw, rfl⟩ := cm_c_eq hs
      rw [Nat.eq_of_beq_eq_true hw] at hd
      exact lv_bipush hx hb hd rfl (K ad H locs ls hag ⟨hP, hD, hS, hl⟩)
    · obtain ⟨hw, rfl⟩ := cm_c_eq hs
      rw [Nat.eq_of_beq_eq_true hw] at hd
      exact lv_sipush hx hb hd rfl (K ad H locs ls hag ⟨hP, hD, hS, hl⟩)
    · -- dup
      split at hs
      · next v st' =>
        obtain ⟨hw, rfl⟩ := cm_c_eq hs
        rw [Bool.and_eq_true] at hw
        rw [Nat.eq_of_beq_eq_true hw.1] at hd
        exact lv_dup hx hb hd (by rw [am_up_cat]; exact Nat.eq_of_beq_eq_true hw.2) (K ad H locs ls hag ⟨hP, hD, hS, hl⟩)
      · cases hs
    · -- aload_n
      split at hs
      · next o hg =>
        obtain ⟨hw, rfl⟩ := cm_c_eq hs
        rw [Nat.eq_of_beq_eq_true hw] at hd
        exact lv_aload_n hx hb hd rfl (cm_get_at hl hg) (K ad H locs ls hag ⟨hP, hD, hS, hl⟩)
      · cases hs
    · -- iload_n
      split at hs
      · next o hg =>
        obtain ⟨hw, rfl⟩ := cm_c_eq hs
        rw [Nat.eq_of_beq_eq_true hw] at hd
        exact lv_iload_n hx hb hd rfl (cm_get_at hl hg) (K ad H locs ls hag ⟨hP, hD, hS, hl⟩)
      · cases hs
    · -- istore_n
      split at hs
      · next x st' =>
        obtain ⟨hw, rfl⟩ := cm_c_eq hs
        rw [Bool.and_eq_true] at hw
        rw [Nat.eq_of_beq_eq_true hw.1] at hd
        exact lv_istore_n hx hb hd rfl hl (Nat.le_of_ble_eq_true hw.2) rfl (fun ls' hl' => K ad H locs ls' hag ⟨hP, hD, hS, (cm_put_up ad lv _ (.int x)) ▸ hl'⟩)
      · cases hs
    · -- astore_n
      split at hs
      · next x st' =>
        obtain ⟨hw, rfl⟩ := cm_c_eq hs
        rw [Bool.and_eq_true] at hw
        rw [Nat.eq_of_beq_eq_true hw.1] at hd
        exact lv_astore_n hx hb hd rfl hl (Nat.le_of_ble_eq_true hw.2) rfl (fun ls' hl' => K ad H locs ls' hag ⟨hP, hD, hS, (cm_put_up ad lv _ (.ref x)) ▸ hl'⟩)
      · cases hs
    · -- iinc
      split at hs
      · next x hg =>
        obtain ⟨hw, rfl⟩ := cm_c_eq hs
        rw [Bool.and_eq_true] at hw
        rw [Nat.eq_of_beq_eq_true hw.1] at hd
        obtain ⟨kk, hkk⟩ := List.mem_iff_getElem?.mp (List.mem_map.mpr ⟨_, cm_get_mem lv _ _ hg, rfl⟩ : (_, am_up ad (.int x)) ∈ cm_ul ad lv)
        exact lv_iinc hx hb hd hl hkk rfl (Nat.le_of_ble_eq_true hw.2) rfl (fun ls' hl' => K ad H locs ls' hag ⟨hP, hD, hS, (cm_put_up ad lv _ (.int _)) ▸ hl'⟩)
      · cases hs
    · -- goto
      obtain ⟨hw, rfl⟩ := cm_c_eq hs
      rw [Bool.and_eq_true] at hw
      rw [Nat.eq_of_beq_eq_true hw.1] at hd
      exact lv_goto hx hb hd (of_decide_eq_true hw.2) (K ad H locs ls hag ⟨hP, hD, hS, hl⟩)
    · -- if_icmp ge
      split at hs
      · next y x st' =>
        split at hs
        · next hc =>
          obtain ⟨hw, rfl⟩ := cm_c_eq hs
          rw [Bool.and_eq_true] at hw
          rw [Nat.eq_of_beq_eq_true hw.1] at hd
          exact lv_icmp_ge hx hb hd (of_decide_eq_true hw.2) (fun _ => K ad H locs ls hag ⟨hP, hD, hS, hl⟩) (fun z => absurd (of_decide_eq_true hc) z)
        · next hc =>
          obtain ⟨hw, rfl⟩ := cm_c_eq hs
          rw [Bool.and_eq_true] at hw
          rw [Nat.eq_of_beq_eq_true hw.1] at hd
          exact lv_icmp_ge hx hb hd (of_decide_eq_true hw.2) (fun z => absurd z (of_decide_eq_false hc)) (fun _ => K ad H locs ls hag ⟨hP, hD, hS, hl⟩)
      · cases hs
    · -- iadd
      split at hs
      · next y x st' =>
        obtain ⟨hw, rfl⟩ := cm_c_eq hs
        rw [Nat.eq_of_beq_eq_true hw] at hd
        exact lv_iadd hx hb hd (K ad H locs ls hag ⟨hP, hD, hS, hl⟩)
      · cases hs
    · -- arraylength
      split at hs
      · next o st' =>
        split at hs
        · next q ty N l' hf =>
          obtain ⟨hw, rfl⟩ := cm_c_eq hs
          rw [Bool.and_eq_true, decide_eq_true_eq] at hw
          rw [Nat.eq_of_beq_eq_true hw.1] at hd
          obtain ⟨t0, ht0⟩ := cm_tl_at (cA := cA) hw.2
          exact va_alen hx hb hK hP _ t0 (cm_w_at hf) ht0 rfl hd (K ad H locs ls hag ⟨hP, hD, hS, hl⟩)
        · cases hs
      · cases hs
    · -- getfield
      split at hs
      · next o st' =>
        split at hs
        · next ci f q ci' fs hf hg =>
          split at hs
          · next v hv =>
            obtain ⟨hw, rfl⟩ := cm_c_eq hs
            rw [Bool.and_eq_true] at hw
            rw [Nat.eq_of_beq_eq_true hw.1] at hd
            have := Nat.eq_of_beq_eq_true hw.2
            subst this
            obtain ⟨qc, hqc, hfn, hfo, hlk⟩ := cm_okT_f hT (cm_lf_mem _ _ _ hf)
            obtain ⟨hinW, hcn, ty0, hty, hnm, hft⟩ := am_cls ci qc hqc
            exact va_get hx hb hts hinW hown hK hP _ (cm_w_at hg) hqc f hfn (hts _ hlk) (fun x h => hfo ▸ h) (v := am_up ad v) (by rw [List.getElem?_map, hv]; rfl) hd (K ad H locs ls hag ⟨hP, hD, hS, hl⟩)
          · cases hs
        · cases hs
      · cases hs
    · -- putfield
      split at hs
      · next v o st' =>
        split at hs
        · next ci f q ci' fs hf hg =>
          obtain ⟨hw, rfl⟩ := cm_c_eq hs
          simp only [Bool.and_eq_true] at hw
          obtain ⟨hw1, hw2, hw3, hw4⟩ := hw
          rw [Nat.eq_of_beq_eq_true hw1] at hd
          have := Nat.eq_of_beq_eq_true hw2
          subst this
          have hmem := cm_lf_mem _ _ _ hf
          obtain ⟨qc, hqc, hfn, hfo, hlk⟩ := cm_okT_f hT hmem
          obtain ⟨hinW, hcn, ty0, hty, hnm, hft⟩ := am_cls ci qc hqc
          obtain ⟨ty, hp1, hp2, hp3, hp4⟩ := cm_fty hqc hfn
          obtain ⟨hv1, hv2⟩ := cm_vok_use (ad := ad) hw3 hp3 hp4
          have hlen : f < (fs.map (am_up ad)).length := by rw [List.length_map]; exact Nat.le_of_ble_eq_true hw4
          have hset : ∀ (H1 : Heap) (locs1 : List Loc), va_P D vwCl ((wr ++ cm_w cA ad C).set (wr.length + q) (ad o, .inr (ci, (fs.map (am_up ad)).set f (am_up ad v)))) H1 → va_D A ((wr ++ cm_w cA ad C).set (wr.length + q) (ad o, .inr (ci, (fs.map (am_up ad)).set f (am_up ad v)))) → va_S A s.heap H1 locs1 → W p l e R s m args below meth c H1 locs1 k n Z (F0 m (pc + 3) ls (st'.map (am_up ad))) := by
            intro H1 locs1 a1 a2 a3
            rw [cm_w_set (e := .inr (ci, fs.set f v)) (by unfold cm_e; dsimp only; rw [List.map_set])] at a1 a2
            exact K ad H1 locs1 ls hag ⟨a1, a2, a3, hl⟩
          cases hfin : (qc.2.1 f).2.2.2 with
          | false => exact va_put hx hb hts hinW ty0 hty hnm hown hK hP hD hS _ (cm_w_at hg) hqc f hfn (hts _ hlk) (fun x h => hfo ▸ h) hfin hp1 hv1 hv2 hlen hd hset
          | true => exact va_putF hx hb hts hinW ty0 hty hnm hown hK hP hD hS _ (cm_w_at hg) hqc f hfn (hts _ hlk) (fun x h => hfo ▸ h) hfin (hin (List.ne_nil_of_mem hmem)) hfo hp1 hv1 hv2 hlen hd hset
        · cases hs
      · cases hs
    · -- iastore
      split at hs
      · next x z o st' =>
        split at hs
        · next q ty N l' hf =>
          obtain ⟨hw, rfl⟩ := cm_c_eq hs
          simp only [Bool.and_eq_true, decide_eq_true_eq] at hw
          obtain ⟨hw1, rfl, hw3, hw4⟩ := hw
          rw [Nat.eq_of_beq_eq_true hw1] at hd
          have hN := Nat.eq_of_beq_eq_true hw4
          obtain ⟨p1, p2, p3⟩ := cm_pos_use hw3
          exact va_iast hx hb hK hP hD hS _ 0 (cm_w_at hf) rfl p3 hd (fun H1 locs1 a1 a2 a3 => by
            rw [cm_w_set (e := .inl (.int, N, l'.set z.toNatClampNeg (.int x))) (by unfold cm_e cm_ar; dsimp only [am_isR]; rw [cm_set_i (by omega)])] at a1 a2
            exact K ad H1 locs1 ls hag ⟨a1, a2, a3, hl⟩)
        · cases hs
      · cases hs
    · -- castore
      split at hs
      · next x z o st' =>
        split at hs
        · next q ty N l' hf =>
          obtain ⟨hw, rfl⟩ := cm_c_eq hs
          simp only [Bool.and_eq_true, decide_eq_true_eq] at hw
          obtain ⟨hw1, rfl, hw3, hw4⟩ := hw
          rw [Nat.eq_of_beq_eq_true hw1] at hd
          have hN := Nat.eq_of_beq_eq_true hw4
          obtain ⟨p1, p2, p3⟩ := cm_pos_use hw3
          exact va_cast hx hb hK hP hD hS _ 2 (cm_w_at hf) rfl p3 hd (fun H1 locs1 a1 a2 a3 => by
            rw [cm_w_set (e := .inl (.char, N, l'.set z.toNatClampNeg (.int (vp_nar .char x)))) (by unfold cm_e cm_ar; dsimp only [am_isR]; rw [cm_set_i (by omega)])] at a1 a2
            exact K ad H1 locs1 ls hag ⟨a1, a2, a3, hl⟩)
        · cases hs
      · cases hs
    · -- aastore
      split at hs
      · next v z o st' =>
        split at hs
        · next q ty N l' q2 ci fs2 hf hg =>
          obtain ⟨hw, rfl⟩ := cm_c_eq hs
          simp only [Bool.and_eq_true] at hw
          obtain ⟨hw1, hw2, hw3, hw4⟩ := hw
          rw [Nat.eq_of_beq_eq_true hw1] at hd
          have hN := Nat.eq_of_beq_eq_true hw4
          obtain ⟨p1, p2, p3⟩ := cm_pos_use hw3
          exact cm_aast hx hb hK hP hD hS hX hw2 hf hg p3 hN hd (fun H1 locs1 a1 a2 a3 => K ad H1 locs1 ls hag ⟨a1, a2, a3, hl⟩)
        · cases hs
      · cases hs
    · -- newarray
      split at hs
      · next z st' =>
        obtain ⟨hw, rfl⟩ := cm_c_eq hs
        simp only [Bool.and_eq_true] at hw
        obtain ⟨hw1, hw2, hw3, hw4, hw5, hw6⟩ := hw
        rw [Nat.eq_of_beq_eq_true hw1] at hd
        obtain ⟨p1, p2, p3⟩ := cm_pos_use hw2
        obtain ⟨b1, b2, b3, b4, b5⟩ := cm_arr hw5
        obtain ⟨t0, ht0⟩ := cm_tl_at (cA := cA) b2
        refine va_newa hx hb (hts _ b1) rfl hK hP hD hS hA (a0 := (z.toNatClampNeg, .inl (fun _ => 0))) (fun cA' => by rw [b4]; rfl) p1 rfl (Nat.le_trans (Nat.mul_le_mul (Nat.le_of_lt p2) b5) (by decide)) (Nat.le_trans (Nat.le_of_ble_eq_true hw3) hR.1) (Nat.le_trans (Nat.le_of_ble_eq_true hw4) hR.2) hd (fun q cA' H1 hK' hP' hD' hS' => ?_)
        have ec : cA' = cA (newarray.typeOf _) := cm_RA (hK'.2 (am_tys cA).length (cA', _) (by rw [List.getElem?_append_right (Nat.le_refl _), Nat.sub_self]; rfl)).2 (hK.2 t0 _ ht0).2
        subst ec
        exact cm_grow hn hag hw6 (by unfold cm_e cm_ar; dsimp only; rw [b3]; dsimp only; simp only [cm_ri_rep]) K hP' hD' hS' hl
      · cases hs
    · -- anewarray
      split at hs
      · next z st' =>
        split at hs
        · next ci hlc =>
          split at hs
          · next qc hqc =>
            obtain ⟨hw, rfl⟩ := cm_c_eq hs
            simp only [Bool.and_eq_true, decide_eq_true_eq] at hw
            obtain ⟨hw1, hw2, hw3, hw4, hw5, hw6⟩ := hw
            rw [Nat.eq_of_beq_eq_true hw1] at hd
            obtain ⟨p1, p2, p3⟩ := cm_pos_use hw2
            obtain ⟨qc', hqc', hcl, -, -⟩ := cm_okT_c hT (cm_lc_mem _ _ _ hlc)
            have := Option.some.inj (hqc.symm.trans hqc')
            subst this
            have hov : va_AO qc.1 s ∧ FieldType.object qc.1 ∈ am_tl := by
              rcases hw5 with rfl | rfl
              · cases hqc; exact ⟨hX.1, by decide⟩
              · cases hqc; exact ⟨hX.2.1, by decide⟩
            obtain ⟨t0, ht0⟩ := cm_tl_at (cA := cA) hov.2
            refine va_newq hx hb hown (hts _ hcl) hov.1 hK hP hD hS hA p1 rfl (Nat.le_trans (Nat.mul_le_mul_right 4 (Nat.le_of_lt p2)) (by decide)) (Nat.le_trans (Nat.le_of_ble_eq_true hw3) hR.1) (Nat.le_trans (Nat.le_of_ble_eq_true hw4) hR.2) hd (fun q cA' H1 hK' hP' hD' hS' => ?_)
            have ec : cA' = cA (.object qc.1) := cm_RA (hK'.2 (am_tys cA).length (cA', _) (by rw [List.getElem?_append_right (Nat.le_refl _), Nat.sub_self]; rfl)).2 (hK.2 t0 _ ht0).2
            subst ec
            exact cm_grow hn hag hw6 (by unfold cm_e cm_ar; dsimp only [am_isR]; simp only [cm_rr_rep]) K hP' hD' hS' hl
          · cases hs
        · cases hs
      · cases hs
    · -- new
      split at hs
      · next ci hlc =>
        obtain ⟨hw, rfl⟩ := cm_c_eq hs
        simp only [Bool.and_eq_true] at hw
        obtain ⟨hw1, hw3, hw4, hw6⟩ := hw
        rw [Nat.eq_of_beq_eq_true hw1] at hd
        obtain ⟨qc, hqc, hcl, hins, hini⟩ := cm_okT_c hT (cm_lc_mem _ _ _ hlc)
        obtain ⟨hinW, hcn, ty0, hty, hnm, hft⟩ := am_cls ci qc hqc
        rw [hcn] at hw4 K
        refine va_new hx hb hts hinW ty0 hty hown (hts _ hcl) (hts _ hins) (hts _ hini) hK hP hD hS hA hqc (fs := cm_df ci) (fun j hj => ?_) (Nat.le_trans (Nat.le_of_ble_eq_true hw3) hR.1) (Nat.le_trans (Nat.le_of_ble_eq_true hw4) hR.2) hd (fun q H1 hP' hD' hS' => ?_)
        · obtain ⟨ty, hp1, hp2, -, -⟩ := cm_fty hqc hj
          rw [hty j hj] at hp1
          cases hp1
          exact hp2
        · exact cm_grow hn hag hw6 (by unfold cm_e; dsimp only; rw [cm_df_up]) K hP' hD' hS' hl
      · cases hs
    · cases hs
  · cases hs
end
