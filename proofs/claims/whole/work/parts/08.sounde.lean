theorem am_oksels_at {x : MethodName} {np : Nat} : ∀ (tb : List Nat) (k : Nat) (ps : List Nat), am_oksels x np k tb ps = true → ∀ (j b' : Nat), am_nth tb j = some (b' + 1) → ∃ q0 q1 q2, am_oksel x np (k + j) (b' + 1) [q0, q1, q2] = true
  | [], _, _, _, _, _, h => by simp [am_nth] at h
  | t :: tb, k, ps, h, j, b', hj => by
    match ps, h with
    | p0 :: p1 :: p2 :: ps, h =>
      simp only [am_oksels, Bool.and_eq_true] at h
      cases j with
      | zero =>
        simp only [am_nth, Option.some.injEq] at hj
        subst hj
        exact ⟨p0, p1, p2, h.1⟩
      | succ j =>
        obtain ⟨q0, q1, q2, h3⟩ := am_oksels_at tb (k + 1) ps h.2 j b' hj
        exact ⟨q0, q1, q2, by rw [show k + (j + 1) = k + 1 + j by omega]; exact h3⟩
    | [], h => simp [am_oksels] at h
    | [_], h => simp [am_oksels] at h
    | [_, _], h => simp [am_oksels] at h
theorem am_beq {a b : Nat} (h : Nat.beq a b = true) : a = b := Nat.eq_of_beq_eq_true h
section
variable {l : Launch} {D : va_G} {cA : FieldType → ClassId} {ad : Nat → Nat} {L : Nat} {xs : Nat → Int32}
variable {p : Program} {e : Env} {R : Room} {s : State} {m : MethodId} {args : Array Value} {below : List Frame} {meth : Method} {c : Code} {H : Heap} {locs : List Loc} {cells slots : Nat} {Z : State → Prop} {pc : Nat} {ls : Array Slot}
variable {M : am_M} {d mi n a b : Nat} {lv : List (Option Value)} {st : List Value} {I : am_I} {Q : am_Q}
theorem am_cpy_ws (hi : am_inj ad) {o1 o2 n1 n2 sp dp k : Nat} (h1 : am_G o1 = some (.inr (.int, n1))) (h2 : am_G o2 = some (.inr (.int, n2))) : (am_ws cA ad I).set o2 (ad o2, .inl (cA .int, n2, .inl (va_cpy (I o1) (I o2) sp dp k))) = am_ws cA ad (am_cpy I o1 sp o2 dp k) := by
  refine am_ws_set cA ad (am_G_lt h2) ?_ (fun o' ho => ?_)
  · unfold am_cell am_ar
    rw [h2]
    dsimp only [am_isR]
    congr 1
    congr 1
    congr 1
    congr 1
    funext j
    unfold va_cpy am_cpy
    simp
  · funext j
    unfold am_cpy
    simp [ho]
theorem am_goX (hOk : am_Ok) (hi : am_inj ad) (hC : am_Cx D cA ad L xs M d p R s m args c cells slots) (hP : va_P D vwCl (am_ws cA ad I) H) (hS : va_S (am_A ad) s.heap H locs) (hl : am_ls ad M mi ls lv) (K : am_KK l D cA ad L xs p e R s m args below meth c cells slots Z M d mi Q) {idx : Nat} {rest : List Value} {kk dp sp : Int32} {o1 o2 n1 n2 : Nat}
    (hd : decode M.2.1 pc = .ok (.invokestatic idx, 3)) (w1 : Cond.methodLink M.1.cls idx arraycopyName ∈ am_tb) (w2 : Cond.native arraycopyName ∈ am_tb) (w3 : Cond.static arraycopyName ∈ am_tb) (w4 : Cond.initialized "java/lang/System" ∈ am_tb) (h1 : am_G o1 = some (.inr (.int, n1))) (h2 : am_G o2 = some (.inr (.int, n2))) (hd1 : 1 ≤ d) (hrs : am_cs rest ≤ 8)
    (hc : 0 ≤ sp ∧ 0 ≤ dp ∧ 0 ≤ kk ∧ sp.toNatClampNeg + kk.toNatClampNeg ≤ n1 ∧ dp.toNatClampNeg + kk.toNatClampNeg ≤ n2) (h : am_Jm l D cA ad L xs d mi (pc + 3) lv rest (am_cpy I o1 sp.toNatClampNeg o2 dp.toNatClampNeg kk.toNatClampNeg) Q) :
    W p l e R s m args below meth c H locs cells slots Z (F0 m pc ls ((.int kk :: .int dp :: .ref o2 :: .int sp :: .ref o1 :: rest).map (am_up ad))) := by
  obtain ⟨hx, hb, hml, hown, hts, hK, hRd, hcs, hX⟩ := id hC
  obtain ⟨g1, g2, g3, g4, g5⟩ := hc
  refine va_copyi (q0 := o1) (q1 := o2) (t0 := 0) (t1 := 0) (rest := rest.map (am_up ad)) hx hb (hml.trans hl.1.symm) hown (hts _ w1) (hts _ w2) (hts _ w3) (hts _ w4) hK hP (am_ws_D hi cA I) hS (am_cell_arr h1) (am_cell_arr h2) (am_tys_at rfl) (am_tys_at rfl) rfl (Int32.not_lt.mpr g1) (Int32.not_lt.mpr g2) (Int32.not_lt.mpr g3) g4 g5 (fun i hi => rfl) (by omega) ?_ hd (fun H1 locs1 hP1 hD1 hS1 => ?_)
  · rw [am_cs_sum, am_cs_up]
    have : nativeFrameWords "java/lang/System" "arraycopy" 5 ≤ 40 := by decide +kernel
    omega
  · have hP2 : va_P D vwCl ((am_ws cA ad I).set o2 (ad o2, .inl (cA .int, n2, .inl (va_cpy (I o1) (I o2) sp.toNatClampNeg dp.toNatClampNeg kk.toNatClampNeg)))) H1 := hP1
    rw [am_cpy_ws hi h1 h2] at hP2
    exact K _ _ _ _ _ _ _ h hP2 hS1 hl
/-- all calls -/
theorem am_goInv (hOk : am_Ok) (hi : am_inj ad) (hC : am_Cx D cA ad L xs M d p R s m args c cells slots) (hP : va_P D vwCl (am_ws cA ad I) H) (hS : va_S (am_A ad) s.heap H locs) (hl : am_ls ad M mi ls lv) (K : am_KK l D cA ad L xs p e R s m args below meth c cells slots Z M d mi Q) {i : Instr} {ts ps : List Nat}
    (hd : decode M.2.1 pc = .ok (i, 3)) (hok : am_okinv M i a b ts ps = true) (h : am_inv am_meth (am_Jm l D cA ad L xs) (am_Jm l D cA ad L xs) a b ts d mi (pc + 3) lv st I Q)
    (hstr : ∀ (o : Nat) (rest : List Value) (idx : Nat), 1000 ≤ o → o < 1018 → 4 ≤ d → am_cs rest ≤ 8 → i = .invokevirtual idx → Cond.methodLink M.1.cls idx ⟨"java/lang/String", "length", "()I"⟩ ∈ am_tb → am_Jm l D cA ad L xs d mi (pc + 3) lv (.int (nI (am_txl (o - 1000))) :: rest) I Q → W p l e R s m args below meth c H locs cells slots Z (F0 m pc ls ((.ref o :: rest).map (am_up ad))))
    (hchr : ∀ (o : Nat) (k : Int32) (rest : List Value) (idx : Nat), 1000 ≤ o → o < 1018 → vp_in k (am_txl (o - 1000)) → 4 ≤ d → am_cs rest ≤ 8 → i = .invokevirtual idx → Cond.methodLink M.1.cls idx ⟨"java/lang/String", "charAt", "(I)C"⟩ ∈ am_tb → am_Jm l D cA ad L xs d mi (pc + 3) lv (.int (am_txc (o - 1000) k.toNatClampNeg) :: rest) I Q → W p l e R s m args below meth c H locs cells slots Z (F0 m pc ls ((.int k :: .ref o :: rest).map (am_up ad)))) :
    W p l e R s m args below meth c H locs cells slots Z (F0 m pc ls (st.map (am_up ad))) := by
  unfold am_okinv at hok
  split at hok
  · next idx np p0 p1 p2 =>
    simp only [am_inv] at h
    split at h
    · next as rest hpop =>
      refine am_goS hOk hC hP hS hl K hd hpop h (fun M' hM' => ?_)
      rw [hM'] at hok
      simp only [Bool.and_eq_true] at hok
      exact ⟨hok.1.1.1, am_at_in hok.1.1.2, am_at_in hok.1.2, am_at_in hok.2⟩
    · exact h.elim
  · next idx np p0 p1 p2 =>
    simp only [am_inv] at h
    split at h
    · next as rest hpop =>
      refine am_goSN hOk hC hP hS hl K hd hpop h (fun M' hM' => ?_)
      rw [hM'] at hok
      simp only [Bool.and_eq_true, decide_eq_true_eq] at hok
      exact ⟨hok.1.1.1, hok.1.1.2, am_at_in hok.1.2, am_at_in hok.2⟩
    · exact h.elim
  · next idx np ci p0 p1 p2 p3 =>
    simp only [am_inv] at h
    split at h
    · next as o rest hpop =>
      split at h
      · next c' ho =>
        split at h
        · next hb =>
          have := am_beq hb
          subst this
          refine am_goV hOk hC hP hS hl K hd hpop ho h (fun M' hM' => ?_)
          rw [hM'] at hok
          simp only [Bool.and_eq_true, decide_eq_true_eq] at hok
          exact ⟨hok.1.1.1.1.1, hok.1.1.1.1.2, am_at_in hok.1.1.1.2, am_at_in hok.1.1.2, am_at_in hok.1.2, am_at_in hok.2⟩
        · exact h.elim
      · exact h.elim
    · exact h.elim
  · next idx np tb p0 p1 p2 bo ps =>
    simp only [am_inv] at h
    split at h
    · next as o rest hpop =>
      split at h
      · next c' ho =>
        split at h
        · next b' hb' =>
          split at hok
          · next b9 hf =>
            split at hok
            · next M9 hM9 =>
              simp only [Bool.and_eq_true, decide_eq_true_eq] at hok
              obtain ⟨⟨⟨⟨⟨⟨⟨k1, k2⟩, k3⟩, k4⟩, k5⟩, k6⟩, k7⟩, k8⟩ := hok
              unfold am_okow at k1
              split at k1
              · next Mo hMo =>
                simp only [Bool.and_eq_true, decide_eq_true_eq] at k1
                have hcode := (hOk bo Mo hMo).2 k1.2
                rw [k1.1] at hcode
                refine am_goU (x := ⟨am_cname (b / 100), M9.1.name, M9.1.desc⟩) (owner := am_cname (b % 100)) hOk hC hP hS hl K hd hpop ho h ⟨⟨_, _, _, hcode⟩, ⟨k7, k8, k6⟩, am_at_in k2, am_at_in k3, am_at_in k4⟩ (fun M' hM' => ?_)
                obtain ⟨q0, q1, q2, hs⟩ := am_oksels_at _ _ _ k5 _ _ hb'
                unfold am_oksel at hs
                simp only [hM', Bool.and_eq_true] at hs
                rw [Nat.zero_add] at hs
                exact ⟨hs.1.1.1, am_at_in hs.1.1.2, am_at_in hs.1.2, am_at_in hs.2⟩
              · cases k1
            · cases hok
          · cases hok
        · exact h.elim
      · exact h.elim
    · exact h.elim
  · next idx np xc p0 p1 p2 p3 p4 p5 =>
    simp only [am_inv] at h
    split at h
    · next as o rest hpop =>
      split at h
      · next c' ho =>
        refine am_goSU (xc := am_cname xc) hOk hC hP hS hl K hd hpop ho h (fun M' hM' => ?_)
        rw [hM'] at hok
        simp only [Bool.and_eq_true, Bool.or_eq_true, decide_eq_true_eq] at hok
        obtain ⟨⟨⟨⟨⟨⟨⟨k1, k2⟩, k3⟩, k4⟩, k5⟩, k6⟩, k7⟩, k8⟩ := hok
        exact ⟨k1, k2, am_at_in k3, am_at_in k4, am_at_in k5, am_at_in k6, am_at_in k7, k8.imp id am_at_in⟩
      · exact h.elim
    · exact h.elim
  · next idx p0 p1 p2 p3 =>
    simp only [Bool.and_eq_true] at hok
    simp only [am_inv] at h
    split at h
    · next kk dp o2 sp o1 rest =>
      split at h
      · next n1 h1 =>
        split at h
        · next n2 h2 =>
          split at h
          · exact h.elim
          · next d' =>
            split at h
            · next hrs => exact am_goX hOk hi hC hP hS hl K hd (am_at_in hok.1.1.1) (am_at_in hok.1.1.2) (am_at_in hok.1.2) (am_at_in hok.2) h1 h2 (by omega) (Nat.le_of_ble_eq_true hrs) h.1 h.2
            · exact h.elim
        · exact h.elim
      · exact h.elim
    · exact h.elim
  · next idx p0 p1 p2 p3 =>
    simp only [Bool.and_eq_true] at hok
    simp only [am_inv] at h
    obtain ⟨hx, hb, hml, hown, hts, hK, hRd, hcs, hX⟩ := id hC
    split at h
    · next d' =>
      split at h
      · next y x rest =>
        split at h
        · next hrs =>
          have hr9 := Nat.le_of_ble_eq_true hrs
          refine va_mmax (rest := rest.map (am_up ad)) hx hb (hml.trans hl.1.symm) hown (hts _ (am_at_in hok.1.1.1)) (hts _ (am_at_in hok.1.1.2)) (hts _ (am_at_in hok.1.2)) (hts _ (am_at_in hok.2)) (by omega) (by rw [am_cs_sum, am_cs_up]; omega) hcs.1 hcs.2 hd ?_
          exact K _ _ _ _ _ _ _ h hP hS hl
        · exact h.elim
      · exact h.elim
    · exact h.elim
  · next idx p0 p1 p2 p3 =>
    simp only [Bool.and_eq_true] at hok
    simp only [am_inv] at h
    obtain ⟨hx, hb, hml, hown, hts, hK, hRd, hcs, hX⟩ := id hC
    split at h
    · next d' =>
      split at h
      · next y x rest =>
        split at h
        · next hrs =>
          have hr9 := Nat.le_of_ble_eq_true hrs
          refine va_mmin (rest := rest.map (am_up ad)) hx hb (hml.trans hl.1.symm) hown (hts _ (am_at_in hok.1.1.1)) (hts _ (am_at_in hok.1.1.2)) (hts _ (am_at_in hok.1.2)) (hts _ (am_at_in hok.2)) (by omega) (by rw [am_cs_sum, am_cs_up]; omega) hcs.1 hcs.2 hd ?_
          exact K _ _ _ _ _ _ _ h hP hS hl
        · exact h.elim
      · exact h.elim
    · exact h.elim
  · next idx p0 p1 p2 p3 =>
    simp only [Bool.and_eq_true] at hok
    simp only [am_inv] at h
    obtain ⟨hx, hb, hml, hown, hts, hK, hRd, hcs, hX⟩ := id hC
    split at h
    · next d' =>
      split at h
      · next x rest =>
        split at h
        · next hrs =>
          have hr9 := Nat.le_of_ble_eq_true hrs
          refine va_mabs (rest := rest.map (am_up ad)) hx hb (hml.trans hl.1.symm) hown (hts _ (am_at_in hok.1.1.1)) (hts _ (am_at_in hok.1.1.2)) (hts _ (am_at_in hok.1.2)) (hts _ (am_at_in hok.2)) (by omega) (by rw [am_cs_sum, am_cs_up]; omega) hcs.1 hcs.2 hd ?_
          exact K _ _ _ _ _ _ _ h hP hS hl
        · exact h.elim
      · exact h.elim
    · exact h.elim
  · next idx p0 =>
    simp only [am_inv] at h
    split at h
    · next d' =>
      split at h
      · next o rest =>
        split at h
        · next hrs => exact hstr o rest idx h.1.1 h.1.2 (by omega) (Nat.le_of_ble_eq_true hrs) rfl (am_at_in hok) h.2
        · exact h.elim
      · exact h.elim
    · exact h.elim
  · next idx p0 =>
    simp only [am_inv] at h
    split at h
    · next d' =>
      split at h
      · next k o rest =>
        split at h
        · next hrs => exact hchr o k rest idx h.1.1 h.1.2.1 h.1.2.2 (by omega) (Nat.le_of_ble_eq_true hrs) rfl (am_at_in hok) h.2
        · exact h.elim
      · exact h.elim
    · exact h.elim
  · cases hok
end
