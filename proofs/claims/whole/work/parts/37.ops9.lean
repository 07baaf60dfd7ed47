theorem Inv.day {I I1 I2 : am_I} {uk u' : am_U} (hK : KeptR I uk) (hRs : Rest I) (hS1 : ∀ o, o ≠ 9 → o ≠ 18 → I1 o = I o) (R1 : RRep I1 8 u') (C1 : CRep I1 9 u') (hS2 : ∀ o, o ≠ 67 → o ≠ 70 → I2 o = I1 o) (M2 : MRep I2 67 u') (hO : OKu u') : Inv I2 := by
  have hmc : ∀ o ∈ am_mc, o ≠ 67 → o ≠ 70 := by decide
  have R2 : RRep I2 8 u' := by
    have t : ∀ t ∈ TR 8, t.1 ≠ 67 ∧ t.1 ≠ 70 := by decide +kernel
    refine ⟨R1.1.kept (fun x hx => hS2 _ (t x hx).1 (t x hx).2), ?_⟩
    show RuR (I2 17) u'
    rw [hS2 17 (by decide) (by decide)]
    exact R1.2
  have C2 : CRep I2 9 u' := C1.kept (hS2 9 (by decide) (by decide))
  exact Inv.main (S := [9, 18, 67, 70]) ⟨M2, R2, C2, hO⟩ hK hRs (fun o ho => by
    simp only [List.mem_cons, List.not_mem_nil, or_false, not_or] at ho
    rw [hS2 o ho.2.2.1 ho.2.2.2, hS1 o ho.1 ho.2.1]) (by decide)
/-! sets -/
def sp_set (P : Nat → Bool) : Nat → Nat
  | 0 => 0
  | n + 1 => sp_set P n + if P n then 2 ^ n else 0
theorem sp_set_lt {P : Nat → Bool} : ∀ n, sp_set P n < 2 ^ n
  | 0 => Nat.zero_lt_one
  | n + 1 => by
    have := sp_set_lt (P := P) n
    unfold sp_set
    rw [Nat.pow_succ]
    split <;> omega
theorem sp_set_ext {P Q : Nat → Bool} : ∀ n, (∀ k, k < n → P k = Q k) → sp_set P n = sp_set Q n
  | 0, _ => rfl
  | n + 1, h => by
    unfold sp_set
    rw [sp_set_ext n (fun k hk => h k (by omega)), h n (by omega)]
theorem sp_set_more {P : Nat → Bool} {n : Nat} : ∀ m, (∀ k, n ≤ k → k < n + m → P k = false) → sp_set P (n + m) = sp_set P n
  | 0, _ => rfl
  | m + 1, h => by
    show sp_set P (n + m) + (if P (n + m) then 2 ^ (n + m) else 0) = _
    rw [h (n + m) (by omega) (by omega), sp_set_more m (fun k h1 h2 => h k h1 (by omega))]
    rfl
theorem or_bit : ∀ k, k < 6 → ∀ a, a < 64 → a < 2 ^ k → nI a ||| ((1 : Int32) <<< (nI k &&& 31)) = nI (a + 2 ^ k) := by decide +kernel
theorem or_bit' {k a : Nat} (hk : k < 6) (ha : a < 2 ^ k) : nI a ||| ((1 : Int32) <<< (nI k &&& 31)) = nI (a + 2 ^ k) := by
  refine or_bit k hk a ?_ ha
  have : 2 ^ k ≤ 2 ^ 6 := Nat.pow_le_pow_right (by decide) (by omega)
  omega
theorem or_0 (x : Int32) : x ||| 0 = x := by simp
def sp_fed (u : am_U) : Nat → Bool := fun k => decide (0 < u (43 + 6 * k))
def sp_met (u : am_U) : Nat → Bool := fun k => decide (0 < u (42 + 6 * k))
theorem fedN_set6 {u : am_U} (h : ∀ k, k < 6 → u (43 + 6 * k) ≤ 1) : fedN u = sp_set (sp_fed u) 6 := by
  have h0 := h 0 (by decide)
  have h1 := h 1 (by decide)
  have h2 := h 2 (by decide)
  have h3 := h 3 (by decide)
  have h4 := h 4 (by decide)
  have h5 := h 5 (by decide)
  have key : ∀ k, k < 6 → (if sp_fed u k = true then 2 ^ k else 0) = 2 ^ k * u (43 + 6 * k) := by
    intro k hk
    have := h k hk
    unfold sp_fed
    by_cases g : 0 < u (43 + 6 * k)
    · rw [show u (43 + 6 * k) = 1 by omega]
      simp
    · rw [show u (43 + 6 * k) = 0 by omega]
      simp
  unfold fedN
  simp only [sp_set]
  rw [key 0 (by decide), key 1 (by decide), key 2 (by decide), key 3 (by decide), key 4 (by decide), key 5 (by decide)]
  simp only [Nat.mul_zero, Nat.add_zero, Nat.mul_one, Nat.reduceMul, Nat.reduceAdd, Nat.reducePow]
  omega
theorem OKu.fedS {u : am_U} (h : OKu u) : fedN u = sp_set (sp_fed u) (u 6) := by
  have c1 := h.Cn.1
  rw [fedN_set6 h.fed]
  have := sp_set_more (P := sp_fed u) (n := u 6) (6 - u 6) (fun k h1 h2 => by
    have := h.2.2.2.2 k 5 h1 (by omega) (by decide)
    unfold sp_fed
    rw [show 43 + 6 * k = 38 + 6 * k + 5 by omega, this]
    rfl)
  rw [show u 6 + (6 - u 6) = 6 by omega] at this
  exact this
theorem OKu.metS {u : am_U} (h : OKu u) : sp_set (sp_met u) 6 = sp_set (sp_met u) (u 6) := by
  have c1 := h.Cn.1
  have := sp_set_more (P := sp_met u) (n := u 6) (6 - u 6) (fun k h1 h2 => by
    have := h.2.2.2.2 k 4 h1 (by omega) (by decide)
    unfold sp_met
    rw [show 42 + 6 * k = 38 + 6 * k + 4 by omega, this]
    rfl)
  rw [show u 6 + (6 - u 6) = 6 by omega] at this
  exact this
section
variable {L : Nat} {xs : Nat → Int32} {J : am_J} {d : Nat} {Q : am_Q}
theorem m_those_loop (hJ : am_Cl am_meth L xs J) {I : am_I} {f m : Nat} {P : Nat → Bool} (hf : f < 6) (h6 : I 67 6 = nI m) (hm : m ≤ 6) (hP : ∀ k, k < m → ∃ x, x < 2 ^ 20 ∧ I 67 (38 + 6 * k + f) = nI x ∧ P k = decide (0 < x)) (h : Q (some (.int (nI (sp_set P m)))) I) : ∀ (n k : Nat), k + n = m → J (d + 1) q_M_those 4 [some (.ref 66), some (.int (nI f)), some (.int (nI (sp_set P k))), some (.int (nI k))] [] I Q
  | 0, k, hn => by
    refine am_vcl hJ [4] 200 ?_
    refine ⟨am_vin (by decide), ?_⟩
    refine br_t (by show I 67 6 ≤ nI k; rw [h6]; exact nI_le (by omega) (by omega)) ?_
    rw [show k = m by omega]
    exact h
  | n + 1, k, hn => by
    obtain ⟨x, hx, ex, hp⟩ := hP k (by omega)
    have ih := m_those_loop hJ hf h6 hm hP h n (k + 1) (by omega)
    have lt := sp_set_lt (P := P) k
    refine am_vcl hJ [4] 200 ?_
    refine ⟨am_vin (by decide), ?_⟩
    refine br_f (by show ¬ I 67 6 ≤ nI k; rw [h6]; exact nI_ge (by omega) (by omega)) ?_
    refine m_get hJ (a := k) (b := f) rfl rfl (by omega) hf ?_
    refine ⟨fun g => ?_, fun g => ?_⟩
    · have g : I 67 (38 + 6 * k + f) ≤ nI 0 := g
      rw [ex, nI_leI (by omega) (by omega)] at g
      have e : sp_set P (k + 1) = sp_set P k := by
        show sp_set P k + _ = _
        rw [hp, decide_eq_false (by omega)]
        rfl
      rw [e, ← nI_1] at ih
      conv => whnf
      show J (d + 1) q_M_those 4 [some (.ref 66), some (.int (nI f)), some (.int (nI (sp_set P k) ||| 0)), some (.int (nI k + 1))] [] I Q
      rw [or_0]
      exact ih
    · have g : ¬ I 67 (38 + 6 * k + f) ≤ nI 0 := g
      rw [ex, nI_leI (by omega) (by omega)] at g
      have e : sp_set P (k + 1) = sp_set P k + 2 ^ k := by
        show sp_set P k + _ = _
        rw [hp, decide_eq_true (by omega)]
        rfl
      rw [e, ← nI_1, ← or_bit' (by omega) lt] at ih
      exact ih
theorem m_thoseFed (hJ : am_Cl am_meth L xs J) {I : am_I} {u : am_U} (hM : MRep I 67 u) (hO : OKu u) (h : Q (some (.int (nI (fedN u)))) I) {z1 z2 : Option Value} : J (d + 1) q_M_those 0 [some (.ref 66), some (.int 5), z1, z2] [] I Q := by
  have c1 := hO.Cn.1
  rw [hO.fedS] at h
  have k9 := m_those_loop (d := d) hJ (f := 5) (by decide) (hM 6 (by decide)) c1 (P := sp_fed u) (fun k hk => ⟨u (43 + 6 * k), by have := (hO.P (k := k) (by omega)); omega, by rw [hM _ (by omega), show 38 + 6 * k + 5 = 43 + 6 * k by omega], rfl⟩) h (u 6) 0 (by omega)
  refine am_vcc hJ [4] 200 _ _ _ _ _ _ _ ?_
  exact k9
theorem m_thoseMet (hJ : am_Cl am_meth L xs J) {I : am_I} {u : am_U} (hM : MRep I 67 u) (hO : OKu u) (h : Q (some (.int (nI (sp_set (sp_met u) 6)))) I) {z1 z2 : Option Value} : J (d + 1) q_M_those 0 [some (.ref 66), some (.int 4), z1, z2] [] I Q := by
  have c1 := hO.Cn.1
  rw [hO.metS] at h
  have k9 := m_those_loop (d := d) hJ (f := 4) (by decide) (hM 6 (by decide)) c1 (P := sp_met u) (fun k hk => ⟨u (42 + 6 * k), by have := (hO.P (k := k) (by omega)); omega, by rw [hM _ (by omega), show 38 + 6 * k + 4 = 42 + 6 * k by omega], rfl⟩) h (u 6) 0 (by omega)
  refine am_vcc hJ [4] 200 _ _ _ _ _ _ _ ?_
  exact k9
theorem x_metSet_loop (hJ : am_Cl am_meth L xs J) {I : am_I} {u : am_U} (hC : CRep I 9 u) (hO : OKu u) (h : Q (some (.int (nI (sp_set (sp_met u) 6)))) I) : ∀ (n k : Nat), k + n = 6 → J (d + 1) q_Course_metSet 4 [some (.ref 9), some (.int (nI (sp_set (sp_met u) k))), some (.int (nI k))] [] I Q
  | 0, k, hn => by
    refine am_vcl hJ [4] 200 ?_
    refine br_t (by show nI 6 ≤ nI k; exact nI_le (by omega) (by omega)) ?_
    rw [show k = 6 by omega]
    exact h
  | n + 1, k, hn => by
    have ih := x_metSet_loop hJ hC hO h n (k + 1) (by omega)
    have lt := sp_set_lt (P := sp_met u) k
    have p5 := (hO.P (k := k) (by omega)).2.2.2.2.1
    refine am_vcl hJ [4] 200 ?_
    refine br_f (by show ¬ nI 6 ≤ nI k; exact nI_ge (by omega) (by omega)) ?_
    refine x_metOf hJ (by decide) hC.2.1 (by omega) ?_
    refine ⟨fun g => ?_, fun g => ?_⟩
    · have g : nI (u (42 + 6 * k)) ≤ nI 0 := g
      rw [nI_leI (by omega) (by omega)] at g
      have e : sp_set (sp_met u) (k + 1) = sp_set (sp_met u) k := by
        show sp_set (sp_met u) k + _ = _
        rw [show sp_met u k = false from decide_eq_false (by omega)]
        rfl
      rw [e, ← nI_1] at ih
      exact ih
    · have g : ¬ nI (u (42 + 6 * k)) ≤ nI 0 := g
      rw [nI_leI (by omega) (by omega)] at g
      have e : sp_set (sp_met u) (k + 1) = sp_set (sp_met u) k + 2 ^ k := by
        show sp_set (sp_met u) k + _ = _
        rw [show sp_met u k = true from decide_eq_true (by omega)]
        rfl
      rw [e, ← nI_1, ← or_bit' (by omega) lt] at ih
      exact ih
theorem x_isOver (hJ : am_Cl am_meth L xs J) {I : am_I} {c : Nat} {u : am_U} (hc : c ∈ am_cl) (hR : Rel (TR 8) I u) (hC : CRep I c u) (hO : OKu u) (hy : u 1 ≤ u 0 → Q (some (.int 1)) I) (hn : u 0 < u 1 → Q (some (.int 0)) I) : J d q_Road_isOver 0 [some (.ref 8), some (.ref c)] [] I Q := by
  obtain ⟨c1, c2, c3, c4, c5, c6, c7⟩ := hO.Cn
  have e0 := hC.day.1
  have e1 : I 8 10 = nI (u 1) := hR.get 8 10 1 (by decide +kernel)
  refine am_vc hJ 12 _ _ _ _ _ _ _ ?_
  conv => whnf
  rw [am_clG c hc]
  refine ⟨fun a => ?_, fun a => ?_⟩
  · have a : I c 0 < I 8 10 := a
    rw [e0, e1, nI_ltI (by omega) (by omega)] at a
    exact ⟨Or.inl rfl, hn a⟩
  · have a : ¬ I c 0 < I 8 10 := a
    rw [e0, e1, nI_ltI (by omega) (by omega)] at a
    exact ⟨Or.inr rfl, hy (by omega)⟩
theorem op_state (hJ : am_Cl am_meth L xs J) (a : Int32) : am_same Inv J q_X_state q_M_state [.int a] := by
  intro I hI Qc hQc
  obtain ⟨u, uk, hMn, hK, hRs⟩ := id hI
  obtain ⟨hM, hR, hC, hO⟩ := id hMn
  obtain ⟨c1, c2, c3, c4, c5, c6, c7⟩ := hO.Cn
  obtain ⟨e0, e1, e2, e3⟩ := hC.day
  have hc : 9 ∈ am_cl := by decide
  have e10 : I 8 10 = nI (u 1) := hR.1.get 8 10 1 (by decide +kernel)
  by_cases h1 : (0 : Int32) ≤ a ∧ a ≤ 8
  · obtain ⟨w, hw, rfl⟩ := am_rng (N := 8) rfl (by decide) h1
    refine am_vc hJ 60 _ _ _ _ _ _ _ ?_
    rcases (show w = 0 ∨ w = 1 ∨ w = 2 ∨ w = 3 ∨ w = 4 ∨ w = 5 ∨ w = 6 ∨ w = 7 ∨ w = 8 by omega) with rfl | rfl | rfl | rfl | rfl | rfl | rfl | rfl | rfl
    · repeat (first | refine br_f (by decide) ?_ | refine br_t (by decide) ?_)
      refine ⟨_, rfl, ?_⟩
      refine am_vc hJ 60 _ _ _ _ _ _ _ ?_
      repeat (first | refine br_f (by decide) ?_ | refine br_t (by decide) ?_)
      refine ⟨am_vin (by decide), ?_⟩
      refine ⟨?_, hQc _ hI⟩
      show some (Value.int (I 67 0)) = some (Value.int (I 9 0))
      rw [e0, hM 0 (by decide)]
    · repeat (first | refine br_f (by decide) ?_ | refine br_t (by decide) ?_)
      refine ⟨_, rfl, ?_⟩
      refine am_vc hJ 60 _ _ _ _ _ _ _ ?_
      repeat (first | refine br_f (by decide) ?_ | refine br_t (by decide) ?_)
      refine ⟨am_vin (by decide), ?_⟩
      refine ⟨?_, hQc _ hI⟩
      show some (Value.int (I 67 1)) = some (Value.int (I 8 10))
      rw [e10, hM 1 (by decide)]
    · repeat (first | refine br_f (by decide) ?_ | refine br_t (by decide) ?_)
      refine ⟨_, rfl, ?_⟩
      refine am_vc hJ 60 _ _ _ _ _ _ _ ?_
      repeat (first | refine br_f (by decide) ?_ | refine br_t (by decide) ?_)
      refine ⟨am_vin (by decide), ?_⟩
      refine ⟨?_, hQc _ hI⟩
      show some (Value.int (I 67 2)) = some (Value.int (I 9 3))
      rw [e3, hM 2 (by decide)]
    · repeat (first | refine br_f (by decide) ?_ | refine br_t (by decide) ?_)
      refine x_isOver hJ hc hR.1 hC hO (fun q => ?_) (fun q => ?_)
      · refine br_f (by decide) ?_
        refine ⟨_, rfl, ?_⟩
        refine am_vc hJ 60 _ _ _ _ _ _ _ ?_
        repeat (first | refine br_f (by decide) ?_ | refine br_t (by decide) ?_)
        refine m_isOver hJ (hM 0 (by decide)) (hM 1 (by decide)) c2 c3 (fun q2 => ?_) (fun q2 => by omega)
        refine br_f (by decide) ?_
        exact ⟨rfl, hQc _ hI⟩
      · refine br_t (by decide) ?_
        refine ⟨_, rfl, ?_⟩
        refine am_vc hJ 60 _ _ _ _ _ _ _ ?_
        repeat (first | refine br_f (by decide) ?_ | refine br_t (by decide) ?_)
        refine m_isOver hJ (hM 0 (by decide)) (hM 1 (by decide)) c2 c3 (fun q2 => by omega) (fun q2 => ?_)
        refine br_t (by decide) ?_
        exact ⟨rfl, hQc _ hI⟩
    · repeat (first | refine br_f (by decide) ?_ | refine br_t (by decide) ?_)
      conv => whnf
      show J 39 q_Course_metSet 0 [some (.ref 9), none, none] [] I _
      have k9 := fun Q h => x_metSet_loop (d := 38) (Q := Q) hJ hC hO h 6 0 (by decide)
      refine am_vcc hJ [4] 200 _ _ _ _ _ _ _ ?_
      refine k9 _ ?_
      refine ⟨_, rfl, ?_⟩
      refine am_vc hJ 60 _ _ _ _ _ _ _ ?_
      repeat (first | refine br_f (by decide) ?_ | refine br_t (by decide) ?_)
      refine m_thoseMet hJ hM hO ?_
      exact ⟨rfl, hQc _ hI⟩
    · repeat (first | refine br_f (by decide) ?_ | refine br_t (by decide) ?_)
      refine ⟨_, rfl, ?_⟩
      refine am_vc hJ 60 _ _ _ _ _ _ _ ?_
      repeat (first | refine br_f (by decide) ?_ | refine br_t (by decide) ?_)
      refine m_thoseFed hJ hM hO ?_
      refine ⟨?_, hQc _ hI⟩
      show some (Value.int (nI (fedN u))) = some (Value.int (I 9 5))
      rw [hC.2.2]
    · repeat (first | refine br_f (by decide) ?_ | refine br_t (by decide) ?_)
      conv => whnf
      show J 39 q_X_within 0 [some (.int (I 9 0)), some (.int 0), some (.int 15)] [] I _
      by_cases g : u 0 < 16
      · refine x_withinY hJ (by rw [e0]; exact am_rngI rfl (by omega) (N := 15) (by omega)) ?_
        refine br_f (by decide) ?_
        refine ⟨am_vinN e0 (by omega) (by omega), ?_⟩
        refine ⟨_, rfl, ?_⟩
        have ei : 10 + I 67 0 = nI (10 + u 0) := by rw [hM 0 (by decide)]; exact nI_add 10 _
        refine am_vc hJ 60 _ _ _ _ _ _ _ ?_
        repeat (first | refine br_f (by decide) ?_ | refine br_t (by decide) ?_)
        refine ⟨am_vin (by decide), ?_⟩
        refine br_f (by show ¬ nI 16 ≤ I 67 0; rw [hM 0 (by decide)]; exact nI_ge g (by omega)) ?_
        refine ⟨am_vin (by decide), ?_⟩
        refine ⟨am_vinN ei (by omega) (by omega), ?_⟩
        refine ⟨?_, hQc _ hI⟩
        show some (Value.int (I 67 (10 + I 67 0).toNatClampNeg)) = some (Value.int (I 14 (I 9 0).toNatClampNeg))
        rw [am_clN ei (by omega), am_clN e0 (by omega), hM _ (by omega), hR.1.get 14 _ _ (TR8_w _ g)]
      · refine x_withinN hJ (by
          rw [e0]
          intro z
          have := z.2
          rw [show (15 : Int32) = nI 15 from rfl, nI_leI (by omega) (by omega)] at this
          omega) ?_
        refine br_t (by decide) ?_
        refine ⟨_, rfl, ?_⟩
        refine am_vc hJ 60 _ _ _ _ _ _ _ ?_
        repeat (first | refine br_f (by decide) ?_ | refine br_t (by decide) ?_)
        refine ⟨am_vin (by decide), ?_⟩
        refine br_t (by show nI 16 ≤ I 67 0; rw [hM 0 (by decide)]; exact nI_le (by omega) (by omega)) ?_
        exact ⟨rfl, hQc _ hI⟩
    · repeat (first | refine br_f (by decide) ?_ | refine br_t (by decide) ?_)
      refine ⟨_, rfl, ?_⟩
      refine am_vc hJ 60 _ _ _ _ _ _ _ ?_
      repeat (first | refine br_f (by decide) ?_ | refine br_t (by decide) ?_)
      refine ⟨am_vin (by decide), ?_⟩
      refine ⟨?_, hQc _ hI⟩
      show some (Value.int (I 67 3)) = some (Value.int (I 9 1))
      rw [e1, hM 3 (by decide)]
    · repeat (first | refine br_f (by decide) ?_ | refine br_t (by decide) ?_)
      refine ⟨_, rfl, ?_⟩
      refine am_vc hJ 60 _ _ _ _ _ _ _ ?_
      repeat (first | refine br_f (by decide) ?_ | refine br_t (by decide) ?_)
      refine ⟨am_vin (by decide), ?_⟩
      refine ⟨?_, hQc _ hI⟩
      show some (Value.int (I 67 4)) = some (Value.int (I 9 2))
      rw [e2, hM 4 (by decide)]
  · refine am_vc hJ 60 _ _ _ _ _ _ _ ?_
    repeat (refine br_f (fun z => h1 (by have z : a = _ := z; rw [z]; decide)) ?_)
    refine ⟨_, rfl, ?_⟩
    refine am_vc hJ 60 _ _ _ _ _ _ _ ?_
    repeat (refine br_f (fun z => h1 (by have z : a = _ := z; rw [z]; decide)) ?_)
    exact ⟨rfl, hQc _ hI⟩
theorem op_day (hJ : am_Cl am_meth L xs J) : am_same Inv J q_X_day q_M_day [] := by
  intro I hI Qc hQc
  obtain ⟨u, uk, hMn, hK, hRs⟩ := id hI
  obtain ⟨hM, hR, hC, hO⟩ := id hMn
  obtain ⟨c1, c2, c3, c4, c5, c6, c7⟩ := hO.Cn
  have hc : 9 ∈ am_cl := by decide
  refine am_vc hJ 40 _ _ _ _ _ _ _ ?_
  refine x_isOver hJ hc hR.1 hC hO (fun q => ?_) (fun q => ?_)
  · refine br_f (by decide) ?_
    refine ⟨_, rfl, ?_⟩
    refine am_vc hJ 20 _ _ _ _ _ _ _ ?_
    refine m_isOver hJ (hM 0 (by decide)) (hM 1 (by decide)) c2 c3 (fun q2 => ?_) (fun q2 => by omega)
    refine br_f (by decide) ?_
    exact ⟨rfl, hQc _ hI⟩
  · refine br_t (by decide) ?_
    refine x_restAct hJ hc hR hC hO ?_
    refine x_goBy hJ hc hR hC hO sp_rest_le (fun I1 q1 R1 C1 => ?_)
    refine ⟨_, rfl, ?_⟩
    have M1 : MRep I1 67 u := by
      unfold MRep
      rw [q1 67 (by decide) (by decide)]
      exact hM
    refine am_vc hJ 20 _ _ _ _ _ _ _ ?_
    refine m_isOver hJ (M1 0 (by decide)) (M1 1 (by decide)) c2 c3 (fun q2 => by omega) (fun q2 => ?_)
    refine br_t (by decide) ?_
    refine m_goesRest hJ M1 hR.2 hO (fun I2 q3 M2 => ?_)
    exact ⟨rfl, hQc _ (Inv.day hK hRs q1 R1 C1 q3 M2 (sp_goU_ok hO sp_rest_le q))⟩
end
