section
variable {L : Nat} {xs : Nat → Int32} {J : am_J} {d : Nat} {I : am_I} {Q : am_Q}
theorem m_strangeOf (hJ : am_Cl am_meth L xs J) {kd ta dy : Nat} (hk : kd ≤ 5) (ht : ta ≤ 9) (hd : dy ≤ 16) (h : Q (some (.int (nI (sp_strange kd ta dy)))) I) : J d q_M_strangeOf 0 [some (.int (nI kd)), some (.int (nI ta)), some (.int (nI dy))] [] I Q := by
  rcases (show kd = 0 ∨ kd = 1 ∨ kd = 2 ∨ kd = 3 ∨ kd = 4 ∨ kd = 5 by omega) with rfl | rfl | rfl | rfl | rfl | rfl
  · refine am_vc hJ 20 _ _ _ _ _ _ _ ?_
    refine br_f (by decide) ?_
    refine br_f (by decide) ?_
    refine br_f (by decide) ?_
    refine br_f (by decide) ?_
    refine br_f (by decide) ?_
    exact h
  · refine am_vc hJ 20 _ _ _ _ _ _ _ ?_
    refine br_t (by decide) ?_
    have e : 2 * nI ta = nI (sp_strange 1 ta dy) := by rw [show (2 : Int32) = nI 2 from rfl, pk_mul]; simp [sp_strange]
    show Q (some (.int (2 * nI ta))) I
    rw [e]
    exact h
  · refine am_vc hJ 20 _ _ _ _ _ _ _ ?_
    refine br_f (by decide) ?_
    refine br_t (by decide) ?_
    have e : nI ta + 3 = nI (sp_strange 2 ta dy) := by rw [show (3 : Int32) = nI 3 from rfl, nI_add]; simp [sp_strange]
    show Q (some (.int (nI ta + 3))) I
    rw [e]
    exact h
  · refine am_vc hJ 20 _ _ _ _ _ _ _ ?_
    refine br_f (by decide) ?_
    refine br_f (by decide) ?_
    refine br_t (by decide) ?_
    refine ⟨by decide, ?_⟩
    refine ⟨fun g => ?_, fun g => ?_⟩
    · have g := (nI_mod2 dy (by omega)).mp g
      have e : nI ta + 5 = nI (sp_strange 3 ta dy) := by rw [show (5 : Int32) = nI 5 from rfl, nI_add]; simp [sp_strange, g]
      show Q (some (.int (nI ta + 5))) I
      rw [e]
      exact h
    · have g : ¬ dy % 2 = 0 := fun z => g ((nI_mod2 dy (by omega)).mpr z)
      have e : nI ta + 3 = nI (sp_strange 3 ta dy) := by rw [show (3 : Int32) = nI 3 from rfl, nI_add]; simp [sp_strange, g]
      show Q (some (.int (nI ta + 3))) I
      rw [e]
      exact h
  · refine am_vc hJ 20 _ _ _ _ _ _ _ ?_
    refine br_f (by decide) ?_
    refine br_f (by decide) ?_
    refine br_f (by decide) ?_
    refine br_t (by decide) ?_
    refine ⟨by decide, ?_⟩
    have e : nI ta / 2 = nI (sp_strange 4 ta dy) := by rw [nI_div2 ta (by omega)]; simp [sp_strange]
    show Q (some (.int (nI ta / 2))) I
    rw [e]
    exact h
  · refine am_vc hJ 20 _ _ _ _ _ _ _ ?_
    refine br_f (by decide) ?_
    refine br_f (by decide) ?_
    refine br_f (by decide) ?_
    refine br_f (by decide) ?_
    refine br_t (by decide) ?_
    refine ⟨by decide, ?_⟩
    refine ⟨fun g => ?_, fun g => ?_⟩
    · have g := (nI_mod3 dy (by omega)).mp g
      have e : (9 : Int32) = nI (sp_strange 5 ta dy) := by simp [sp_strange, g]; rfl
      rw [← e] at h
      exact h
    · have g : ¬ dy % 3 = 2 := fun z => g ((nI_mod3 dy (by omega)).mpr z)
      refine ⟨by decide, ?_⟩
      have e : nI ta / 2 = nI (sp_strange 5 ta dy) := by rw [nI_div2 ta (by omega)]; simp [sp_strange, g]
      show Q (some (.int (nI ta / 2))) I
      rw [e]
      exact h
theorem m_stillOf (hJ : am_Cl am_meth L xs J) {k : Nat} {u : am_U} (hM : MRep I 67 u) (hO : OKu u) (hk : k < 6) (h : Q (some (.int (nI (sp_still u k)))) I) {z : Option Value} : J (d + 1) q_M_stillOf 0 [some (.ref 66), some (.int (nI k)), z] [] I Q := by
  obtain ⟨p1, p2, p3, p4, p5, p6⟩ := hO.P hk
  obtain ⟨c1, c2, c3, c4, c5, c6, c7⟩ := hO.Cn
  have g1 := (hO.G (g := u (41 + 6 * k)) (by omega)).1
  have h18 := sp_strange_le (kd := u (38 + 6 * k)) (dy := u 0) p3
  refine am_vc hJ 60 _ _ _ _ _ _ _ ?_
  refine m_get hJ (a := k) (b := 0) rfl rfl hk (by decide) ?_
  refine m_get hJ (a := k) (b := 2) rfl rfl hk (by decide) ?_
  refine ⟨am_vin (by decide), ?_⟩
  have e0 : I 67 (38 + 6 * k + 0) = nI (u (38 + 6 * k)) := hM _ (by omega)
  have e2 : I 67 (38 + 6 * k + 2) = nI (u (40 + 6 * k)) := by rw [hM _ (by omega)]; congr 2; omega
  have e3 : I 67 (38 + 6 * k + 3) = nI (u (41 + 6 * k)) := by rw [hM _ (by omega)]; congr 2; omega
  have e4 : I 67 (38 + 6 * k + 4) = nI (u (42 + 6 * k)) := by rw [hM _ (by omega)]; congr 2; omega
  have ed : I 67 (0 : Int32).toNatClampNeg = nI (u 0) := hM 0 (by omega)
  have eg : 26 + I 67 (38 + 6 * k + 3) = nI (26 + u (41 + 6 * k)) := by rw [e3, show (26 : Int32) = nI 26 from rfl, nI_add]
  conv => whnf
  rw [e0, e2, ed]
  refine m_strangeOf hJ p1 p3 c2 ?_
  refine m_get hJ (a := k) (b := 3) rfl rfl hk (by decide) ?_
  refine ⟨am_vinN eg (by omega) (by omega), ?_⟩
  refine m_get hJ (a := k) (b := 4) rfl rfl hk (by decide) ?_
  have ef : nI (sp_strange (u (38 + 6 * k)) (u (40 + 6 * k)) (u 0)) + I 67 (26 + I 67 (38 + 6 * k + 3)).toNatClampNeg - 2 * I 67 (38 + 6 * k + 4) = nI (sp_strange (u (38 + 6 * k)) (u (40 + 6 * k)) (u 0) + u (26 + u (41 + 6 * k))) - nI (2 * u (42 + 6 * k)) := by
    rw [am_clN eg (by omega), hM _ (by omega), nI_add, e4, show (2 : Int32) = nI 2 from rfl, pk_mul]
  refine ⟨fun g => ?_, fun g => ?_⟩
  · have g : 0 ≤ nI (sp_strange (u (38 + 6 * k)) (u (40 + 6 * k)) (u 0)) + I 67 (26 + I 67 (38 + 6 * k + 3)).toNatClampNeg - 2 * I 67 (38 + 6 * k + 4) := g
    show Q (some (.int (nI (sp_strange (u (38 + 6 * k)) (u (40 + 6 * k)) (u 0)) + I 67 (26 + I 67 (38 + 6 * k + 3)).toNatClampNeg - 2 * I 67 (38 + 6 * k + 4)))) I
    rw [ef] at g ⊢
    have hge : 2 * u (42 + 6 * k) ≤ sp_strange (u (38 + 6 * k)) (u (40 + 6 * k)) (u 0) + u (26 + u (41 + 6 * k)) := by
      apply Nat.le_of_not_lt
      intro z
      exact absurd g (Int32.not_le.mpr (pk_sneg (by omega) z))
    rw [pk_sub hge]
    exact h
  · have g : ¬ 0 ≤ nI (sp_strange (u (38 + 6 * k)) (u (40 + 6 * k)) (u 0)) + I 67 (26 + I 67 (38 + 6 * k + 3)).toNatClampNeg - 2 * I 67 (38 + 6 * k + 4) := g
    rw [ef] at g
    have hlt : sp_strange (u (38 + 6 * k)) (u (40 + 6 * k)) (u 0) + u (26 + u (41 + 6 * k)) < 2 * u (42 + 6 * k) := by
      apply Nat.lt_of_not_le
      intro z
      rw [pk_sub z] at g
      exact g (nI_pos' (by omega))
    have es : sp_still u k = 0 := by unfold sp_still; omega
    rw [es] at h
    exact h
theorem m_eatsOf (hJ : am_Cl am_meth L xs J) {k : Nat} {u : am_U} (hM : MRep I 67 u) (hO : OKu u) (hk : k < 6) (h : Q (some (.int (nI (sp_eats u k)))) I) : J (d + 1) q_M_eatsOf 0 [some (.ref 66), some (.int (nI k))] [] I Q := by
  obtain ⟨p1, p2, p3, p4, p5, p6⟩ := hO.P hk
  have e0 : I 67 (38 + 6 * k + 0) = nI (u (38 + 6 * k)) := hM _ (by omega)
  obtain ⟨kd, hkd⟩ : ∃ kd, u (38 + 6 * k) = kd := ⟨_, rfl⟩
  have h5 : kd ≤ 5 := by omega
  unfold sp_eats at h
  rw [hkd] at h e0
  refine am_vc hJ 20 _ _ _ _ _ _ _ ?_
  refine m_get hJ (a := k) (b := 0) rfl rfl hk (by decide) ?_
  conv => whnf
  rw [e0]
  rcases (show kd = 0 ∨ kd = 1 ∨ kd = 2 ∨ kd = 3 ∨ kd = 4 ∨ kd = 5 by omega) with rfl | rfl | rfl | rfl | rfl | rfl
  · refine br_f (by decide) ?_
    refine br_f (by decide) ?_
    refine br_f (by decide) ?_
    refine br_f (by decide) ?_
    refine br_f (by decide) ?_
    exact h
  · refine br_t (by decide) ?_
    have e : (3 : Int32) + nI k = nI (3 + k) := nI_add 3 k
    show Q (some (.int (3 + nI k))) I
    rw [e]
    exact h
  · refine br_f (by decide) ?_
    refine br_t (by decide) ?_
    exact h
  · refine br_f (by decide) ?_
    refine br_f (by decide) ?_
    refine br_t (by decide) ?_
    exact h
  · refine br_f (by decide) ?_
    refine br_f (by decide) ?_
    refine br_f (by decide) ?_
    refine br_t (by decide) ?_
    exact h
  · refine br_f (by decide) ?_
    refine br_f (by decide) ?_
    refine br_f (by decide) ?_
    refine br_f (by decide) ?_
    refine br_t (by decide) ?_
    exact h
theorem m_isTaken (hJ : am_Cl am_meth L xs J) {k : Nat} {u : am_U} (hM : MRep I 67 u) (hO : OKu u) (hk : k < 6) (h1 : u 3 ≤ u (32 + u (41 + 6 * k)) → Q (some (.int 1)) I) (h0 : ¬ u 3 ≤ u (32 + u (41 + 6 * k)) → Q (some (.int 0)) I) : J (d + 1) q_M_isTaken 0 [some (.ref 66), some (.int (nI k))] [] I Q := by
  obtain ⟨p1, p2, p3, p4, p5, p6⟩ := hO.P hk
  obtain ⟨c1, c2, c3, c4, c5, c6, c7⟩ := hO.Cn
  have g2 := (hO.G (g := u (41 + 6 * k)) (by omega)).2
  have e3 : I 67 (38 + 6 * k + 3) = nI (u (41 + 6 * k)) := by rw [hM _ (by omega)]; congr 2; omega
  have eg : 32 + I 67 (38 + 6 * k + 3) = nI (32 + u (41 + 6 * k)) := by rw [e3, show (32 : Int32) = nI 32 from rfl, nI_add]
  have es : I 67 (3 : Int32).toNatClampNeg = nI (u 3) := hM 3 (by omega)
  have ex : I 67 (32 + I 67 (38 + 6 * k + 3)).toNatClampNeg = nI (u (32 + u (41 + 6 * k))) := by rw [am_clN eg (by omega), hM _ (by omega)]
  refine am_vc hJ 30 _ _ _ _ _ _ _ ?_
  refine ⟨am_vin (by decide), ?_⟩
  refine m_get hJ (a := k) (b := 3) rfl rfl hk (by decide) ?_
  refine ⟨am_vinN eg (by omega) (by omega), ?_⟩
  refine ⟨fun g => ?_, fun g => ?_⟩
  · have g : I 67 (32 + I 67 (38 + 6 * k + 3)).toNatClampNeg < I 67 (3 : Int32).toNatClampNeg := g
    rw [ex, es, nI_ltI (by omega) (by omega)] at g
    exact ⟨Or.inl rfl, h0 (by omega)⟩
  · have g : ¬ I 67 (32 + I 67 (38 + 6 * k + 3)).toNatClampNeg < I 67 (3 : Int32).toNatClampNeg := g
    rw [ex, es, nI_ltI (by omega) (by omega)] at g
    exact ⟨Or.inr rfl, h1 (by omega)⟩
/-- kind, or under it -/
def sp_under (kd of : Nat) : Bool := decide (of = 0) || decide (kd = of) || (decide (kd = 3) && decide (of = 2)) || (decide (kd = 5) && decide (of = 4))
theorem x_isOrIsUnder (hJ : am_Cl am_meth L xs J) {kd of : Nat} (hk : kd ≤ 5) (ho : of ≤ 5) (h1 : sp_under kd of = true → Q (some (.int 1)) I) (h0 : sp_under kd of = false → Q (some (.int 0)) I) : J d q_Road_isOrIsUnder 0 [some (.int (nI kd)), some (.int (nI of))] [] I Q := by
  have e0 : nI of = 0 ↔ of = 0 := by rw [show (0 : Int32) = nI 0 from rfl, nI_eq (by omega) (by omega)]
  have e1 : nI kd = nI of ↔ kd = of := nI_eq (by omega) (by omega)
  have e2 : nI kd = 3 ↔ kd = 3 := by rw [show (3 : Int32) = nI 3 from rfl, nI_eq (by omega) (by omega)]
  have e3 : nI of = 2 ↔ of = 2 := by rw [show (2 : Int32) = nI 2 from rfl, nI_eq (by omega) (by omega)]
  have e4 : nI kd = 5 ↔ kd = 5 := by rw [show (5 : Int32) = nI 5 from rfl, nI_eq (by omega) (by omega)]
  have e5 : nI of = 4 ↔ of = 4 := by rw [show (4 : Int32) = nI 4 from rfl, nI_eq (by omega) (by omega)]
  refine am_vc hJ 22 _ _ _ _ _ _ _ ?_
  refine ⟨fun g => ⟨Or.inr rfl, h1 ?_⟩, fun g => ⟨fun g2 => ⟨Or.inr rfl, h1 ?_⟩, fun g2 => ⟨fun g3 => ⟨fun g4 => ⟨Or.inr rfl, h1 ?_⟩, fun g4 => ⟨fun g5 => ?_, fun g5 => ?_⟩⟩, fun g3 => ⟨fun g5 => ⟨fun g6 => ⟨Or.inr rfl, h1 ?_⟩, fun g6 => ⟨Or.inl rfl, h0 ?_⟩⟩, fun g5 => ⟨Or.inl rfl, h0 ?_⟩⟩⟩⟩⟩
  · simp [sp_under, e0.mp g]
  · simp [sp_under, e1.mp g2]
  · simp [sp_under, e2.mp g3, e3.mp g4]
  · have k3 := e2.mp g3
    have k5 := e4.mp g5
    omega
  · have n4 : ¬ of = 2 := fun z => g4 (e3.mpr z)
    have n0 : ¬ of = 0 := fun z => g (e0.mpr z)
    have n1 : ¬ kd = of := fun z => g2 (e1.mpr z)
    have k3 := e2.mp g3
    subst k3
    exact ⟨Or.inl rfl, h0 (by simp [sp_under, n0, n1, n4])⟩
  · simp [sp_under, e4.mp g5, e5.mp g6]
  · have n0 : ¬ of = 0 := fun z => g (e0.mpr z)
    have n1 : ¬ kd = of := fun z => g2 (e1.mpr z)
    have n3 : ¬ kd = 3 := fun z => g3 (e2.mpr z)
    have n6 : ¬ of = 4 := fun z => g6 (e5.mpr z)
    simp [sp_under, n0, n1, n3, n6]
  · have n0 : ¬ of = 0 := fun z => g (e0.mpr z)
    have n1 : ¬ kd = of := fun z => g2 (e1.mpr z)
    have n3 : ¬ kd = 3 := fun z => g3 (e2.mpr z)
    have n5 : ¬ kd = 5 := fun z => g5 (e4.mpr z)
    simp [sp_under, n0, n1, n3, n5]
theorem m_above (hJ : am_Cl am_meth L xs J) {kd : Nat} (hk : kd ≤ 5) (h : Q (some (.int (nI (if kd = 3 then 2 else if kd = 5 then 4 else 0)))) I) : J d q_M_above 0 [some (.int (nI kd))] [] I Q := by
  rcases (show kd = 0 ∨ kd = 1 ∨ kd = 2 ∨ kd = 3 ∨ kd = 4 ∨ kd = 5 by omega) with rfl | rfl | rfl | rfl | rfl | rfl
  · refine am_vc hJ 12 _ _ _ _ _ _ _ ?_
    refine br_f (by decide) ?_
    refine br_f (by decide) ?_
    exact h
  · refine am_vc hJ 12 _ _ _ _ _ _ _ ?_
    refine br_f (by decide) ?_
    refine br_f (by decide) ?_
    exact h
  · refine am_vc hJ 12 _ _ _ _ _ _ _ ?_
    refine br_f (by decide) ?_
    refine br_f (by decide) ?_
    exact h
  · refine am_vc hJ 12 _ _ _ _ _ _ _ ?_
    refine br_t (by decide) ?_
    exact h
  · refine am_vc hJ 12 _ _ _ _ _ _ _ ?_
    refine br_f (by decide) ?_
    refine br_f (by decide) ?_
    exact h
  · refine am_vc hJ 12 _ _ _ _ _ _ _ ?_
    refine br_f (by decide) ?_
    refine br_t (by decide) ?_
    exact h
theorem m_under_loop (hJ : am_Cl am_meth L xs J) {kd of : Nat} (ho : of ≤ 5) (Qb : Bool) (h1 : Qb = true → Q (some (.int 1)) I) (h0 : Qb = false → Q (some (.int 0)) I) : ∀ (n at' : Nat), at' ≤ 5 → (at' = 3 ∨ at' = 5 → 2 ≤ n) → (at' ≠ 0 → 1 ≤ n) → Qb = sp_under at' of → J (d + 1) q_M_isUnder 2 [some (.int (nI kd)), some (.int (nI of)), some (.int (nI at'))] [] I Q
  | n, at', ha, hn, hn1, hq => by
    have e1 : nI at' = nI of ↔ at' = of := nI_eq (by omega) (by omega)
    have e0 : nI at' = 0 ↔ at' = 0 := by rw [show (0 : Int32) = nI 0 from rfl, nI_eq (by omega) (by omega)]
    have hend : (at' = of → Qb = true) := fun z => by rw [hq, z]; simp [sp_under]
    refine am_vcl hJ [2] 200 ?_
    refine ⟨fun g => ?_, fun g => ⟨fun g2 => ?_, fun g2 => ?_⟩⟩
    · refine ⟨fun _ => ⟨Or.inr rfl, h1 (hend (e1.mp g))⟩, fun g3 => absurd g g3⟩
    · refine ⟨fun g3 => absurd g3 g, fun _ => ⟨Or.inl rfl, h0 ?_⟩⟩
      have z := e0.mp g2
      subst z
      have n1 : ¬ 0 = of := fun w => g (e1.mpr w)
      rw [hq]
      simp [sp_under, n1, Ne.symm n1]
    · refine m_above hJ ha ?_
      have n1 : ¬ at' = of := fun w => g (e1.mpr w)
      have n2 : ¬ at' = 0 := fun w => g2 (e0.mpr w)
      cases n with
      | zero => exact absurd (hn1 n2) (by decide)
      | succ n =>
        refine m_under_loop hJ ho Qb h1 h0 n _ ?_ ?_ ?_ ?_
        · split
          · omega
          · split <;> omega
        · intro z
          split at z
          · omega
          · split at z <;> omega
        · intro z
          split at z
          · next q => have := hn (Or.inl q); omega
          · split at z
            · next q => have := hn (Or.inr q); omega
            · omega
        · rw [hq]
          rcases (show at' = 1 ∨ at' = 2 ∨ at' = 3 ∨ at' = 4 ∨ at' = 5 by omega) with rfl | rfl | rfl | rfl | rfl
          all_goals
            rcases (show of = 0 ∨ of = 1 ∨ of = 2 ∨ of = 3 ∨ of = 4 ∨ of = 5 by omega) with rfl | rfl | rfl | rfl | rfl | rfl
          all_goals first
            | rfl
            | exact absurd rfl n1
theorem m_isUnder (hJ : am_Cl am_meth L xs J) {kd of : Nat} (hk : kd ≤ 5) (ho : of ≤ 5) (h1 : sp_under kd of = true → Q (some (.int 1)) I) (h0 : sp_under kd of = false → Q (some (.int 0)) I) {z : Option Value} : J (d + 1) q_M_isUnder 0 [some (.int (nI kd)), some (.int (nI of)), z] [] I Q := by
  refine am_vcc hJ [2] 200 _ _ _ _ _ _ _ ?_
  exact m_under_loop hJ ho _ h1 h0 2 kd hk (by omega) (by omega) rfl
end
