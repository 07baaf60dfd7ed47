/-! STRANGE STILL, TAKEN, SNOW: in both -/
theorem am_clG : ∀ c ∈ am_cl, am_G c = some (.inl 1) := by decide +kernel
theorem am_clN0 : ∀ c ∈ am_cl, c ≠ 8 ∧ c ≠ 67 ∧ c ≠ 18 := by decide +kernel
theorem TR8_p1 : ∀ k, k < 6 → (10, k, 38 + 6 * k) ∈ TR 8 ∧ (11, k, 39 + 6 * k) ∈ TR 8 := by decide +kernel
theorem TR8_p2 : ∀ k, k < 6 → (12, k, 40 + 6 * k) ∈ TR 8 ∧ (13, k, 41 + 6 * k) ∈ TR 8 := by decide +kernel
theorem TR8_p (k : Nat) (h : k < 6) : (10, k, 38 + 6 * k) ∈ TR 8 ∧ (11, k, 39 + 6 * k) ∈ TR 8 ∧ (12, k, 40 + 6 * k) ∈ TR 8 ∧ (13, k, 41 + 6 * k) ∈ TR 8 := ⟨(TR8_p1 k h).1, (TR8_p1 k h).2, (TR8_p2 k h).1, (TR8_p2 k h).2⟩
theorem TR8_g : ∀ k, k < 6 → (15, k, 26 + k) ∈ TR 8 ∧ (16, k, 32 + k) ∈ TR 8 := by decide +kernel
theorem TR8_w : ∀ k, k < 16 → (14, k, 10 + k) ∈ TR 8 := by decide +kernel
theorem CRep.day {I : am_I} {c : Nat} {u : am_U} (h : CRep I c u) : I c 0 = nI (u 0) ∧ I c 1 = nI (u 3) ∧ I c 2 = nI (u 4) ∧ I c 3 = nI (u 2) := ⟨h.1 (c, 0, 0) (by simp [TC]), h.1 (c, 1, 3) (by simp [TC]), h.1 (c, 2, 4) (by simp [TC]), h.1 (c, 3, 2) (by simp [TC])⟩
section
variable {L : Nat} {xs : Nat → Int32} {J : am_J} {d : Nat} {I : am_I} {Q : am_Q}
theorem x_thingOf (hJ : am_Cl am_meth L xs J) {k kd : Nat} {u : am_U} (hR : Rel (TR 8) I u) (hk : k < 6) (hkd : u (38 + 6 * k) = kd) (h5 : kd ≤ 5) (h : Q (some (.ref (2 + kd))) I) : J d q_Road_thingOf 0 [some (.ref 8), some (.int (nI k))] [] I Q := by
  have e : I 10 (nI k).toNatClampNeg = nI kd := by rw [nI_clamp (by omega), hR.get 10 k _ (TR8_p k hk).1, hkd]
  refine am_vc hJ 12 _ _ _ _ _ _ _ ?_
  refine ⟨vp_in_nI (by omega) (by omega), am_vinN e (by omega) (by omega), ?_⟩
  rw [am_clN e (by omega)]
  rcases (show kd = 0 ∨ kd = 1 ∨ kd = 2 ∨ kd = 3 ∨ kd = 4 ∨ kd = 5 by omega) with rfl | rfl | rfl | rfl | rfl | rfl
  all_goals exact h
theorem x_takesBy (hJ : am_Cl am_meth L xs J) {k sn : Nat} {u : am_U} (hR : Rel (TR 8) I u) (hO : OKu u) (hk : k < 6) (hs : sn ≤ 9) (h1 : sn ≤ u (32 + u (41 + 6 * k)) → Q (some (.int 1)) I) (h0 : ¬ sn ≤ u (32 + u (41 + 6 * k)) → Q (some (.int 0)) I) : J d q_Road_takesBy 0 [some (.ref 8), some (.int (nI sn)), some (.int (nI k))] [] I Q := by
  obtain ⟨p1, p2, p3, p4, p5, p6⟩ := hO.P hk
  have g2 := (hO.G (g := u (41 + 6 * k)) (by omega)).2
  have e : I 13 (nI k).toNatClampNeg = nI (u (41 + 6 * k)) := by rw [nI_clamp (by omega), hR.get 13 k _ (TR8_p k hk).2.2.2]
  have e2 : I 16 (I 13 (nI k).toNatClampNeg).toNatClampNeg = nI (u (32 + u (41 + 6 * k))) := by rw [am_clN e (by omega), hR.get 16 _ _ (TR8_g _ (by omega)).2]
  refine am_vc hJ 14 _ _ _ _ _ _ _ ?_
  refine ⟨vp_in_nI (by omega) (by omega), am_vinN e (by omega) (by omega), ?_⟩
  refine ⟨fun g => ?_, fun g => ?_⟩
  · have g : I 16 (I 13 (nI k).toNatClampNeg).toNatClampNeg < nI sn := g
    rw [e2, nI_ltI (by omega) (by omega)] at g
    exact ⟨Or.inl rfl, h0 (by omega)⟩
  · have g : ¬ I 16 (I 13 (nI k).toNatClampNeg).toNatClampNeg < nI sn := g
    rw [e2, nI_ltI (by omega) (by omega)] at g
    exact ⟨Or.inr rfl, h1 (by omega)⟩
theorem x_still_tail (hJ : am_Cl am_meth L xs J) {c k sv : Nat} {u : am_U} (hc : c ∈ am_cl) (hR : Rel (TR 8) I u) (hC : CRep I c u) (hO : OKu u) (hk : k < 6) (hsv : sv = sp_strange (u (38 + 6 * k)) (u (40 + 6 * k)) (u 0)) (h : Q (some (.int (nI (sp_still u k)))) I) {z : Option Value} : J (d + 3) q_Road_strangeStill 18 [some (.ref 8), some (.ref c), some (.int (nI k)), z] [.int (nI sv)] I Q := by
  obtain ⟨p1, p2, p3, p4, p5, p6⟩ := hO.P hk
  have g1 := (hO.G (g := u (41 + 6 * k)) (by omega)).1
  have h18 := sp_strange_le (kd := u (38 + 6 * k)) (dy := u 0) p3
  have e : I 13 (nI k).toNatClampNeg = nI (u (41 + 6 * k)) := by rw [nI_clamp (by omega), hR.get 13 k _ (TR8_p k hk).2.2.2]
  have e2 : I 15 (I 13 (nI k).toNatClampNeg).toNatClampNeg = nI (u (26 + u (41 + 6 * k))) := by rw [am_clN e (by omega), hR.get 15 _ _ (TR8_g _ (by omega)).1]
  refine am_vc hJ 40 _ _ _ _ _ _ _ ?_
  refine ⟨vp_in_nI (by omega) (by omega), am_vinN e (by omega) (by omega), ?_⟩
  conv => whnf
  rw [am_clG c hc]
  refine x_metOf hJ hc hC.2.1 hk ?_
  show Q (some (.int (am_mx 0 (nI sv + I 15 (I 13 (nI k).toNatClampNeg).toNatClampNeg - 2 * nI (u (42 + 6 * k)))))) I
  rw [e2, nI_add, show (2 : Int32) = nI 2 from rfl, pk_mul, am_mx0 (by omega) (by omega), hsv]
  exact h
theorem x_strangeStill (hJ : am_Cl am_meth L xs J) {c k : Nat} {u : am_U} (hc : c ∈ am_cl) (hR : Rel (TR 8) I u) (hC : CRep I c u) (hO : OKu u) (hk : k < 6) (h : Q (some (.int (nI (sp_still u k)))) I) {z : Option Value} : J (d + 3) q_Road_strangeStill 0 [some (.ref 8), some (.ref c), some (.int (nI k)), z] [] I Q := by
  obtain ⟨p1, p2, p3, p4, p5, p6⟩ := hO.P hk
  obtain ⟨c1, c2, c3, c4, c5, c6, c7⟩ := hO.Cn
  have e : I 12 (nI k).toNatClampNeg = nI (u (40 + 6 * k)) := by rw [nI_clamp (by omega), hR.get 12 k _ (TR8_p k hk).2.2.1]
  have ed : I c 0 = nI (u 0) := hC.day.1
  obtain ⟨kd, hkd⟩ : ∃ kd, u (38 + 6 * k) = kd := ⟨_, rfl⟩
  have h5 : kd ≤ 5 := by omega
  have tail := fun sv hsv => x_still_tail (d := d) (sv := sv) (z := z) hJ hc hR hC hO hk hsv h
  rw [hkd] at tail
  refine am_vcc hJ [18] 200 _ _ _ _ _ _ _ ?_
  refine x_thingOf hJ hR hk hkd h5 ?_
  refine ⟨vp_in_nI (by omega) (by omega), ?_⟩
  conv => whnf
  rw [am_clG c hc]
  rcases (show kd = 0 ∨ kd = 1 ∨ kd = 2 ∨ kd = 3 ∨ kd = 4 ∨ kd = 5 by omega) with rfl | rfl | rfl | rfl | rfl | rfl
  all_goals
    (try conv => whnf)
    rw [e, ed]
  · refine x_Person_strange hJ ?_
    exact tail (u (40 + 6 * k)) (by simp [sp_strange])
  · refine x_Tramp_strange hJ ?_
    rw [show (2 : Int32) = nI 2 from rfl, pk_mul]
    exact tail (2 * u (40 + 6 * k)) (by simp [sp_strange])
  · refine x_Pilgrim_strange hJ (Or.inl rfl) ?_
    rw [show (3 : Int32) = nI 3 from rfl, nI_add]
    exact tail (u (40 + 6 * k) + 3) (by simp [sp_strange])
  · refine x_Bishop_strange hJ (by omega) ?_
    exact tail _ rfl
  · refine x_Friend_strange hJ (Or.inl rfl) ?_
    rw [nI_div2 _ (by omega)]
    exact tail (u (40 + 6 * k) / 2) (by simp [sp_strange])
  · refine x_Twin_strange hJ (by omega) (by omega) ?_
    exact tail _ rfl
end
