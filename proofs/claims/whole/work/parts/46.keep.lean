/-! TAKEN, KEEP, AGAIN -/
def CpS (I0 I : am_I) (a b : Nat) (D : List (Nat × Nat × Nat)) : Prop := (∀ o, o < a ∨ a + 14 < o → I o = I0 o) ∧ ∀ t ∈ D, ∀ k, t.2.1 ≤ k → k < t.2.2 → I (a + t.1) k = I0 (b + t.1) k
theorem CpS.nil (I0 : am_I) (a b : Nat) : CpS I0 I0 a b [] := ⟨fun _ _ => rfl, fun t ht => by simp at ht⟩
theorem cpy_ne {I : am_I} {o1 p1 o2 p2 n o : Nat} (h : o ≠ o2) : am_cpy I o1 p1 o2 p2 n o = I o := by
  funext k
  unfold am_cpy
  rw [if_neg (fun q => h q.1)]
theorem CpS.cpy {I0 I : am_I} {a b off n : Nat} {D : List (Nat × Nat × Nat)} (h : CpS I0 I a b D) (hoff : off ≤ 14) (hab : b + 14 < a ∨ a + 14 < b) : CpS I0 (am_cpy I (b + off) 0 (a + off) 0 n) a b ((off, 0, n) :: D) := by
  obtain ⟨h1, h2⟩ := h
  refine ⟨fun o ho => ?_, fun t ht k k1 k2 => ?_⟩
  · rw [cpy_ne (by omega)]
    exact h1 o ho
  · have hb : I (b + off) = I0 (b + off) := h1 _ (by omega)
    by_cases e : t.1 = off ∧ k < n
    · obtain ⟨e1, e2⟩ := e
      rw [e1]
      unfold am_cpy
      rw [if_pos ⟨rfl, by omega, by omega⟩, hb]
      congr 1
      omega
    · have hin : t ∈ D := by
        rcases List.mem_cons.mp ht with z | z
        · subst z
          exact absurd ⟨rfl, k2⟩ e
        · exact z
      have := h2 t hin k k1 k2
      unfold am_cpy
      rw [if_neg (by omega)]
      exact this
theorem CpS.put {I0 I : am_I} {a b off f : Nat} {v : Int32} {D : List (Nat × Nat × Nat)} (h : CpS I0 I a b D) (hoff : off ≤ 14) (hv : v = I0 (b + off) f) : CpS I0 (am_put I (a + off) f v) a b ((off, f, f + 1) :: D) := by
  obtain ⟨h1, h2⟩ := h
  refine ⟨fun o ho => ?_, fun t ht k k1 k2 => ?_⟩
  · rw [am_put_o (by omega)]
    exact h1 o ho
  · by_cases e : t.1 = off ∧ k = f
    · obtain ⟨e1, e2⟩ := e
      rw [e1, e2, put_at, hv]
    · have hin : t ∈ D := by
        rcases List.mem_cons.mp ht with z | z
        · subst z
          have k1 : f ≤ k := k1
          have k2 : k < f + 1 := k2
          exact absurd ⟨rfl, by omega⟩ e
        · exact z
      have := h2 t hin k k1 k2
      unfold am_put
      rw [if_neg (by omega)]
      exact this
theorem CpS.rd {I0 I : am_I} {a b : Nat} {D : List (Nat × Nat × Nat)} (h : CpS I0 I a b D) (off f : Nat) (hoff : off ≤ 14) (hab : b + 14 < a ∨ a + 14 < b) : I (b + off) f = I0 (b + off) f := by rw [h.1 _ (by omega)]
/-- all that is copied -/
def CpD : List (Nat × Nat × Nat) := [(14, 0, 6), (13, 0, 6), (12, 0, 6), (11, 0, 6), (0, 15, 16), (0, 12, 13), (9, 0, 200), (0, 11, 12), (0, 10, 11), (8, 0, 6), (7, 0, 6), (6, 0, 16), (5, 0, 6), (4, 0, 6), (3, 0, 6), (2, 0, 6), (0, 2, 3), (1, 5, 6), (1, 4, 5), (1, 3, 4), (1, 2, 3), (1, 1, 2), (1, 0, 1)]
theorem RuR.cong {cd cd' : Nat → Int32} {u : am_U} (h : RuR cd u) (hc : ∀ j, j < 200 → cd' j = cd j) : RuR cd' u := by
  obtain ⟨at', h0, h1⟩ := h
  refine ⟨at', h0, fun r hr => ?_⟩
  obtain ⟨⟨len, cs, g1, g2, g3, g4, g5, g6, g7⟩, g8, g9, g10, g11⟩ := h1 r hr
  refine ⟨⟨len, cs, g1, g2, ?_, ?_, ?_, fun i hi => ?_, g7⟩, ?_, g9, g10, g11⟩
  · rw [hc _ (by omega)]; exact g3
  · rw [hc _ (by omega)]; exact g4
  · rw [hc _ (by omega)]; exact g5
  · rw [hc _ (by omega)]; exact g6 i hi
  · rw [hc _ (by omega)]; exact g8
/-- a place of the road that is copied -/
def CpB (off k : Nat) : Bool := CpD.any (fun t => decide (t.1 = off) && decide (t.2.1 ≤ k) && decide (k < t.2.2))
theorem CpS.use {I0 I : am_I} {a b off k : Nat} (h : CpS I0 I a b CpD) (hc : CpB off k = true) : I (a + off) k = I0 (b + off) k := by
  obtain ⟨t, ht, q⟩ := List.any_eq_true.mp hc
  simp only [Bool.and_eq_true, decide_eq_true_eq] at q
  obtain ⟨⟨q1, q2⟩, q3⟩ := q
  have := h.2 t ht k q2 q3
  rw [q1] at this
  exact this
theorem CpS.toRoad {I0 I : am_I} {a b : Nat} {u : am_U} (h : CpS I0 I a b CpD) (hT : ∀ t ∈ TR a, a ≤ t.1 ∧ CpB (t.1 - a) t.2.1 = true ∧ (b + (t.1 - a), t.2.1, t.2.2) ∈ TR b) (hR : RRep I0 b u) (hC : CRep I0 (b + 1) u) : RRep I a u ∧ CRep I (a + 1) u := by
  have c200 : ∀ j, j < 200 → CpB 9 j = true := by decide +kernel
  have c6 : ∀ j, j < 6 → CpB 1 j = true := by decide +kernel
  refine ⟨⟨fun t ht => ?_, ?_⟩, ?_⟩
  · obtain ⟨q1, q2, q3⟩ := hT t ht
    have e := h.use q2
    rw [show a + (t.1 - a) = t.1 by omega] at e
    rw [e]
    exact hR.1 _ q3
  · exact hR.2.cong (fun j hj => h.use (c200 j hj))
  · exact hC.copy (fun f hf => h.use (c6 f hf))
theorem TR23_8 : ∀ t ∈ TR 23, 23 ≤ t.1 ∧ CpB (t.1 - 23) t.2.1 = true ∧ (8 + (t.1 - 23), t.2.1, t.2.2) ∈ TR 8 := by decide +kernel
theorem TR8_23 : ∀ t ∈ TR 8, 8 ≤ t.1 ∧ CpB (t.1 - 8) t.2.1 = true ∧ (23 + (t.1 - 8), t.2.1, t.2.2) ∈ TR 23 := by decide +kernel
section
variable {L : Nat} {xs : Nat → Int32} {J : am_J} {d : Nat} {Q : am_Q}
theorem x_copyRow (hJ : am_Cl am_meth L xs J) {I : am_I} {o1 o2 n : Nat} (g1 : am_G o1 = some (.inr (.int, n))) (g2 : am_G o2 = some (.inr (.int, n))) (hn : n < 1000) (h : Q none (am_cpy I o1 0 o2 0 n)) : J (d + 1) q_Road_copyRow 0 [some (.ref o1), some (.ref o2)] [] I Q := by
  have em : am_mn (nI n) (nI n) = nI n := by rw [am_mnN (by omega) (by omega)]; congr 1; split <;> rfl
  refine am_vc hJ 20 _ _ _ _ _ _ _ ?_
  conv => whnf
  rw [g1]
  conv => whnf
  rw [g2]
  conv => whnf
  rw [g1]
  conv => whnf
  rw [g2]
  rw [em]
  refine ⟨⟨by decide, by decide, nI_pos' (by omega), ?_, ?_⟩, ?_⟩
  · show 0 + (nI n).toNatClampNeg ≤ n
    rw [nI_clamp (by omega)]
    omega
  · show 0 + (nI n).toNatClampNeg ≤ n
    rw [nI_clamp (by omega)]
    omega
  · conv => whnf
    rw [nI_clamp (by omega)]
    exact h
theorem x_roadCopy (hJ : am_Cl am_meth L xs J) {I : am_I} {a b : Nat} (hab : (a = 23 ∧ b = 8) ∨ (a = 8 ∧ b = 23)) (h : ∀ I' : am_I, CpS I I' a b CpD → Q none I') : J (d + 3) q_Road_copyFrom 0 [some (.ref a), some (.ref b)] [] I Q := by
  have s0 := CpS.nil I a b
  have hab' : b + 14 < a ∨ a + 14 < b := by omega
  rcases hab with ⟨rfl, rfl⟩ | ⟨rfl, rfl⟩
  all_goals
    refine am_vc hJ 90 _ _ _ _ _ _ _ ?_
    refine am_vc hJ 90 _ _ _ _ _ _ _ ?_
    have s1 := s0.put (off := 1) (f := 0) (by decide) (s0.rd 1 0 (by decide) hab')
    have s2 := s1.put (off := 1) (f := 1) (by decide) (s1.rd 1 1 (by decide) hab')
    have s3 := s2.put (off := 1) (f := 2) (by decide) (s2.rd 1 2 (by decide) hab')
    have s4 := s3.put (off := 1) (f := 3) (by decide) (s3.rd 1 3 (by decide) hab')
    have s5 := s4.put (off := 1) (f := 4) (by decide) (s4.rd 1 4 (by decide) hab')
    have s6 := s5.put (off := 1) (f := 5) (by decide) (s5.rd 1 5 (by decide) hab')
    have s7 := s6.put (off := 0) (f := 2) (by decide) (s6.rd 0 2 (by decide) hab')
    have s8 := s7.cpy (off := 2) (n := 6) (by decide) hab'
    have s9 := s8.cpy (off := 3) (n := 6) (by decide) hab'
    have s10 := s9.cpy (off := 4) (n := 6) (by decide) hab'
    have s11 := s10.cpy (off := 5) (n := 6) (by decide) hab'
    have s12 := s11.cpy (off := 6) (n := 16) (by decide) hab'
    have s13 := s12.cpy (off := 7) (n := 6) (by decide) hab'
    have s14 := s13.cpy (off := 8) (n := 6) (by decide) hab'
    have s15 := s14.put (off := 0) (f := 10) (by decide) (s14.rd 0 10 (by decide) hab')
    have s16 := s15.put (off := 0) (f := 11) (by decide) (s15.rd 0 11 (by decide) hab')
    have s17 := s16.cpy (off := 9) (n := 200) (by decide) hab'
    have s18 := s17.put (off := 0) (f := 12) (by decide) (s16.rd 0 12 (by decide) hab')
    have s19 := s18.put (off := 0) (f := 15) (by decide) (s18.rd 0 15 (by decide) hab')
    have s20 := s19.cpy (off := 11) (n := 6) (by decide) hab'
    have s21 := s20.cpy (off := 12) (n := 6) (by decide) hab'
    have s22 := s21.cpy (off := 13) (n := 6) (by decide) hab'
    have s23 := s22.cpy (off := 14) (n := 6) (by decide) hab'
    refine x_copyRow hJ rfl rfl (by decide) ?_
    refine x_copyRow hJ rfl rfl (by decide) ?_
    refine x_copyRow hJ rfl rfl (by decide) ?_
    refine x_copyRow hJ rfl rfl (by decide) ?_
    refine x_copyRow hJ rfl rfl (by decide) ?_
    refine x_copyRow hJ rfl rfl (by decide) ?_
    refine x_copyRow hJ rfl rfl (by decide) ?_
    refine am_vc hJ 20 _ _ _ _ _ _ _ ?_
    refine x_copyRow hJ rfl rfl (by decide) ?_
    refine x_copyRow hJ rfl rfl (by decide) ?_
    refine x_copyRow hJ rfl rfl (by decide) ?_
    refine x_copyRow hJ rfl rfl (by decide) ?_
    refine x_copyRow hJ rfl rfl (by decide) ?_
    exact h _ s23
theorem m_keep_loop (hJ : am_Cl am_meth L xs J) {I0 : am_I} (h : ∀ I : am_I, (∀ o, o ≠ 68 → I o = I0 o) → (∀ j, j < 322 → I 68 j = I0 67 j) → J d q_M_keep 27 [some (.ref 66), some (.int (nI 322))] [] I Q) : ∀ (n k : Nat) (I : am_I), k + n = 322 → (∀ o, o ≠ 68 → I o = I0 o) → (∀ j, j < k → I 68 j = I0 67 j) → J d q_M_keep 2 [some (.ref 66), some (.int (nI k))] [] I Q
  | 0, k, I, hn, hI, hL => by
    have ek : k = 322 := by omega
    subst ek
    refine am_vcl hJ [2, 27] 200 ?_
    refine br_t (by decide) ?_
    exact h I hI hL
  | n + 1, k, I, hn, hI, hL => by
    have ih := m_keep_loop hJ h n (k + 1)
    have e : I 67 (nI k).toNatClampNeg = I0 67 k := by rw [nI_clamp (by omega), hI 67 (by decide)]
    refine am_vcl hJ [2, 27] 200 ?_
    refine br_f (by show ¬ nI 322 ≤ nI k; exact nI_ge (by omega) (by omega)) ?_
    refine ⟨vp_in_nI (by omega) (by omega), vp_in_nI (by omega) (by omega), ?_⟩
    have k9 := ih (am_put I 68 k (I0 67 k)) (by omega) (fun o ho => by rw [am_put_o ho]; exact hI o ho) (fun j hj => by
      by_cases z : j = k
      · subst z
        exact put_at
      · rw [put_nk z]
        exact hL j (by omega))
    rw [← nI_1] at k9
    conv => whnf
    rw [e, nI_clamp (by omega)]
    exact k9
theorem m_again_loop (hJ : am_Cl am_meth L xs J) {I0 : am_I} (h : ∀ I : am_I, (∀ o, o ≠ 67 → I o = I0 o) → (∀ j, j < 322 → I 67 j = I0 68 j) → J d q_M_again 37 [some (.ref 66), some (.int (nI 322))] [] I Q) : ∀ (n k : Nat) (I : am_I), k + n = 322 → (∀ o, o ≠ 67 → I o = I0 o) → (∀ j, j < k → I 67 j = I0 68 j) → J d q_M_again 12 [some (.ref 66), some (.int (nI k))] [] I Q
  | 0, k, I, hn, hI, hL => by
    have ek : k = 322 := by omega
    subst ek
    refine am_vcl hJ [12, 37] 200 ?_
    refine br_t (by decide) ?_
    exact h I hI hL
  | n + 1, k, I, hn, hI, hL => by
    have ih := m_again_loop hJ h n (k + 1)
    have e : I 68 (nI k).toNatClampNeg = I0 68 k := by rw [nI_clamp (by omega), hI 68 (by decide)]
    refine am_vcl hJ [12, 37] 200 ?_
    refine br_f (by show ¬ nI 322 ≤ nI k; exact nI_ge (by omega) (by omega)) ?_
    refine ⟨vp_in_nI (by omega) (by omega), vp_in_nI (by omega) (by omega), ?_⟩
    have k9 := ih (am_put I 67 k (I0 68 k)) (by omega) (fun o ho => by rw [am_put_o ho]; exact hI o ho) (fun j hj => by
      by_cases z : j = k
      · subst z
        exact put_at
      · rw [put_nk z]
        exact hL j (by omega))
    rw [← nI_1] at k9
    conv => whnf
    rw [e, nI_clamp (by omega)]
    exact k9
theorem Rest.kept2 {I I' : am_I} (h : Rest I) (h0 : I' 0 7 = I 0 7) (h66 : ∀ j ∈ [6, 29, 36], I' 66 j = I 66 j) (hk : ∀ o ∈ am_rc, o ≠ 0 → o ≠ 66 → I' o = I o) : Rest I' := by
  obtain ⟨h1, h2, h3, h4, h5, h6⟩ := h
  have k : ∀ o, o ∈ am_rc → o ≠ 0 → o ≠ 66 → I' o = I o := hk
  have a3 : ∀ o ∈ [54, 55, 57, 58, 59, 60, 81, 82, 83], o ∈ am_rc ∧ o ≠ 0 ∧ o ≠ 66 := by decide
  have a4 : ∀ o ∈ [61, 62, 63, 84, 85], o ∈ am_rc ∧ o ≠ 0 ∧ o ≠ 66 := by decide
  refine ⟨?_, ?_, ?_, ?_, ?_, ?_⟩
  · exact h1.kept (by rw [k 38 (by decide) (by decide) (by decide)]) (h66 6 (by decide)) (k 71 (by decide) (by decide) (by decide)) (k 39 (by decide) (by decide) (by decide))
  · exact h2.kept h0 (h66 29 (by decide)) (k 53 (by decide) (by decide) (by decide)) (k 80 (by decide) (by decide) (by decide))
  · exact h3.kept (fun o ho => k o (a3 o ho).1 (a3 o ho).2.1 (a3 o ho).2.2)
  · exact h4.kept (fun o ho => k o (a4 o ho).1 (a4 o ho).2.1 (a4 o ho).2.2)
  · exact h5.kept (by rw [k 64 (by decide) (by decide) (by decide)]) (h66 36 (by decide)) (k 65 (by decide) (by decide) (by decide)) (k 86 (by decide) (by decide) (by decide))
  · exact h6.kept (k 72 (by decide) (by decide) (by decide))
theorem op_keep (hJ : am_Cl am_meth L xs J) : am_same Inv J q_X_keep q_M_keep [] := by
  intro I hI Qc hQc
  obtain ⟨u, uk, hMn, hK, hRs⟩ := id hI
  obtain ⟨hM, hR, hC, hO⟩ := id hMn
  refine am_vc hJ 20 _ _ _ _ _ _ _ ?_
  refine x_roadCopy hJ (Or.inl ⟨rfl, rfl⟩) (fun I1 s1 => ?_)
  refine ⟨Or.inr rfl, ?_⟩
  refine ⟨_, rfl, ?_⟩
  obtain ⟨R1, C1⟩ := s1.toRoad TR23_8 hR hC
  have k9 := fun Q h => m_keep_loop (d := 40) (I0 := am_put I1 0 2 1) (Q := Q) hJ h 322 0 (am_put I1 0 2 1) (by decide) (fun _ _ => rfl) (fun j hj => by omega)
  refine am_vcc hJ [2] 200 _ _ _ _ _ _ _ ?_
  refine k9 _ (fun I2 q2 M2 => ?_)
  refine am_vc hJ 20 _ _ _ _ _ _ _ ?_
  refine ⟨Or.inr rfl, ?_⟩
  refine ⟨rfl, hQc _ ?_⟩
  show Inv (am_put I2 66 3 1)
  have fo : ∀ o, (o < 23 ∨ 23 + 14 < o) → o ≠ 0 → o ≠ 66 → o ≠ 68 → am_put I2 66 3 1 o = I o := fun o h1 h2 h3 h4 => by rw [am_put_o h3, q2 o h4, am_put_o h2, s1.1 o h1]
  have fi : ∀ o, o ≠ 0 → o ≠ 66 → o ≠ 68 → am_put I2 66 3 1 o = I1 o := fun o h2 h3 h4 => by rw [am_put_o h3, q2 o h4, am_put_o h2]
  have a1 : ∀ o ∈ am_mc, (o < 23 ∨ 23 + 14 < o) ∧ o ≠ 0 ∧ o ≠ 66 ∧ o ≠ 68 := by decide
  have a2 : ∀ o ∈ am_rc, o ≠ 0 → o ≠ 66 → (o < 23 ∨ 23 + 14 < o) ∧ o ≠ 68 := by decide
  refine ⟨u, u, hMn.kept (fun o ho => fo o (a1 o ho).1 (a1 o ho).2.1 (a1 o ho).2.2.1 (a1 o ho).2.2.2), ⟨?_, Or.inr ⟨?_, ?_, ?_, ?_, hO⟩⟩, hRs.kept2 ?_ ?_ (fun o ho h1 h2 => fo o (a2 o ho h1 h2).1 h1 h2 (a2 o ho h1 h2).2)⟩
  · rw [put_at, am_put_o (by decide), q2 0 (by decide), put_at]
  · rw [am_put_o (by decide), q2 0 (by decide), put_at]
  · intro j hj
    rw [am_put_o (by decide), M2 j hj, am_put_o (by decide), s1.1 67 (by decide)]
    exact hM j hj
  · have t : ∀ t ∈ TR 23, t.1 ≠ 0 ∧ t.1 ≠ 66 ∧ t.1 ≠ 68 := by decide +kernel
    refine ⟨R1.1.kept (fun x hx => fi _ (t x hx).1 (t x hx).2.1 (t x hx).2.2), ?_⟩
    show RuR (am_put I2 66 3 1 32) u
    rw [fi 32 (by decide) (by decide) (by decide)]
    exact R1.2
  · exact C1.kept (fi 24 (by decide) (by decide) (by decide))
  · rw [am_put_o (by decide), q2 0 (by decide), put_nk (by decide), s1.1 0 (by decide)]
  · intro j hj
    have : j ≠ 3 := by rintro rfl; revert hj; decide
    rw [put_nk this, q2 66 (by decide), am_put_o (by decide), s1.1 66 (by decide)]
theorem op_again (hJ : am_Cl am_meth L xs J) : am_same Inv J q_X_again q_M_again [] := by
  intro I hI Qc hQc
  obtain ⟨u, uk, hMn, hK, hRs⟩ := id hI
  obtain ⟨k1, k2⟩ := id hK
  refine am_vc hJ 20 _ _ _ _ _ _ _ ?_
  rcases k2 with k2 | ⟨k2, M, R, C, O⟩
  · refine br_t (by show I 0 2 = 0; exact k2) ?_
    refine ⟨_, rfl, ?_⟩
    refine am_vc hJ 20 _ _ _ _ _ _ _ ?_
    refine br_t (by show I 66 3 = 0; rw [← k1]; exact k2) ?_
    exact ⟨rfl, hQc _ hI⟩
  · refine br_f (by show ¬ I 0 2 = 0; rw [k2]; decide) ?_
    refine x_roadCopy hJ (Or.inr ⟨rfl, rfl⟩) (fun I1 s1 => ?_)
    refine ⟨_, rfl, ?_⟩
    obtain ⟨R1, C1⟩ := s1.toRoad TR8_23 R C
    have f66 : I1 66 = I 66 := s1.1 66 (by decide)
    refine am_vcc hJ [12] 200 _ _ _ _ _ _ _ ?_
    refine br_f (by show ¬ I1 66 3 = 0; rw [f66, ← k1, k2]; decide) ?_
    refine m_again_loop (I0 := I1) hJ (fun I2 q2 M2 => ?_) 322 0 I1 (by decide) (fun _ _ => rfl) (fun j hj => by omega)
    have M2' : MRep I2 67 uk := fun j hj => by rw [M2 j hj, s1.1 68 (by decide)]; exact M j hj
    refine am_vc hJ 20 _ _ _ _ _ _ _ ?_
    refine ⟨am_vin (by decide), ?_⟩
    refine ⟨?_, hQc _ (Inv.two (S := [8, 9, 10, 11, 12, 13, 14, 15, 16, 17, 18, 19, 20, 21, 22, 67]) hK hRs R1 C1 O M2' (fun o _ h67 => q2 o h67) (fun o ho => ?_) (by decide))⟩
    · show some (Value.int (I2 67 6)) = some (Value.int (I1 8 2))
      rw [M2' 6 (by decide), R1.1.get 8 2 6 (by decide +kernel)]
    · simp only [List.mem_cons, List.not_mem_nil, or_false, not_or] at ho
      rw [q2 o (by omega), s1.1 o (by omega)]
theorem op_taken (hJ : am_Cl am_meth L xs J) (a b : Int32) : am_same Inv J q_X_taken q_M_taken [.int a, .int b] := by
  intro I hI Qc hQc
  obtain ⟨u, uk, hMn, hK, hRs⟩ := id hI
  obtain ⟨hT, hRw, hSh, hSf, hTr, hLe⟩ := id hRs
  obtain ⟨hM, hR, hC, hO⟩ := id hMn
  have c1 := hO.Cn.1
  have x6 : I 8 2 = nI (u 6) := hMn.get (j := 6) (by decide +kernel)
  have m6 : I 67 6 = nI (u 6) := hM 6 (by decide)
  by_cases h1 : (0 : Int32) ≤ a ∧ a ≤ 3
  · obtain ⟨h, hh, rfl⟩ := am_rng (N := 3) rfl (by decide) h1
    have hh4 : h < 4 := by omega
    have gv : vp_in (nI h) 4 := vp_in_nI hh4 (by omega)
    have ec : (nI h).toNatClampNeg = h := nI_clamp (by omega)
    -- what comes behind the tests
    have xs1 : ∀ (pb : Int32) (Q : am_Q), (pb = 1 ∧ (0 ≤ b ∧ b ≤ 5)) ∨ (pb = 0 ∧ (10 ≤ b ∧ b ≤ 14)) → J 40 q_X_taken 31 [some (.ref 0), some (.int (nI h)), some (.int b), some (.int pb), none] [] I Q → J 40 q_X_taken 0 [some (.ref 0), some (.int (nI h)), some (.int b), none, none] [] I Q := by
      intro pb Q hpb hQ
      rcases hpb with ⟨rfl, hb⟩ | ⟨rfl, hb⟩
      · refine am_vcc hJ [31] 200 _ _ _ _ _ _ _ ?_
        refine x_withinY hJ hb ?_
        refine x_isShelfY hJ h1 ?_
        refine br_f (by decide) ?_
        refine br_f (by decide) ?_
        exact hQ
      · refine am_vcc hJ [31] 200 _ _ _ _ _ _ _ ?_
        refine x_withinN hJ (fun z => absurd (Int32.le_trans hb.1 z.2) (by decide)) ?_
        refine x_isShelfY hJ h1 ?_
        refine br_f (by decide) ?_
        refine br_t (by decide) ?_
        refine x_withinY hJ hb ?_
        refine br_f (by decide) ?_
        exact hQ
    have ms1 : ∀ (Q : am_Q), (0 ≤ b ∧ b ≤ 5) ∨ (10 ≤ b ∧ b ≤ 14) → J 40 q_M_taken 29 [some (.ref 66), some (.int (nI h)), some (.int b), none, none] [] I Q → J 40 q_M_taken 0 [some (.ref 66), some (.int (nI h)), some (.int b), none, none] [] I Q := by
      intro Q hpb hQ
      rcases hpb with hb | hb
      · refine am_vcc hJ [29] 200 _ _ _ _ _ _ _ ?_
        refine m_isSheetY hJ h1 ?_
        refine br_f (by decide) ?_
        refine m_in1Y hJ hb ?_
        refine br_f (by decide) ?_
        exact hQ
      · refine am_vcc hJ [29] 200 _ _ _ _ _ _ _ ?_
        refine m_isSheetY hJ h1 ?_
        refine br_f (by decide) ?_
        refine m_in1N hJ (fun z => absurd (Int32.le_trans hb.1 z.2) (by decide)) ?_
        refine br_t (by decide) ?_
        refine m_in1Y hJ hb ?_
        refine br_f (by decide) ?_
        exact hQ
    by_cases hb : (0 ≤ b ∧ b ≤ 5) ∨ (10 ≤ b ∧ b ≤ 14)
    · obtain ⟨pb, hpb⟩ : ∃ pb : Int32, (pb = 1 ∧ (0 ≤ b ∧ b ≤ 5)) ∨ (pb = 0 ∧ (10 ≤ b ∧ b ≤ 14)) := by
        rcases hb with z | z
        · exact ⟨1, Or.inl ⟨rfl, z⟩⟩
        · exact ⟨0, Or.inr ⟨rfl, z⟩⟩
      refine xs1 pb _ hpb ?_
      rcases hSf h hh4 with ⟨q1, q2⟩ | ⟨q1, q2, k, hk, q3, q4⟩ | ⟨q1, so, n, q2, q3, q4, q5, q6, q7⟩
      · refine am_vc hJ 60 _ _ _ _ _ _ _ ?_
        refine ⟨gv, ?_⟩
        refine br_f (by show ¬ I 61 (nI h).toNatClampNeg = 1; rw [ec, q1]; decide) ?_
        refine x_personOn (res := -3) hJ hh4 x6 c1 (fun z => by rw [q1] at z; exact absurd z (by decide)) (fun _ => rfl) ?_
        refine br_f (by decide) ?_
        refine ⟨_, rfl, ?_⟩
        refine ms1 _ hb ?_
        refine am_vc hJ 60 _ _ _ _ _ _ _ ?_
        refine m_heldOn (res := -1) hJ hh4 m6 c1 (fun z => by rw [q2] at z; exact absurd z (by decide)) (fun _ => q2.symm) ?_
        refine br_f (by decide) ?_
        exact ⟨rfl, hQc _ hI⟩
      · by_cases gk : k < u 6
        · have hex : ∃ j, j < u 6 ∧ I 62 h = nI j := ⟨k, gk, q3⟩
          have hex2 : ∃ j, j < u 6 ∧ I 85 h = nI j := ⟨k, gk, q4⟩
          have hk6 : k < 6 := by omega
          obtain ⟨p1, p2, p3, p4, p5, p6⟩ := hO.P hk6
          have ek : I 10 (nI k).toNatClampNeg = nI (u (38 + 6 * k)) := by rw [nI_clamp (by omega), hR.1.get 10 k _ (TR8_p k hk6).1]
          have em : I 67 (38 + 6 * k + 0) = nI (u (38 + 6 * k)) := hM _ (by omega)
          refine am_vc hJ 60 _ _ _ _ _ _ _ ?_
          refine ⟨gv, ?_⟩
          refine br_f (by show ¬ I 61 (nI h).toNatClampNeg = 1; rw [ec, q1]; decide) ?_
          refine x_personOn (res := nI k) hJ hh4 x6 c1 (fun _ _ => q3.symm) (fun z => absurd ⟨q1, hex⟩ z) ?_
          refine br_t (by show 0 ≤ nI k; exact nI_pos' (by omega)) ?_
          have mgo : ∀ Q : am_Q, J 40 q_M_taken 42 [some (.ref 66), some (.int (nI h)), some (.int b), some (.int 0), none] [] I Q → J 40 q_M_taken 0 [some (.ref 66), some (.int (nI h)), some (.int b), none, none] [] I Q := by
            intro Q hQ
            refine ms1 _ hb ?_
            refine am_vcc hJ [42] 200 _ _ _ _ _ _ _ ?_
            refine m_heldOn (res := 0) hJ hh4 m6 c1 (fun _ z => absurd hex2 z) (fun _ => q2.symm) ?_
            refine br_t (by decide) ?_
            exact hQ
          rcases hpb with ⟨rfl, hp⟩ | ⟨rfl, hp⟩
          · obtain ⟨of, hof, rfl⟩ := am_rng (N := 5) rfl (by decide) hp
            refine br_f (by decide) ?_
            refine ⟨vp_in_nI (by omega) (by omega), ?_⟩
            conv => whnf
            rw [ek]
            have mg2 : ∀ Q : am_Q, (sp_under (u (38 + 6 * k)) of = true → Q (some (.int (nI k))) I) → (sp_under (u (38 + 6 * k)) of = false → Q (some (.int (-13))) I) → J 40 q_M_taken 0 [some (.ref 66), some (.int (nI h)), some (.int (nI of)), none, none] [] I Q := by
              intro Q hy hn
              refine mgo _ ?_
              refine am_vc hJ 60 _ _ _ _ _ _ _ ?_
              refine br_t (by decide) ?_
              refine br_f (by show ¬ nI 10 ≤ nI of; exact nI_ge (by omega) (by omega)) ?_
              refine ⟨gv, ?_⟩
              rw [ec, q4]
              refine m_get hJ (a := k) (b := 0) rfl rfl hk6 (by decide) ?_
              rw [em]
              refine m_isUnder hJ p1 hof (fun z => ?_) (fun z => ?_)
              · refine br_f (by decide) ?_
                refine br_f (by decide) ?_
                refine ⟨gv, ?_⟩
                rw [ec, q4]
                exact hy z
              · refine br_t (by decide) ?_
                refine br_t (by decide) ?_
                exact hn z
            refine x_isOrIsUnder hJ p1 hof (fun z => ?_) (fun z => ?_)
            · refine br_f (by decide) ?_
              refine ⟨_, rfl, ?_⟩
              refine mg2 _ (fun _ => ⟨rfl, hQc _ hI⟩) (fun w => by rw [z] at w; cases w)
            · refine br_t (by decide) ?_
              refine ⟨_, rfl, ?_⟩
              refine mg2 _ (fun w => by rw [z] at w; cases w) (fun _ => ⟨rfl, hQc _ hI⟩)
          · refine br_t (by decide) ?_
            refine ⟨_, rfl, ?_⟩
            refine mgo _ ?_
            refine am_vc hJ 60 _ _ _ _ _ _ _ ?_
            refine br_t (by decide) ?_
            refine br_t (by show 10 ≤ b; exact hp.1) ?_
            refine br_t (by decide) ?_
            exact ⟨rfl, hQc _ hI⟩
        · have nex : ∀ x, x = nI k → ¬ ∃ j, j < u 6 ∧ x = nI j := by
            rintro x rfl ⟨j, hj, ej⟩
            rw [nI_eq (by omega) (by omega)] at ej
            omega
          refine am_vc hJ 60 _ _ _ _ _ _ _ ?_
          refine ⟨gv, ?_⟩
          refine br_f (by show ¬ I 61 (nI h).toNatClampNeg = 1; rw [ec, q1]; decide) ?_
          refine x_personOn (res := -3) hJ hh4 x6 c1 (fun _ z => absurd z (nex _ q3)) (fun _ => rfl) ?_
          refine br_f (by decide) ?_
          refine ⟨_, rfl, ?_⟩
          refine ms1 _ hb ?_
          refine am_vc hJ 60 _ _ _ _ _ _ _ ?_
          refine m_heldOn (res := -1) hJ hh4 m6 c1 (fun _ _ => rfl) (fun z => absurd ⟨q2, nex _ q4⟩ z) ?_
          refine br_f (by decide) ?_
          exact ⟨rfl, hQc _ hI⟩
      · have e10 : (10 : Int32) + nI so = nI (10 + so) := nI_add 10 so
        have mgo : ∀ Q : am_Q, (b = nI (10 + so) → Q (some (.int (nI n))) I) → (¬ b = nI (10 + so) → Q (some (.int (-13))) I) → J 40 q_M_taken 0 [some (.ref 66), some (.int (nI h)), some (.int b), none, none] [] I Q := by
          intro Q hy hn
          refine ms1 _ hb ?_
          refine am_vc hJ 60 _ _ _ _ _ _ _ ?_
          refine m_heldOn (res := nI (10 + so)) hJ hh4 m6 c1 (fun z => ?_) (fun _ => q4.symm) ?_
          · rw [q4, show (0 : Int32) = nI 0 from rfl, nI_eq (by omega) (by omega)] at z
            omega
          refine br_t (by show 0 ≤ nI (10 + so); exact nI_pos' (by omega)) ?_
          refine br_f (by show ¬ nI (10 + so) = nI 0; rw [nI_eq (by omega) (by omega)]; omega) ?_
          refine ⟨fun z => ?_, fun z => ?_⟩
          · refine br_f (by decide) ?_
            refine ⟨gv, ?_⟩
            rw [ec, q7]
            exact hy z.symm
          · refine br_t (by decide) ?_
            exact hn (fun w => z w.symm)
        refine am_vc hJ 60 _ _ _ _ _ _ _ ?_
        refine ⟨gv, ?_⟩
        refine br_t (by show I 61 (nI h).toNatClampNeg = 1; rw [ec]; exact q1) ?_
        refine ⟨gv, ?_⟩
        rw [ec, q5]
        refine ⟨fun z => ?_, fun z => ?_⟩
        · have z : b = 10 + nI so := z
          rw [e10] at z
          refine ⟨gv, ?_⟩
          rw [ec, q6]
          refine ⟨_, rfl, ?_⟩
          exact mgo _ (fun _ => ⟨rfl, hQc _ hI⟩) (fun w => absurd z w)
        · have z : ¬ b = 10 + nI so := z
          rw [e10] at z
          refine ⟨_, rfl, ?_⟩
          exact mgo _ (fun w => absurd w z) (fun _ => ⟨rfl, hQc _ hI⟩)
    · have n1 : ¬ (0 ≤ b ∧ b ≤ 5) := fun z => hb (Or.inl z)
      have n2 : ¬ (10 ≤ b ∧ b ≤ 14) := fun z => hb (Or.inr z)
      refine am_vc hJ 60 _ _ _ _ _ _ _ ?_
      refine x_withinN hJ n1 ?_
      refine x_isShelfY hJ h1 ?_
      refine br_f (by decide) ?_
      refine br_t (by decide) ?_
      refine x_withinN hJ n2 ?_
      refine br_t (by decide) ?_
      refine ⟨_, rfl, ?_⟩
      refine am_vc hJ 60 _ _ _ _ _ _ _ ?_
      refine m_isSheetY hJ h1 ?_
      refine br_f (by decide) ?_
      refine m_in1N hJ n1 ?_
      refine br_t (by decide) ?_
      refine m_in1N hJ n2 ?_
      refine br_t (by decide) ?_
      exact ⟨rfl, hQc _ hI⟩
  · have mm : J 40 q_M_taken 0 [some (.ref 66), some (.int a), some (.int b), none, none] [] I (fun r2 I2 => r2 = some (.int (-1)) ∧ Qc I2) := by
      refine am_vc hJ 60 _ _ _ _ _ _ _ ?_
      refine m_isSheetN hJ h1 ?_
      refine br_t (by decide) ?_
      exact ⟨rfl, hQc _ hI⟩
    refine am_vc hJ 60 _ _ _ _ _ _ _ ?_
    refine x_within hJ (fun _ => ?_) (fun _ => ?_)
    · refine x_isShelfN hJ h1 ?_
      refine br_t (by decide) ?_
      exact ⟨_, rfl, mm⟩
    · refine x_isShelfN hJ h1 ?_
      refine br_t (by decide) ?_
      exact ⟨_, rfl, mm⟩
end
