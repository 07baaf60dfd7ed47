section
variable {L : Nat} {xs : Nat → Int32} {J : am_J} {d : Nat} {Q : am_Q}
theorem x_close_loop (hJ : am_Cl am_meth L xs J) {I : am_I} {u : am_U} {i T : Nat} (hR : Rel (TR 8) I u) (hO : OKu u) (hi : i < 6) (hT : T < 64) (h1 : (∃ j, j < u 6 ∧ T.testBit j = true ∧ sp_gn u i j) → Q (some (.int 1)) I) (h0 : (¬ ∃ j, j < u 6 ∧ T.testBit j = true ∧ sp_gn u i j) → Q (some (.int 0)) I) : ∀ (n j : Nat) (z4 : Option Value), j + n = u 6 → (∀ j', j' < j → ¬ (T.testBit j' = true ∧ sp_gn u i j')) → J (d + 1) q_Road_isCloseToAny 15 [some (.ref 8), some (.int (nI i)), some (.int (nI T)), some (.int (nI j)), z4] [] I Q
  | 0, j, z4, hn, hj => by
    have c := hO.Cn
    have x6 : I 8 2 = nI (u 6) := hR.get 8 2 6 (by decide +kernel)
    refine am_vcl hJ [15] 200 ?_
    refine br_t (by show I 8 2 ≤ nI j; rw [x6]; exact nI_le (by omega) (by omega)) ?_
    refine ⟨Or.inl rfl, h0 ?_⟩
    rintro ⟨j', a, b⟩
    exact hj j' (by omega) b
  | n + 1, j, z4, hn, hj => by
    have c := hO.Cn
    have x6 : I 8 2 = nI (u 6) := hR.get 8 2 6 (by decide +kernel)
    have hj6 : j < 6 := by omega
    have gi : I 13 i = nI (u (41 + 6 * i)) := hR _ (TR8_gn i hi).1
    have gj : I 13 j = nI (u (41 + 6 * j)) := hR _ (TR8_gn j hj6).1
    have ni : I 11 i = nI (u (39 + 6 * i)) := hR _ (TR8_gn i hi).2
    have nj : I 11 j = nI (u (39 + 6 * j)) := hR _ (TR8_gn j hj6).2
    obtain ⟨-, pi, -, qi, -, -⟩ := hO.P hi
    obtain ⟨-, pj, -, qj, -, -⟩ := hO.P hj6
    have nxt : ∀ z4, ¬ (T.testBit j = true ∧ sp_gn u i j) → J (d + 1) q_Road_isCloseToAny 80 [some (.ref 8), some (.int (nI i)), some (.int (nI T)), some (.int (nI j)), z4] [] I Q := by
      intro z4 hz
      have k9 := x_close_loop hJ hR hO hi hT h1 h0 n (j + 1) z4 (by omega) (fun j' hj' => by
        by_cases y : j' = j
        · subst y
          exact hz
        · exact hj j' (by omega))
      rw [← nI_1] at k9
      refine am_vcc hJ [15] 200 _ _ _ _ _ _ _ ?_
      exact k9
    have yes : T.testBit j = true → sp_gn u i j → ∀ z4, J (d + 1) q_Road_isCloseToAny 78 [some (.ref 8), some (.int (nI i)), some (.int (nI T)), some (.int (nI j)), z4] [] I Q := by
      intro t1 t2 z4
      refine am_vc hJ 5 _ _ _ _ _ _ _ ?_
      exact ⟨Or.inr rfl, h1 ⟨j, by omega, t1, t2⟩⟩
    refine am_vcl hJ [15, 78, 80] 200 ?_
    refine br_f (by show ¬ I 8 2 ≤ nI j; rw [x6]; exact nI_ge (by omega) (by omega)) ?_
    cases e : T.testBit j with
    | false =>
      refine br_t ((mb_and T hT j hj6).mpr e) ?_
      refine br_t (by decide) ?_
      exact nxt _ (fun z => by rw [e] at z; cases z.1)
    | true =>
      refine br_f (fun z => by have := (mb_and T hT j hj6).mp z; rw [e] at this; cases this) ?_
      refine br_f (by decide) ?_
      refine ⟨vp_in_nI hi (by omega), vp_in_nI hj6 (by omega), ?_⟩
      by_cases g : u (41 + 6 * i) = u (41 + 6 * j)
      · refine br_t (by show I 13 (nI i).toNatClampNeg = I 13 (nI j).toNatClampNeg; rw [nI_clamp (by omega), nI_clamp (by omega), gi, gj, g]) ?_
        exact yes e (Or.inl g) _
      · refine br_f (by show ¬ I 13 (nI i).toNatClampNeg = I 13 (nI j).toNatClampNeg; rw [nI_clamp (by omega), nI_clamp (by omega), gi, gj, nI_eq (by omega) (by omega)]; exact g) ?_
        refine ⟨vp_in_nI hi (by omega), vp_in_nI hj6 (by omega), ?_⟩
        have ma := mb_abs (u (39 + 6 * i)) (by omega) (u (39 + 6 * j)) (by omega)
        have ec : (2 < am_ab (I 11 (nI i).toNatClampNeg - I 11 (nI j).toNatClampNeg)) ↔ ¬ (u (39 + 6 * i) ≤ u (39 + 6 * j) + 2 ∧ u (39 + 6 * j) ≤ u (39 + 6 * i) + 2) := by rw [nI_clamp (by omega), nI_clamp (by omega), ni, nj]; exact ma
        refine ⟨fun z => ?_, fun z => ?_⟩
        · exact nxt _ (fun y => y.2.elim (fun y => g y) (fun y => ec.mp z y))
        · exact yes e (Or.inr (Classical.byContradiction (fun y => z (ec.mpr y)))) _
theorem x_isClose (hJ : am_Cl am_meth L xs J) {I : am_I} {u : am_U} {i T : Nat} (hR : Rel (TR 8) I u) (hC : CRep I 9 u) (hO : OKu u) (hi : i < 6) (hT : T < 64) (h1 : sp_near u (u 6) i T → Q (some (.int 1)) I) (h0 : ¬ sp_near u (u 6) i T → Q (some (.int 0)) I) {z3 z4 : Option Value} : J (d + 1) q_Road_isCloseToAny 0 [some (.ref 8), some (.int (nI i)), some (.int (nI T)), z3, z4] [] I Q := by
  refine am_vcc hJ [15] 200 _ _ _ _ _ _ _ ?_
  refine x_isFed (c := 9) hJ (by decide) hC.2.2 hO.fed hi (fun g => ?_) (fun g => ?_)
  · refine br_f (by decide) ?_
    exact ⟨Or.inl rfl, h0 (fun z => by have := z.1; omega)⟩
  · refine br_t (by decide) ?_
    exact x_close_loop hJ hR hO hi hT (fun y => h1 ⟨g, y⟩) (fun y => h0 (fun z => y z.2)) (u 6) 0 _ (Nat.zero_add _) (fun j' hj' => by omega)
theorem sp_xi_lt {u : am_U} {T i : Nat} (hT : T < 64) (hi : i < 6) : sp_xi u (u 6) i T < 64 := by
  unfold sp_xi
  split
  · exact (tb_or T hT i hi).1
  · exact hT
theorem sp_it_lt {f : Nat → Nat → Nat} {T : Nat} (n : Nat) (hT : T < 64) (hf : ∀ a S, a < n → S < 64 → f a S < 64) : sp_it f n T < 64 := sp_it_ind (fun _ S => S < 64) n hT hf
theorem x_tab_inner (hJ : am_Cl am_meth L xs J) {I : am_I} {u : am_U} {T0 : Nat} {z1 z3 : Option Value} (hR : Rel (TR 8) I u) (hC : CRep I 9 u) (hO : OKu u) (hT0 : T0 < 64) (h : ∀ z4, J (d + 2) q_Road_tableOf 62 [some (.ref 8), z1, some (.int (nI (sp_it (sp_xi u (u 6)) (u 6) T0))), z3, z4] [] I Q) : ∀ (n i T : Nat), i + n = u 6 → T = sp_it (sp_xi u (u 6)) i T0 → J (d + 2) q_Road_tableOf 30 [some (.ref 8), z1, some (.int (nI T)), z3, some (.int (nI i))] [] I Q
  | 0, i, T, hn, hT => by
    have c := hO.Cn
    have x6 : I 8 2 = nI (u 6) := hR.get 8 2 6 (by decide +kernel)
    have ei : i = u 6 := by omega
    refine am_vcl hJ [30, 62] 200 ?_
    refine br_t (by show I 8 2 ≤ nI i; rw [x6]; exact nI_le (by omega) (by omega)) ?_
    rw [hT, ei]
    exact h _
  | n + 1, i, T, hn, hT => by
    have c := hO.Cn
    have x6 : I 8 2 = nI (u 6) := hR.get 8 2 6 (by decide +kernel)
    have hTl : T < 64 := by rw [hT]; exact sp_it_lt i hT0 (fun a S ha hS => sp_xi_lt hS (by omega))
    have es : sp_it (sp_xi u (u 6)) (i + 1) T0 = sp_xi u (u 6) i T := by rw [hT]; rfl
    have ih := fun T hT => x_tab_inner (z1 := z1) (z3 := z3) hJ hR hC hO hT0 h n (i + 1) T (by omega) hT
    refine am_vcl hJ [30, 62] 200 ?_
    refine br_f (by show ¬ I 8 2 ≤ nI i; rw [x6]; exact nI_ge (by omega) (by omega)) ?_
    refine x_isClose hJ hR hC hO (by omega) hTl (fun g => ?_) (fun g => ?_)
    · have k9 := ih (T ||| 2 ^ i) (by rw [es]; unfold sp_xi; rw [if_pos g])
      rw [← nI_1, ← mb_or hTl (by omega)] at k9
      refine br_f (by decide) ?_
      exact k9
    · have k9 := ih T (by rw [es]; unfold sp_xi; rw [if_neg g])
      rw [← nI_1] at k9
      refine br_t (by decide) ?_
      exact k9
theorem x_tab_outer (hJ : am_Cl am_meth L xs J) {I : am_I} {u : am_U} {k : Nat} {z1 : Option Value} (hR : Rel (TR 8) I u) (hC : CRep I 9 u) (hO : OKu u) (hk : k < 6) (h : Q (some (.int (nI (sp_xT u (u 6) k)))) I) : ∀ (n p T : Nat) (z4 : Option Value), p + n = u 6 → T = sp_it (fun _ T => sp_it (sp_xi u (u 6)) (u 6) T) p (2 ^ k) → J (d + 2) q_Road_tableOf 19 [some (.ref 8), z1, some (.int (nI T)), some (.int (nI p)), z4] [] I Q
  | 0, p, T, z4, hn, hT => by
    have c := hO.Cn
    have x6 : I 8 2 = nI (u 6) := hR.get 8 2 6 (by decide +kernel)
    have ei : p = u 6 := by omega
    refine am_vcl hJ [19] 200 ?_
    refine br_t (by show I 8 2 ≤ nI p; rw [x6]; exact nI_le (by omega) (by omega)) ?_
    rw [hT, ei]
    exact h
  | n + 1, p, T, z4, hn, hT => by
    have c := hO.Cn
    have x6 : I 8 2 = nI (u 6) := hR.get 8 2 6 (by decide +kernel)
    have hTl : T < 64 := by rw [hT]; exact sp_it_lt p (tb_one hk).1 (fun a S ha hS => sp_it_lt _ hS (fun a S ha hS => sp_xi_lt hS (by omega)))
    have ih := fun T z4 hT => x_tab_outer (z1 := z1) hJ hR hC hO hk h n (p + 1) T z4 (by omega) hT
    refine am_vcl hJ [19, 30] 200 ?_
    refine br_f (by show ¬ I 8 2 ≤ nI p; rw [x6]; exact nI_ge (by omega) (by omega)) ?_
    refine x_tab_inner hJ hR hC hO hTl (fun z4 => ?_) (u 6) 0 T (Nat.zero_add _) rfl
    have k9 := ih (sp_it (sp_xi u (u 6)) (u 6) T) z4 (by rw [hT]; rfl)
    rw [← nI_1] at k9
    refine am_vcc hJ [19] 200 _ _ _ _ _ _ _ ?_
    exact k9
theorem x_tableOf (hJ : am_Cl am_meth L xs J) {I : am_I} {u : am_U} {k : Nat} (hR : Rel (TR 8) I u) (hC : CRep I 9 u) (hO : OKu u) (hk : k < 6) (h : Q (some (.int (nI (sp_tab u k)))) I) {z2 z3 z4 : Option Value} : J (d + 2) q_Road_tableOf 0 [some (.ref 8), some (.int (nI k)), z2, z3, z4] [] I Q := by
  refine am_vcc hJ [19] 200 _ _ _ _ _ _ _ ?_
  refine x_isFed (c := 9) hJ (by decide) hC.2.2 hO.fed hk (fun g => ?_) (fun g => ?_)
  · refine br_f (by decide) ?_
    unfold sp_tab at h
    rw [if_neg (by omega)] at h
    exact h
  · unfold sp_tab at h
    rw [if_pos g] at h
    have k9 := x_tab_outer (d := d) (z1 := some (.int (nI k))) hJ hR hC hO hk h (u 6) 0 (2 ^ k) z4 (Nat.zero_add _) rfl
    rw [← mb_shl k hk] at k9
    refine br_t (by decide) ?_
    exact k9
theorem m_areClose (hJ : am_Cl am_meth L xs J) {I : am_I} {u : am_U} {a b : Nat} (hM : MRep I 67 u) (hO : OKu u) (ha : a < 6) (hb : b < 6) (h1 : sp_clo u a b → Q (some (.int 1)) I) (h0 : ¬ sp_clo u a b → Q (some (.int 0)) I) {z3 : Option Value} : J (d + 1) q_M_areClose 0 [some (.ref 66), some (.int (nI a)), some (.int (nI b)), z3] [] I Q := by
  have e1 : I 67 (38 + 6 * a + 1) = nI (u (39 + 6 * a)) := by rw [hM _ (by omega), show 38 + 6 * a + 1 = 39 + 6 * a by omega]
  have e2 : I 67 (38 + 6 * b + 1) = nI (u (39 + 6 * b)) := by rw [hM _ (by omega), show 38 + 6 * b + 1 = 39 + 6 * b by omega]
  have e3 : I 67 (38 + 6 * a + 5) = nI (u (43 + 6 * a)) := by rw [hM _ (by omega), show 38 + 6 * a + 5 = 43 + 6 * a by omega]
  have e4 : I 67 (38 + 6 * b + 5) = nI (u (43 + 6 * b)) := by rw [hM _ (by omega), show 38 + 6 * b + 5 = 43 + 6 * b by omega]
  have e5 : I 67 (38 + 6 * a + 3) = nI (u (41 + 6 * a)) := by rw [hM _ (by omega), show 38 + 6 * a + 3 = 41 + 6 * a by omega]
  have e6 : I 67 (38 + 6 * b + 3) = nI (u (41 + 6 * b)) := by rw [hM _ (by omega), show 38 + 6 * b + 3 = 41 + 6 * b by omega]
  obtain ⟨-, pa, -, qa, -, ra⟩ := hO.P ha
  obtain ⟨-, pb, -, qb, -, rb⟩ := hO.P hb
  have mi := mb_in (u (39 + 6 * a)) (by omega) (u (39 + 6 * b)) (by omega)
  refine am_vc hJ 60 _ _ _ _ _ _ _ ?_
  refine m_get hJ (a := a) (b := 1) rfl rfl ha (by decide) ?_
  refine m_get hJ (a := b) (b := 1) rfl rfl hb (by decide) ?_
  refine m_get hJ (a := a) (b := 5) rfl rfl ha (by decide) ?_
  by_cases g1 : u (43 + 6 * a) = 0
  · refine br_t (by show I 67 (38 + 6 * a + 5) = 0; rw [e3, g1]; rfl) ?_
    refine m_get hJ (a := b) (b := 5) rfl rfl hb (by decide) ?_
    by_cases g2 : u (43 + 6 * b) = 0
    · refine br_t (by show I 67 (38 + 6 * b + 5) = 0; rw [e4, g2]; rfl) ?_
      refine m_get hJ (a := a) (b := 3) rfl rfl ha (by decide) ?_
      refine m_get hJ (a := b) (b := 3) rfl rfl hb (by decide) ?_
      by_cases g3 : u (41 + 6 * a) = u (41 + 6 * b)
      · refine br_t (by show I 67 (38 + 6 * a + 3) = I 67 (38 + 6 * b + 3); rw [e5, e6, g3]) ?_
        exact ⟨Or.inr rfl, h1 ⟨g1, g2, Or.inl g3⟩⟩
      · refine br_f (by show ¬ I 67 (38 + 6 * a + 3) = I 67 (38 + 6 * b + 3); rw [e5, e6, nI_eq (by omega) (by omega)]; exact g3) ?_
        refine m_in1 hJ (fun z => ?_) (fun z => ?_)
        · have z : (-2) ≤ I 67 (38 + 6 * a + 1) - I 67 (38 + 6 * b + 1) ∧ I 67 (38 + 6 * a + 1) - I 67 (38 + 6 * b + 1) ≤ 2 := z
          rw [e1, e2] at z
          refine br_f (by decide) ?_
          exact ⟨Or.inr rfl, h1 ⟨g1, g2, Or.inr (mi.mp z)⟩⟩
        · have z : ¬ ((-2) ≤ I 67 (38 + 6 * a + 1) - I 67 (38 + 6 * b + 1) ∧ I 67 (38 + 6 * a + 1) - I 67 (38 + 6 * b + 1) ≤ 2) := z
          rw [e1, e2] at z
          refine br_t (by decide) ?_
          exact ⟨Or.inl rfl, h0 (fun y => y.2.2.elim (fun y => g3 y) (fun y => z (mi.mpr y)))⟩
    · refine br_f (by show ¬ I 67 (38 + 6 * b + 5) = 0; rw [e4]; exact nI_ne0 (by omega) (by omega)) ?_
      exact ⟨Or.inl rfl, h0 (fun y => g2 y.2.1)⟩
  · refine br_f (by show ¬ I 67 (38 + 6 * a + 5) = 0; rw [e3]; exact nI_ne0 (by omega) (by omega)) ?_
    exact ⟨Or.inl rfl, h0 (fun y => g1 y.1)⟩
theorem sp_mb_lt {u : am_U} {a b T : Nat} (hT : T < 64) (hb : b < 6) : sp_mb u a b T < 64 := by
  unfold sp_mb
  split
  · exact (tb_or T hT b hb).1
  · exact hT
theorem m_tab_b (hJ : am_Cl am_meth L xs J) {I : am_I} {u : am_U} {a T0 : Nat} {z1 z3 : Option Value} (hM : MRep I 67 u) (hO : OKu u) (ha : a < 6) (hT0 : T0 < 64) (h : ∀ z5, J (d + 2) q_M_tableOf 85 [some (.ref 66), z1, some (.int (nI (sp_it (sp_mb u a) (u 6) T0))), z3, some (.int (nI a)), z5] [] I Q) : ∀ (n b T : Nat), b + n = u 6 → T = sp_it (sp_mb u a) b T0 → J (d + 2) q_M_tableOf 35 [some (.ref 66), z1, some (.int (nI T)), z3, some (.int (nI a)), some (.int (nI b))] [] I Q
  | 0, b, T, hn, hT => by
    have c := hO.Cn
    have x6 : I 67 6 = nI (u 6) := hM 6 (by decide)
    have ei : b = u 6 := by omega
    refine am_vcl hJ [35, 85] 200 ?_
    refine ⟨am_vin (by decide), ?_⟩
    refine br_t (by show I 67 6 ≤ nI b; rw [x6]; exact nI_le (by omega) (by omega)) ?_
    rw [hT, ei]
    exact h _
  | n + 1, b, T, hn, hT => by
    have c := hO.Cn
    have x6 : I 67 6 = nI (u 6) := hM 6 (by decide)
    have hTl : T < 64 := by rw [hT]; exact sp_it_lt b hT0 (fun a S ha hS => sp_mb_lt hS (by omega))
    have es : sp_it (sp_mb u a) (b + 1) T0 = sp_mb u a b T := by rw [hT]; rfl
    have ih := fun T hT => m_tab_b (z1 := z1) (z3 := z3) hJ hM hO ha hT0 h n (b + 1) T (by omega) hT
    have no : ¬ (T.testBit a = true ∧ sp_clo u a b) → J (d + 2) q_M_tableOf 35 [some (.ref 66), z1, some (.int (nI T ||| 0)), z3, some (.int (nI a)), some (.int (nI b + 1))] [] I Q := by
      intro g
      have k9 := ih T (by rw [es]; unfold sp_mb; rw [if_neg g])
      rw [← nI_1] at k9
      rw [Int32.or_zero]
      exact k9
    refine am_vcl hJ [35, 85] 200 ?_
    refine ⟨am_vin (by decide), ?_⟩
    refine br_f (by show ¬ I 67 6 ≤ nI b; rw [x6]; exact nI_ge (by omega) (by omega)) ?_
    by_cases e : T.testBit a = true
    · refine br_t ((mb_shr T hTl a ha).mpr e) ?_
      refine m_areClose hJ hM hO ha (by omega) (fun g => ?_) (fun g => ?_)
      · have k9 := ih (T ||| 2 ^ b) (by rw [es]; unfold sp_mb; rw [if_pos ⟨e, g⟩])
        rw [← nI_1, ← mb_or hTl (by omega)] at k9
        refine br_f (by decide) ?_
        exact k9
      · refine br_t (by decide) ?_
        exact no (fun z => g z.2)
    · refine br_f (fun z => e ((mb_shr T hTl a ha).mp z)) ?_
      exact no (fun z => e z.1)
theorem m_tab_a (hJ : am_Cl am_meth L xs J) {I : am_I} {u : am_U} {T0 : Nat} {z1 z3 : Option Value} (hM : MRep I 67 u) (hO : OKu u) (hT0 : T0 < 64) (h : ∀ z4 z5, J (d + 2) q_M_tableOf 91 [some (.ref 66), z1, some (.int (nI (sp_it (fun a T => sp_it (sp_mb u a) (u 6) T) (u 6) T0))), z3, z4, z5] [] I Q) : ∀ (n a T : Nat) (z5 : Option Value), a + n = u 6 → T = sp_it (fun a T => sp_it (sp_mb u a) (u 6) T) a T0 → J (d + 2) q_M_tableOf 20 [some (.ref 66), z1, some (.int (nI T)), z3, some (.int (nI a)), z5] [] I Q
  | 0, a, T, z5, hn, hT => by
    have c := hO.Cn
    have x6 : I 67 6 = nI (u 6) := hM 6 (by decide)
    have ei : a = u 6 := by omega
    refine am_vcl hJ [20, 91] 200 ?_
    refine ⟨am_vin (by decide), ?_⟩
    refine br_t (by show I 67 6 ≤ nI a; rw [x6]; exact nI_le (by omega) (by omega)) ?_
    rw [hT, ei]
    exact h _ _
  | n + 1, a, T, z5, hn, hT => by
    have c := hO.Cn
    have x6 : I 67 6 = nI (u 6) := hM 6 (by decide)
    have hTl : T < 64 := by rw [hT]; exact sp_it_lt a hT0 (fun a S ha hS => sp_it_lt _ hS (fun a S ha hS => sp_mb_lt hS (by omega)))
    have ih := fun T z5 hT => m_tab_a (z1 := z1) (z3 := z3) hJ hM hO hT0 h n (a + 1) T z5 (by omega) hT
    refine am_vcl hJ [20, 35, 91] 200 ?_
    refine ⟨am_vin (by decide), ?_⟩
    refine br_f (by show ¬ I 67 6 ≤ nI a; rw [x6]; exact nI_ge (by omega) (by omega)) ?_
    refine m_tab_b hJ hM hO (by omega) hTl (fun z5 => ?_) (u 6) 0 T (Nat.zero_add _) rfl
    have k9 := ih (sp_it (sp_mb u a) (u 6) T) z5 (by rw [hT]; rfl)
    rw [← nI_1] at k9
    refine am_vcc hJ [20] 200 _ _ _ _ _ _ _ ?_
    exact k9
theorem m_tab_t (hJ : am_Cl am_meth L xs J) {I : am_I} {u : am_U} {k : Nat} (hM : MRep I 67 u) (hO : OKu u) (hk : k < 6) (h : Q (some (.int (nI (if u (43 + 6 * k) = 1 then 0 else sp_mT u (u 6) k)))) I) : ∀ (n p T : Nat) (z4 z5 : Option Value), p + n = u 6 → T = sp_it (fun _ T => sp_it (fun a T => sp_it (sp_mb u a) (u 6) T) (u 6) T) p (2 ^ k) → J (d + 2) q_M_tableOf 6 [some (.ref 66), some (.int (nI k)), some (.int (nI T)), some (.int (nI p)), z4, z5] [] I Q
  | 0, p, T, z4, z5, hn, hT => by
    have c := hO.Cn
    have x6 : I 67 6 = nI (u 6) := hM 6 (by decide)
    have ei : p = u 6 := by omega
    have e3 : I 67 (38 + 6 * k + 5) = nI (u (43 + 6 * k)) := by rw [hM _ (by omega), show 38 + 6 * k + 5 = 43 + 6 * k by omega]
    obtain ⟨-, -, -, -, -, rk⟩ := hO.P hk
    refine am_vcl hJ [6] 200 ?_
    refine ⟨am_vin (by decide), ?_⟩
    refine br_t (by show I 67 6 ≤ nI p; rw [x6]; exact nI_le (by omega) (by omega)) ?_
    refine m_get hJ (a := k) (b := 5) rfl rfl hk (by decide) ?_
    by_cases g : u (43 + 6 * k) = 1
    · refine br_t (by show I 67 (38 + 6 * k + 5) = 1; rw [e3, g]; rfl) ?_
      rw [if_pos g] at h
      exact h
    · refine br_f (by show ¬ I 67 (38 + 6 * k + 5) = 1; rw [e3, show (1 : Int32) = nI 1 from rfl, nI_eq (by omega) (by omega)]; exact g) ?_
      rw [if_neg g] at h
      rw [hT, ei]
      exact h
  | n + 1, p, T, z4, z5, hn, hT => by
    have c := hO.Cn
    have x6 : I 67 6 = nI (u 6) := hM 6 (by decide)
    have hTl : T < 64 := by rw [hT]; exact sp_it_lt p (tb_one hk).1 (fun a S ha hS => sp_it_lt _ hS (fun a S ha hS => sp_it_lt _ hS (fun a S ha hS => sp_mb_lt hS (by omega))))
    have ih := fun T z4 z5 hT => m_tab_t hJ hM hO hk h n (p + 1) T z4 z5 (by omega) hT
    refine am_vcl hJ [6, 20] 200 ?_
    refine ⟨am_vin (by decide), ?_⟩
    refine br_f (by show ¬ I 67 6 ≤ nI p; rw [x6]; exact nI_ge (by omega) (by omega)) ?_
    refine m_tab_a hJ hM hO hTl (fun z4 z5 => ?_) (u 6) 0 T _ (Nat.zero_add _) rfl
    have k9 := ih (sp_it (fun a T => sp_it (sp_mb u a) (u 6) T) (u 6) T) z4 z5 (by rw [hT]; rfl)
    rw [← nI_1] at k9
    refine am_vcc hJ [6] 200 _ _ _ _ _ _ _ ?_
    exact k9
theorem m_tableOf (hJ : am_Cl am_meth L xs J) {I : am_I} {u : am_U} {k : Nat} (hM : MRep I 67 u) (hO : OKu u) (hk : k < u 6) (h : Q (some (.int (nI (sp_tab u k)))) I) {z2 z3 z4 z5 : Option Value} : J (d + 2) q_M_tableOf 0 [some (.ref 66), some (.int (nI k)), z2, z3, z4, z5] [] I Q := by
  have c := hO.Cn
  obtain ⟨-, -, -, -, -, rk⟩ := hO.P (k := k) (by omega)
  have e : (if u (43 + 6 * k) = 1 then 0 else sp_mT u (u 6) k) = sp_tab u k := by
    by_cases g : u (43 + 6 * k) = 1
    · rw [if_pos g]
      unfold sp_tab
      rw [if_neg (by omega)]
    · rw [if_neg g, sp_tab_m c.1 hk (by omega)]
  rw [← e] at h
  have k9 := m_tab_t (d := d) hJ hM hO (by omega : k < 6) h (u 6) 0 (2 ^ k) z4 z5 (Nat.zero_add _) rfl
  rw [← mb_shl k (by omega)] at k9
  refine am_vcc hJ [6] 200 _ _ _ _ _ _ _ ?_
  exact k9
theorem x_count_loop (hJ : am_Cl am_meth L xs J) {I : am_I} {u : am_U} (hR : Rel (TR 8) I u) (hC : CRep I 9 u) (hO : OKu u) (h : Q (some (.int (nI (sp_cnt u (u 6))))) I) : ∀ (n k S : Nat) (z4 : Option Value), k + n = u 6 → S < 64 → (∀ j, S.testBit j = true ↔ ∃ i, i < k ∧ (sp_tab u i).testBit j = true) → J (d + 3) q_X_countTables 6 [some (.ref 0), some (.int (nI S)), some (.int (nI (sp_cnt u k))), some (.int (nI k)), z4] [] I Q
  | 0, k, S, z4, hn, hS, hs => by
    have c := hO.Cn
    have x6 : I 8 2 = nI (u 6) := hR.get 8 2 6 (by decide +kernel)
    have ei : k = u 6 := by omega
    refine am_vcl hJ [6] 200 ?_
    refine br_t (by show I 8 2 ≤ nI k; rw [x6]; exact nI_le (by omega) (by omega)) ?_
    rw [ei]
    exact h
  | n + 1, k, S, z4, hn, hS, hs => by
    have c := hO.Cn
    have x6 : I 8 2 = nI (u 6) := hR.get 8 2 6 (by decide +kernel)
    have hl := sp_tab_lt (u := u) (k := k) c.1 (by omega)
    have hcl := sp_cnt_le (u := u) k
    have ce := sp_cnt_eq (u := u) (k := k) c.1 (by omega) hS hs
    have k9 := x_count_loop hJ hR hC hO h n (k + 1) (S ||| sp_tab u k) (some (.int (nI (sp_tab u k)))) (by omega) (or64 S hS _ hl).2 (fun j => by
      rw [Nat.testBit_or, Bool.or_eq_true, hs]
      constructor
      · rintro (⟨i, a, b⟩ | b)
        · exact ⟨i, by omega, b⟩
        · exact ⟨k, by omega, b⟩
      · rintro ⟨i, a, b⟩
        by_cases y : i = k
        · subst y
          exact Or.inr b
        · exact Or.inl ⟨i, by omega, b⟩)
    rw [← (or64 S hS _ hl).1, ← nI_1] at k9
    have ea := and64 (sp_tab u k) hl S hS
    refine am_vcl hJ [6] 200 ?_
    refine br_f (by show ¬ I 8 2 ≤ nI k; rw [x6]; exact nI_ge (by omega) (by omega)) ?_
    refine x_tableOf hJ hR hC hO (by omega) ?_
    by_cases g : sp_tab u k &&& (63 - S) = 0
    · refine br_t (by show nI (sp_tab u k) &&& (nI S ^^^ (-1)) = 0; rw [ea, g]; rfl) ?_
      have e : sp_cnt u (k + 1) = sp_cnt u k := by
        show sp_cnt u k + (if sp_tab u k ≠ 0 ∧ sp_tab u k % 2 ^ k = 0 then 1 else 0) = _
        rw [if_neg (fun z => (ce.mpr z) g)]
        rfl
      rw [e] at k9
      exact k9
    · refine br_f (by show ¬ nI (sp_tab u k) &&& (nI S ^^^ (-1)) = 0; rw [ea]; exact nI_ne0 (by omega) (Nat.lt_of_le_of_lt Nat.and_le_left (by omega))) ?_
      have e : sp_cnt u (k + 1) = sp_cnt u k + 1 := by
        show sp_cnt u k + (if sp_tab u k ≠ 0 ∧ sp_tab u k % 2 ^ k = 0 then 1 else 0) = _
        rw [if_pos (ce.mp g)]
      rw [e, ← nI_1 (sp_cnt u k)] at k9
      exact k9
theorem m_count_loop (hJ : am_Cl am_meth L xs J) {I : am_I} {u : am_U} {z1 : Option Value} (hM : MRep I 67 u) (hO : OKu u) (h : Q (some (.int (nI (sp_cnt u (u 6))))) I) : ∀ (n k : Nat) (z4 : Option Value), k + n = u 6 → J (d + 3) q_M_tables 29 [some (.ref 66), z1, some (.int (nI (sp_cnt u k))), some (.int (nI k)), z4] [] I Q
  | 0, k, z4, hn => by
    have c := hO.Cn
    have x6 : I 67 6 = nI (u 6) := hM 6 (by decide)
    have ei : k = u 6 := by omega
    refine am_vcl hJ [29] 200 ?_
    refine ⟨am_vin (by decide), ?_⟩
    refine br_t (by show I 67 6 ≤ nI k; rw [x6]; exact nI_le (by omega) (by omega)) ?_
    rw [ei]
    exact h
  | n + 1, k, z4, hn => by
    have c := hO.Cn
    have x6 : I 67 6 = nI (u 6) := hM 6 (by decide)
    have hl := sp_tab_lt (u := u) (k := k) c.1 (by omega)
    have hp : 2 ^ k < 64 := (tb_one (k := k) (by omega)).1
    have hp0 : 0 < 2 ^ k := Nat.pow_pos (by decide)
    have er : nI (sp_tab u k) - nI (sp_tab u k) / ((1 : Int32) <<< (nI k &&& 31)) * ((1 : Int32) <<< (nI k &&& 31)) = nI (sp_tab u k % 2 ^ k) := by
      rw [mb_shl k (by omega)]
      exact pk_rem (by omega) hp0 (by omega)
    have hm : sp_tab u k % 2 ^ k < 2 ^ k := Nat.mod_lt _ hp0
    have k9 := fun z4 => m_count_loop (z1 := z1) hJ hM hO h n (k + 1) z4 (by omega)
    rw [← nI_1] at k9
    have e1 : (sp_tab u k ≠ 0 ∧ sp_tab u k % 2 ^ k = 0) → nI (sp_cnt u (k + 1)) = nI (sp_cnt u k) + 1 := fun g => by
      rw [nI_1]
      show nI (sp_cnt u k + (if sp_tab u k ≠ 0 ∧ sp_tab u k % 2 ^ k = 0 then 1 else 0)) = _
      rw [if_pos g]
    have e0 : ¬ (sp_tab u k ≠ 0 ∧ sp_tab u k % 2 ^ k = 0) → nI (sp_cnt u (k + 1)) = nI (sp_cnt u k) + 0 := fun g => by
      rw [Int32.add_zero]
      show nI (sp_cnt u k + (if sp_tab u k ≠ 0 ∧ sp_tab u k % 2 ^ k = 0 then 1 else 0)) = _
      rw [if_neg g]
      rfl
    refine am_vcl hJ [29] 200 ?_
    refine ⟨am_vin (by decide), ?_⟩
    refine br_f (by show ¬ I 67 6 ≤ nI k; rw [x6]; exact nI_ge (by omega) (by omega)) ?_
    refine m_tableOf hJ hM hO (by omega) ?_
    by_cases g : sp_tab u k = 0
    · refine br_t (by show nI (sp_tab u k) = 0; rw [g]; rfl) ?_
      rw [e0 (fun z => z.1 g)] at k9
      exact k9 _
    · refine br_f (by show ¬ nI (sp_tab u k) = 0; exact nI_ne0 (by omega) (by omega)) ?_
      refine ⟨?_, ?_⟩
      · show ¬ ((1 : Int32) <<< (nI k &&& 31)) = 0
        rw [mb_shl k (by omega)]
        exact nI_ne0 hp0 (by omega)
      · by_cases g2 : sp_tab u k % 2 ^ k = 0
        · refine br_t (by show nI (sp_tab u k) - nI (sp_tab u k) / ((1 : Int32) <<< (nI k &&& 31)) * ((1 : Int32) <<< (nI k &&& 31)) = 0; rw [er, g2]; rfl) ?_
          rw [e1 ⟨g, g2⟩] at k9
          exact k9 _
        · refine br_f (by show ¬ nI (sp_tab u k) - nI (sp_tab u k) / ((1 : Int32) <<< (nI k &&& 31)) * ((1 : Int32) <<< (nI k &&& 31)) = 0; rw [er]; exact nI_ne0 (by omega) (by omega)) ?_
          rw [e0 (fun z => g2 z.2)] at k9
          exact k9 _
theorem op_tables (hJ : am_Cl am_meth L xs J) (a : Int32) : am_same Inv J q_X_tables q_M_tables [.int a] := by
  intro I hI Qc hQc
  obtain ⟨u, uk, hMn, hK, hRs⟩ := id hI
  obtain ⟨hM, hR, hC, hO⟩ := id hMn
  obtain ⟨c1, c2, c3, c4, c5, c6, c7⟩ := hO.Cn
  have x6 : I 8 2 = nI (u 6) := hMn.get (j := 6) (by decide +kernel)
  have m6 : I 67 6 = nI (u 6) := hM 6 (by decide)
  by_cases h1 : a = -1
  · subst h1
    refine am_vc hJ 40 _ _ _ _ _ _ _ ?_
    refine br_t (by decide) ?_
    refine am_vcc hJ [6] 200 _ _ _ _ _ _ _ ?_
    refine x_count_loop (d := 36) hJ hR.1 hC hO ?_ (u 6) 0 0 _ (Nat.zero_add _) (by decide) (fun j => ⟨fun z => (by rw [Nat.zero_testBit] at z; cases z), fun ⟨i, z, _⟩ => by omega⟩)
    refine ⟨_, rfl, ?_⟩
    refine am_vcc hJ [29] 200 _ _ _ _ _ _ _ ?_
    refine br_t (by decide) ?_
    refine br_t (by decide) ?_
    refine m_count_loop (d := 37) hJ hM hO ?_ (u 6) 0 _ (Nat.zero_add _)
    exact ⟨rfl, hQc _ hI⟩
  · by_cases h2 : ∃ j, j < u 6 ∧ a = nI j
    · obtain ⟨k, hk, rfl⟩ := id h2
      refine am_vc hJ 40 _ _ _ _ _ _ _ ?_
      refine br_f (h1) ?_
      refine x_hasY hJ x6 c1 h2 ?_
      refine br_f (by decide) ?_
      refine x_tableOf hJ hR.1 hC hO (by omega) ?_
      refine ⟨_, rfl, ?_⟩
      refine am_vcc hJ [29] 200 _ _ _ _ _ _ _ ?_
      refine br_f (h1) ?_
      refine m_isPersonY hJ m6 c1 h2 ?_
      refine br_f (by decide) ?_
      refine br_f (by show ¬ nI k < 0; exact nI_pos (by omega)) ?_
      refine m_tableOf hJ hM hO hk ?_
      exact ⟨rfl, hQc _ hI⟩
    · refine am_vc hJ 40 _ _ _ _ _ _ _ ?_
      refine br_f (h1) ?_
      refine x_hasN hJ x6 c1 h2 ?_
      refine br_t (by decide) ?_
      refine ⟨_, rfl, ?_⟩
      refine am_vcc hJ [29] 200 _ _ _ _ _ _ _ ?_
      refine br_f (h1) ?_
      refine m_isPersonN hJ m6 c1 h2 ?_
      refine br_t (by decide) ?_
      exact ⟨rfl, hQc _ hI⟩
end
