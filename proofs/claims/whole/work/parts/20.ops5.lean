theorem am_okbP : ∀ q ∈ OKb, ∀ k, k < 6 → (q.1 = 38 + 6 * k → q.2 = 5) ∧ (q.1 = 39 + 6 * k → q.2 = 60) ∧ (q.1 = 40 + 6 * k → q.2 = 9) ∧ (q.1 = 41 + 6 * k → q.2 = 5) ∧ (q.1 = 42 + 6 * k → q.2 = 9) ∧ (q.1 = 43 + 6 * k → q.2 = 1) := by decide +kernel
section
variable {L : Nat} {xs : Nat → Int32} {J : am_J}
theorem op_person (hJ : am_Cl am_meth L xs J) (a b c e : Int32) : am_same Inv J q_X_person q_M_person [.int a, .int b, .int c, .int e] := by
  intro I hI Qc hQc
  obtain ⟨u, uk, hMn, hK, hRs⟩ := id hI
  obtain ⟨hM, hR, hC, hO⟩ := id hMn
  have h6 := hO.b 6 6 (by decide)
  have c6 : I 8 2 = nI (u 6) := hMn.get (j := 6) (by decide +kernel)
  have m6 : I 67 6 = nI (u 6) := hM 6 (by decide)
  by_cases h1 : (1 : Int32) ≤ a ∧ a ≤ 5
  · by_cases h2 : (0 : Int32) ≤ b ∧ b ≤ 60
    · by_cases h3 : (0 : Int32) ≤ c ∧ c ≤ 9
      · by_cases h4 : (0 : Int32) ≤ e ∧ e ≤ 5
        · by_cases hu : u 6 < 6
          · have gv : vp_in (I 8 2) 6 := am_vinN c6 hu (by omega)
            have lt : I 8 2 < 6 := by rw [c6]; exact nI_lt (b := 6) hu (by omega)
            have ne : ¬ I 67 6 = 6 := by rw [m6, show (6 : Int32) = nI 6 from rfl, nI_eq (by omega) (by omega)]; omega
            obtain ⟨ka, hka, rfl⟩ := am_rng (N := 5) rfl (by decide) ⟨Int32.le_trans (by decide) h1.1, h1.2⟩
            have hka1 : 1 ≤ ka := by
              have := h1.1
              rw [show (1 : Int32) = nI 1 from rfl, nI_leI (by decide) (by omega)] at this
              exact this
            obtain ⟨ne', hne, rfl⟩ := am_rng (N := 60) rfl (by decide) h2
            obtain ⟨ta, hta, rfl⟩ := am_rng (N := 9) rfl (by decide) h3
            obtain ⟨ga, hga, rfl⟩ := am_rng (N := 5) rfl (by decide) h4
            repeat (
              (try conv => whnf)
              first
                | refine ⟨am_vin (by decide), ?_⟩
                | refine br_f (by decide) ?_
                | refine br_t (by decide) ?_
                | refine br_t (by assumption) ?_
                | refine br_f (by assumption) ?_
                | refine x_withinY hJ (by assumption) ?_
                | refine x_withinN hJ (by assumption) ?_
                | refine m_in1Y hJ (by assumption) ?_
                | refine m_in1N hJ (by assumption) ?_
                | refine m_isGateY hJ (by assumption) ?_
                | refine m_isGateN hJ (by assumption) ?_
                | refine m_isDigitY hJ (by assumption) ?_
                | refine m_isDigitN hJ (by assumption) ?_
                | refine m_isNeedY hJ (by assumption) ?_
                | refine m_isNeedN hJ (by assumption) ?_
                | refine m_isPlanY hJ (by assumption) ?_
                | refine m_isPlanN hJ (by assumption) ?_
                | refine m_isSheetY hJ (by assumption) ?_
                | refine m_isSheetN hJ (by assumption) ?_
                | refine x_isSheetY hJ (by assumption) ?_
                | refine x_isSheetN hJ (by assumption) ?_
                | refine x_isShelfY hJ (by assumption) ?_
                | refine x_isShelfN hJ (by assumption) ?_
                | refine x_hasY hJ (by assumption) (by assumption) (by assumption) ?_
                | refine x_hasN hJ (by assumption) (by assumption) (by assumption) ?_
                | refine m_isPersonY hJ (by assumption) (by assumption) (by assumption) ?_
                | refine m_isPersonN hJ (by assumption) (by assumption) (by assumption) ?_
                | refine am_vc hJ 120 40 _ _ _ _ _ _ ?_
                | refine ⟨_, rfl, ?_⟩)
            refine ⟨gv, gv, gv, gv, ?_⟩
            repeat (
              (try conv => whnf)
              first
                | refine ⟨am_vin (by decide), ?_⟩
                | refine br_f (by decide) ?_
                | refine br_t (by decide) ?_
                | refine br_t (by assumption) ?_
                | refine br_f (by assumption) ?_
                | refine x_withinY hJ (by assumption) ?_
                | refine x_withinN hJ (by assumption) ?_
                | refine m_in1Y hJ (by assumption) ?_
                | refine m_in1N hJ (by assumption) ?_
                | refine m_isGateY hJ (by assumption) ?_
                | refine m_isGateN hJ (by assumption) ?_
                | refine m_isDigitY hJ (by assumption) ?_
                | refine m_isDigitN hJ (by assumption) ?_
                | refine m_isNeedY hJ (by assumption) ?_
                | refine m_isNeedN hJ (by assumption) ?_
                | refine m_isPlanY hJ (by assumption) ?_
                | refine m_isPlanN hJ (by assumption) ?_
                | refine m_isSheetY hJ (by assumption) ?_
                | refine m_isSheetN hJ (by assumption) ?_
                | refine x_isSheetY hJ (by assumption) ?_
                | refine x_isSheetN hJ (by assumption) ?_
                | refine x_isShelfY hJ (by assumption) ?_
                | refine x_isShelfN hJ (by assumption) ?_
                | refine x_hasY hJ (by assumption) (by assumption) (by assumption) ?_
                | refine x_hasN hJ (by assumption) (by assumption) (by assumption) ?_
                | refine m_isPersonY hJ (by assumption) (by assumption) (by assumption) ?_
                | refine m_isPersonN hJ (by assumption) (by assumption) (by assumption) ?_
                | refine am_vc hJ 120 40 _ _ _ _ _ _ ?_
                | refine ⟨_, rfl, ?_⟩)
            refine m_puts hJ (a := u 6) (b := 0) m6 rfl hu (by decide) ?_
            refine m_puts hJ (a := u 6) (b := 1) m6 rfl hu (by decide) ?_
            refine m_puts hJ (a := u 6) (b := 2) m6 rfl hu (by decide) ?_
            refine m_puts hJ (a := u 6) (b := 3) m6 rfl hu (by decide) ?_
            refine m_puts hJ (a := u 6) (b := 4) m6 rfl hu (by decide) ?_
            refine m_puts hJ (a := u 6) (b := 5) m6 rfl hu (by decide) ?_
            repeat (
              (try conv => whnf)
              first
                | refine ⟨am_vin (by decide), ?_⟩
                | refine br_f (by decide) ?_
                | refine br_t (by decide) ?_
                | refine br_t (by assumption) ?_
                | refine br_f (by assumption) ?_
                | refine x_withinY hJ (by assumption) ?_
                | refine x_withinN hJ (by assumption) ?_
                | refine m_in1Y hJ (by assumption) ?_
                | refine m_in1N hJ (by assumption) ?_
                | refine m_isGateY hJ (by assumption) ?_
                | refine m_isGateN hJ (by assumption) ?_
                | refine m_isDigitY hJ (by assumption) ?_
                | refine m_isDigitN hJ (by assumption) ?_
                | refine m_isNeedY hJ (by assumption) ?_
                | refine m_isNeedN hJ (by assumption) ?_
                | refine m_isPlanY hJ (by assumption) ?_
                | refine m_isPlanN hJ (by assumption) ?_
                | refine m_isSheetY hJ (by assumption) ?_
                | refine m_isSheetN hJ (by assumption) ?_
                | refine x_isSheetY hJ (by assumption) ?_
                | refine x_isSheetN hJ (by assumption) ?_
                | refine x_isShelfY hJ (by assumption) ?_
                | refine x_isShelfN hJ (by assumption) ?_
                | refine x_hasY hJ (by assumption) (by assumption) (by assumption) ?_
                | refine x_hasN hJ (by assumption) (by assumption) (by assumption) ?_
                | refine m_isPersonY hJ (by assumption) (by assumption) (by assumption) ?_
                | refine m_isPersonN hJ (by assumption) (by assumption) (by assumption) ?_
                | refine am_vc hJ 120 40 _ _ _ _ _ _ ?_
                | refine ⟨_, rfl, ?_⟩)
            obtain ⟨t1, t2, t3, t4⟩ := am_t10 (u 6) hu
            obtain ⟨g1, g2, g3, g4, g5⟩ := id hO
            have hOk : OKu (upN (upN (upN (upN (upN u (38 + 6 * u 6) ka) (39 + 6 * u 6) ne') (40 + 6 * u 6) ta) (41 + 6 * u 6) ga) 6 (u 6 + 1)) := by
              refine ⟨fun q hq => ?_, ?_, ?_, fun i hi => ?_, fun i f hi h6' hf => ?_⟩
              · obtain ⟨b1, b2, b3, b4, b5, b6⟩ := am_okbP q hq (u 6) hu
                unfold upN
                split
                · next z => rw [(am_okb8 q hq).2 z]; omega
                · split
                  · next z => rw [b4 z]; exact hga
                  · split
                    · next z => rw [b3 z]; exact hta
                    · split
                      · next z => rw [b2 z]; exact hne
                      · split
                        · next z => rw [b1 z]; exact hka
                        · exact g1 q hq
              · rw [upN_n (by omega), upN_n (by omega), upN_n (by omega), upN_n (by omega), upN_n (by omega), upN_n (by omega), upN_n (by omega), upN_n (by omega), upN_n (by omega), upN_n (by omega)]
                exact g2
              · rw [upN_n (by omega), upN_n (by omega), upN_n (by omega), upN_n (by omega), upN_n (by omega)]
                exact g3
              · rw [upN_s] at hi
                rw [upN_n (by omega), upN_n (by omega), upN_n (by omega), upN_n (by omega)]
                by_cases z : i = u 6
                · subst z
                  rw [upN_s]
                  exact hka1
                · rw [upN_n (by omega)]
                  exact g4 i (by omega)
              · rw [upN_s] at hi
                rw [upN_n (by omega), upN_n (by omega), upN_n (by omega), upN_n (by omega), upN_n (by omega)]
                exact g5 i f (by omega) h6' hf
            have hfin : ∀ A : am_I, A = am_put (am_put (am_put (am_put (am_put (am_put (am_put (am_put (am_put (am_put (am_put I 10 (I 8 2).toNatClampNeg (nI ka)) 11 (I 8 2).toNatClampNeg (nI ne')) 12 (I 8 2).toNatClampNeg (nI ta)) 13 (I 8 2).toNatClampNeg (nI ga)) 8 2 (I 8 2 + 1)) 67 (38 + 6 * u 6 + 0) (nI ka)) 67 (38 + 6 * u 6 + 1) (nI ne')) 67 (38 + 6 * u 6 + 2) (nI ta)) 67 (38 + 6 * u 6 + 3) (nI ga)) 67 (38 + 6 * u 6 + 4) 0) 67 (38 + 6 * u 6 + 5) 0 → Inv (am_put A 67 6 (A 67 6 + 1)) := by
              intro A hA
              have e6 : A 67 6 = nI (u 6) := by
                rw [hA, put_nk (by omega), put_nk (by omega), put_nk (by omega), put_nk (by omega), put_nk (by omega), put_nk (by omega), am_put_o (by decide), am_put_o (by decide), am_put_o (by decide), am_put_o (by decide), am_put_o (by decide), m6]
              rw [e6, nI_1]
              rw [am_clN c6 (by omega), c6, nI_1] at hA
              have z42 : u (42 + 6 * u 6) = 0 := by
                have := g5 (u 6) 4 (Nat.le_refl _) hu (by decide)
                rw [show 38 + 6 * u 6 + 4 = 42 + 6 * u 6 by omega] at this
                exact this
              have z43 : u (43 + 6 * u 6) = 0 := by
                have := g5 (u 6) 5 (Nat.le_refl _) hu (by decide)
                rw [show 38 + 6 * u 6 + 5 = 43 + 6 * u 6 by omega] at this
                exact this
              refine Inv.main (S := [8, 10, 11, 12, 13, 67]) (u := upN (upN (upN (upN (upN u (38 + 6 * u 6) ka) (39 + 6 * u 6) ne') (40 + 6 * u 6) ta) (41 + 6 * u 6) ga) 6 (u 6 + 1)) (Main2 (I1 := am_put (am_put (am_put (am_put (am_put I 10 (u 6) (nI ka)) 11 (u 6) (nI ne')) 12 (u 6) (nI ta)) 13 (u 6) (nI ga)) 8 2 (nI (u 6 + 1))) ?_ ?_ ?_ ?_ hOk ?_) hK hRs ?_ (by decide)
              · rw [hA]
                have hm0 : MRep (am_put (am_put (am_put (am_put (am_put I 10 (u 6) (nI ka)) 11 (u 6) (nI ne')) 12 (u 6) (nI ta)) 13 (u 6) (nI ga)) 8 2 (nI (u 6 + 1))) 67 u := ((((hM.off (by decide)).off (by decide)).off (by decide)).off (by decide)).off (by decide)
                have hm1 := MRep.up (j := 6) (n := u 6 + 1) (MRep.up (j := 38 + 6 * u 6 + 5) (n := 0) (v := 0) (MRep.up (j := 38 + 6 * u 6 + 4) (n := 0) (v := 0) (MRep.up (j := 38 + 6 * u 6 + 3) (n := ga) (MRep.up (j := 38 + 6 * u 6 + 2) (n := ta) (MRep.up (j := 38 + 6 * u 6 + 1) (n := ne') (MRep.up (j := 38 + 6 * u 6 + 0) (n := ka) hm0 rfl) rfl) rfl) rfl) rfl) rfl) rfl
                have eu : upN (upN (upN (upN (upN (upN (upN u (38 + 6 * u 6 + 0) ka) (38 + 6 * u 6 + 1) ne') (38 + 6 * u 6 + 2) ta) (38 + 6 * u 6 + 3) ga) (38 + 6 * u 6 + 4) 0) (38 + 6 * u 6 + 5) 0) 6 (u 6 + 1) = upN (upN (upN (upN (upN u (38 + 6 * u 6) ka) (39 + 6 * u 6) ne') (40 + 6 * u 6) ta) (41 + 6 * u 6) ga) 6 (u 6 + 1) := by
                  rw [show 38 + 6 * u 6 + 0 = 38 + 6 * u 6 by omega, show 38 + 6 * u 6 + 1 = 39 + 6 * u 6 by omega, show 38 + 6 * u 6 + 2 = 40 + 6 * u 6 by omega, show 38 + 6 * u 6 + 3 = 41 + 6 * u 6 by omega, show 38 + 6 * u 6 + 4 = 42 + 6 * u 6 by omega, show 38 + 6 * u 6 + 5 = 43 + 6 * u 6 by omega]
                  congr 1
                  rw [upN_same (j := 43 + 6 * u 6), upN_same (j := 42 + 6 * u 6)]
                  · rw [upN_n (by omega), upN_n (by omega), upN_n (by omega), upN_n (by omega)]; exact z42
                  · rw [upN_n (by omega), upN_n (by omega), upN_n (by omega), upN_n (by omega), upN_n (by omega)]; exact z43
                rw [eu] at hm1
                exact hm1
              · exact Rel8_put (Rel8_put (Rel8_put (Rel8_put (Rel8_put hR.1 t1 rfl) t2 rfl) t3 rfl) t4 rfl) (by decide +kernel) rfl
              · have e17 : am_put (am_put (am_put (am_put (am_put I 10 (u 6) (nI ka)) 11 (u 6) (nI ne')) 12 (u 6) (nI ta)) 13 (u 6) (nI ga)) 8 2 (nI (u 6 + 1)) 17 = I 17 := by
                  rw [am_put_o (by decide), am_put_o (by decide), am_put_o (by decide), am_put_o (by decide), am_put_o (by decide)]
                rw [e17]
                refine hR.2.keptu ?_ (fun j hj => ?_)
                · rw [upN_n (by omega), upN_n (by omega), upN_n (by omega), upN_n (by omega), upN_n (by omega)]
                · rw [upN_n (by omega), upN_n (by omega), upN_n (by omega), upN_n (by omega), upN_n (by omega)]
              · refine (hC.kept ?_).keptu ?_ ?_ ?_ ?_ (fun k hk => ⟨?_, ?_⟩)
                · rw [am_put_o (by decide), am_put_o (by decide), am_put_o (by decide), am_put_o (by decide), am_put_o (by decide)]
                all_goals rw [upN_n (by omega), upN_n (by omega), upN_n (by omega), upN_n (by omega), upN_n (by omega)]
              · intro o ho
                rw [hA, am_put_o ho, am_put_o ho, am_put_o ho, am_put_o ho, am_put_o ho, am_put_o ho, am_put_o ho]
              · intro o ho
                simp only [List.mem_cons, List.not_mem_nil, or_false, not_or] at ho
                rw [hA, am_put_o (by omega), am_put_o (by omega), am_put_o (by omega), am_put_o (by omega), am_put_o (by omega), am_put_o (by omega), am_put_o (by omega), am_put_o (by omega), am_put_o (by omega), am_put_o (by omega), am_put_o (by omega), am_put_o (by omega)]
            refine ⟨?_, hQc _ (hfin _ rfl)⟩
            show some (Value.int (I 67 6)) = some (Value.int (I 8 2))
            rw [m6, c6]
          · have lt : ¬ I 8 2 < 6 := by rw [c6, show (6 : Int32) = nI 6 from rfl, nI_ltI (by omega) (by omega)]; exact hu
            have ne : I 67 6 = 6 := by rw [m6, show u 6 = 6 by omega]; rfl
            repeat (
              (try conv => whnf)
              first
                | refine ⟨am_vin (by decide), ?_⟩
                | refine ⟨(by assumption : vp_in _ _), ?_⟩
                | refine br_f (by decide) ?_
                | refine br_t (by decide) ?_
                | refine br_t (by assumption) ?_
                | refine br_f (by assumption) ?_
                | refine x_withinY hJ (by assumption) ?_
                | refine x_withinN hJ (by assumption) ?_
                | refine m_in1Y hJ (by assumption) ?_
                | refine m_in1N hJ (by assumption) ?_
                | refine m_isGateY hJ (by assumption) ?_
                | refine m_isGateN hJ (by assumption) ?_
                | refine m_isDigitY hJ (by assumption) ?_
                | refine m_isDigitN hJ (by assumption) ?_
                | refine m_isNeedY hJ (by assumption) ?_
                | refine m_isNeedN hJ (by assumption) ?_
                | refine m_isPlanY hJ (by assumption) ?_
                | refine m_isPlanN hJ (by assumption) ?_
                | refine m_isSheetY hJ (by assumption) ?_
                | refine m_isSheetN hJ (by assumption) ?_
                | refine x_isSheetY hJ (by assumption) ?_
                | refine x_isSheetN hJ (by assumption) ?_
                | refine x_isShelfY hJ (by assumption) ?_
                | refine x_isShelfN hJ (by assumption) ?_
                | refine x_hasY hJ (by assumption) (by assumption) (by assumption) ?_
                | refine x_hasN hJ (by assumption) (by assumption) (by assumption) ?_
                | refine m_isPersonY hJ (by assumption) (by assumption) (by assumption) ?_
                | refine m_isPersonN hJ (by assumption) (by assumption) (by assumption) ?_
                | refine am_vc hJ 120 40 _ _ _ _ _ _ ?_
                | refine ⟨_, rfl, ?_⟩)
            exact ⟨rfl, hQc _ hI⟩
        · repeat (
            (try conv => whnf)
            first
              | refine ⟨am_vin (by decide), ?_⟩
              | refine ⟨(by assumption : vp_in _ _), ?_⟩
              | refine br_f (by decide) ?_
              | refine br_t (by decide) ?_
              | refine br_t (by assumption) ?_
              | refine br_f (by assumption) ?_
              | refine x_withinY hJ (by assumption) ?_
              | refine x_withinN hJ (by assumption) ?_
              | refine m_in1Y hJ (by assumption) ?_
              | refine m_in1N hJ (by assumption) ?_
              | refine m_isGateY hJ (by assumption) ?_
              | refine m_isGateN hJ (by assumption) ?_
              | refine m_isDigitY hJ (by assumption) ?_
              | refine m_isDigitN hJ (by assumption) ?_
              | refine m_isNeedY hJ (by assumption) ?_
              | refine m_isNeedN hJ (by assumption) ?_
              | refine m_isPlanY hJ (by assumption) ?_
              | refine m_isPlanN hJ (by assumption) ?_
              | refine m_isSheetY hJ (by assumption) ?_
              | refine m_isSheetN hJ (by assumption) ?_
              | refine x_isSheetY hJ (by assumption) ?_
              | refine x_isSheetN hJ (by assumption) ?_
              | refine x_isShelfY hJ (by assumption) ?_
              | refine x_isShelfN hJ (by assumption) ?_
              | refine x_hasY hJ (by assumption) (by assumption) (by assumption) ?_
              | refine x_hasN hJ (by assumption) (by assumption) (by assumption) ?_
              | refine m_isPersonY hJ (by assumption) (by assumption) (by assumption) ?_
              | refine m_isPersonN hJ (by assumption) (by assumption) (by assumption) ?_
              | refine am_vc hJ 120 40 _ _ _ _ _ _ ?_
              | refine ⟨_, rfl, ?_⟩)
          exact ⟨rfl, hQc _ hI⟩
      · repeat (
          (try conv => whnf)
          first
            | refine ⟨am_vin (by decide), ?_⟩
            | refine ⟨(by assumption : vp_in _ _), ?_⟩
            | refine br_f (by decide) ?_
            | refine br_t (by decide) ?_
            | refine br_t (by assumption) ?_
            | refine br_f (by assumption) ?_
            | refine x_withinY hJ (by assumption) ?_
            | refine x_withinN hJ (by assumption) ?_
            | refine m_in1Y hJ (by assumption) ?_
            | refine m_in1N hJ (by assumption) ?_
            | refine m_isGateY hJ (by assumption) ?_
            | refine m_isGateN hJ (by assumption) ?_
            | refine m_isDigitY hJ (by assumption) ?_
            | refine m_isDigitN hJ (by assumption) ?_
            | refine m_isNeedY hJ (by assumption) ?_
            | refine m_isNeedN hJ (by assumption) ?_
            | refine m_isPlanY hJ (by assumption) ?_
            | refine m_isPlanN hJ (by assumption) ?_
            | refine m_isSheetY hJ (by assumption) ?_
            | refine m_isSheetN hJ (by assumption) ?_
            | refine x_isSheetY hJ (by assumption) ?_
            | refine x_isSheetN hJ (by assumption) ?_
            | refine x_isShelfY hJ (by assumption) ?_
            | refine x_isShelfN hJ (by assumption) ?_
            | refine x_hasY hJ (by assumption) (by assumption) (by assumption) ?_
            | refine x_hasN hJ (by assumption) (by assumption) (by assumption) ?_
            | refine m_isPersonY hJ (by assumption) (by assumption) (by assumption) ?_
            | refine m_isPersonN hJ (by assumption) (by assumption) (by assumption) ?_
            | refine am_vc hJ 120 40 _ _ _ _ _ _ ?_
            | refine ⟨_, rfl, ?_⟩)
        exact ⟨rfl, hQc _ hI⟩
    · repeat (
        (try conv => whnf)
        first
          | refine ⟨am_vin (by decide), ?_⟩
          | refine ⟨(by assumption : vp_in _ _), ?_⟩
          | refine br_f (by decide) ?_
          | refine br_t (by decide) ?_
          | refine br_t (by assumption) ?_
          | refine br_f (by assumption) ?_
          | refine x_withinY hJ (by assumption) ?_
          | refine x_withinN hJ (by assumption) ?_
          | refine m_in1Y hJ (by assumption) ?_
          | refine m_in1N hJ (by assumption) ?_
          | refine m_isGateY hJ (by assumption) ?_
          | refine m_isGateN hJ (by assumption) ?_
          | refine m_isDigitY hJ (by assumption) ?_
          | refine m_isDigitN hJ (by assumption) ?_
          | refine m_isNeedY hJ (by assumption) ?_
          | refine m_isNeedN hJ (by assumption) ?_
          | refine m_isPlanY hJ (by assumption) ?_
          | refine m_isPlanN hJ (by assumption) ?_
          | refine m_isSheetY hJ (by assumption) ?_
          | refine m_isSheetN hJ (by assumption) ?_
          | refine x_isSheetY hJ (by assumption) ?_
          | refine x_isSheetN hJ (by assumption) ?_
          | refine x_isShelfY hJ (by assumption) ?_
          | refine x_isShelfN hJ (by assumption) ?_
          | refine x_hasY hJ (by assumption) (by assumption) (by assumption) ?_
          | refine x_hasN hJ (by assumption) (by assumption) (by assumption) ?_
          | refine m_isPersonY hJ (by assumption) (by assumption) (by assumption) ?_
          | refine m_isPersonN hJ (by assumption) (by assumption) (by assumption) ?_
          | refine am_vc hJ 120 40 _ _ _ _ _ _ ?_
          | refine ⟨_, rfl, ?_⟩)
      exact ⟨rfl, hQc _ hI⟩
  · repeat (
      (try conv => whnf)
      first
        | refine ⟨am_vin (by decide), ?_⟩
        | refine ⟨(by assumption : vp_in _ _), ?_⟩
        | refine br_f (by decide) ?_
        | refine br_t (by decide) ?_
        | refine br_t (by assumption) ?_
        | refine br_f (by assumption) ?_
        | refine x_withinY hJ (by assumption) ?_
        | refine x_withinN hJ (by assumption) ?_
        | refine m_in1Y hJ (by assumption) ?_
        | refine m_in1N hJ (by assumption) ?_
        | refine m_isGateY hJ (by assumption) ?_
        | refine m_isGateN hJ (by assumption) ?_
        | refine m_isDigitY hJ (by assumption) ?_
        | refine m_isDigitN hJ (by assumption) ?_
        | refine m_isNeedY hJ (by assumption) ?_
        | refine m_isNeedN hJ (by assumption) ?_
        | refine m_isPlanY hJ (by assumption) ?_
        | refine m_isPlanN hJ (by assumption) ?_
        | refine m_isSheetY hJ (by assumption) ?_
        | refine m_isSheetN hJ (by assumption) ?_
        | refine x_isSheetY hJ (by assumption) ?_
        | refine x_isSheetN hJ (by assumption) ?_
        | refine x_isShelfY hJ (by assumption) ?_
        | refine x_isShelfN hJ (by assumption) ?_
        | refine x_hasY hJ (by assumption) (by assumption) (by assumption) ?_
        | refine x_hasN hJ (by assumption) (by assumption) (by assumption) ?_
        | refine m_isPersonY hJ (by assumption) (by assumption) (by assumption) ?_
        | refine m_isPersonN hJ (by assumption) (by assumption) (by assumption) ?_
        | refine am_vc hJ 120 40 _ _ _ _ _ _ ?_
        | refine ⟨_, rfl, ?_⟩)
    exact ⟨rfl, hQc _ hI⟩
end
