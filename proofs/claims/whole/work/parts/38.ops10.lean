/-! CHANGE, ANEW -/
def sp_an (u : am_U) : Nat → am_U
  | 0 => upN (upN (upN u 2 0) 3 0) 4 12
  | n + 1 => upN (upN (sp_an u n) (42 + 6 * n) 0) (43 + 6 * n) 0
theorem sp_an_ok {u : am_U} (h : OKu u) : ∀ n, n ≤ u 6 → OKu (sp_an u n) ∧ SameR u (sp_an u n)
  | 0, _ => ⟨OKu.up4 (OKu.up3 h.up2 (by decide)) (by decide), (((SameR.refl u).up (by decide)).up (by decide)).up (by decide)⟩
  | n + 1, hn => by
    obtain ⟨a, b⟩ := sp_an_ok h n (by omega)
    have c1 := h.Cn.1
    have e6 : sp_an u n 6 = u 6 := b 6 (by decide)
    refine ⟨OKu.upF (OKu.upM a (by omega) (by omega)) ?_ (by omega), (b.up (am_dyM n (by omega)).1).up (am_dyM n (by omega)).2⟩
    rw [upN_n (by omega), e6]
    omega
theorem sp_an_v {u : am_U} : ∀ n, sp_an u n 2 = 0 ∧ sp_an u n 3 = 0 ∧ sp_an u n 4 = 12 ∧ ∀ k, sp_an u n (42 + 6 * k) = (if k < n then 0 else u (42 + 6 * k)) ∧ sp_an u n (43 + 6 * k) = (if k < n then 0 else u (43 + 6 * k))
  | 0 => by
    refine ⟨rfl, rfl, rfl, fun k => ⟨?_, ?_⟩⟩
    all_goals
      rw [if_neg (by omega)]
      show upN (upN (upN u 2 0) 3 0) 4 12 _ = _
      rw [upN_n (by omega), upN_n (by omega), upN_n (by omega)]
  | n + 1 => by
    obtain ⟨h2, h3, h4, hk⟩ := sp_an_v (u := u) n
    refine ⟨?_, ?_, ?_, fun k => ⟨?_, ?_⟩⟩
    · show upN (upN (sp_an u n) _ _) _ _ _ = _
      rw [upN_n (by omega), upN_n (by omega)]; exact h2
    · show upN (upN (sp_an u n) _ _) _ _ _ = _
      rw [upN_n (by omega), upN_n (by omega)]; exact h3
    · show upN (upN (sp_an u n) _ _) _ _ _ = _
      rw [upN_n (by omega), upN_n (by omega)]; exact h4
    · show upN (upN (sp_an u n) _ _) _ _ _ = _
      rw [upN_n (by omega)]
      by_cases e : k = n
      · subst e
        rw [upN_s, if_pos (by omega)]
      · rw [upN_n (by omega), (hk k).1]
        by_cases g : k < n
        · rw [if_pos g, if_pos (by omega)]
        · rw [if_neg g, if_neg (by omega)]
    · show upN (upN (sp_an u n) _ _) _ _ _ = _
      by_cases e : k = n
      · subst e
        rw [upN_s, if_pos (by omega)]
      · rw [upN_n (by omega), upN_n (by omega), (hk k).2]
        by_cases g : k < n
        · rw [if_pos g, if_pos (by omega)]
        · rw [if_neg g, if_neg (by omega)]
section
variable {L : Nat} {xs : Nat → Int32} {J : am_J} {d : Nat} {Q : am_Q}
theorem m_anew_loop (hJ : am_Cl am_meth L xs J) {I0 : am_I} {u : am_U} (hO : OKu u) (h : ∀ I : am_I, (∀ o, o ≠ 67 → I o = I0 o) → MRep I 67 (upN (sp_an u (u 6)) 0 0) → Q (some (.int (nI (u 0)))) I) : ∀ (n k : Nat) (I : am_I), k + n = u 6 → (∀ o, o ≠ 67 → I o = I0 o) → MRep I 67 (sp_an u k) → J (d + 1) q_M_anew 24 [some (.ref 66), some (.int (nI k))] [] I Q
  | n, k, I, hn, hI, hM => by
    have c1 := hO.Cn.1
    have hs := (sp_an_ok hO k (by omega)).2
    have e6 : I 67 6 = nI (u 6) := by rw [hM 6 (by decide), hs 6 (by decide)]
    cases n with
    | zero =>
      have ek : k = u 6 := by omega
      subst ek
      have e0 : sp_an u (u 6) 0 = u 0 := by
        have : ∀ n, sp_an u n 0 = u 0 := by
          intro n
          induction n with
          | zero => rfl
          | succ n ih =>
            show upN (upN (sp_an u n) _ _) _ _ _ = _
            rw [upN_n (by omega), upN_n (by omega)]
            exact ih
        exact this _
      refine am_vcl hJ [24] 200 ?_
      refine ⟨am_vin (by decide), ?_⟩
      refine br_t (by show I 67 6 ≤ nI (u 6); rw [e6]; exact nI_le (by omega) (by omega)) ?_
      refine m_becomes hJ (p := 0) rfl (by decide) ?_
      rw [hM 0 (by decide), e0]
      exact h _ (fun o ho => by rw [am_put_o ho]; exact hI o ho) (hM.up rfl)
    | succ n =>
      have ih := m_anew_loop hJ hO h n (k + 1)
      refine am_vcl hJ [24] 200 ?_
      refine ⟨am_vin (by decide), ?_⟩
      refine br_f (by show ¬ I 67 6 ≤ nI k; rw [e6]; exact nI_ge (by omega) (by omega)) ?_
      refine m_puts hJ (a := k) (b := 4) rfl rfl (by omega) (by decide) ?_
      refine m_puts hJ (a := k) (b := 5) rfl rfl (by omega) (by decide) ?_
      have k9 := ih (am_put (am_put I 67 (42 + 6 * k) 0) 67 (43 + 6 * k) 0) (by omega) (fun o ho => by rw [am_put_o ho, am_put_o ho]; exact hI o ho) ((hM.up rfl).up rfl)
      rw [← nI_1] at k9
      rw [show 38 + 6 * k + 4 = 42 + 6 * k by omega, show 38 + 6 * k + 5 = 43 + 6 * k by omega]
      exact k9
theorem nib_0 : ∀ k, k < 6 → am_nib 0 (nI k) = 0 := by decide +kernel
theorem op_anew (hJ : am_Cl am_meth L xs J) : am_same Inv J q_X_anew q_M_anew [] := by
  intro I hI Qc hQc
  obtain ⟨u, uk, hMn, hK, hRs⟩ := id hI
  obtain ⟨hM, hR, hC, hO⟩ := id hMn
  obtain ⟨c1, c2, c3, c4, c5, c6, c7⟩ := hO.Cn
  obtain ⟨e0, e1, e2, e3⟩ := hC.day
  obtain ⟨o1, s1⟩ := sp_an_ok hO (u 6) (by omega)
  obtain ⟨v2, v3, v4, vk⟩ := sp_an_v (u := u) (u 6)
  have O' : OKu (upN (sp_an u (u 6)) 0 0) := OKu.upD o1 (Nat.zero_le _)
  have S' : SameR u (upN (sp_an u (u 6)) 0 0) := s1.up (by decide)
  have w42 : ∀ k, k < 6 → upN (sp_an u (u 6)) 0 0 (42 + 6 * k) = 0 ∧ upN (sp_an u (u 6)) 0 0 (43 + 6 * k) = 0 := by
    intro k hk
    rw [upN_n (by omega), upN_n (by omega), (vk k).1, (vk k).2]
    by_cases g : k < u 6
    · rw [if_pos g, if_pos g]
      exact ⟨rfl, rfl⟩
    · have z1 := hO.2.2.2.2 k 4 (by omega) hk (by decide)
      have z2 := hO.2.2.2.2 k 5 (by omega) hk (by decide)
      rw [if_neg g, if_neg g, show 42 + 6 * k = 38 + 6 * k + 4 by omega, show 43 + 6 * k = 38 + 6 * k + 5 by omega]
      exact ⟨z1, z2⟩
  refine am_vc hJ 60 _ _ _ _ _ _ _ ?_
  refine am_vc hJ 60 _ _ _ _ _ _ _ ?_
  refine ⟨_, rfl, ?_⟩
  conv => whnf
  generalize hI1 : (am_put (am_put (am_put (am_put (am_put (am_put I 9 0 0) 9 1 0) 9 2 12) 9 3 0) 9 4 0) 9 5 0) = I1
  have f1 : ∀ o, o ≠ 9 → I1 o = I o := fun o ho => by rw [← hI1, am_put_o ho, am_put_o ho, am_put_o ho, am_put_o ho, am_put_o ho, am_put_o ho]
  have C1 : CRep I1 9 (upN (sp_an u (u 6)) 0 0) := by
    refine ⟨?_, ?_, ?_⟩
    · intro t ht
      simp only [TC, List.mem_cons, List.not_mem_nil, or_false] at ht
      rcases ht with rfl | rfl | rfl | rfl
      · show I1 9 0 = nI 0
        rw [← hI1, put_nk (by decide), put_nk (by decide), put_nk (by decide), put_nk (by decide), put_nk (by decide), put_at]
        rfl
      · show I1 9 1 = nI (sp_an u (u 6) 3)
        rw [v3, ← hI1, put_nk (by decide), put_nk (by decide), put_nk (by decide), put_nk (by decide), put_at]
        rfl
      · show I1 9 2 = nI (sp_an u (u 6) 4)
        rw [v4, ← hI1, put_nk (by decide), put_nk (by decide), put_nk (by decide), put_at]
        rfl
      · show I1 9 3 = nI (sp_an u (u 6) 2)
        rw [v2, ← hI1, put_nk (by decide), put_nk (by decide), put_at]
        rfl
    · intro k hk
      rw [(w42 k hk).1, show I1 9 4 = 0 by rw [← hI1, put_nk (by decide), put_at]]
      exact nib_0 k hk
    · rw [show I1 9 5 = 0 by rw [← hI1, put_at]]
      have : fedN (upN (sp_an u (u 6)) 0 0) = 0 := by
        have a0 := (w42 0 (by decide)).2
        have a1 := (w42 1 (by decide)).2
        have a2 := (w42 2 (by decide)).2
        have a3 := (w42 3 (by decide)).2
        have a4 := (w42 4 (by decide)).2
        have a5 := (w42 5 (by decide)).2
        simp only [Nat.mul_zero, Nat.add_zero, Nat.mul_one, Nat.reduceMul, Nat.reduceAdd] at a0 a1 a2 a3 a4 a5
        unfold fedN
        rw [a0, a1, a2, a3, a4, a5]
      rw [this]
      rfl
  have R1 : RRep I1 8 (upN (sp_an u (u 6)) 0 0) := (hR.offc (c := 9) (by decide) (fun o ho _ => f1 o ho)).same S'
  have M1 : MRep I1 67 u := by
    unfold MRep
    rw [f1 67 (by decide)]
    exact hM
  refine am_vcc hJ [24] 200 _ _ _ _ _ _ _ ?_
  refine ⟨am_vin (by decide), ?_⟩
  refine ⟨am_vin (by decide), ?_⟩
  refine ⟨am_vin (by decide), ?_⟩
  refine m_anew_loop hJ (I0 := I1) hO (fun I2 q2 M2 => ?_) (u 6) 0 _ (by omega) (fun o ho => ?_) (((M1.up rfl).up rfl).up rfl)
  · refine ⟨?_, hQc _ (Inv.day hK hRs (fun o ho _ => f1 o ho) R1 C1 (fun o ho _ => q2 o ho) M2 O')⟩
    rw [e0]
  · show am_put (am_put (am_put I1 67 2 0) 67 3 0) 67 4 12 o = I1 o
    rw [am_put_o ho, am_put_o ho, am_put_o ho]
theorem op_change (hJ : am_Cl am_meth L xs J) (a b c : Int32) : am_same Inv J q_X_change q_M_change [.int a, .int b, .int c] := by
  intro I hI Qc hQc
  obtain ⟨u, uk, hMn, hK, hRs⟩ := id hI
  obtain ⟨hM, hR, hC, hO⟩ := id hMn
  obtain ⟨c1, c2, c3, c4, c5, c6, c7⟩ := hO.Cn
  have x6 : I 8 2 = nI (u 6) := hMn.get (j := 6) (by decide +kernel)
  have m6 : I 67 6 = nI (u 6) := hM 6 (by decide)
  by_cases h2 : (1 : Int32) ≤ b ∧ b ≤ 5
  · obtain ⟨w, hw, rfl⟩ := am_rng (N := 5) rfl (by decide) ⟨Int32.le_trans (by decide) h2.1, h2.2⟩
    have hw1 : 1 ≤ w := by
      have := h2.1
      rw [show (1 : Int32) = nI 1 from rfl, nI_leI (by decide) (by omega)] at this
      exact this
    obtain ⟨mx, hmx⟩ : ∃ mx, mx = (if w = 1 then 60 else if w = 3 then 5 else if w = 5 then 1 else 9) := ⟨_, rfl⟩
    have xm : ∀ (d : Nat) (I : am_I) (Q : am_Q), Q (some (.int (nI mx))) I → J d q_X_mostToChange 0 [some (.int (nI w))] [] I Q := by
      intro d I Q hQ
      subst hmx
      rcases (show w = 1 ∨ w = 2 ∨ w = 3 ∨ w = 4 ∨ w = 5 by omega) with rfl | rfl | rfl | rfl | rfl
      all_goals
        refine am_vc hJ 10 _ _ _ _ _ _ _ ?_
        repeat (first | refine br_f (by decide) ?_ | refine br_t (by decide) ?_)
        exact hQ
    have mm : ∀ (I : am_I) (Q : am_Q), J 40 q_M_change 32 [some (.ref 66), some (.int a), some (.int (nI w)), some (.int c), some (.int (nI mx))] [] I Q → J 40 q_M_change 0 [some (.ref 66), some (.int a), some (.int (nI w)), some (.int c), none] [] I Q := by
      intro I Q hQ
      subst hmx
      refine am_vcc hJ [32] 200 _ _ _ _ _ _ _ ?_
      rcases (show w = 1 ∨ w = 2 ∨ w = 3 ∨ w = 4 ∨ w = 5 by omega) with rfl | rfl | rfl | rfl | rfl
      all_goals
        repeat (first | refine br_f (by decide) ?_ | refine br_t (by decide) ?_)
        exact hQ
    by_cases h1 : ∃ j, j < u 6 ∧ a = nI j
    · by_cases h3 : (0 : Int32) ≤ c ∧ c ≤ nI mx
      · obtain ⟨k, hk, rfl⟩ := id h1
        have hk6 : k < 6 := by omega
        have hmx60 : mx ≤ 60 := by
          rw [hmx]
          repeat' split
          all_goals omega
        obtain ⟨v, hv, rfl⟩ := am_rng (N := mx) rfl (by omega) h3
        have gv : vp_in (nI k) 6 := vp_in_nI hk6 (by omega)
        have ec : (nI k).toNatClampNeg = k := nI_clamp (by omega)
        refine am_vc hJ 60 _ _ _ _ _ _ _ ?_
        refine x_hasY hJ x6 c1 h1 ?_
        refine br_f (by decide) ?_
        refine x_withinY hJ h2 ?_
        refine br_f (by decide) ?_
        refine xm _ _ _ ?_
        refine x_withinY hJ h3 ?_
        refine br_f (by decide) ?_
        refine x_personOf hJ hR hC hO hk (by omega) (fun I1 q1 => ?_)
        have epv : sp_pv u k w = u (38 + 6 * k + w) := if_pos (by omega)
        rw [epv]
        have hI1 : Inv I1 := hI.scr0 (S := [18]) (fun o ho => q1 o (by simpa using ho)) (by decide)
        have M1 : Main I1 8 9 67 u := hMn.kept (fun o ho => q1 o (by rintro rfl; revert ho; decide))
        have K1 : KeptR I1 uk := hK.kept (fun o ho => q1 o (by rintro rfl; revert ho; decide))
        have S1 : Rest I1 := hRs.kept (fun o ho => q1 o (by rintro rfl; revert ho; decide))
        have fin : ∀ I2 : am_I, (∀ o, o ≠ 8 → o ≠ 9 → o ≠ 11 → o ≠ 12 → o ≠ 13 → I2 o = I1 o) → I2 8 2 = nI (u 6) → (Inv (am_put I2 67 (38 + 6 * k + w) (nI v))) → J 40 q_M_change 0 (am_ents q_M_change [.ref 66, .int (nI k), .int (nI w), .int (nI v)]) [] I2 (fun r2 I2 => r2 = some (.int (nI (u (38 + 6 * k + w)))) ∧ Qc I2) := by
          intro I2 f2 _ hi
          have e67 : I2 67 = I1 67 := f2 67 (by decide) (by decide) (by decide) (by decide) (by decide)
          have n6 : I2 67 6 = nI (u 6) := by rw [e67]; exact M1.1 6 (by decide)
          refine mm _ _ ?_
          refine am_vc hJ 60 _ _ _ _ _ _ _ ?_
          refine m_isPersonY hJ n6 c1 h1 ?_
          refine br_f (by decide) ?_
          refine m_in1Y hJ h2 ?_
          refine br_f (by decide) ?_
          refine m_in1Y hJ h3 ?_
          refine br_f (by decide) ?_
          refine m_becomes hJ (p := 38 + 6 * k + w) (am_pix rfl rfl) (by omega) ?_
          refine ⟨?_, hQc _ hi⟩
          rw [e67, M1.1 _ (by omega)]
        have x2 : I1 8 2 = nI (u 6) := by rw [q1 8 (by decide)]; exact x6
        rcases (show w = 1 ∨ w = 2 ∨ w = 3 ∨ w = 4 ∨ w = 5 by omega) with rfl | rfl | rfl | rfl | rfl
        · have hv : v ≤ 60 := by rw [hmx] at hv; exact hv
          repeat (first | refine br_f (by decide) ?_ | refine br_t (by decide) ?_)
          refine ⟨gv, ?_⟩
          refine ⟨_, rfl, ?_⟩
          conv => whnf
          rw [ec]
          refine fin _ (fun o _ _ h _ _ => am_put_o h) (by rw [am_put_o (by decide)]; exact x2) ?_
          have ht := (am_t10 k hk6).2.1
          rw [show 38 + 6 * k + 1 = 39 + 6 * k by omega]
          refine Inv_up (n := v) M1 K1 S1 ht ?_ rfl
          have := OKu.upP (f := 1) (m := 60) (n := v) hO hk (by decide) hv (fun q hq e => (am_okbP q hq k hk6).2.1 (by omega)) (by omega)
          rw [show 38 + 6 * k + 1 = 39 + 6 * k by omega] at this
          exact this
        · have hv : v ≤ 9 := by rw [hmx] at hv; exact hv
          repeat (first | refine br_f (by decide) ?_ | refine br_t (by decide) ?_)
          refine ⟨gv, ?_⟩
          refine ⟨_, rfl, ?_⟩
          conv => whnf
          rw [ec]
          refine fin _ (fun o _ _ _ h _ => am_put_o h) (by rw [am_put_o (by decide)]; exact x2) ?_
          have ht := (am_t10 k hk6).2.2.1
          rw [show 38 + 6 * k + 2 = 40 + 6 * k by omega]
          refine Inv_up (n := v) M1 K1 S1 ht ?_ rfl
          have := OKu.upP (f := 2) (m := 9) (n := v) hO hk (by decide) hv (fun q hq e => (am_okbP q hq k hk6).2.2.1 (by omega)) (by omega)
          rw [show 38 + 6 * k + 2 = 40 + 6 * k by omega] at this
          exact this
        · have hv : v ≤ 5 := by rw [hmx] at hv; exact hv
          repeat (first | refine br_f (by decide) ?_ | refine br_t (by decide) ?_)
          refine ⟨gv, ?_⟩
          refine ⟨_, rfl, ?_⟩
          conv => whnf
          rw [ec]
          refine fin _ (fun o _ _ _ _ h => am_put_o h) (by rw [am_put_o (by decide)]; exact x2) ?_
          have ht := (am_t10 k hk6).2.2.2
          rw [show 38 + 6 * k + 3 = 41 + 6 * k by omega]
          refine Inv_up (n := v) M1 K1 S1 ht ?_ rfl
          have := OKu.upP (f := 3) (m := 5) (n := v) hO hk (by decide) hv (fun q hq e => (am_okbP q hq k hk6).2.2.2.1 (by omega)) (by omega)
          rw [show 38 + 6 * k + 3 = 41 + 6 * k by omega] at this
          exact this
        · have hv : v ≤ 9 := by rw [hmx] at hv; exact hv
          repeat (first | refine br_f (by decide) ?_ | refine br_t (by decide) ?_)
          refine x_setMet hJ (by decide) M1.2.2.1.2.1 hk6 (by omega) (fun x hx => ?_)
          refine ⟨_, rfl, ?_⟩
          conv => whnf
          refine fin _ (fun o _ h _ _ _ => am_put_o h) (by rw [am_put_o (by decide)]; exact x2) ?_
          rw [show 38 + 6 * k + 4 = 42 + 6 * k by omega]
          have C2 := M1.2.2.1.upMet hk6 hx
          have R2 : RRep (am_put I1 9 4 x) 8 (upN u (42 + 6 * k) v) := (M1.2.1.offc (c := 9) (by decide) (fun o ho _ => am_put_o ho)).same ((SameR.refl u).up (am_dyM k hk6).1)
          exact Inv.day K1 S1 (fun o ho _ => am_put_o ho) R2 C2 (fun o ho _ => am_put_o ho) ((M1.1.off (by decide)).up rfl) (hO.upM hk hv)
        · have hv : v ≤ 1 := by rw [hmx] at hv; exact hv
          repeat (first | refine br_f (by decide) ?_ | refine br_t (by decide) ?_)
          refine x_setFed hJ (by decide) M1.2.2.1.2.2 hO.fed hk6 (by omega) ?_
          refine ⟨_, rfl, ?_⟩
          conv => whnf
          refine fin _ (fun o _ h _ _ _ => am_put_o h) (by rw [am_put_o (by decide)]; exact x2) ?_
          rw [show 38 + 6 * k + 5 = 43 + 6 * k by omega]
          have C2 := M1.2.2.1.upFed (k := k) (v := v)
          have R2 : RRep (am_put I1 9 5 (nI (fedN (upN u (43 + 6 * k) v)))) 8 (upN u (43 + 6 * k) v) := (M1.2.1.offc (c := 9) (by decide) (fun o ho _ => am_put_o ho)).same ((SameR.refl u).up (am_dyM k hk6).2)
          exact Inv.day K1 S1 (fun o ho _ => am_put_o ho) R2 C2 (fun o ho _ => am_put_o ho) ((M1.1.off (by decide)).up rfl) (hO.upF hk hv)
      · refine am_vc hJ 60 _ _ _ _ _ _ _ ?_
        refine x_hasY hJ x6 c1 h1 ?_
        refine br_f (by decide) ?_
        refine x_withinY hJ h2 ?_
        refine br_f (by decide) ?_
        refine xm _ _ _ ?_
        refine x_withinN hJ h3 ?_
        refine br_t (by decide) ?_
        refine ⟨_, rfl, ?_⟩
        refine mm _ _ ?_
        refine am_vc hJ 60 _ _ _ _ _ _ _ ?_
        refine m_isPersonY hJ m6 c1 h1 ?_
        refine br_f (by decide) ?_
        refine m_in1Y hJ h2 ?_
        refine br_f (by decide) ?_
        refine m_in1N hJ h3 ?_
        refine br_t (by decide) ?_
        exact ⟨rfl, hQc _ hI⟩
    · refine am_vc hJ 60 _ _ _ _ _ _ _ ?_
      refine x_hasN hJ x6 c1 h1 ?_
      refine br_t (by decide) ?_
      refine ⟨_, rfl, ?_⟩
      refine mm _ _ ?_
      refine am_vc hJ 60 _ _ _ _ _ _ _ ?_
      refine m_isPersonN hJ m6 c1 h1 ?_
      refine br_t (by decide) ?_
      exact ⟨rfl, hQc _ hI⟩
  · have xx : J 40 q_X_change 0 (am_ents q_X_change [.ref 0, .int a, .int b, .int c]) [] I (fun r1 I1 => r1 = some (.int (-1)) ∧ I1 = I) := by
      refine am_vc hJ 60 _ _ _ _ _ _ _ ?_
      refine x_has hJ x6 c1 (fun j h3 h4 => ?_) (fun h3 => ?_)
      · refine br_f (by decide) ?_
        refine x_withinN hJ h2 ?_
        refine br_t (by decide) ?_
        exact ⟨rfl, rfl⟩
      · refine br_t (by decide) ?_
        exact ⟨rfl, rfl⟩
    refine hJ.2 _ _ _ _ _ _ _ _ ?_ xx
    rintro r1 I1 ⟨rfl, rfl⟩
    refine ⟨_, rfl, ?_⟩
    have mm : ∀ m : Int32, J 40 q_M_change 32 [some (.ref 66), some (.int a), some (.int b), some (.int c), some (.int m)] [] I1 (fun r2 I2 => r2 = some (.int (-1)) ∧ Qc I2) := by
      intro m
      refine am_vc hJ 60 _ _ _ _ _ _ _ ?_
      refine m_isPerson hJ m6 c1 (fun j h3 h4 => ?_) (fun h3 => ?_)
      · refine br_f (by decide) ?_
        refine m_in1N hJ h2 ?_
        refine br_t (by decide) ?_
        exact ⟨rfl, hQc _ hI⟩
      · refine br_t (by decide) ?_
        exact ⟨rfl, hQc _ hI⟩
    refine am_vcc hJ [32] 200 _ _ _ _ _ _ _ ?_
    refine ⟨fun _ => mm _, fun _ => ⟨fun _ => mm _, fun _ => ⟨fun _ => mm _, fun _ => mm _⟩⟩⟩
end
