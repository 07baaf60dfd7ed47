/-! PLANS: the calls -/
theorem sp_we_g {wt w told F : Nat} {path : Nat → Int32} {b : Int32} {f e : Nat} {g g' : Nat → Int32} (hw : w < 2 ^ 31) : sp_we wt path w told F (-1, b, f, e, g) = sp_we wt path w told F (-1, b, f, e, g') := by
  have hn : ¬ nI w ≤ (-1 : Int32) := fun z => absurd (Int32.le_trans (nI_pos' hw) z) (by decide)
  unfold sp_we
  simp only [if_neg hn]
theorem sp_fo_g {f : Nat → PS → PS} {S S' : PS} (h0 : f 0 S = f 0 S') : ∀ n, sp_fo f (n + 1) S = sp_fo f (n + 1) S'
  | 0 => h0
  | n + 1 => by
    show f (n + 1) (sp_fo f (n + 1) S) = f (n + 1) (sp_fo f (n + 1) S')
    rw [sp_fo_g h0 n]
theorem sp_try_g {wt : Nat} {b : Int32} {f e : Nat} {g g' : Nat → Int32} : ∀ (n dp : Nat) (v : am_U) (path : Nat → Int32) (w told : Nat), OKu v → v 0 + n ≤ v 1 → w + 36 * n < 2 ^ 31 → sp_try wt n dp v path w told (-1, b, f, e, g) = sp_try wt n dp v path w told (-1, b, f, e, g')
  | 0, dp, v, path, w, told, hO, hd, hw => sp_we_g (by omega)
  | n + 1, dp, v, path, w, told, hO, hd, hw => by
    have hl := sp_goW_le hO (act := 0) (by omega)
    obtain ⟨e0, e1, e6, e2⟩ := sp_goU_0 hO (act := 0) (Nat.zero_le _)
    have k9 := sp_try_g (wt := wt) (b := b) (f := f) (e := e) (g := g) (g' := g') n (dp + 1) (sp_goU v 0) (sp_pth path dp 0) (w + sp_goW v 0) told (sp_goU_ok hO (Nat.zero_le _) (by omega)) (by omega) (by omega)
    exact sp_fo_g (f := fun act S => sp_try wt n (dp + 1) (sp_goU v act) (sp_pth path dp act) (w + sp_goW v act) (if act = 0 then told else told + 1) S) k9 (v 6)
/-- what all plans come to -/
def sp_T (u : am_U) (wt m : Nat) : PS := sp_try wt m 0 u (fun _ => 0) 0 0 (-1, 0, 5, 0, fun _ => 0)
theorem sp_T_ok {u : am_U} {wt m : Nat} (hO : OKu u) (hm : m ≤ 4) (hd : m ≤ u 1 - u 0) : PSok (sp_T u wt m) := by
  have := hO.2.1
  exact sp_try_ok m 0 u _ 0 0 _ hO (by omega) (by omega) ⟨by decide, by decide⟩
theorem sp_T_first {u : am_U} {wt m : Nat} (hO : OKu u) (hm : m ≤ 4) (hd : m ≤ u 1 - u 0) : PSfirst m (u 6) (sp_T u wt m) := by
  have := hO.2.1
  exact (sp_try_first m 0 u _ 0 0 _ hO rfl (by omega) (by omega) (by omega) (fun i hi => by omega) (Or.inl rfl)).2
theorem Inv.plans {I I2 : am_I} {u uk : am_U} (hMn : Main I 8 9 67 u) (hK : KeptR I uk) (hRs : Rest I) (hS : ∀ o ∈ am_ac, o ≠ 66 → o ≠ 67 → I2 o = I o) (h66 : ∀ j ∈ [3, 6, 29, 36], I2 66 j = I 66 j) (M2 : MRep I2 67 u) : Inv I2 := by
  obtain ⟨hM, hR, hC, hO⟩ := hMn
  obtain ⟨h1, h2, h3, h4, h5, h6⟩ := hRs
  have a1 : ∀ t ∈ TR 8, t.1 ∈ am_ac ∧ t.1 ≠ 66 ∧ t.1 ≠ 67 := by decide +kernel
  have a2 : ∀ o ∈ am_kd, o ∈ am_ac ∧ o ≠ 66 ∧ o ≠ 67 := by decide
  have a3 : ∀ o ∈ [54, 55, 57, 58, 59, 60, 81, 82, 83], o ∈ am_ac ∧ o ≠ 66 ∧ o ≠ 67 := by decide
  have a4 : ∀ o ∈ [61, 62, 63, 84, 85], o ∈ am_ac ∧ o ≠ 66 ∧ o ≠ 67 := by decide
  have k : ∀ o, o ∈ am_ac → o ≠ 66 → o ≠ 67 → I2 o = I o := hS
  refine ⟨u, uk, ⟨M2, ⟨hR.1.kept (fun t ht => k _ (a1 t ht).1 (a1 t ht).2.1 (a1 t ht).2.2), ?_⟩, hC.kept (k 9 (by decide) (by decide) (by decide)), hO⟩, ?_, ?_, ?_, ?_, ?_, ?_, ?_⟩
  · show RuR (I2 17) u
    rw [k 17 (by decide) (by decide) (by decide)]
    exact hR.2
  · exact hK.kept2 (by rw [k 0 (by decide) (by decide) (by decide)]) (h66 3 (by decide)) (fun o ho => k o (a2 o ho).1 (a2 o ho).2.1 (a2 o ho).2.2)
  · exact h1.kept (by rw [k 38 (by decide) (by decide) (by decide)]) (h66 6 (by decide)) (k 71 (by decide) (by decide) (by decide)) (k 39 (by decide) (by decide) (by decide))
  · exact h2.kept (by rw [k 0 (by decide) (by decide) (by decide)]) (h66 29 (by decide)) (k 53 (by decide) (by decide) (by decide)) (k 80 (by decide) (by decide) (by decide))
  · exact h3.kept (fun o ho => k o (a3 o ho).1 (a3 o ho).2.1 (a3 o ho).2.2)
  · exact h4.kept (fun o ho => k o (a4 o ho).1 (a4 o ho).2.1 (a4 o ho).2.2)
  · exact h5.kept (by rw [k 64 (by decide) (by decide) (by decide)]) (h66 36 (by decide)) (k 65 (by decide) (by decide) (by decide)) (k 86 (by decide) (by decide) (by decide))
  · exact h6.kept (k 72 (by decide) (by decide) (by decide))
theorem am_ac_pl : ∀ o ∈ am_ac, o ≠ 18 ∧ (o < 43 ∨ 51 < o) ∧ o ≠ 70 ∧ o ≠ 75 ∧ o ≠ 76 ∧ o ≠ 77 := by decide
section
variable {L : Nat} {xs : Nat → Int32} {J : am_J} {d : Nat} {Q : am_Q}
theorem x_start (hJ : am_Cl am_meth L xs J) {I : am_I} {u : am_U} {n : Nat} (hR : RRep I 8 u) (hC : CRep I 9 u) (hO : OKu u) (hn : n ≤ 4) (h : ∀ I' : am_I, (∀ o, o ≠ 43 → o ≠ 47 → I' o = I o) → (∀ f, f ≠ 4 → I' 43 f = I 43 f) → I' 43 4 = nI (sp_m u n) → CRep I' 47 u → Q none I') : J (d + 2) q_Planner_start 0 [some (.ref 43), some (.int (nI n))] [] I Q := by
  have c := hO.Cn
  refine am_vc hJ 60 _ _ _ _ _ _ _ ?_
  refine ⟨am_vin (by decide), ?_⟩
  refine x_copyFrom hJ (by decide) (by decide) (by decide) (fun I1 q1 q2 => ?_)
  have R1 : RRep I1 8 u := hR.offc (c := 47) (by decide) (fun o ho _ => q1 o ho)
  refine x_daysLeft hJ (c := 9) (by decide) R1.1 (hC.kept (q1 9 (by decide))) hO ?_
  show Q none (am_put I1 43 4 (am_mn (am_mn (nI n) 4) (nI (u 1 - u 0))))
  have em : am_mn (am_mn (nI n) 4) (nI (u 1 - u 0)) = nI (sp_m u n) := by
    rw [show (4 : Int32) = nI 4 from rfl, am_mnN (by omega) (by omega), if_neg (by omega), am_mnN (by omega) (by omega)]
    rfl
  rw [em]
  exact h _ (fun o o1 o2 => by rw [am_put_o o1, q1 o o2]) (fun f hf => by rw [put_nk hf, q1 43 (by decide)]) put_at ((hC.copy q2).kept (am_put_o (by decide)))
theorem x_tryPlans (hJ : am_Cl am_meth L xs J) {I : am_I} {u : am_U} {n wt : Nat} (hR : RRep I 8 u) (hC : CRep I 9 u) (hO : OKu u) (hn : n ≤ 4) (h : ∀ I' : am_I, (∀ o, o ≠ 18 → (o < 43 ∨ 51 < o) → I' o = I o) → PlR I' (sp_m u n) wt (sp_T u wt (sp_m u n)) → Q none I') : J (d + 10) q_Planner_tryPlans 0 [some (.ref 43), some (.int (nI n)), some (.int (nI wt))] [] I Q := by
  have hle := sp_m_le (u := u) (n := n)
  have c := hO.2.1
  refine am_vc hJ 40 _ _ _ _ _ _ _ ?_
  refine x_start hJ hR hC hO hn (fun I1 q1 q2 q3 C1 => ?_)
  have R1 : RRep I1 8 u := hR.kept (fun o ho _ => q1 o (by rintro rfl; revert ho; decide) (by rintro rfl; revert ho; decide))
  have k9 := fun (Q' : am_Q) (hQ' : ∀ I', Q none I' → Q' none I') => x_tryActs (d := d + 4 - sp_m u n) hJ (m := sp_m u n) (wt := wt) (u2 := u 2) (by omega) (sp_m u n) 0 u (fun _ => 0) 0 0 (-1, 0, 5, 0, fun i => I1 46 i)
    (am_put (am_put (am_put (am_put (am_put I1 43 3 (nI wt)) 43 5 (-1)) 43 6 0) 43 8 (-1)) 43 9 0) Q' (Nat.zero_add _) hO (by omega)
    (R1.kept (fun o ho _ => by
      have : o ≠ 43 := by rintro rfl; revert ho; decide
      rw [am_put_o this, am_put_o this, am_put_o this, am_put_o this, am_put_o this]))
    (C1.kept (by rw [am_put_o (by decide), am_put_o (by decide), am_put_o (by decide), am_put_o (by decide), am_put_o (by decide)]))
    (by rw [am_put_o (by decide), am_put_o (by decide), am_put_o (by decide), am_put_o (by decide), am_put_o (by decide)]; exact C1.day.2.2.2) rfl
    ⟨by rw [put_nk (by decide), put_nk (by decide), put_nk (by decide), put_nk (by decide), put_at], by rw [put_nk (by decide), put_nk (by decide), put_nk (by decide), put_nk (by decide), put_nk (by decide)]; exact q3, by rw [put_nk (by decide), put_nk (by decide), put_nk (by decide), put_at], by rw [put_nk (by decide), put_nk (by decide), put_at], by rw [put_nk (by decide), put_at]; rfl, by rw [put_at]; rfl, fun i _ => by rw [am_put_o (by decide), am_put_o (by decide), am_put_o (by decide), am_put_o (by decide), am_put_o (by decide)]⟩
    ⟨show (5 : Nat) ≤ 5 by decide, show (0 : Nat) < 64 by decide⟩ (by omega) (fun i hi => by omega) (fun I' f1 f2 => hQ' I' (by
      rw [sp_try_g (g' := fun _ => 0) _ _ _ _ _ _ hO (by omega) (by omega)] at f2
      exact h I' (fun o o1 o2 => by rw [f1.1 o o1 (by omega) (by omega) (by omega) (by omega), am_put_o (by omega), am_put_o (by omega), am_put_o (by omega), am_put_o (by omega), am_put_o (by omega), q1 o (by omega) (by omega)]) f2)) none none
  rw [show d + 4 - sp_m u n + sp_m u n + 5 = d + 9 by omega] at k9
  exact k9 _ (fun _ q => q)
theorem m_triesAll (hJ : am_Cl am_meth L xs J) {I : am_I} {u : am_U} {cd : Nat → Int32} {n wt : Nat} (hM : MRep I 67 u) (hRu : RuR cd u) (hO : OKu u) (hn : n ≤ 4) (hwt : wt < 64) (h : ∀ I' : am_I, (∀ o, o ≠ 66 → o ≠ 67 → o ≠ 70 → o ≠ 75 → o ≠ 76 → o ≠ 77 → I' o = I o) → (∀ f, f < 21 ∨ 24 < f → I' 66 f = I 66 f) → MRep I' 67 u → PmR I' (sp_m u n) (sp_T u wt (sp_m u n)) → Q none I') : J (d + 12) q_M_triesAll 0 [some (.ref 66), some (.int (nI n)), some (.int (nI wt))] [] I Q := by
  have hle := sp_m_le (u := u) (n := n)
  have c := hO.2.1
  have M1 : MRep (am_put (am_put (am_put (am_put I 66 21 (-1)) 66 22 0) 66 23 5) 66 24 0) 67 u := hM.kept (by rw [am_put_o (by decide), am_put_o (by decide), am_put_o (by decide), am_put_o (by decide)])
  refine am_vc hJ 40 _ _ _ _ _ _ _ ?_
  refine m_daysOf hJ M1 hO (by omega) ?_
  have k9 := fun (Q' : am_Q) (hQ' : ∀ I', Q none I' → Q' none I') => m_goesPlans (d := d + 4 - sp_m u n) hJ (m := sp_m u n) (wt := wt) (cd := cd) (by omega) hwt (sp_m u n) 0 u (fun _ => 0) 0 0 (-1, 0, 5, 0, fun i => I 77 i)
    (am_put (am_put (am_put (am_put I 66 21 (-1)) 66 22 0) 66 23 5) 66 24 0) Q' (Nat.zero_add _) hO (by omega) M1 hRu
    ⟨by rw [put_nk (by decide), put_nk (by decide), put_nk (by decide), put_at], by rw [put_nk (by decide), put_nk (by decide), put_at], by rw [put_nk (by decide), put_at]; rfl, by rw [put_at]; rfl, fun i _ => by rw [am_put_o (by decide), am_put_o (by decide), am_put_o (by decide), am_put_o (by decide)]⟩
    ⟨show (5 : Nat) ≤ 5 by decide, show (0 : Nat) < 64 by decide⟩ (by omega) (fun i hi => by omega) (fun I' f1 m1 f2 => hQ' I' (by
      rw [sp_try_g (g' := fun _ => 0) _ _ _ _ _ _ hO (by omega) (by omega)] at f2
      exact h I' (fun o o1 o2 o3 o4 o5 o6 => by rw [f1.1 o o1 o2 o3 o4 o5 o6, am_put_o o1, am_put_o o1, am_put_o o1, am_put_o o1]) (fun f hf => by rw [f1.2.1 f hf, put_nk (by omega), put_nk (by omega), put_nk (by omega), put_nk (by omega)]) m1 f2)) none none
  rw [show d + 4 - sp_m u n + sp_m u n + 7 = d + 11 by omega] at k9
  exact k9 _ (fun _ q => q)
theorem Inv.plans2 {I I1 I2 : am_I} {u uk : am_U} (hMn : Main I 8 9 67 u) (hK : KeptR I uk) (hRs : Rest I) (q1 : ∀ o, o ≠ 18 → (o < 43 ∨ 51 < o) → I1 o = I o) (q2 : ∀ o, o ≠ 66 → o ≠ 67 → o ≠ 70 → o ≠ 75 → o ≠ 76 → o ≠ 77 → I2 o = I1 o) (q3 : ∀ f, f < 21 ∨ 24 < f → I2 66 f = I1 66 f) (M2 : MRep I2 67 u) : Inv I2 := by
  refine Inv.plans hMn hK hRs (fun o ho h6 h7 => ?_) (fun j hj => ?_) M2
  · obtain ⟨a, b, c, e, f, g⟩ := am_ac_pl o ho
    rw [q2 o h6 h7 c e f g, q1 o a b]
  · have : ∀ j ∈ [3, 6, 29, 36], j < 21 ∨ 24 < j := by decide
    rw [q3 j (this j hj), q1 66 (by decide) (by decide)]
theorem op_best (hJ : am_Cl am_meth L xs J) (a : Int32) : am_same Inv J q_X_best q_M_best [.int a] := by
  intro I hI Qc hQc
  obtain ⟨u, uk, hMn, hK, hRs⟩ := id hI
  obtain ⟨hM, hR, hC, hO⟩ := id hMn
  by_cases h1 : (0 : Int32) ≤ a ∧ a ≤ 4
  · obtain ⟨n, hn, rfl⟩ := am_rng (N := 4) rfl (by decide) h1
    refine am_vc hJ 40 _ _ _ _ _ _ _ ?_
    refine x_withinY hJ h1 ?_
    refine br_f (by decide) ?_
    refine x_tryPlans hJ hR hC hO hn (wt := 0) (fun I1 q1 P1 => ?_)
    refine ⟨_, rfl, ?_⟩
    refine am_vc hJ 40 _ _ _ _ _ _ _ ?_
    refine m_isPlanY hJ h1 ?_
    refine br_f (by decide) ?_
    refine m_triesAll hJ (hM.kept (q1 67 (by decide) (by decide))) hR.2 hO hn (wt := 0) (by decide) (fun I2 q2 q3 M2 P2 => ?_)
    refine ⟨?_, hQc _ (Inv.plans2 hMn hK hRs q1 q2 q3 M2)⟩
    show some (Value.int (I2 66 21)) = some (Value.int (I1 43 5))
    rw [P2.1, P1.2.2.1]
  · repeat (
      (try conv => whnf)
      first
        | refine ⟨am_vin (by decide), ?_⟩
        | refine ⟨(by assumption : vp_in _ _), ?_⟩
        | refine br_f (by decide) ?_
        | refine br_t (by decide) ?_
        | refine br_t (by assumption) ?_
        | refine br_f (by assumption) ?_
        | refine x_withinY hJ (by assumption) ?_
        | refine x_withinN hJ (by assumption) ?_
        | refine m_in1Y hJ (by assumption) ?_
        | refine m_in1N hJ (by assumption) ?_
        | refine m_isGateY hJ (by assumption) ?_
        | refine m_isGateN hJ (by assumption) ?_
        | refine m_isDigitY hJ (by assumption) ?_
        | refine m_isDigitN hJ (by assumption) ?_
        | refine m_isNeedY hJ (by assumption) ?_
        | refine m_isNeedN hJ (by assumption) ?_
        | refine m_isPlanY hJ (by assumption) ?_
        | refine m_isPlanN hJ (by assumption) ?_
        | refine m_isSheetY hJ (by assumption) ?_
        | refine m_isSheetN hJ (by assumption) ?_
        | refine x_isSheetY hJ (by assumption) ?_
        | refine x_isSheetN hJ (by assumption) ?_
        | refine x_isShelfY hJ (by assumption) ?_
        | refine x_isShelfN hJ (by assumption) ?_
        | refine x_hasY hJ (by assumption) (by assumption) (by assumption) ?_
        | refine x_hasN hJ (by assumption) (by assumption) (by assumption) ?_
        | refine m_isPersonY hJ (by assumption) (by assumption) (by assumption) ?_
        | refine m_isPersonN hJ (by assumption) (by assumption) (by assumption) ?_
        | refine am_vc hJ 120 40 _ _ _ _ _ _ ?_
        | refine ⟨_, rfl, ?_⟩)
    exact ⟨rfl, hQc _ hI⟩
theorem op_ways (hJ : am_Cl am_meth L xs J) (a : Int32) : am_same Inv J q_X_ways q_M_ways [.int a] := by
  intro I hI Qc hQc
  obtain ⟨u, uk, hMn, hK, hRs⟩ := id hI
  obtain ⟨hM, hR, hC, hO⟩ := id hMn
  by_cases h1 : (0 : Int32) ≤ a ∧ a ≤ 4
  · obtain ⟨n, hn, rfl⟩ := am_rng (N := 4) rfl (by decide) h1
    refine am_vc hJ 40 _ _ _ _ _ _ _ ?_
    refine x_withinY hJ h1 ?_
    refine br_f (by decide) ?_
    refine x_tryPlans hJ hR hC hO hn (wt := 0) (fun I1 q1 P1 => ?_)
    refine ⟨_, rfl, ?_⟩
    refine am_vc hJ 40 _ _ _ _ _ _ _ ?_
    refine m_isPlanY hJ h1 ?_
    refine br_f (by decide) ?_
    refine m_triesAll hJ (hM.kept (q1 67 (by decide) (by decide))) hR.2 hO hn (wt := 0) (by decide) (fun I2 q2 q3 M2 P2 => ?_)
    refine ⟨?_, hQc _ (Inv.plans2 hMn hK hRs q1 q2 q3 M2)⟩
    show some (Value.int (I2 66 22)) = some (Value.int (I1 43 6))
    rw [P2.2.1, P1.2.2.2.1]
  · repeat (
      (try conv => whnf)
      first
        | refine ⟨am_vin (by decide), ?_⟩
        | refine ⟨(by assumption : vp_in _ _), ?_⟩
        | refine br_f (by decide) ?_
        | refine br_t (by decide) ?_
        | refine br_t (by assumption) ?_
        | refine br_f (by assumption) ?_
        | refine x_withinY hJ (by assumption) ?_
        | refine x_withinN hJ (by assumption) ?_
        | refine m_in1Y hJ (by assumption) ?_
        | refine m_in1N hJ (by assumption) ?_
        | refine m_isGateY hJ (by assumption) ?_
        | refine m_isGateN hJ (by assumption) ?_
        | refine m_isDigitY hJ (by assumption) ?_
        | refine m_isDigitN hJ (by assumption) ?_
        | refine m_isNeedY hJ (by assumption) ?_
        | refine m_isNeedN hJ (by assumption) ?_
        | refine m_isPlanY hJ (by assumption) ?_
        | refine m_isPlanN hJ (by assumption) ?_
        | refine m_isSheetY hJ (by assumption) ?_
        | refine m_isSheetN hJ (by assumption) ?_
        | refine x_isSheetY hJ (by assumption) ?_
        | refine x_isSheetN hJ (by assumption) ?_
        | refine x_isShelfY hJ (by assumption) ?_
        | refine x_isShelfN hJ (by assumption) ?_
        | refine x_hasY hJ (by assumption) (by assumption) (by assumption) ?_
        | refine x_hasN hJ (by assumption) (by assumption) (by assumption) ?_
        | refine m_isPersonY hJ (by assumption) (by assumption) (by assumption) ?_
        | refine m_isPersonN hJ (by assumption) (by assumption) (by assumption) ?_
        | refine am_vc hJ 120 40 _ _ _ _ _ _ ?_
        | refine ⟨_, rfl, ?_⟩)
    exact ⟨rfl, hQc _ hI⟩
theorem op_ith (hJ : am_Cl am_meth L xs J) (a b : Int32) : am_same Inv J q_X_ith q_M_ith [.int a, .int b] := by
  intro I hI Qc hQc
  obtain ⟨u, uk, hMn, hK, hRs⟩ := id hI
  obtain ⟨hM, hR, hC, hO⟩ := id hMn
  by_cases h1 : (0 : Int32) ≤ a ∧ a ≤ 4
  · by_cases h2 : (0 : Int32) ≤ b ∧ b ≤ 3
    · obtain ⟨n, hn, rfl⟩ := am_rng (N := 4) rfl (by decide) h1
      obtain ⟨i, hi, rfl⟩ := am_rng (N := 3) rfl (by decide) h2
      have hle := sp_m_le (u := u) (n := n)
      refine am_vc hJ 40 _ _ _ _ _ _ _ ?_
      refine x_withinY hJ h1 ?_
      refine br_f (by decide) ?_
      refine x_withinY hJ h2 ?_
      refine br_f (by decide) ?_
      refine x_tryPlans hJ hR hC hO hn (wt := 0) (fun I1 q1 P1 => ?_)
      have p4 : I1 43 4 = nI (sp_m u n) := P1.2.1
      have M1 := hM.kept (q1 67 (by decide) (by decide))
      by_cases g : i < sp_m u n
      · refine br_f (by show ¬ I1 43 4 ≤ nI i; rw [p4]; exact nI_ge g (by omega)) ?_
        refine ⟨vp_in_nI (by omega) (by omega), ?_⟩
        refine ⟨_, rfl, ?_⟩
        refine am_vc hJ 40 _ _ _ _ _ _ _ ?_
        refine m_isPlanY hJ h1 ?_
        refine br_f (by decide) ?_
        refine m_in1Y hJ h2 ?_
        refine br_f (by decide) ?_
        refine m_triesAll hJ M1 hR.2 hO hn (wt := 0) (by decide) (fun I2 q2 q3 M2 P2 => ?_)
        refine m_daysOf hJ M2 hO (by omega) ?_
        refine br_f (by show ¬ nI (sp_m u n) ≤ nI i; exact nI_ge g (by omega)) ?_
        refine ⟨vp_in_nI (by omega) (by omega), ?_⟩
        refine ⟨?_, hQc _ (Inv.plans2 hMn hK hRs q1 q2 q3 M2)⟩
        show some (Value.int (I2 77 (nI i).toNatClampNeg)) = some (Value.int (I1 46 (nI i).toNatClampNeg))
        rw [nI_clamp (by omega), P2.2.2.2.2 i g, P1.2.2.2.2.2.2 i g]
      · refine br_t (by show I1 43 4 ≤ nI i; rw [p4]; exact nI_le (by omega) (by omega)) ?_
        refine ⟨_, rfl, ?_⟩
        refine am_vc hJ 40 _ _ _ _ _ _ _ ?_
        refine m_isPlanY hJ h1 ?_
        refine br_f (by decide) ?_
        refine m_in1Y hJ h2 ?_
        refine br_f (by decide) ?_
        refine m_triesAll hJ M1 hR.2 hO hn (wt := 0) (by decide) (fun I2 q2 q3 M2 P2 => ?_)
        refine m_daysOf hJ M2 hO (by omega) ?_
        refine br_t (by show nI (sp_m u n) ≤ nI i; exact nI_le (by omega) (by omega)) ?_
        exact ⟨rfl, hQc _ (Inv.plans2 hMn hK hRs q1 q2 q3 M2)⟩
    · repeat (
        (try conv => whnf)
        first
          | refine ⟨am_vin (by decide), ?_⟩
          | refine ⟨(by assumption : vp_in _ _), ?_⟩
          | refine br_f (by decide) ?_
          | refine br_t (by decide) ?_
          | refine br_t (by assumption) ?_
          | refine br_f (by assumption) ?_
          | refine x_withinY hJ (by assumption) ?_
          | refine x_withinN hJ (by assumption) ?_
          | refine m_in1Y hJ (by assumption) ?_
          | refine m_in1N hJ (by assumption) ?_
          | refine m_isGateY hJ (by assumption) ?_
          | refine m_isGateN hJ (by assumption) ?_
          | refine m_isDigitY hJ (by assumption) ?_
          | refine m_isDigitN hJ (by assumption) ?_
          | refine m_isNeedY hJ (by assumption) ?_
          | refine m_isNeedN hJ (by assumption) ?_
          | refine m_isPlanY hJ (by assumption) ?_
          | refine m_isPlanN hJ (by assumption) ?_
          | refine m_isSheetY hJ (by assumption) ?_
          | refine m_isSheetN hJ (by assumption) ?_
          | refine x_isSheetY hJ (by assumption) ?_
          | refine x_isSheetN hJ (by assumption) ?_
          | refine x_isShelfY hJ (by assumption) ?_
          | refine x_isShelfN hJ (by assumption) ?_
          | refine x_hasY hJ (by assumption) (by assumption) (by assumption) ?_
          | refine x_hasN hJ (by assumption) (by assumption) (by assumption) ?_
          | refine m_isPersonY hJ (by assumption) (by assumption) (by assumption) ?_
          | refine m_isPersonN hJ (by assumption) (by assumption) (by assumption) ?_
          | refine am_vc hJ 120 40 _ _ _ _ _ _ ?_
          | refine ⟨_, rfl, ?_⟩)
      exact ⟨rfl, hQc _ hI⟩
  · repeat (
      (try conv => whnf)
      first
        | refine ⟨am_vin (by decide), ?_⟩
        | refine ⟨(by assumption : vp_in _ _), ?_⟩
        | refine br_f (by decide) ?_
        | refine br_t (by decide) ?_
        | refine br_t (by assumption) ?_
        | refine br_f (by assumption) ?_
        | refine x_withinY hJ (by assumption) ?_
        | refine x_withinN hJ (by assumption) ?_
        | refine m_in1Y hJ (by assumption) ?_
        | refine m_in1N hJ (by assumption) ?_
        | refine m_isGateY hJ (by assumption) ?_
        | refine m_isGateN hJ (by assumption) ?_
        | refine m_isDigitY hJ (by assumption) ?_
        | refine m_isDigitN hJ (by assumption) ?_
        | refine m_isNeedY hJ (by assumption) ?_
        | refine m_isNeedN hJ (by assumption) ?_
        | refine m_isPlanY hJ (by assumption) ?_
        | refine m_isPlanN hJ (by assumption) ?_
        | refine m_isSheetY hJ (by assumption) ?_
        | refine m_isSheetN hJ (by assumption) ?_
        | refine x_isSheetY hJ (by assumption) ?_
        | refine x_isSheetN hJ (by assumption) ?_
        | refine x_isShelfY hJ (by assumption) ?_
        | refine x_isShelfN hJ (by assumption) ?_
        | refine x_hasY hJ (by assumption) (by assumption) (by assumption) ?_
        | refine x_hasN hJ (by assumption) (by assumption) (by assumption) ?_
        | refine m_isPersonY hJ (by assumption) (by assumption) (by assumption) ?_
        | refine m_isPersonN hJ (by assumption) (by assumption) (by assumption) ?_
        | refine am_vc hJ 120 40 _ _ _ _ _ _ ?_
        | refine ⟨_, rfl, ?_⟩)
    exact ⟨rfl, hQc _ hI⟩
theorem am_isset {n : Nat} (hn : n ≤ 6) : ((1 : Int32) <<< (nI n &&& 31)) - 1 = nI (2 ^ n - 1) := by
  have : ∀ n, n ≤ 6 → ((1 : Int32) <<< (nI n &&& 31)) - 1 = nI (2 ^ n - 1) := by decide +kernel
  exact this n hn
theorem x_isSet (hJ : am_Cl am_meth L xs J) {I : am_I} {n : Nat} {a : Int32} (h6 : I 8 2 = nI n) (hn : n ≤ 6) (h1 : (∃ j, j < 2 ^ n ∧ a = nI j) → Q (some (.int 1)) I) (h0 : ¬ (∃ j, j < 2 ^ n ∧ a = nI j) → Q (some (.int 0)) I) : J (d + 1) q_X_isSetOfPeople 0 [some (.ref 0), some (.int a)] [] I Q := by
  have hp : 2 ^ n ≤ 64 := Nat.pow_le_pow_right (by decide) hn
  have hp0 : 0 < 2 ^ n := Nat.pow_pos (by decide)
  have e : ((1 : Int32) <<< (I 8 2 &&& 31)) - 1 = nI (2 ^ n - 1) := by rw [h6]; exact am_isset hn
  have i1 : (0 ≤ a ∧ a ≤ ((1 : Int32) <<< (I 8 2 &&& 31)) - 1) → ∃ j, j < 2 ^ n ∧ a = nI j := fun g => by
    rw [e] at g
    obtain ⟨j, hj, ej⟩ := am_rng rfl (by omega) g
    exact ⟨j, by omega, ej⟩
  have i2 : (∃ j, j < 2 ^ n ∧ a = nI j) → (0 ≤ a ∧ a ≤ ((1 : Int32) <<< (I 8 2 &&& 31)) - 1) := fun ⟨j, hj, ej⟩ => by
    rw [e]
    exact am_rngI ej (by omega) (by omega)
  refine am_vc hJ 20 _ _ _ _ _ _ _ ?_
  refine x_within hJ (fun g => ?_) (fun g => ?_)
  · exact ⟨Or.inr rfl, h1 (i1 g)⟩
  · exact ⟨Or.inl rfl, h0 (fun z => g (i2 z))⟩
theorem m_isSet (hJ : am_Cl am_meth L xs J) {I : am_I} {n : Nat} {a : Int32} (h6 : I 67 6 = nI n) (hn : n ≤ 6) (h1 : (∃ j, j < 2 ^ n ∧ a = nI j) → Q (some (.int 1)) I) (h0 : ¬ (∃ j, j < 2 ^ n ∧ a = nI j) → Q (some (.int 0)) I) : J (d + 1) q_M_isSet 0 [some (.ref 66), some (.int a)] [] I Q := by
  have hp : 2 ^ n ≤ 64 := Nat.pow_le_pow_right (by decide) hn
  have hp0 : 0 < 2 ^ n := Nat.pow_pos (by decide)
  have e : ((1 : Int32) <<< (I 67 6 &&& 31)) - 1 = nI (2 ^ n - 1) := by rw [h6]; exact am_isset hn
  have i1 : (0 ≤ a ∧ a ≤ ((1 : Int32) <<< (I 67 6 &&& 31)) - 1) → ∃ j, j < 2 ^ n ∧ a = nI j := fun g => by
    rw [e] at g
    obtain ⟨j, hj, ej⟩ := am_rng rfl (by omega) g
    exact ⟨j, by omega, ej⟩
  have i2 : (∃ j, j < 2 ^ n ∧ a = nI j) → (0 ≤ a ∧ a ≤ ((1 : Int32) <<< (I 67 6 &&& 31)) - 1) := fun ⟨j, hj, ej⟩ => by
    rw [e]
    exact am_rngI ej (by omega) (by omega)
  refine am_vc hJ 20 _ _ _ _ _ _ _ ?_
  refine ⟨am_vin (by decide), ?_⟩
  refine m_in1 hJ (fun g => ?_) (fun g => ?_)
  · exact ⟨Or.inr rfl, h1 (i1 g)⟩
  · exact ⟨Or.inl rfl, h0 (fun z => g (i2 z))⟩
theorem op_feast (hJ : am_Cl am_meth L xs J) (a b : Int32) : am_same Inv J q_X_feast q_M_feast [.int a, .int b] := by
  intro I hI Qc hQc
  obtain ⟨u, uk, hMn, hK, hRs⟩ := id hI
  obtain ⟨hM, hR, hC, hO⟩ := id hMn
  obtain ⟨c1, c2, c3, c4, c5, c6, c7⟩ := hO.Cn
  have x6 : I 8 2 = nI (u 6) := hMn.get (j := 6) (by decide +kernel)
  have m6 : I 67 6 = nI (u 6) := hM 6 (by decide)
  by_cases h1 : (0 : Int32) ≤ a ∧ a ≤ 4
  · obtain ⟨n, hn, rfl⟩ := am_rng (N := 4) rfl (by decide) h1
    have hle := sp_m_le (u := u) (n := n)
    refine am_vc hJ 40 _ _ _ _ _ _ _ ?_
    refine x_withinY hJ h1 ?_
    refine br_f (by decide) ?_
    refine x_isSet hJ x6 c1 (fun g => ?_) (fun g => ?_)
    · obtain ⟨wt, hwt, rfl⟩ := id g
      have hp : 2 ^ u 6 ≤ 64 := Nat.pow_le_pow_right (by decide) c1
      refine br_f (by decide) ?_
      refine x_tryPlans hJ hR hC hO hn (wt := wt) (fun I1 q1 P1 => ?_)
      have M1 := hM.kept (q1 67 (by decide) (by decide))
      have hok := sp_T_ok (wt := wt) hO (by omega : sp_m u n ≤ 4) (by omega)
      have p8 : I1 43 8 = (if (sp_T u wt (sp_m u n)).2.2.1 = 5 then -1 else nI (sp_T u wt (sp_m u n)).2.2.1) := P1.2.2.2.2.1
      have hf5 : (sp_T u wt (sp_m u n)).2.2.1 ≤ 5 := hok.1
      by_cases g5 : (sp_T u wt (sp_m u n)).2.2.1 = 5
      · rw [if_pos g5] at p8
        refine br_f (by show ¬ 0 ≤ I1 43 8; rw [p8]; decide) ?_
        refine ⟨_, rfl, ?_⟩
        refine am_vc hJ 40 _ _ _ _ _ _ _ ?_
        refine m_isPlanY hJ h1 ?_
        refine br_f (by decide) ?_
        refine m_isSet hJ (M1 6 (by decide)) c1 (fun _ => ?_) (fun z => absurd g z)
        refine br_f (by decide) ?_
        refine m_triesAll hJ M1 hR.2 hO hn (wt := wt) (by omega) (fun I2 q2 q3 M2 P2 => ?_)
        refine br_f (by show ¬ I2 66 23 ≤ nI 4; rw [P2.2.2.1, g5]; decide) ?_
        exact ⟨rfl, hQc _ (Inv.plans2 hMn hK hRs q1 q2 q3 M2)⟩
      · rw [if_neg g5] at p8
        refine br_t (by show 0 ≤ I1 43 8; rw [p8]; exact nI_pos' (by omega)) ?_
        refine ⟨_, rfl, ?_⟩
        refine am_vc hJ 40 _ _ _ _ _ _ _ ?_
        refine m_isPlanY hJ h1 ?_
        refine br_f (by decide) ?_
        refine m_isSet hJ (M1 6 (by decide)) c1 (fun _ => ?_) (fun z => absurd g z)
        refine br_f (by decide) ?_
        refine m_triesAll hJ M1 hR.2 hO hn (wt := wt) (by omega) (fun I2 q2 q3 M2 P2 => ?_)
        refine br_t (by show I2 66 23 ≤ nI 4; rw [P2.2.2.1]; exact nI_le (by omega) (by omega)) ?_
        refine ⟨?_, hQc _ (Inv.plans2 hMn hK hRs q1 q2 q3 M2)⟩
        show some (Value.int (I2 66 23)) = some (Value.int (I1 43 8))
        rw [P2.2.2.1, p8]
    · refine br_t (by decide) ?_
      refine ⟨_, rfl, ?_⟩
      refine am_vc hJ 40 _ _ _ _ _ _ _ ?_
      refine m_isPlanY hJ h1 ?_
      refine br_f (by decide) ?_
      refine m_isSet hJ m6 c1 (fun z => absurd z g) (fun _ => ?_)
      refine br_t (by decide) ?_
      exact ⟨rfl, hQc _ hI⟩
  · repeat (
      (try conv => whnf)
      first
        | refine ⟨am_vin (by decide), ?_⟩
        | refine ⟨(by assumption : vp_in _ _), ?_⟩
        | refine br_f (by decide) ?_
        | refine br_t (by decide) ?_
        | refine br_t (by assumption) ?_
        | refine br_f (by assumption) ?_
        | refine x_withinY hJ (by assumption) ?_
        | refine x_withinN hJ (by assumption) ?_
        | refine m_in1Y hJ (by assumption) ?_
        | refine m_in1N hJ (by assumption) ?_
        | refine m_isGateY hJ (by assumption) ?_
        | refine m_isGateN hJ (by assumption) ?_
        | refine m_isDigitY hJ (by assumption) ?_
        | refine m_isDigitN hJ (by assumption) ?_
        | refine m_isNeedY hJ (by assumption) ?_
        | refine m_isNeedN hJ (by assumption) ?_
        | refine m_isPlanY hJ (by assumption) ?_
        | refine m_isPlanN hJ (by assumption) ?_
        | refine m_isSheetY hJ (by assumption) ?_
        | refine m_isSheetN hJ (by assumption) ?_
        | refine x_isSheetY hJ (by assumption) ?_
        | refine x_isSheetN hJ (by assumption) ?_
        | refine x_isShelfY hJ (by assumption) ?_
        | refine x_isShelfN hJ (by assumption) ?_
        | refine x_hasY hJ (by assumption) (by assumption) (by assumption) ?_
        | refine x_hasN hJ (by assumption) (by assumption) (by assumption) ?_
        | refine m_isPersonY hJ (by assumption) (by assumption) (by assumption) ?_
        | refine m_isPersonN hJ (by assumption) (by assumption) (by assumption) ?_
        | refine am_vc hJ 120 40 _ _ _ _ _ _ ?_
        | refine ⟨_, rfl, ?_⟩)
    exact ⟨rfl, hQc _ hI⟩
end
