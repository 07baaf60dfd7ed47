def am_only (S : List Nat) (I I' : am_I) : Prop := ∀ o, o ∉ S → I' o = I o
def am_dis (S A : List Nat) : Bool := A.all (fun o => !S.contains o)
theorem am_dis_use {S A : List Nat} (h : am_dis S A = true) : ∀ o ∈ A, o ∉ S := by
  intro o ho
  have := List.all_eq_true.mp h o ho
  simpa using this
theorem Inv.main {S : List Nat} {I I' : am_I} {u uk : am_U} (hMn : Main I' 8 9 67 u) (hK : KeptR I uk) (hR : Rest I) (hS : am_only S I I') (hd : am_dis S (am_rc ++ am_kc) = true) : Inv I' := by
  have hd' := am_dis_use hd
  exact ⟨u, uk, hMn, hK.kept (fun o ho => hS o (hd' o (List.mem_append_right _ ho))), hR.kept (fun o ho => hS o (hd' o (List.mem_append_left _ ho)))⟩
theorem CRep.kept {I I' : am_I} {c : Nat} {u : am_U} (h : CRep I c u) (hc : I' c = I c) : CRep I' c u := by
  obtain ⟨h1, h2, h3⟩ := h
  refine ⟨h1.kept (fun t ht => ?_), by rw [hc]; exact h2, by rw [hc]; exact h3⟩
  simp only [TC, List.mem_cons, List.not_mem_nil, or_false] at ht
  rcases ht with rfl | rfl | rfl | rfl <;> exact hc
theorem CRep.keptu {I : am_I} {c : Nat} {u u' : am_U} (h : CRep I c u) (h0 : u' 0 = u 0) (h2 : u' 2 = u 2) (h3 : u' 3 = u 3) (h4 : u' 4 = u 4) (hm : ∀ k, k < 6 → u' (42 + 6 * k) = u (42 + 6 * k) ∧ u' (43 + 6 * k) = u (43 + 6 * k)) : CRep I c u' := by
  obtain ⟨g1, g2, g3⟩ := h
  refine ⟨g1.keptu (fun t ht => ?_), fun k hk => by rw [(hm k hk).1]; exact g2 k hk, ?_⟩
  · simp only [TC, List.mem_cons, List.not_mem_nil, or_false] at ht
    rcases ht with rfl | rfl | rfl | rfl
    · exact h0
    · exact h3
    · exact h4
    · exact h2
  · have e : fedN u' = fedN u := by
      unfold fedN
      rw [(hm 0 (by decide)).2, (hm 1 (by decide)).2, (hm 2 (by decide)).2, (hm 3 (by decide)).2, (hm 4 (by decide)).2, (hm 5 (by decide)).2]
    rw [e]
    exact g3
theorem Rel8_put {I : am_I} {u : am_U} {o k j n : Nat} {v : Int32} (h : Rel (TR 8) I u) (ht : am_t o k j = true) (hv : v = nI n) : Rel (TR 8) (am_put I o k v) (upN u j n) := by
  simp only [am_t, Bool.and_eq_true, decide_eq_true_eq, Bool.or_eq_true] at ht
  obtain ⟨⟨⟨⟨⟨⟨⟨t0, t1⟩, t2⟩, t3⟩, t4⟩, t5⟩, t6⟩, t7⟩ := ht
  exact Rel.put h o k j hv (fun t q => t1 t (List.mem_append_left _ q))
theorem Main2 {I1 I2 : am_I} {u : am_U} (hM : MRep I2 67 u) (hR : Rel (TR 8) I1 u) (hRu : RuR (I1 17) u) (hC : CRep I1 9 u) (hO : OKu u) (h : ∀ o, o ≠ 67 → I2 o = I1 o) : Main I2 8 9 67 u := by
  refine ⟨hM, ⟨hR.kept (fun t ht => h _ (TR8_cells t (List.mem_append_left _ ht))), ?_⟩, hC.kept (h 9 (by decide)), hO⟩
  show RuR (I2 17) u
  rw [h 17 (by decide)]
  exact hRu
theorem am_t19 : ∀ k, k < 6 → am_t 19 k (74 + 4 * k) = true ∧ am_t 20 k (75 + 4 * k) = true ∧ am_t 21 k (76 + 4 * k) = true ∧ am_t 22 k (77 + 4 * k) = true := by decide +kernel
theorem upN_same {u : am_U} {j n : Nat} (h : u j = n) : upN u j n = u := by
  funext i
  unfold upN
  by_cases e : i = j
  · rw [if_pos e, e, h]
  · rw [if_neg e]
theorem am_okb74 : ∀ q ∈ OKb, ∀ k, k < 6 → (q.1 = 74 + 4 * k → q.2 = 15) ∧ (q.1 = 75 + 4 * k → q.2 = 1) ∧ (q.1 = 76 + 4 * k → q.2 = 999) ∧ (q.1 = 77 + 4 * k → q.2 = 999) := by decide +kernel
theorem am_okb8 : ∀ q ∈ OKb, (q.1 = 8 → q.2 = 6) ∧ (q.1 = 6 → q.2 = 6) := by decide +kernel
section
variable {L : Nat} {xs : Nat → Int32} {J : am_J}
theorem op_report (hJ : am_Cl am_meth L xs J) (a b c e : Int32) : am_same Inv J q_X_report q_M_report [.int a, .int b, .int c, .int e] := by
  intro I hI Qc hQc
  obtain ⟨u, uk, hMn, hK, hRs⟩ := id hI
  obtain ⟨hM, hR, hC, hO⟩ := id hMn
  have h8 := hO.b 8 6 (by decide)
  have c8 : I 8 15 = nI (u 8) := hMn.get (j := 8) (by decide +kernel)
  have m8 : I 67 8 = nI (u 8) := hM 8 (by decide)
  by_cases h1 : (0 : Int32) ≤ a ∧ a ≤ 15
  · by_cases h2 : (0 : Int32) ≤ b ∧ b ≤ 1
    · obtain ⟨w, hw, rfl⟩ := am_rng (N := 1) rfl (by decide) h2
      have key : ∀ (top : Nat) (T : Int32), T = nI top → top ≤ 999 → (0 : Int32) ≤ c ∧ c ≤ T → c ≤ e ∧ e ≤ T → u 8 < 6 → ∃ (da le mo : Nat), da ≤ 15 ∧ le ≤ 999 ∧ mo ≤ 999 ∧ a = nI da ∧ c = nI le ∧ e = nI mo := by
        intro top T hT ht h3 h4 h5
        subst hT
        obtain ⟨da, hda, rfl⟩ := am_rng (N := 15) rfl (by decide) h1
        obtain ⟨le, hle, rfl⟩ := am_rng (N := top) rfl (by omega) h3
        obtain ⟨mo, hmo, rfl⟩ := am_rng (N := top) rfl (by omega) ⟨Int32.le_trans h3.1 h4.1, h4.2⟩
        exact ⟨da, le, mo, hda, by omega, by omega, rfl, rfl, rfl⟩
      have done : ∀ (da le mo r : Nat), da ≤ 15 → le ≤ 999 → mo ≤ 999 → r = u 8 → r < 6 →
          Inv (am_put (am_put (am_put (am_put (am_put (am_put (am_put (am_put (am_put (am_put I 19 r (nI da)) 20 r (nI w)) 21 r (nI le)) 22 r (nI mo)) 8 15 (nI (r + 1))) 67 (74 + 4 * r) (nI da)) 67 (75 + 4 * r) (nI w)) 67 (76 + 4 * r) (nI le)) 67 (77 + 4 * r) (nI mo)) 67 8 (nI (r + 1))) := by
        intro da le mo r hda hle hmo hr hr6
        obtain ⟨t1, t2, t3, t4⟩ := am_t19 r hr6
        have hOk : OKu (upN (upN (upN (upN (upN u (74 + 4 * r) da) (75 + 4 * r) w) (76 + 4 * r) le) (77 + 4 * r) mo) 8 (r + 1)) := by
          refine OKu.up0 (OKu.up0 (OKu.up0 (OKu.up0 (OKu.up0 hO (fun q hq z => ?_) (by omega)) (fun q hq z => ?_) (by omega)) (fun q hq z => ?_) (by omega)) (fun q hq z => ?_) (by omega)) (fun q hq z => ?_) (by omega)
          · rw [(am_okb74 q hq r hr6).1 z]; exact hda
          · rw [(am_okb74 q hq r hr6).2.1 z]; exact hw
          · rw [(am_okb74 q hq r hr6).2.2.1 z]; exact hle
          · rw [(am_okb74 q hq r hr6).2.2.2 z]; exact hmo
          · rw [(am_okb8 q hq).1 z]; omega
        refine Inv.main (S := [8, 19, 20, 21, 22, 67]) (u := upN (upN (upN (upN (upN u (74 + 4 * r) da) (75 + 4 * r) w) (76 + 4 * r) le) (77 + 4 * r) mo) 8 (r + 1)) (Main2 (I1 := am_put (am_put (am_put (am_put (am_put I 19 r (nI da)) 20 r (nI w)) 21 r (nI le)) 22 r (nI mo)) 8 15 (nI (r + 1))) ?_ ?_ ?_ ?_ hOk ?_) hK hRs ?_ (by decide)
        · refine MRep.up (MRep.up (MRep.up (MRep.up (MRep.up ?_ rfl) rfl) rfl) rfl) rfl
          exact ((((hM.off (by decide)).off (by decide)).off (by decide)).off (by decide)).off (by decide)
        · exact Rel8_put (Rel8_put (Rel8_put (Rel8_put (Rel8_put hR.1 t1 rfl) t2 rfl) t3 rfl) t4 rfl) (by decide +kernel) rfl
        · have e17 : am_put (am_put (am_put (am_put (am_put I 19 r (nI da)) 20 r (nI w)) 21 r (nI le)) 22 r (nI mo)) 8 15 (nI (r + 1)) 17 = I 17 := by
            rw [am_put_o (by decide), am_put_o (by decide), am_put_o (by decide), am_put_o (by decide), am_put_o (by decide)]
          rw [e17]
          refine hR.2.keptu ?_ (fun j hj => ?_)
          · rw [upN_n (by omega), upN_n (by omega), upN_n (by omega), upN_n (by omega), upN_n (by omega)]
          · rw [upN_n (by omega), upN_n (by omega), upN_n (by omega), upN_n (by omega), upN_n (by omega)]
        · refine (hC.kept ?_).keptu ?_ ?_ ?_ ?_ (fun k hk => ⟨?_, ?_⟩)
          · rw [am_put_o (by decide), am_put_o (by decide), am_put_o (by decide), am_put_o (by decide), am_put_o (by decide)]
          all_goals rw [upN_n (by omega), upN_n (by omega), upN_n (by omega), upN_n (by omega), upN_n (by omega)]
        · intro o ho
          rw [am_put_o ho, am_put_o ho, am_put_o ho, am_put_o ho, am_put_o ho]
        · intro o ho
          simp only [List.mem_cons, List.not_mem_nil, or_false, not_or] at ho
          rw [am_put_o (by omega), am_put_o (by omega), am_put_o (by omega), am_put_o (by omega), am_put_o (by omega), am_put_o (by omega), am_put_o (by omega), am_put_o (by omega), am_put_o (by omega), am_put_o (by omega)]
      have key2 : ∀ (A : am_I) (da le mo : Nat), da ≤ 15 → le ≤ 999 → mo ≤ 999 → u 8 < 6 → A = am_put (am_put (am_put (am_put (am_put (am_put (am_put (am_put (am_put I 19 (u 8) (nI da)) 20 (u 8) (nI w)) 21 (u 8) (nI le)) 22 (u 8) (nI mo)) 8 15 (nI (u 8 + 1))) 67 (74 + 4 * u 8) (nI da)) 67 (75 + 4 * u 8) (nI w)) 67 (76 + 4 * u 8) (nI le)) 67 (77 + 4 * u 8) (nI mo) → A 67 8 = nI (u 8) ∧ Inv (am_put A 67 8 (A 67 8 + 1)) := by
        intro A da le mo hda hle hmo hu hA
        have e8 : A 67 8 = nI (u 8) := by
          rw [hA, put_nk (by omega), put_nk (by omega), put_nk (by omega), put_nk (by omega), am_put_o (by decide), am_put_o (by decide), am_put_o (by decide), am_put_o (by decide), am_put_o (by decide), m8]
        refine ⟨e8, ?_⟩
        rw [e8, nI_1, hA]
        exact done da le mo (u 8) hda hle hmo rfl hu
      have gl : vp_in (I 8 15) 6 ∨ ¬ u 8 < 6 := by
        by_cases hu : u 8 < 6
        · exact Or.inl (am_vinN c8 hu (by omega))
        · exact Or.inr hu
      have i0 : 74 + 4 * I 67 8 = nI (74 + 4 * u 8) := by rw [m8, show (74 : Int32) = nI 74 from rfl, show (4 : Int32) = nI 4 from rfl, pk_mul, nI_add]
      have i1 : 74 + 4 * I 67 8 + 1 = nI (75 + 4 * u 8) := by rw [i0, show (1 : Int32) = nI 1 from rfl, nI_add]; congr 1; omega
      have i2 : 74 + 4 * I 67 8 + 2 = nI (76 + 4 * u 8) := by rw [i0, show (2 : Int32) = nI 2 from rfl, nI_add]; congr 1; omega
      have i3 : 74 + 4 * I 67 8 + 3 = nI (77 + 4 * u 8) := by rw [i0, show (3 : Int32) = nI 3 from rfl, nI_add]; congr 1; omega
      have v0 : vp_in (74 + 4 * I 67 8) 322 := am_vinN i0 (by omega) (by omega)
      have v1 : vp_in (74 + 4 * I 67 8 + 1) 322 := am_vinN i1 (by omega) (by omega)
      have v2 : vp_in (74 + 4 * I 67 8 + 2) 322 := am_vinN i2 (by omega) (by omega)
      have v3 : vp_in (74 + 4 * I 67 8 + 3) 322 := am_vinN i3 (by omega) (by omega)
      rcases (show w = 0 ∨ w = 1 by omega) with rfl | rfl
      · by_cases h3 : (0 : Int32) ≤ c ∧ c ≤ 999
        · by_cases h4 : c ≤ e ∧ e ≤ 999
          · by_cases hu : u 8 < 6
            · have gv : vp_in (I 8 15) 6 := am_vinN c8 hu (by omega)
              have lt : I 8 15 < 6 := by rw [c8]; exact nI_lt (b := 6) hu (by omega)
              have ne : ¬ I 67 8 = 6 := by rw [m8, show (6 : Int32) = nI 6 from rfl, nI_eq (by omega) (by omega)]; omega
              obtain ⟨da, le, mo, hda, hle, hmo, rfl, rfl, rfl⟩ := key 999 999 rfl (by omega) h3 h4 hu
              repeat (
                (try conv => whnf)
                first
                  | refine ⟨am_vin (by decide), ?_⟩
                  | refine br_f (by decide) ?_
                  | refine br_t (by decide) ?_
                  | refine br_t (by assumption) ?_
                  | refine br_f (by assumption) ?_
                  | refine x_withinY hJ (by assumption) ?_
                  | refine x_withinN hJ (by assumption) ?_
                  | refine m_in1Y hJ (by assumption) ?_
                  | refine m_in1N hJ (by assumption) ?_
                  | refine m_isGateY hJ (by assumption) ?_
                  | refine m_isGateN hJ (by assumption) ?_
                  | refine m_isDigitY hJ (by assumption) ?_
                  | refine m_isDigitN hJ (by assumption) ?_
                  | refine m_isNeedY hJ (by assumption) ?_
                  | refine m_isNeedN hJ (by assumption) ?_
                  | refine m_isPlanY hJ (by assumption) ?_
                  | refine m_isPlanN hJ (by assumption) ?_
                  | refine m_isSheetY hJ (by assumption) ?_
                  | refine m_isSheetN hJ (by assumption) ?_
                  | refine x_isSheetY hJ (by assumption) ?_
                  | refine x_isSheetN hJ (by assumption) ?_
                  | refine x_isShelfY hJ (by assumption) ?_
                  | refine x_isShelfN hJ (by assumption) ?_
                  | refine x_hasY hJ (by assumption) (by assumption) (by assumption) ?_
                  | refine x_hasN hJ (by assumption) (by assumption) (by assumption) ?_
                  | refine m_isPersonY hJ (by assumption) (by assumption) (by assumption) ?_
                  | refine m_isPersonN hJ (by assumption) (by assumption) (by assumption) ?_
                  | refine am_vc hJ 120 40 _ _ _ _ _ _ ?_
                  | refine ⟨_, rfl, ?_⟩)
              refine ⟨gv, gv, gv, gv, ?_⟩
              repeat (
                (try conv => whnf)
                first
                  | refine ⟨am_vin (by decide), ?_⟩
                  | refine br_f (by decide) ?_
                  | refine br_t (by decide) ?_
                  | refine br_t (by assumption) ?_
                  | refine br_f (by assumption) ?_
                  | refine x_withinY hJ (by assumption) ?_
                  | refine x_withinN hJ (by assumption) ?_
                  | refine m_in1Y hJ (by assumption) ?_
                  | refine m_in1N hJ (by assumption) ?_
                  | refine m_isGateY hJ (by assumption) ?_
                  | refine m_isGateN hJ (by assumption) ?_
                  | refine m_isDigitY hJ (by assumption) ?_
                  | refine m_isDigitN hJ (by assumption) ?_
                  | refine m_isNeedY hJ (by assumption) ?_
                  | refine m_isNeedN hJ (by assumption) ?_
                  | refine m_isPlanY hJ (by assumption) ?_
                  | refine m_isPlanN hJ (by assumption) ?_
                  | refine m_isSheetY hJ (by assumption) ?_
                  | refine m_isSheetN hJ (by assumption) ?_
                  | refine x_isSheetY hJ (by assumption) ?_
                  | refine x_isSheetN hJ (by assumption) ?_
                  | refine x_isShelfY hJ (by assumption) ?_
                  | refine x_isShelfN hJ (by assumption) ?_
                  | refine x_hasY hJ (by assumption) (by assumption) (by assumption) ?_
                  | refine x_hasN hJ (by assumption) (by assumption) (by assumption) ?_
                  | refine m_isPersonY hJ (by assumption) (by assumption) (by assumption) ?_
                  | refine m_isPersonN hJ (by assumption) (by assumption) (by assumption) ?_
                  | refine am_vc hJ 120 40 _ _ _ _ _ _ ?_
                  | refine ⟨_, rfl, ?_⟩)
              refine ⟨v0, v1, v2, v3, ?_⟩
              repeat (
                (try conv => whnf)
                first
                  | refine ⟨am_vin (by decide), ?_⟩
                  | refine br_f (by decide) ?_
                  | refine br_t (by decide) ?_
                  | refine br_t (by assumption) ?_
                  | refine br_f (by assumption) ?_
                  | refine x_withinY hJ (by assumption) ?_
                  | refine x_withinN hJ (by assumption) ?_
                  | refine m_in1Y hJ (by assumption) ?_
                  | refine m_in1N hJ (by assumption) ?_
                  | refine m_isGateY hJ (by assumption) ?_
                  | refine m_isGateN hJ (by assumption) ?_
                  | refine m_isDigitY hJ (by assumption) ?_
                  | refine m_isDigitN hJ (by assumption) ?_
                  | refine m_isNeedY hJ (by assumption) ?_
                  | refine m_isNeedN hJ (by assumption) ?_
                  | refine m_isPlanY hJ (by assumption) ?_
                  | refine m_isPlanN hJ (by assumption) ?_
                  | refine m_isSheetY hJ (by assumption) ?_
                  | refine m_isSheetN hJ (by assumption) ?_
                  | refine x_isSheetY hJ (by assumption) ?_
                  | refine x_isSheetN hJ (by assumption) ?_
                  | refine x_isShelfY hJ (by assumption) ?_
                  | refine x_isShelfN hJ (by assumption) ?_
                  | refine x_hasY hJ (by assumption) (by assumption) (by assumption) ?_
                  | refine x_hasN hJ (by assumption) (by assumption) (by assumption) ?_
                  | refine m_isPersonY hJ (by assumption) (by assumption) (by assumption) ?_
                  | refine m_isPersonN hJ (by assumption) (by assumption) (by assumption) ?_
                  | refine am_vc hJ 120 40 _ _ _ _ _ _ ?_
                  | refine ⟨_, rfl, ?_⟩)
              have hA : ∀ A : am_I, A = am_put (am_put (am_put (am_put (am_put (am_put (am_put (am_put (am_put I 19 (I 8 15).toNatClampNeg (nI da)) 20 (I 8 15).toNatClampNeg (nI 0)) 21 (I 8 15).toNatClampNeg (nI le)) 22 (I 8 15).toNatClampNeg (nI mo)) 8 15 (I 8 15 + 1)) 67 (74 + 4 * I 67 8).toNatClampNeg (nI da)) 67 (74 + 4 * I 67 8 + 1).toNatClampNeg (nI 0)) 67 (74 + 4 * I 67 8 + 2).toNatClampNeg (nI le)) 67 (74 + 4 * I 67 8 + 3).toNatClampNeg (nI mo) → A 67 8 = nI (u 8) ∧ Inv (am_put A 67 8 (A 67 8 + 1)) := by
                intro A e
                refine key2 A da le mo hda hle hmo hu ?_
                rw [e, am_clN c8 (by omega), am_clN i0 (by omega), am_clN i1 (by omega), am_clN i2 (by omega), am_clN i3 (by omega), c8, nI_1]
              obtain ⟨k1, k2⟩ := hA _ rfl
              refine ⟨?_, hQc _ k2⟩
              refine congrArg (fun z => some (Value.int z)) ?_
              refine (congrArg (fun z => z - 1) put_at).trans ?_
              refine (congrArg (fun z => z + 1 - 1) k1).trans ?_
              rw [nI_1, nI_pred, c8]
            · have lt : ¬ I 8 15 < 6 := by rw [c8, show (6 : Int32) = nI 6 from rfl, nI_ltI (by omega) (by omega)]; exact hu
              have ne : I 67 8 = 6 := by rw [m8, show u 8 = 6 by omega]; rfl
              repeat (
                (try conv => whnf)
                first
                  | refine ⟨am_vin (by decide), ?_⟩
                  | refine ⟨(by assumption : vp_in _ _), ?_⟩
                  | refine br_f (by decide) ?_
                  | refine br_t (by decide) ?_
                  | refine br_t (by assumption) ?_
                  | refine br_f (by assumption) ?_
                  | refine x_withinY hJ (by assumption) ?_
                  | refine x_withinN hJ (by assumption) ?_
                  | refine m_in1Y hJ (by assumption) ?_
                  | refine m_in1N hJ (by assumption) ?_
                  | refine m_isGateY hJ (by assumption) ?_
                  | refine m_isGateN hJ (by assumption) ?_
                  | refine m_isDigitY hJ (by assumption) ?_
                  | refine m_isDigitN hJ (by assumption) ?_
                  | refine m_isNeedY hJ (by assumption) ?_
                  | refine m_isNeedN hJ (by assumption) ?_
                  | refine m_isPlanY hJ (by assumption) ?_
                  | refine m_isPlanN hJ (by assumption) ?_
                  | refine m_isSheetY hJ (by assumption) ?_
                  | refine m_isSheetN hJ (by assumption) ?_
                  | refine x_isSheetY hJ (by assumption) ?_
                  | refine x_isSheetN hJ (by assumption) ?_
                  | refine x_isShelfY hJ (by assumption) ?_
                  | refine x_isShelfN hJ (by assumption) ?_
                  | refine x_hasY hJ (by assumption) (by assumption) (by assumption) ?_
                  | refine x_hasN hJ (by assumption) (by assumption) (by assumption) ?_
                  | refine m_isPersonY hJ (by assumption) (by assumption) (by assumption) ?_
                  | refine m_isPersonN hJ (by assumption) (by assumption) (by assumption) ?_
                  | refine am_vc hJ 120 40 _ _ _ _ _ _ ?_
                  | refine ⟨_, rfl, ?_⟩)
              exact ⟨rfl, hQc _ hI⟩
          · repeat (
              (try conv => whnf)
              first
                | refine ⟨am_vin (by decide), ?_⟩
                | refine ⟨(by assumption : vp_in _ _), ?_⟩
                | refine br_f (by decide) ?_
                | refine br_t (by decide) ?_
                | refine br_t (by assumption) ?_
                | refine br_f (by assumption) ?_
                | refine x_withinY hJ (by assumption) ?_
                | refine x_withinN hJ (by assumption) ?_
                | refine m_in1Y hJ (by assumption) ?_
                | refine m_in1N hJ (by assumption) ?_
                | refine m_isGateY hJ (by assumption) ?_
                | refine m_isGateN hJ (by assumption) ?_
                | refine m_isDigitY hJ (by assumption) ?_
                | refine m_isDigitN hJ (by assumption) ?_
                | refine m_isNeedY hJ (by assumption) ?_
                | refine m_isNeedN hJ (by assumption) ?_
                | refine m_isPlanY hJ (by assumption) ?_
                | refine m_isPlanN hJ (by assumption) ?_
                | refine m_isSheetY hJ (by assumption) ?_
                | refine m_isSheetN hJ (by assumption) ?_
                | refine x_isSheetY hJ (by assumption) ?_
                | refine x_isSheetN hJ (by assumption) ?_
                | refine x_isShelfY hJ (by assumption) ?_
                | refine x_isShelfN hJ (by assumption) ?_
                | refine x_hasY hJ (by assumption) (by assumption) (by assumption) ?_
                | refine x_hasN hJ (by assumption) (by assumption) (by assumption) ?_
                | refine m_isPersonY hJ (by assumption) (by assumption) (by assumption) ?_
                | refine m_isPersonN hJ (by assumption) (by assumption) (by assumption) ?_
                | refine am_vc hJ 120 40 _ _ _ _ _ _ ?_
                | refine ⟨_, rfl, ?_⟩)
            exact ⟨rfl, hQc _ hI⟩
        · repeat (
            (try conv => whnf)
            first
              | refine ⟨am_vin (by decide), ?_⟩
              | refine ⟨(by assumption : vp_in _ _), ?_⟩
              | refine br_f (by decide) ?_
              | refine br_t (by decide) ?_
              | refine br_t (by assumption) ?_
              | refine br_f (by assumption) ?_
              | refine x_withinY hJ (by assumption) ?_
              | refine x_withinN hJ (by assumption) ?_
              | refine m_in1Y hJ (by assumption) ?_
              | refine m_in1N hJ (by assumption) ?_
              | refine m_isGateY hJ (by assumption) ?_
              | refine m_isGateN hJ (by assumption) ?_
              | refine m_isDigitY hJ (by assumption) ?_
              | refine m_isDigitN hJ (by assumption) ?_
              | refine m_isNeedY hJ (by assumption) ?_
              | refine m_isNeedN hJ (by assumption) ?_
              | refine m_isPlanY hJ (by assumption) ?_
              | refine m_isPlanN hJ (by assumption) ?_
              | refine m_isSheetY hJ (by assumption) ?_
              | refine m_isSheetN hJ (by assumption) ?_
              | refine x_isSheetY hJ (by assumption) ?_
              | refine x_isSheetN hJ (by assumption) ?_
              | refine x_isShelfY hJ (by assumption) ?_
              | refine x_isShelfN hJ (by assumption) ?_
              | refine x_hasY hJ (by assumption) (by assumption) (by assumption) ?_
              | refine x_hasN hJ (by assumption) (by assumption) (by assumption) ?_
              | refine m_isPersonY hJ (by assumption) (by assumption) (by assumption) ?_
              | refine m_isPersonN hJ (by assumption) (by assumption) (by assumption) ?_
              | refine am_vc hJ 120 40 _ _ _ _ _ _ ?_
              | refine ⟨_, rfl, ?_⟩)
          exact ⟨rfl, hQc _ hI⟩
      · by_cases h3 : (0 : Int32) ≤ c ∧ c ≤ 9
        · by_cases h4 : c ≤ e ∧ e ≤ 9
          · by_cases hu : u 8 < 6
            · have gv : vp_in (I 8 15) 6 := am_vinN c8 hu (by omega)
              have lt : I 8 15 < 6 := by rw [c8]; exact nI_lt (b := 6) hu (by omega)
              have ne : ¬ I 67 8 = 6 := by rw [m8, show (6 : Int32) = nI 6 from rfl, nI_eq (by omega) (by omega)]; omega
              obtain ⟨da, le, mo, hda, hle, hmo, rfl, rfl, rfl⟩ := key 9 9 rfl (by omega) h3 h4 hu
              repeat (
                (try conv => whnf)
                first
                  | refine ⟨am_vin (by decide), ?_⟩
                  | refine br_f (by decide) ?_
                  | refine br_t (by decide) ?_
                  | refine br_t (by assumption) ?_
                  | refine br_f (by assumption) ?_
                  | refine x_withinY hJ (by assumption) ?_
                  | refine x_withinN hJ (by assumption) ?_
                  | refine m_in1Y hJ (by assumption) ?_
                  | refine m_in1N hJ (by assumption) ?_
                  | refine m_isGateY hJ (by assumption) ?_
                  | refine m_isGateN hJ (by assumption) ?_
                  | refine m_isDigitY hJ (by assumption) ?_
                  | refine m_isDigitN hJ (by assumption) ?_
                  | refine m_isNeedY hJ (by assumption) ?_
                  | refine m_isNeedN hJ (by assumption) ?_
                  | refine m_isPlanY hJ (by assumption) ?_
                  | refine m_isPlanN hJ (by assumption) ?_
                  | refine m_isSheetY hJ (by assumption) ?_
                  | refine m_isSheetN hJ (by assumption) ?_
                  | refine x_isSheetY hJ (by assumption) ?_
                  | refine x_isSheetN hJ (by assumption) ?_
                  | refine x_isShelfY hJ (by assumption) ?_
                  | refine x_isShelfN hJ (by assumption) ?_
                  | refine x_hasY hJ (by assumption) (by assumption) (by assumption) ?_
                  | refine x_hasN hJ (by assumption) (by assumption) (by assumption) ?_
                  | refine m_isPersonY hJ (by assumption) (by assumption) (by assumption) ?_
                  | refine m_isPersonN hJ (by assumption) (by assumption) (by assumption) ?_
                  | refine am_vc hJ 120 40 _ _ _ _ _ _ ?_
                  | refine ⟨_, rfl, ?_⟩)
              refine ⟨gv, gv, gv, gv, ?_⟩
              repeat (
                (try conv => whnf)
                first
                  | refine ⟨am_vin (by decide), ?_⟩
                  | refine br_f (by decide) ?_
                  | refine br_t (by decide) ?_
                  | refine br_t (by assumption) ?_
                  | refine br_f (by assumption) ?_
                  | refine x_withinY hJ (by assumption) ?_
                  | refine x_withinN hJ (by assumption) ?_
                  | refine m_in1Y hJ (by assumption) ?_
                  | refine m_in1N hJ (by assumption) ?_
                  | refine m_isGateY hJ (by assumption) ?_
                  | refine m_isGateN hJ (by assumption) ?_
                  | refine m_isDigitY hJ (by assumption) ?_
                  | refine m_isDigitN hJ (by assumption) ?_
                  | refine m_isNeedY hJ (by assumption) ?_
                  | refine m_isNeedN hJ (by assumption) ?_
                  | refine m_isPlanY hJ (by assumption) ?_
                  | refine m_isPlanN hJ (by assumption) ?_
                  | refine m_isSheetY hJ (by assumption) ?_
                  | refine m_isSheetN hJ (by assumption) ?_
                  | refine x_isSheetY hJ (by assumption) ?_
                  | refine x_isSheetN hJ (by assumption) ?_
                  | refine x_isShelfY hJ (by assumption) ?_
                  | refine x_isShelfN hJ (by assumption) ?_
                  | refine x_hasY hJ (by assumption) (by assumption) (by assumption) ?_
                  | refine x_hasN hJ (by assumption) (by assumption) (by assumption) ?_
                  | refine m_isPersonY hJ (by assumption) (by assumption) (by assumption) ?_
                  | refine m_isPersonN hJ (by assumption) (by assumption) (by assumption) ?_
                  | refine am_vc hJ 120 40 _ _ _ _ _ _ ?_
                  | refine ⟨_, rfl, ?_⟩)
              refine ⟨v0, v1, v2, v3, ?_⟩
              repeat (
                (try conv => whnf)
                first
                  | refine ⟨am_vin (by decide), ?_⟩
                  | refine br_f (by decide) ?_
                  | refine br_t (by decide) ?_
                  | refine br_t (by assumption) ?_
                  | refine br_f (by assumption) ?_
                  | refine x_withinY hJ (by assumption) ?_
                  | refine x_withinN hJ (by assumption) ?_
                  | refine m_in1Y hJ (by assumption) ?_
                  | refine m_in1N hJ (by assumption) ?_
                  | refine m_isGateY hJ (by assumption) ?_
                  | refine m_isGateN hJ (by assumption) ?_
                  | refine m_isDigitY hJ (by assumption) ?_
                  | refine m_isDigitN hJ (by assumption) ?_
                  | refine m_isNeedY hJ (by assumption) ?_
                  | refine m_isNeedN hJ (by assumption) ?_
                  | refine m_isPlanY hJ (by assumption) ?_
                  | refine m_isPlanN hJ (by assumption) ?_
                  | refine m_isSheetY hJ (by assumption) ?_
                  | refine m_isSheetN hJ (by assumption) ?_
                  | refine x_isSheetY hJ (by assumption) ?_
                  | refine x_isSheetN hJ (by assumption) ?_
                  | refine x_isShelfY hJ (by assumption) ?_
                  | refine x_isShelfN hJ (by assumption) ?_
                  | refine x_hasY hJ (by assumption) (by assumption) (by assumption) ?_
                  | refine x_hasN hJ (by assumption) (by assumption) (by assumption) ?_
                  | refine m_isPersonY hJ (by assumption) (by assumption) (by assumption) ?_
                  | refine m_isPersonN hJ (by assumption) (by assumption) (by assumption) ?_
                  | refine am_vc hJ 120 40 _ _ _ _ _ _ ?_
                  | refine ⟨_, rfl, ?_⟩)
              have hA : ∀ A : am_I, A = am_put (am_put (am_put (am_put (am_put (am_put (am_put (am_put (am_put I 19 (I 8 15).toNatClampNeg (nI da)) 20 (I 8 15).toNatClampNeg (nI 1)) 21 (I 8 15).toNatClampNeg (nI le)) 22 (I 8 15).toNatClampNeg (nI mo)) 8 15 (I 8 15 + 1)) 67 (74 + 4 * I 67 8).toNatClampNeg (nI da)) 67 (74 + 4 * I 67 8 + 1).toNatClampNeg (nI 1)) 67 (74 + 4 * I 67 8 + 2).toNatClampNeg (nI le)) 67 (74 + 4 * I 67 8 + 3).toNatClampNeg (nI mo) → A 67 8 = nI (u 8) ∧ Inv (am_put A 67 8 (A 67 8 + 1)) := by
                intro A e
                refine key2 A da le mo hda hle hmo hu ?_
                rw [e, am_clN c8 (by omega), am_clN i0 (by omega), am_clN i1 (by omega), am_clN i2 (by omega), am_clN i3 (by omega), c8, nI_1]
              obtain ⟨k1, k2⟩ := hA _ rfl
              refine ⟨?_, hQc _ k2⟩
              refine congrArg (fun z => some (Value.int z)) ?_
              refine (congrArg (fun z => z - 1) put_at).trans ?_
              refine (congrArg (fun z => z + 1 - 1) k1).trans ?_
              rw [nI_1, nI_pred, c8]
            · have lt : ¬ I 8 15 < 6 := by rw [c8, show (6 : Int32) = nI 6 from rfl, nI_ltI (by omega) (by omega)]; exact hu
              have ne : I 67 8 = 6 := by rw [m8, show u 8 = 6 by omega]; rfl
              repeat (
                (try conv => whnf)
                first
                  | refine ⟨am_vin (by decide), ?_⟩
                  | refine ⟨(by assumption : vp_in _ _), ?_⟩
                  | refine br_f (by decide) ?_
                  | refine br_t (by decide) ?_
                  | refine br_t (by assumption) ?_
                  | refine br_f (by assumption) ?_
                  | refine x_withinY hJ (by assumption) ?_
                  | refine x_withinN hJ (by assumption) ?_
                  | refine m_in1Y hJ (by assumption) ?_
                  | refine m_in1N hJ (by assumption) ?_
                  | refine m_isGateY hJ (by assumption) ?_
                  | refine m_isGateN hJ (by assumption) ?_
                  | refine m_isDigitY hJ (by assumption) ?_
                  | refine m_isDigitN hJ (by assumption) ?_
                  | refine m_isNeedY hJ (by assumption) ?_
                  | refine m_isNeedN hJ (by assumption) ?_
                  | refine m_isPlanY hJ (by assumption) ?_
                  | refine m_isPlanN hJ (by assumption) ?_
                  | refine m_isSheetY hJ (by assumption) ?_
                  | refine m_isSheetN hJ (by assumption) ?_
                  | refine x_isSheetY hJ (by assumption) ?_
                  | refine x_isSheetN hJ (by assumption) ?_
                  | refine x_isShelfY hJ (by assumption) ?_
                  | refine x_isShelfN hJ (by assumption) ?_
                  | refine x_hasY hJ (by assumption) (by assumption) (by assumption) ?_
                  | refine x_hasN hJ (by assumption) (by assumption) (by assumption) ?_
                  | refine m_isPersonY hJ (by assumption) (by assumption) (by assumption) ?_
                  | refine m_isPersonN hJ (by assumption) (by assumption) (by assumption) ?_
                  | refine am_vc hJ 120 40 _ _ _ _ _ _ ?_
                  | refine ⟨_, rfl, ?_⟩)
              exact ⟨rfl, hQc _ hI⟩
          · repeat (
              (try conv => whnf)
              first
                | refine ⟨am_vin (by decide), ?_⟩
                | refine ⟨(by assumption : vp_in _ _), ?_⟩
                | refine br_f (by decide) ?_
                | refine br_t (by decide) ?_
                | refine br_t (by assumption) ?_
                | refine br_f (by assumption) ?_
                | refine x_withinY hJ (by assumption) ?_
                | refine x_withinN hJ (by assumption) ?_
                | refine m_in1Y hJ (by assumption) ?_
                | refine m_in1N hJ (by assumption) ?_
                | refine m_isGateY hJ (by assumption) ?_
                | refine m_isGateN hJ (by assumption) ?_
                | refine m_isDigitY hJ (by assumption) ?_
                | refine m_isDigitN hJ (by assumption) ?_
                | refine m_isNeedY hJ (by assumption) ?_
                | refine m_isNeedN hJ (by assumption) ?_
                | refine m_isPlanY hJ (by assumption) ?_
                | refine m_isPlanN hJ (by assumption) ?_
                | refine m_isSheetY hJ (by assumption) ?_
                | refine m_isSheetN hJ (by assumption) ?_
                | refine x_isSheetY hJ (by assumption) ?_
                | refine x_isSheetN hJ (by assumption) ?_
                | refine x_isShelfY hJ (by assumption) ?_
                | refine x_isShelfN hJ (by assumption) ?_
                | refine x_hasY hJ (by assumption) (by assumption) (by assumption) ?_
                | refine x_hasN hJ (by assumption) (by assumption) (by assumption) ?_
                | refine m_isPersonY hJ (by assumption) (by assumption) (by assumption) ?_
                | refine m_isPersonN hJ (by assumption) (by assumption) (by assumption) ?_
                | refine am_vc hJ 120 40 _ _ _ _ _ _ ?_
                | refine ⟨_, rfl, ?_⟩)
            exact ⟨rfl, hQc _ hI⟩
        · repeat (
            (try conv => whnf)
            first
              | refine ⟨am_vin (by decide), ?_⟩
              | refine ⟨(by assumption : vp_in _ _), ?_⟩
              | refine br_f (by decide) ?_
              | refine br_t (by decide) ?_
              | refine br_t (by assumption) ?_
              | refine br_f (by assumption) ?_
              | refine x_withinY hJ (by assumption) ?_
              | refine x_withinN hJ (by assumption) ?_
              | refine m_in1Y hJ (by assumption) ?_
              | refine m_in1N hJ (by assumption) ?_
              | refine m_isGateY hJ (by assumption) ?_
              | refine m_isGateN hJ (by assumption) ?_
              | refine m_isDigitY hJ (by assumption) ?_
              | refine m_isDigitN hJ (by assumption) ?_
              | refine m_isNeedY hJ (by assumption) ?_
              | refine m_isNeedN hJ (by assumption) ?_
              | refine m_isPlanY hJ (by assumption) ?_
              | refine m_isPlanN hJ (by assumption) ?_
              | refine m_isSheetY hJ (by assumption) ?_
              | refine m_isSheetN hJ (by assumption) ?_
              | refine x_isSheetY hJ (by assumption) ?_
              | refine x_isSheetN hJ (by assumption) ?_
              | refine x_isShelfY hJ (by assumption) ?_
              | refine x_isShelfN hJ (by assumption) ?_
              | refine x_hasY hJ (by assumption) (by assumption) (by assumption) ?_
              | refine x_hasN hJ (by assumption) (by assumption) (by assumption) ?_
              | refine m_isPersonY hJ (by assumption) (by assumption) (by assumption) ?_
              | refine m_isPersonN hJ (by assumption) (by assumption) (by assumption) ?_
              | refine am_vc hJ 120 40 _ _ _ _ _ _ ?_
              | refine ⟨_, rfl, ?_⟩)
          exact ⟨rfl, hQc _ hI⟩
    · by_cases hb0 : b = 0
      · repeat (
          (try conv => whnf)
          first
            | refine ⟨am_vin (by decide), ?_⟩
            | refine ⟨(by assumption : vp_in _ _), ?_⟩
            | refine br_f (by decide) ?_
            | refine br_t (by decide) ?_
            | refine br_t (by assumption) ?_
            | refine br_f (by assumption) ?_
            | refine x_withinY hJ (by assumption) ?_
            | refine x_withinN hJ (by assumption) ?_
            | refine m_in1Y hJ (by assumption) ?_
            | refine m_in1N hJ (by assumption) ?_
            | refine m_isGateY hJ (by assumption) ?_
            | refine m_isGateN hJ (by assumption) ?_
            | refine m_isDigitY hJ (by assumption) ?_
            | refine m_isDigitN hJ (by assumption) ?_
            | refine m_isNeedY hJ (by assumption) ?_
            | refine m_isNeedN hJ (by assumption) ?_
            | refine m_isPlanY hJ (by assumption) ?_
            | refine m_isPlanN hJ (by assumption) ?_
            | refine m_isSheetY hJ (by assumption) ?_
            | refine m_isSheetN hJ (by assumption) ?_
            | refine x_isSheetY hJ (by assumption) ?_
            | refine x_isSheetN hJ (by assumption) ?_
            | refine x_isShelfY hJ (by assumption) ?_
            | refine x_isShelfN hJ (by assumption) ?_
            | refine x_hasY hJ (by assumption) (by assumption) (by assumption) ?_
            | refine x_hasN hJ (by assumption) (by assumption) (by assumption) ?_
            | refine m_isPersonY hJ (by assumption) (by assumption) (by assumption) ?_
            | refine m_isPersonN hJ (by assumption) (by assumption) (by assumption) ?_
            | refine am_vc hJ 120 40 _ _ _ _ _ _ ?_
            | refine ⟨_, rfl, ?_⟩)
        exact ⟨rfl, hQc _ hI⟩
      · repeat (
          (try conv => whnf)
          first
            | refine ⟨am_vin (by decide), ?_⟩
            | refine ⟨(by assumption : vp_in _ _), ?_⟩
            | refine br_f (by decide) ?_
            | refine br_t (by decide) ?_
            | refine br_t (by assumption) ?_
            | refine br_f (by assumption) ?_
            | refine x_withinY hJ (by assumption) ?_
            | refine x_withinN hJ (by assumption) ?_
            | refine m_in1Y hJ (by assumption) ?_
            | refine m_in1N hJ (by assumption) ?_
            | refine m_isGateY hJ (by assumption) ?_
            | refine m_isGateN hJ (by assumption) ?_
            | refine m_isDigitY hJ (by assumption) ?_
            | refine m_isDigitN hJ (by assumption) ?_
            | refine m_isNeedY hJ (by assumption) ?_
            | refine m_isNeedN hJ (by assumption) ?_
            | refine m_isPlanY hJ (by assumption) ?_
            | refine m_isPlanN hJ (by assumption) ?_
            | refine m_isSheetY hJ (by assumption) ?_
            | refine m_isSheetN hJ (by assumption) ?_
            | refine x_isSheetY hJ (by assumption) ?_
            | refine x_isSheetN hJ (by assumption) ?_
            | refine x_isShelfY hJ (by assumption) ?_
            | refine x_isShelfN hJ (by assumption) ?_
            | refine x_hasY hJ (by assumption) (by assumption) (by assumption) ?_
            | refine x_hasN hJ (by assumption) (by assumption) (by assumption) ?_
            | refine m_isPersonY hJ (by assumption) (by assumption) (by assumption) ?_
            | refine m_isPersonN hJ (by assumption) (by assumption) (by assumption) ?_
            | refine am_vc hJ 120 40 _ _ _ _ _ _ ?_
            | refine ⟨_, rfl, ?_⟩)
        exact ⟨rfl, hQc _ hI⟩
  · by_cases hb0 : b = 0
    · repeat (
        (try conv => whnf)
        first
          | refine ⟨am_vin (by decide), ?_⟩
          | refine ⟨(by assumption : vp_in _ _), ?_⟩
          | refine br_f (by decide) ?_
          | refine br_t (by decide) ?_
          | refine br_t (by assumption) ?_
          | refine br_f (by assumption) ?_
          | refine x_withinY hJ (by assumption) ?_
          | refine x_withinN hJ (by assumption) ?_
          | refine m_in1Y hJ (by assumption) ?_
          | refine m_in1N hJ (by assumption) ?_
          | refine m_isGateY hJ (by assumption) ?_
          | refine m_isGateN hJ (by assumption) ?_
          | refine m_isDigitY hJ (by assumption) ?_
          | refine m_isDigitN hJ (by assumption) ?_
          | refine m_isNeedY hJ (by assumption) ?_
          | refine m_isNeedN hJ (by assumption) ?_
          | refine m_isPlanY hJ (by assumption) ?_
          | refine m_isPlanN hJ (by assumption) ?_
          | refine m_isSheetY hJ (by assumption) ?_
          | refine m_isSheetN hJ (by assumption) ?_
          | refine x_isSheetY hJ (by assumption) ?_
          | refine x_isSheetN hJ (by assumption) ?_
          | refine x_isShelfY hJ (by assumption) ?_
          | refine x_isShelfN hJ (by assumption) ?_
          | refine x_hasY hJ (by assumption) (by assumption) (by assumption) ?_
          | refine x_hasN hJ (by assumption) (by assumption) (by assumption) ?_
          | refine m_isPersonY hJ (by assumption) (by assumption) (by assumption) ?_
          | refine m_isPersonN hJ (by assumption) (by assumption) (by assumption) ?_
          | refine am_vc hJ 120 40 _ _ _ _ _ _ ?_
          | refine ⟨_, rfl, ?_⟩)
      exact ⟨rfl, hQc _ hI⟩
    · repeat (
        (try conv => whnf)
        first
          | refine ⟨am_vin (by decide), ?_⟩
          | refine ⟨(by assumption : vp_in _ _), ?_⟩
          | refine br_f (by decide) ?_
          | refine br_t (by decide) ?_
          | refine br_t (by assumption) ?_
          | refine br_f (by assumption) ?_
          | refine x_withinY hJ (by assumption) ?_
          | refine x_withinN hJ (by assumption) ?_
          | refine m_in1Y hJ (by assumption) ?_
          | refine m_in1N hJ (by assumption) ?_
          | refine m_isGateY hJ (by assumption) ?_
          | refine m_isGateN hJ (by assumption) ?_
          | refine m_isDigitY hJ (by assumption) ?_
          | refine m_isDigitN hJ (by assumption) ?_
          | refine m_isNeedY hJ (by assumption) ?_
          | refine m_isNeedN hJ (by assumption) ?_
          | refine m_isPlanY hJ (by assumption) ?_
          | refine m_isPlanN hJ (by assumption) ?_
          | refine m_isSheetY hJ (by assumption) ?_
          | refine m_isSheetN hJ (by assumption) ?_
          | refine x_isSheetY hJ (by assumption) ?_
          | refine x_isSheetN hJ (by assumption) ?_
          | refine x_isShelfY hJ (by assumption) ?_
          | refine x_isShelfN hJ (by assumption) ?_
          | refine x_hasY hJ (by assumption) (by assumption) (by assumption) ?_
          | refine x_hasN hJ (by assumption) (by assumption) (by assumption) ?_
          | refine m_isPersonY hJ (by assumption) (by assumption) (by assumption) ?_
          | refine m_isPersonN hJ (by assumption) (by assumption) (by assumption) ?_
          | refine am_vc hJ 120 40 _ _ _ _ _ _ ?_
          | refine ⟨_, rfl, ?_⟩)
      exact ⟨rfl, hQc _ hI⟩
end
