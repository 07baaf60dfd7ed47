/-! TALEFOR, GATEFOR -/
def sp_bb (W : Nat → Int32) : Nat → Int32 × Int32
  | 0 => (0, -1)
  | i + 1 => if W i ≤ (sp_bb W i).2 then sp_bb W i else (nI i, W i)
theorem sp_bb_succ (W : Nat → Int32) (i : Nat) : sp_bb W (i + 1) = if W i ≤ (sp_bb W i).2 then sp_bb W i else (nI i, W i) := rfl
theorem upN_twice {u : am_U} {j a b : Nat} : upN (upN u j a) j b = upN u j b := by
  funext x
  unfold upN
  split <;> rfl
theorem Inv.two {S : List Nat} {I I1 I2 : am_I} {uk u : am_U} (hK : KeptR I uk) (hRs : Rest I) (R1 : RRep I1 8 u) (C1 : CRep I1 9 u) (hO : OKu u) (M2 : MRep I2 67 u) (hS2 : ∀ o, o ∈ am_mc → o ≠ 67 → I2 o = I1 o) (hS : am_only S I I2) (hd : am_dis S (am_rc ++ am_kc) = true) : Inv I2 := by
  refine Inv.main (u := u) ⟨M2, ?_, C1.kept (hS2 9 (by decide) (by decide)), hO⟩ hK hRs hS hd
  have t : ∀ t ∈ TR 8, t.1 ∈ am_mc ∧ t.1 ≠ 67 := by decide +kernel
  refine ⟨R1.1.kept (fun x hx => hS2 _ (t x hx).1 (t x hx).2), ?_⟩
  show RuR (I2 17) u
  rw [hS2 17 (by decide) (by decide)]
  exact R1.2
/-- the day's worth when number j stands at v -/
def sp_by (u : am_U) (j : Nat) (v : Nat) : Int32 := nI (sp_rW (upN u j v) (u 1 - u 0))
section
variable {L : Nat} {xs : Nat → Int32} {J : am_J} {d : Nat} {Q : am_Q}
theorem x_by_loop (hJ : am_Cl am_meth L xs J) {I0 : am_I} {u : am_U} {r k j most : Nat} (hr : r = 12 ∨ r = 13) (hk : k < 6) (ht : am_t r k j = true) (hj : 5 < j) (hjm : ∀ k, k < 6 → 42 + 6 * k ≠ j ∧ 43 + 6 * k ≠ j) (hC : CRep I0 9 u) (hO : ∀ v, v ≤ most → OKu (upN u j v)) (hO0 : OKu u) (hm : most ≤ 9) (h : ∀ I : am_I, (∀ o, o ≠ r → o ≠ 52 → o ≠ 18 → I o = I0 o) → RRep I 8 u → Q (some (.int (sp_bb (sp_by u j) (most + 1)).1)) I) : ∀ (n v : Nat) (I : am_I) (z : Option Value) (y : Nat), v + n = most + 1 → (∀ o, o ≠ r → o ≠ 52 → o ≠ 18 → I o = I0 o) → RRep I 8 (upN u j y) → J (d + 6) q_X_mostWorthBy 14 [some (.ref 0), some (.ref r), some (.int (nI k)), some (.int (nI most)), some (.int (nI (u j))), some (.int (sp_bb (sp_by u j) v).1), some (.int (sp_bb (sp_by u j) v).2), some (.int (nI v)), z] [] I Q
  | 0, v, I, z, y, hn, hI, hR => by
    have gk : vp_in (nI k) 6 := vp_in_nI hk (by omega)
    have ek : (nI k).toNatClampNeg = k := nI_clamp (by omega)
    have ev : v = most + 1 := by omega
    subst ev
    have R' : RRep (am_put I r k (nI (u j))) 8 u := by
      have e : upN (upN u j y) j (u j) = u := by rw [upN_twice, upN_same rfl]
      have q1 := Rel8_put (n := u j) hR.1 ht rfl
      have q2 : RuR (am_put I r k (nI (u j)) 17) (upN (upN u j y) j (u j)) := by
        rw [am_put_o (by omega)]
        simp only [am_t, Bool.and_eq_true, decide_eq_true_eq] at ht
        exact RuR.up hR.2 ht.1.1.1.1.1.2
      rw [e] at q1 q2
      exact ⟨q1, q2⟩
    have k9 := h (am_put I r k (nI (u j))) (fun o h1 h2 h3 => by rw [am_put_o h1]; exact hI o h1 h2 h3) R'
    rcases hr with rfl | rfl
    all_goals
      refine am_vcl hJ [14] 200 ?_
      refine br_t (by show nI most < nI (most + 1); exact nI_lt (by omega) (by omega)) ?_
      refine ⟨gk, ?_⟩
      conv => whnf
      rw [ek]
      exact k9
  | n + 1, v, I, z, y, hn, hI, hR => by
    have gk : vp_in (nI k) 6 := vp_in_nI hk (by omega)
    have ek : (nI k).toNatClampNeg = k := nI_clamp (by omega)
    have hv : v ≤ most := by omega
    have Ov := hO v hv
    have oc := hO0.Cn
    have R1 : RRep (am_put I r k (nI v)) 8 (upN u j v) := by
      have q1 := Rel8_put (n := v) hR.1 ht rfl
      have q2 : RuR (am_put I r k (nI v) 17) (upN (upN u j y) j v) := by
        rw [am_put_o (by omega)]
        simp only [am_t, Bool.and_eq_true, decide_eq_true_eq] at ht
        exact RuR.up hR.2 ht.1.1.1.1.1.2
      rw [upN_twice] at q1 q2
      exact ⟨q1, q2⟩
    have C1 : CRep (am_put I r k (nI v)) 9 (upN u j v) := by
      refine CRep.keptu (hC.kept ?_) (upN_n (by omega)) (upN_n (by omega)) (upN_n (by omega)) (upN_n (by omega)) (fun k' hk' => ⟨upN_n (hjm k' hk').1, upN_n (hjm k' hk').2⟩)
      rw [am_put_o (by omega)]
      exact hI 9 (by omega) (by decide) (by decide)
    have e10 : upN u j v 1 - upN u j v 0 = u 1 - u 0 := by rw [upN_n (by omega), upN_n (by omega)]
    have em : (if upN u j v 1 - upN u j v 0 < 16 then upN u j v 1 - upN u j v 0 else 16) = u 1 - u 0 := by
      rw [e10]
      split <;> omega
    have ih := fun I z => x_by_loop hJ hr hk ht hj hjm hC hO hO0 hm h n (v + 1) I z v
    rw [sp_bb_succ] at ih
    have cont : ∀ I1 : am_I, (∀ o, o ≠ 52 → o ≠ 18 → I1 o = am_put I r k (nI v) o) → (sp_by u j v ≤ (sp_bb (sp_by u j) v).2 → J (d + 6) q_X_mostWorthBy 14 [some (.ref 0), some (.ref r), some (.int (nI k)), some (.int (nI most)), some (.int (nI (u j))), some (.int (sp_bb (sp_by u j) v).1), some (.int (sp_bb (sp_by u j) v).2), some (.int (nI v + 1)), some (.int (sp_by u j v))] [] I1 Q) ∧ (¬ sp_by u j v ≤ (sp_bb (sp_by u j) v).2 → J (d + 6) q_X_mostWorthBy 14 [some (.ref 0), some (.ref r), some (.int (nI k)), some (.int (nI most)), some (.int (nI (u j))), some (.int (nI v)), some (.int (sp_by u j v)), some (.int (nI v + 1)), some (.int (sp_by u j v))] [] I1 Q) := by
      intro I1 q1
      have f1 : ∀ o, o ≠ r → o ≠ 52 → o ≠ 18 → I1 o = I0 o := fun o h1 h2 h3 => by rw [q1 o h2 h3, am_put_o h1]; exact hI o h1 h2 h3
      have R2 : RRep I1 8 (upN u j v) := R1.offc (c := 52) (by decide) q1
      have k9 := ih I1 (some (.int (sp_by u j v))) (by omega) f1 R2
      rw [← nI_1] at k9
      refine ⟨fun g => ?_, fun g => ?_⟩
      · rw [if_pos g] at k9
        exact k9
      · rw [if_neg g] at k9
        exact k9
    rcases hr with rfl | rfl
    all_goals
      refine am_vcl hJ [14] 200 ?_
      refine br_f (by show ¬ nI most < nI v; rw [nI_ltI (by omega) (by omega)]; omega) ?_
      refine ⟨gk, ?_⟩
      conv => whnf
      rw [ek]
      refine x_worthOfRest (n := 16) hJ R1 C1 Ov (by decide) (fun I1 q1 => ?_)
      rw [em]
      exact cont I1 q1
theorem m_by_loop (hJ : am_Cl am_meth L xs J) {I0 : am_I} {u : am_U} {cd : Nat → Int32} {f k most : Nat} (hk : k < 6) (hf : f < 4) (hRu : RuR cd u) (hO : ∀ v, v ≤ most → OKu (upN u (38 + 6 * k + f) v)) (hO0 : OKu u) (hm : most ≤ 9) (hL : LaidR I0 u) (h : ∀ I : am_I, (∀ o, o ≠ 67 → o ≠ 70 → I o = I0 o) → MRep I 67 u → Q (some (.int (sp_bb (sp_by u (38 + 6 * k + f)) (most + 1)).1)) I) : ∀ (n v : Nat) (I : am_I) (z : Option Value), v + n = most + 1 → (∀ o, o ≠ 67 → o ≠ 70 → I o = I0 o) → MRep I 67 u → J (d + 8) q_M_bestFor 23 [some (.ref 66), some (.int (nI k)), some (.int (nI f)), some (.int (nI most)), some (.int (sp_bb (sp_by u (38 + 6 * k + f)) v).1), some (.int (sp_bb (sp_by u (38 + 6 * k + f)) v).2), some (.int (nI v)), z] [] I Q
  | 0, v, I, z, hn, hI, hM => by
    have ev : v = most + 1 := by omega
    subst ev
    refine am_vcl hJ [23] 200 ?_
    refine br_t (by show nI most < nI (most + 1); exact nI_lt (by omega) (by omega)) ?_
    exact h I hI hM
  | n + 1, v, I, z, hn, hI, hM => by
    have hv : v ≤ most := by omega
    have Ov := hO v hv
    have oc := hO0.Cn
    have ih := fun I z => m_by_loop hJ hk hf hRu hO hO0 hm hL h n (v + 1) I z
    rw [sp_bb_succ] at ih
    have e10 : upN u (38 + 6 * k + f) v 1 - upN u (38 + 6 * k + f) v 0 = u 1 - u 0 := by rw [upN_n (by omega), upN_n (by omega)]
    have em : (if upN u (38 + 6 * k + f) v 1 - upN u (38 + 6 * k + f) v 0 < 16 then upN u (38 + 6 * k + f) v 1 - upN u (38 + 6 * k + f) v 0 else 16) = u 1 - u 0 := by
      rw [e10]
      split <;> omega
    have Rv : RuR cd (upN u (38 + 6 * k + f) v) := hRu.keptu (upN_n (by omega)) (fun j hj => upN_n (by omega))
    refine am_vcl hJ [23, 77] 200 ?_
    refine br_f (by show ¬ nI most < nI v; rw [nI_ltI (by omega) (by omega)]; omega) ?_
    refine m_puts hJ (a := k) (b := f) rfl rfl hk (by omega) ?_
    refine m_restOf (n := 16) hJ (hM.up rfl) Rv Ov (by decide) (fun I1 q1 M1 => ?_)
    rw [em] at M1 ⊢
    have f1 : ∀ o, o ≠ 67 → o ≠ 70 → I1 o = I0 o := fun o h1 h2 => by rw [q1 o h1 h2, am_put_o h1]; exact hI o h1 h2
    have hs : ∀ j, 74 ≤ j → sp_rU (upN u (38 + 6 * k + f) v) (u 1 - u 0) j = u j := fun j hj => by
      rw [(sp_rU_ok Ov (u 1 - u 0) (by omega)).2.1.hi j hj, upN_n (by omega)]
    have fin : ∀ b w : Int32, (b, w) = (if sp_by u (38 + 6 * k + f) v ≤ (sp_bb (sp_by u (38 + 6 * k + f)) v).2 then sp_bb (sp_by u (38 + 6 * k + f)) v else (nI v, sp_by u (38 + 6 * k + f) v)) → J (d + 8) q_M_bestFor 77 [some (.ref 66), some (.int (nI k)), some (.int (nI f)), some (.int (nI most)), some (.int b), some (.int w), some (.int (nI v)), some (.int (sp_by u (38 + 6 * k + f) v))] [] I1 Q := by
      intro b w hbw
      rw [← hbw] at ih
      refine am_vcc hJ [23] 200 _ _ _ _ _ _ _ ?_
      refine m_layBack hJ M1 (hL.kept (f1 69 (by decide) (by decide))) hs (fun I2 q2 M2 => ?_)
      have k9 := ih I2 (some (.int (sp_by u (38 + 6 * k + f) v))) (by omega) (fun o h1 h2 => by rw [q2 o h1]; exact f1 o h1 h2) M2
      rw [← nI_1] at k9
      exact k9
    by_cases g : sp_by u (38 + 6 * k + f) v ≤ (sp_bb (sp_by u (38 + 6 * k + f)) v).2
    · rw [if_pos g] at fin
      refine br_t g ?_
      refine br_t g ?_
      exact fin _ _ rfl
    · rw [if_neg g] at fin
      refine br_f g ?_
      refine br_f g ?_
      exact fin _ _ rfl
theorem op_by (hJ : am_Cl am_meth L xs J) {I : am_I} {u uk : am_U} {r k j f most : Nat} (hI : Inv I) (hMn : Main I 8 9 67 u) (hK : KeptR I uk) (hRs : Rest I) (hr : r = 12 ∧ f = 2 ∨ r = 13 ∧ f = 3) (hk : k < u 6) (hjf : j = 38 + 6 * k + f) (ht : am_t r k j = true) (hm : most ≤ 9) (hO : ∀ v, v ≤ most → OKu (upN u j v)) (Qc : am_I → Prop) (hQc : ∀ I', Inv I' → Qc I') : J 39 q_X_mostWorthBy 0 [some (.ref 0), some (.ref r), some (.int (nI k)), some (.int (nI most)), none, none, none, none, none] [] I (fun r1 I1 => ∃ v, r1 = some (.int v) ∧ J 39 q_M_bestFor 0 [some (.ref 66), some (.int (nI k)), some (.int (nI f)), some (.int (nI most)), none, none, none, none] [] I1 (fun r2 I2 => r2 = some (.int v) ∧ Qc I2)) := by
  obtain ⟨hM, hR, hC, hO0⟩ := id hMn
  have c1 := hO0.Cn.1
  have hk6 : k < 6 := by omega
  have gk : vp_in (nI k) 6 := vp_in_nI hk6 (by omega)
  have ek : (nI k).toNatClampNeg = k := nI_clamp (by omega)
  have ej : I r k = nI (u j) := hMn.get ht
  have es : upN u j (u j) = u := upN_same rfl
  have st := x_by_loop (d := 33) (I0 := I) (Q := fun r1 I1 => ∃ v, r1 = some (.int v) ∧ J 39 q_M_bestFor 0 [some (.ref 66), some (.int (nI k)), some (.int (nI f)), some (.int (nI most)), none, none, none, none] [] I1 (fun r2 I2 => r2 = some (.int v) ∧ Qc I2)) hJ (r := r) (by omega) hk6 ht (by omega) (fun k' hk' => by omega) hC hO hO0 hm (fun I1 q1 R1 => by
    refine ⟨_, rfl, ?_⟩
    have M1 : MRep I1 67 u := hM.kept (q1 67 (by omega) (by decide) (by decide))
    refine am_vcc hJ [23] 200 _ _ _ _ _ _ _ ?_
    refine m_isPersonY hJ (M1 6 (by decide)) c1 ⟨k, hk, rfl⟩ ?_
    refine br_f (by decide) ?_
    refine m_layDown hJ M1 (fun I2 q2 L2 => ?_)
    have M2 : MRep I2 67 u := M1.kept (q2 67 (by decide))
    subst hjf
    refine m_by_loop (I0 := I2) hJ hk6 (by omega) hR.2 hO hO0 hm L2 (fun I3 q3 M3 => ?_) (most + 1) 0 I2 _ (Nat.zero_add _) (fun _ _ _ => rfl) M2
    refine ⟨rfl, hQc _ ?_⟩
    refine Inv.two (S := [12, 13, 18, 52, 67, 69, 70]) hK hRs R1 (hC.kept (q1 9 (by omega) (by decide) (by decide))) hO0 M3 (fun o ho h67 => ?_) (fun o ho => ?_) (by decide)
    · have h70 : o ≠ 70 ∧ o ≠ 69 := by
        have : ∀ o ∈ am_mc, o ≠ 70 ∧ o ≠ 69 := by decide
        exact this o ho
      rw [q3 o h67 h70.1, q2 o h70.2]
    · simp only [List.mem_cons, List.not_mem_nil, or_false, not_or] at ho
      rw [q3 o ho.2.2.2.2.1 ho.2.2.2.2.2.2, q2 o ho.2.2.2.2.2.1, q1 o (by omega) ho.2.2.2.1 ho.2.2.1]) (most + 1) 0 I none (u j) (Nat.zero_add _) (fun _ _ _ _ => rfl) (by rw [es]; exact hR)
  rcases hr with ⟨rfl, rfl⟩ | ⟨rfl, rfl⟩
  all_goals
    refine am_vcc hJ [14] 200 _ _ _ _ _ _ _ ?_
    refine ⟨gk, ?_⟩
    conv => whnf
    rw [ek, ej]
    exact st
theorem op_taleFor (hJ : am_Cl am_meth L xs J) (a : Int32) : am_same Inv J q_X_taleFor q_M_taleFor [.int a] := by
  intro I hI Qc hQc
  obtain ⟨u, uk, hMn, hK, hRs⟩ := id hI
  obtain ⟨hM, hR, hC, hO⟩ := id hMn
  obtain ⟨c1, c2, c3, c4, c5, c6, c7⟩ := hO.Cn
  have x6 : I 8 2 = nI (u 6) := hMn.get (j := 6) (by decide +kernel)
  have m6 : I 67 6 = nI (u 6) := hM 6 (by decide)
  by_cases h1 : ∃ j, j < u 6 ∧ a = nI j
  · obtain ⟨k, hk, rfl⟩ := id h1
    have hk6 : k < 6 := by omega
    refine am_vc hJ 20 _ _ _ _ _ _ _ ?_
    refine x_hasY hJ x6 c1 h1 ?_
    refine br_f (by decide) ?_
    refine hJ.2 _ _ _ _ _ _ _ _ ?_ (op_by (r := 12) (f := 2) (most := 9) (j := 40 + 6 * k) hJ hI hMn hK hRs (Or.inl ⟨rfl, rfl⟩) hk (by omega) (am_t10 k hk6).2.2.1 (by decide) (fun v hv => ?_) Qc hQc)
    · rintro r1 I1 ⟨v, rfl, h2⟩
      refine ⟨v, rfl, ?_⟩
      refine am_vc hJ 20 _ _ _ _ _ _ _ ?_
      refine hJ.2 _ _ _ _ _ _ _ _ ?_ h2
      rintro r2 I2 ⟨rfl, h3⟩
      exact ⟨rfl, h3⟩
    · have := OKu.upP (f := 2) (m := 9) (n := v) hO hk (by decide) hv (fun q hq e => (am_okbP q hq k hk6).2.2.1 (by omega)) (by omega)
      rw [show 38 + 6 * k + 2 = 40 + 6 * k by omega] at this
      exact this
  · refine am_vc hJ 20 _ _ _ _ _ _ _ ?_
    refine x_hasN hJ x6 c1 h1 ?_
    refine br_t (by decide) ?_
    refine ⟨_, rfl, ?_⟩
    refine am_vc hJ 20 _ _ _ _ _ _ _ ?_
    refine am_vc hJ 20 _ _ _ _ _ _ _ ?_
    refine m_isPersonN hJ m6 c1 h1 ?_
    refine br_t (by decide) ?_
    exact ⟨rfl, hQc _ hI⟩
theorem op_gateFor (hJ : am_Cl am_meth L xs J) (a : Int32) : am_same Inv J q_X_gateFor q_M_gateFor [.int a] := by
  intro I hI Qc hQc
  obtain ⟨u, uk, hMn, hK, hRs⟩ := id hI
  obtain ⟨hM, hR, hC, hO⟩ := id hMn
  obtain ⟨c1, c2, c3, c4, c5, c6, c7⟩ := hO.Cn
  have x6 : I 8 2 = nI (u 6) := hMn.get (j := 6) (by decide +kernel)
  have m6 : I 67 6 = nI (u 6) := hM 6 (by decide)
  by_cases h1 : ∃ j, j < u 6 ∧ a = nI j
  · obtain ⟨k, hk, rfl⟩ := id h1
    have hk6 : k < 6 := by omega
    refine am_vc hJ 20 _ _ _ _ _ _ _ ?_
    refine x_hasY hJ x6 c1 h1 ?_
    refine br_f (by decide) ?_
    refine hJ.2 _ _ _ _ _ _ _ _ ?_ (op_by (r := 13) (f := 3) (most := 5) (j := 41 + 6 * k) hJ hI hMn hK hRs (Or.inr ⟨rfl, rfl⟩) hk (by omega) (am_t10 k hk6).2.2.2 (by decide) (fun v hv => ?_) Qc hQc)
    · rintro r1 I1 ⟨v, rfl, h2⟩
      refine ⟨v, rfl, ?_⟩
      refine am_vc hJ 20 _ _ _ _ _ _ _ ?_
      refine hJ.2 _ _ _ _ _ _ _ _ ?_ h2
      rintro r2 I2 ⟨rfl, h3⟩
      exact ⟨rfl, h3⟩
    · have := OKu.upP (f := 3) (m := 5) (n := v) hO hk (by decide) hv (fun q hq e => (am_okbP q hq k hk6).2.2.2.1 (by omega)) (by omega)
      rw [show 38 + 6 * k + 3 = 41 + 6 * k by omega] at this
      exact this
  · refine am_vc hJ 20 _ _ _ _ _ _ _ ?_
    refine x_hasN hJ x6 c1 h1 ?_
    refine br_t (by decide) ?_
    refine ⟨_, rfl, ?_⟩
    refine am_vc hJ 20 _ _ _ _ _ _ _ ?_
    refine am_vc hJ 20 _ _ _ _ _ _ _ ?_
    refine m_isPersonN hJ m6 c1 h1 ?_
    refine br_t (by decide) ?_
    exact ⟨rfl, hQc _ hI⟩
end
