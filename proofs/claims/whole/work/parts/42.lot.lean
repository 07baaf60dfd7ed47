/-! LOTS -/
def sp_nx (z : Int32) : Int32 := z * 1103515245 + 12345
def sp_hi (z : Int32) : Nat := z.toBitVec.toNat / 65536
theorem sp_hi_lt (z : Int32) : sp_hi z < 65536 := by
  have := z.toBitVec.isLt
  unfold sp_hi
  omega
theorem sp_hi_eq (z : Int32) : (z.toUInt32 >>> ((16 : Int32).toUInt32 &&& Int32.toUInt32 31)).toInt32 = nI (sp_hi z) := by
  apply Int32.toBitVec_inj.mp
  show (z.toUInt32 >>> ((nI 16).toUInt32 &&& Int32.toUInt32 31)).toBitVec = BitVec.ofNat 32 (sp_hi z)
  rw [UInt32.toBitVec_shiftRight]
  show (z.toUInt32.toBitVec >>> (((nI 16).toUInt32 &&& Int32.toUInt32 31).toBitVec % 32).toNat) = _
  rw [s_u 16 (by decide)]
  apply BitVec.eq_of_toNat_eq
  rw [BitVec.toNat_ushiftRight, Nat.shiftRight_eq_div_pow, BitVec.toNat_ofNat]
  have := sp_hi_lt z
  rw [Nat.mod_eq_of_lt (by omega)]
  rfl
def sp_act (z : Int32) (n : Nat) : Nat := sp_hi z % (n + 1)
theorem sp_act_le {z : Int32} {n : Nat} : sp_act z n ≤ n := by
  have := Nat.mod_lt (sp_hi z) (show 0 < n + 1 by omega)
  unfold sp_act
  omega
theorem sp_act_eq {z : Int32} {n : Nat} (hn : n ≤ 6) : (z.toUInt32 >>> ((16 : Int32).toUInt32 &&& Int32.toUInt32 31)).toInt32 - (z.toUInt32 >>> ((16 : Int32).toUInt32 &&& Int32.toUInt32 31)).toInt32 / (nI n + 1) * (nI n + 1) = nI (sp_act z n) := by
  have := sp_hi_lt z
  rw [sp_hi_eq, nI_1, pk_rem (by omega) (by omega) (by omega)]
  rfl
/-! the numbers don't know the lot -/
section
variable {u : am_U} {z : Nat}
theorem u5_snowD : sp_snowD (upN u 5 z) = sp_snowD u := by
  unfold sp_snowD
  rw [upN_n (i := 0) (by omega), upN_n (i := 3) (by omega), upN_n (i := 10 + u 0) (by omega)]
theorem u5_s : sp_s (upN u 5 z) = upN (sp_s u) 5 z := by
  unfold sp_s
  rw [u5_snowD, upN_comm (by decide)]
theorem u5_still {k : Nat} : sp_still (upN u 5 z) k = sp_still u k := by
  unfold sp_still
  rw [upN_n (i := 38 + 6 * k) (by omega), upN_n (i := 40 + 6 * k) (by omega), upN_n (i := 0) (by omega), upN_n (i := 41 + 6 * k) (by omega), upN_n (i := 26 + u (41 + 6 * k)) (by omega), upN_n (i := 42 + 6 * k) (by omega)]
theorem u5_F {k : Nat} : sp_F (upN u 5 z) k = sp_F u k := by
  funext w
  unfold sp_F sp_known
  rw [u5_still, upN_n (i := 0) (by omega), upN_n (i := 40 + 6 * k) (by omega), upN_n (i := 3) (by omega)]
theorem u5_holds {r : Nat} {F : Nat → Nat} : sp_holds (upN u 5 z) r F = sp_holds u r F := by
  have e1 : sp_beg (upN u 5 z) r = sp_beg u r := by
    unfold sp_beg
    rw [upN_n (by omega)]
  have e2 : sp_end (upN u 5 z) r = sp_end u r := by
    unfold sp_end
    rw [upN_n (by omega)]
  have e3 : sp_steps (upN u 5 z) r = sp_steps u r := by
    unfold sp_steps
    rw [e1, e2]
    exact List.map_congr_left (fun i _ => upN_n (by omega))
  unfold sp_holds
  rw [e3]
theorem u5_wl {kd : Nat} {F : Nat → Nat} : ∀ n r, sp_wl (upN u 5 z) kd F n r = sp_wl u kd F n r
  | 0, _ => rfl
  | n + 1, r => by
    rw [sp_wl_succ, sp_wl_succ, u5_wl n (r + 1), u5_holds, upN_n (i := 98 + 3 * r) (by omega), upN_n (i := 98 + 3 * r + 1) (by omega)]
theorem u5_will {k : Nat} : sp_will (upN u 5 z) k = sp_will u k := by
  unfold sp_will
  rw [u5_wl, u5_F, upN_n (i := 38 + 6 * k) (by omega), upN_n (i := 7) (by omega)]
theorem u5_lf {k : Nat} : sp_lf (upN u 5 z) k = sp_lf u k := by
  unfold sp_lf
  rw [u5_still, upN_n (i := 4) (by omega)]
theorem u5_eats {k : Nat} : sp_eats (upN u 5 z) k = sp_eats u k := by
  unfold sp_eats
  rw [upN_n (i := 38 + 6 * k) (by omega)]
theorem u5_brk {k : Nat} : sp_brk (upN u 5 z) k = upN (sp_brk u k) 5 z := by
  unfold sp_brk
  rw [u5_lf, u5_eats, upN_n (i := 39 + 6 * k) (by omega)]
  split
  · rw [upN_comm (i := 5) (j := 4) (by omega), upN_comm (i := 5) (j := 43 + 6 * k) (by omega), upN_comm (i := 5) (j := 4) (by omega)]
  · rw [upN_comm (i := 5) (j := 4) (by omega)]
theorem u5_brkW {k : Nat} : sp_brkW (upN u 5 z) k = sp_brkW u k := by
  unfold sp_brkW
  rw [u5_lf, u5_still, upN_n (i := 39 + 6 * k) (by omega), upN_n (i := 43 + 6 * k) (by omega)]
theorem u5_mt {k : Nat} : sp_mt (upN u 5 z) k = sp_mt u k := by
  unfold sp_mt
  rw [upN_n (i := 42 + 6 * k) (by omega)]
theorem u5_meetU {k : Nat} : sp_meetU (upN u 5 z) k = upN (sp_meetU u k) 5 z := by
  unfold sp_meetU
  rw [u5_will, u5_mt, u5_brk]
  split
  · rfl
  · split
    · rw [upN_comm (by omega)]
    · rw [upN_comm (by omega)]
theorem u5_meetW {k : Nat} : sp_meetW (upN u 5 z) k = sp_meetW u k := by
  unfold sp_meetW
  rw [u5_will, u5_brkW]
theorem u5_tk {k : Nat} : sp_tk (upN u 5 z) k ↔ sp_tk u k := by
  unfold sp_tk
  rw [upN_n (i := 3) (by omega), upN_n (i := 41 + 6 * k) (by omega), upN_n (i := 32 + u (41 + 6 * k)) (by omega)]
theorem u5_goW {a : Nat} : sp_goW (upN u 5 z) a = sp_goW u a := by
  unfold sp_goW
  rw [u5_s, u5_meetW]
  simp only [u5_tk]
theorem u5_goU {a : Nat} : sp_goU (upN u 5 z) a = upN (sp_goU u a) 5 z := by
  have e : sp_goV (upN u 5 z) a = upN (sp_goV u a) 5 z := by
    unfold sp_goV
    rw [u5_s, u5_meetU]
    simp only [u5_tk]
    split <;> rfl
  unfold sp_goU sp_fin
  rw [e, u5_goW, upN_n (i := 4) (by omega), upN_n (i := 3) (by omega), upN_n (i := 0) (by omega), upN_n (i := 2) (by omega), upN_comm (i := 5) (j := 4) (by omega), upN_comm (i := 5) (j := 0) (by omega), upN_comm (i := 5) (j := 2) (by omega)]
end
theorem am_okb5 : ∀ q ∈ OKb, q.1 ≠ 5 := by decide +kernel
theorem OKu.up5 {u : am_U} {n : Nat} (h : OKu u) : OKu (upN u 5 n) := h.up0 (fun q hq e => absurd e (am_okb5 q hq)) (by omega)
section
variable {L : Nat} {xs : Nat → Int32} {J : am_J} {d : Nat} {Q : am_Q}
theorem x_nextChance (hJ : am_Cl am_meth L xs J) {I : am_I} {z : Int32} (h : Q (some (.int (sp_nx z))) I) : J d q_X_nextChance 0 [some (.int z)] [] I Q := by
  refine am_vc hJ 8 _ _ _ _ _ _ _ ?_
  exact h
theorem x_actByChance (hJ : am_Cl am_meth L xs J) {I : am_I} {z : Int32} {n : Nat} (h6 : I 8 2 = nI n) (hn : n ≤ 6) (h : Q (some (.int (nI (sp_act z n)))) I) : J d q_X_actByChance 0 [some (.ref 0), some (.int z)] [] I Q := by
  refine am_vc hJ 20 _ _ _ _ _ _ _ ?_
  refine ⟨by show ¬ I 8 2 + 1 = 0; rw [h6, nI_1, show (0 : Int32) = nI 0 from rfl, nI_eq (by omega) (by omega)]; omega, ?_⟩
  show Q (some (.int ((z.toUInt32 >>> ((16 : Int32).toUInt32 &&& Int32.toUInt32 31)).toInt32 - (z.toUInt32 >>> ((16 : Int32).toUInt32 &&& Int32.toUInt32 31)).toInt32 / (I 8 2 + 1) * (I 8 2 + 1)))) I
  rw [h6, sp_act_eq hn]
  exact h
/-- the lot's number after -/
def sp_z (z : Int32) : Nat := z.toBitVec.toNat
theorem sp_z_eq (z : Int32) : nI (sp_z z) = z := (am_nIof z).symm
theorem m_byLot (hJ : am_Cl am_meth L xs J) {I : am_I} {u : am_U} {cd : Nat → Int32} (hM : MRep I 67 u) (hRu : RuR cd u) (hO : OKu u) (h : ∀ I' : am_I, (∀ o, o ≠ 67 → o ≠ 70 → I' o = I o) → MRep I' 67 (sp_goU (upN u 5 (sp_z (sp_nx (nI (u 5))))) (sp_act (sp_nx (nI (u 5))) (u 6))) → Q (some (.int (nI (sp_goW (upN u 5 (sp_z (sp_nx (nI (u 5))))) (sp_act (sp_nx (nI (u 5))) (u 6)))))) I') : J (d + 7) q_M_byLot 0 [some (.ref 66)] [] I Q := by
  have c1 := hO.Cn.1
  have e5 : I 67 5 = nI (u 5) := hM 5 (by decide)
  have M1 : MRep (am_put I 67 5 (nI (sp_z (sp_nx (nI (u 5)))))) 67 (upN u 5 (sp_z (sp_nx (nI (u 5))))) := hM.up rfl
  have e6 : am_put I 67 5 (nI (sp_z (sp_nx (nI (u 5))))) 67 6 = nI (u 6) := by rw [put_nk (by decide)]; exact hM 6 (by decide)
  refine am_vc hJ 60 _ _ _ _ _ _ _ ?_
  refine ⟨am_vin (by decide), ?_⟩
  refine ⟨am_vin (by decide), ?_⟩
  refine ⟨am_vin (by decide), ?_⟩
  refine ⟨am_vin (by decide), ?_⟩
  have ez : I 67 5 * 1103515245 + 12345 = nI (sp_z (sp_nx (nI (u 5)))) := by rw [e5, sp_z_eq]; rfl
  conv => whnf
  show ¬ am_put I 67 5 (I 67 5 * 1103515245 + 12345) 67 6 + 1 = 0 ∧ _
  rw [ez]
  refine ⟨by rw [e6, nI_1, show (0 : Int32) = nI 0 from rfl, nI_eq (by omega) (by omega)]; omega, ?_⟩
  have ea : am_put I 67 5 (nI (sp_z (sp_nx (nI (u 5))))) 67 5 = sp_nx (nI (u 5)) := by rw [put_at, sp_z_eq]
  conv => whnf
  show J (d + 6) q_M_goesBy 0 [some (.ref 66), some (.int (((am_put I 67 5 (I 67 5 * 1103515245 + 12345) 67 5).toUInt32 >>> ((16 : Int32).toUInt32 &&& Int32.toUInt32 31)).toInt32 - ((am_put I 67 5 (I 67 5 * 1103515245 + 12345) 67 5).toUInt32 >>> ((16 : Int32).toUInt32 &&& Int32.toUInt32 31)).toInt32 / (am_put I 67 5 (I 67 5 * 1103515245 + 12345) 67 6 + 1) * (am_put I 67 5 (I 67 5 * 1103515245 + 12345) 67 6 + 1))), none, none] [] (am_put I 67 5 (I 67 5 * 1103515245 + 12345)) _
  rw [ez, ea, e6, sp_act_eq c1]
  refine m_goesBy hJ M1 (hRu.keptu (upN_n (by decide)) (fun j hj => upN_n (by omega))) hO.up5 sp_act_le (fun I' q1 q2 => ?_)
  exact h I' (fun o h1 h2 => by rw [q1 o h1 h2, am_put_o h1]) q2
theorem op_lot (hJ : am_Cl am_meth L xs J) : am_same Inv J q_X_lot q_M_lot [] := by
  intro I hI Qc hQc
  obtain ⟨u, uk, hMn, hK, hRs⟩ := id hI
  obtain ⟨hM, hR, hC, hO⟩ := id hMn
  obtain ⟨c1, c2, c3, c4, c5, c6, c7⟩ := hO.Cn
  have hc : 9 ∈ am_cl := by decide
  refine am_vc hJ 60 _ _ _ _ _ _ _ ?_
  refine x_isOver hJ hc hR.1 hC hO (fun q => ?_) (fun q => ?_)
  · refine br_f (by decide) ?_
    refine ⟨_, rfl, ?_⟩
    refine am_vc hJ 20 _ _ _ _ _ _ _ ?_
    refine m_isOver hJ (hM 0 (by decide)) (hM 1 (by decide)) c2 c3 (fun q2 => ?_) (fun q2 => by omega)
    refine br_f (by decide) ?_
    exact ⟨rfl, hQc _ hI⟩
  · refine br_t (by decide) ?_
    have e5 : I 8 11 = nI (u 5) := hMn.get (j := 5) (by decide +kernel)
    have ht : am_t 8 11 5 = true := by decide +kernel
    refine x_nextChance hJ ?_
    conv => whnf
    rw [e5]
    have ez : sp_nx (nI (u 5)) = nI (sp_z (sp_nx (nI (u 5)))) := (sp_z_eq _).symm
    have R1 : RRep (am_put I 8 11 (sp_nx (nI (u 5)))) 8 (upN u 5 (sp_z (sp_nx (nI (u 5))))) := by
      refine ⟨Rel8_put (n := sp_z (sp_nx (nI (u 5)))) hR.1 ht ez, ?_⟩
      show RuR (am_put I 8 11 (sp_nx (nI (u 5))) 17) _
      rw [am_put_o (by decide)]
      exact hR.2.up (by decide)
    have C1 : CRep (am_put I 8 11 (sp_nx (nI (u 5)))) 9 (upN u 5 (sp_z (sp_nx (nI (u 5))))) := by
      refine CRep.keptu (hC.kept (am_put_o (by decide))) (upN_n (by decide)) (upN_n (by decide)) (upN_n (by decide)) (upN_n (by decide)) (fun k hk => ⟨upN_n (by omega), upN_n (by omega)⟩)
    have x6 : am_put I 8 11 (sp_nx (nI (u 5))) 8 2 = nI (u 6) := by rw [put_nk (by decide)]; exact hMn.get (j := 6) (by decide +kernel)
    have O1 : OKu (upN u 5 (sp_z (sp_nx (nI (u 5))))) := hO.up5
    rw [put_at]
    refine x_actByChance hJ x6 c1 ?_
    refine x_goBy hJ hc R1 C1 O1 sp_act_le (fun I2 q2 R2 C2 => ?_)
    refine ⟨_, rfl, ?_⟩
    have M2 : MRep I2 67 u := hM.kept (by rw [q2 67 (by decide) (by decide), am_put_o (by decide)])
    refine am_vc hJ 20 _ _ _ _ _ _ _ ?_
    refine m_isOver hJ (M2 0 (by decide)) (M2 1 (by decide)) c2 c3 (fun q2 => by omega) (fun _ => ?_)
    refine br_t (by decide) ?_
    refine m_byLot hJ M2 hR.2 hO (fun I3 q3 M3 => ?_)
    refine ⟨rfl, hQc _ (Inv.two (S := [8, 9, 18, 67, 70]) hK hRs R2 C2 (sp_goU_ok O1 sp_act_le q) M3 (fun o ho h67 => ?_) (fun o ho => ?_) (by decide))⟩
    · exact q3 o h67 (by rintro rfl; revert ho; decide)
    · simp only [List.mem_cons, List.not_mem_nil, or_false, not_or] at ho
      rw [q3 o ho.2.2.2.1 ho.2.2.2.2, q2 o ho.2.1 ho.2.2.1, am_put_o ho.1]
/-! times -/
def sp_zN (z : Int32) : Nat → Int32
  | 0 => z
  | n + 1 => sp_nx (sp_zN z n)
def sp_lU (u : am_U) (z : Int32) : Nat → am_U
  | 0 => u
  | n + 1 => sp_goU (sp_lU u z n) (sp_act (sp_zN z (n + 1)) (u 6))
def sp_lW (u : am_U) (z : Int32) : Nat → Nat
  | 0 => 0
  | n + 1 => sp_lW u z n + sp_goW (sp_lU u z n) (sp_act (sp_zN z (n + 1)) (u 6))
theorem sp_lU_ok {u : am_U} {z : Int32} (h : OKu u) : ∀ n, n ≤ u 1 - u 0 → OKu (sp_lU u z n) ∧ SameR u (sp_lU u z n) ∧ sp_lU u z n 0 = u 0 + n
  | 0, _ => ⟨h, SameR.refl u, rfl⟩
  | n + 1, hn => by
    obtain ⟨a, b, c⟩ := sp_lU_ok (z := z) h n (by omega)
    have e1 : sp_lU u z n 1 = u 1 := b 1 (by decide)
    have e6 : sp_lU u z n 6 = u 6 := b 6 (by decide)
    have hlt : sp_lU u z n 0 < sp_lU u z n 1 := by omega
    have ha : sp_act (sp_zN z (n + 1)) (u 6) ≤ sp_lU u z n 6 := by rw [e6]; exact sp_act_le
    refine ⟨sp_goU_ok a ha hlt, b.trans (sp_goU_same a ha), ?_⟩
    show sp_goU (sp_lU u z n) _ 0 = _
    rw [(sp_goU_0 a ha).1, c]
    omega
theorem sp_lW_le {u : am_U} {z : Int32} (h : OKu u) : ∀ n, n ≤ u 1 - u 0 → sp_lW u z n ≤ 36 * n
  | 0, _ => Nat.le_refl _
  | n + 1, hn => by
    have ih := sp_lW_le (z := z) h n (by omega)
    obtain ⟨a, b, c⟩ := sp_lU_ok (z := z) h n (by omega)
    have e6 : sp_lU u z n 6 = u 6 := b 6 (by decide)
    have := sp_goW_le (act := sp_act (sp_zN z (n + 1)) (u 6)) a (by rw [e6]; exact sp_act_le)
    show sp_lW u z n + sp_goW (sp_lU u z n) _ ≤ _
    omega
/-- the lot and the count of good ones behind so many trials -/
def sp_tr (u : am_U) (z : Int32) (v : Nat) : Nat → Int32 × Nat
  | 0 => (z, 0)
  | t + 1 => (sp_zN (sp_tr u z v t).1 (u 1 - u 0), (sp_tr u z v t).2 + if v ≤ sp_lW u (sp_tr u z v t).1 (u 1 - u 0) then 1 else 0)
theorem x_trial (hJ : am_Cl am_meth L xs J) {I0 : am_I} {u : am_U} {z : Int32} (hO : OKu u) {p1 p2 p4 p5 : Option Value} (h : ∀ I : am_I, (∀ o, o ≠ 52 → o ≠ 18 → I o = I0 o) → J (d + 5) q_X_times 89 [some (.ref 0), p1, p2, some (.int (sp_zN z (u 1 - u 0))), p4, p5, some (.int (nI (sp_lW u z (u 1 - u 0)))), some (.int 0)] [] I Q) : ∀ (n i : Nat) (I : am_I), i + n = u 1 - u 0 → (∀ o, o ≠ 52 → o ≠ 18 → I o = I0 o) → RRep I 8 (sp_lU u z i) → CRep I 52 (sp_lU u z i) → J (d + 5) q_X_times 52 [some (.ref 0), p1, p2, some (.int (sp_zN z i)), p4, p5, some (.int (nI (sp_lW u z i))), some (.int (nI n))] [] I Q
  | 0, i, I, hn, hI, hR, hC => by
    have k9 := h I hI
    rw [show u 1 - u 0 = i by omega] at k9
    refine am_vcl hJ [52, 89] 200 ?_
    refine br_t (by decide) ?_
    exact k9
  | n + 1, i, I, hn, hI, hR, hC => by
    have c1 := hO.Cn
    obtain ⟨a, b, c⟩ := sp_lU_ok (z := z) hO i (by omega)
    have e6 : sp_lU u z i 6 = u 6 := b 6 (by decide)
    have x6 : I 8 2 = nI (u 6) := by rw [hR.1.get 8 2 6 (by decide +kernel), e6]
    refine am_vcl hJ [52, 89] 200 ?_
    refine br_f (by show ¬ nI (n + 1) ≤ nI 0; exact nI_ge (by omega) (by omega)) ?_
    refine x_nextChance hJ ?_
    refine x_actByChance hJ x6 c1.1 ?_
    refine x_goBy hJ (by decide) hR hC a (by rw [e6]; exact sp_act_le) (fun I1 q1 R1 C1 => ?_)
    have k9 := x_trial hJ hO h n (i + 1) I1 (by omega) (fun o h1 h2 => by rw [q1 o h1 h2]; exact hI o h1 h2) R1 C1
    have e1 : nI (n + 1) + (-1) = nI n := by rw [← Int32.sub_eq_add_neg]; exact nI_pred n
    have e2 : nI (sp_lW u z i) + nI (sp_goW (sp_lU u z i) (sp_act (sp_zN z (i + 1)) (u 6))) = nI (sp_lW u z (i + 1)) := nI_add _ _
    rw [← e1, ← e2] at k9
    exact k9
theorem x_times_loop (hJ : am_Cl am_meth L xs J) {I0 : am_I} {u : am_U} {z : Int32} {nn v : Nat} (hR0 : RRep I0 8 u) (hC0 : CRep I0 9 u) (hO : OKu u) (hn40 : nn ≤ 40) (hv : v ≤ 999) (h : ∀ I : am_I, (∀ o, o ≠ 52 → o ≠ 18 → I o = I0 o) → Q (some (.int (nI (sp_tr u z v nn).2))) I) : ∀ (n t : Nat) (I : am_I) (z6 z7 : Option Value), t + n = nn → (∀ o, o ≠ 52 → o ≠ 18 → I o = I0 o) → J (d + 5) q_X_times 37 [some (.ref 0), some (.int (nI nn)), some (.int (nI v)), some (.int (sp_tr u z v t).1), some (.int (nI (sp_tr u z v t).2)), some (.int (nI t)), z6, z7] [] I Q
  | 0, t, I, z6, z7, hn, hI => by
    have k9 := h I hI
    rw [show nn = t by omega] at k9 ⊢
    refine am_vcl hJ [37] 200 ?_
    refine br_t (by show nI t ≤ nI t; exact nI_le (by omega) (by omega)) ?_
    exact k9
  | n + 1, t, I, z6, z7, hn, hI => by
    have c1 := hO.Cn
    have R : RRep I 8 u := hR0.offc (c := 52) (by decide) hI
    have C : CRep I 9 u := hC0.kept (hI 9 (by decide) (by decide))
    have hl := sp_lW_le (z := (sp_tr u z v t).1) hO (u 1 - u 0) (by omega)
    have fin : ∀ I1 : am_I, (∀ o, o ≠ 52 → o ≠ 18 → I1 o = I0 o) → J (d + 5) q_X_times 89 [some (.ref 0), some (.int (nI nn)), some (.int (nI v)), some (.int (sp_zN (sp_tr u z v t).1 (u 1 - u 0))), some (.int (nI (sp_tr u z v t).2)), some (.int (nI t)), some (.int (nI (sp_lW u (sp_tr u z v t).1 (u 1 - u 0)))), some (.int 0)] [] I1 Q := by
      intro I1 q1
      have k9 := fun z6 z7 => x_times_loop hJ hR0 hC0 hO hn40 hv h n (t + 1) I1 z6 z7 (by omega) q1
      have e1 : (sp_tr u z v (t + 1)).1 = sp_zN (sp_tr u z v t).1 (u 1 - u 0) := rfl
      have e2 : (sp_tr u z v (t + 1)).2 = (sp_tr u z v t).2 + if v ≤ sp_lW u (sp_tr u z v t).1 (u 1 - u 0) then 1 else 0 := rfl
      rw [e1, e2, ← nI_1] at k9
      refine am_vcc hJ [37] 200 _ _ _ _ _ _ _ ?_
      refine ⟨fun g => ?_, fun g => ?_⟩
      · have g : nI (sp_lW u (sp_tr u z v t).1 (u 1 - u 0)) < nI v := g
        rw [nI_ltI (by omega) (by omega)] at g
        rw [if_neg (by omega)] at k9
        exact k9 _ _
      · have g : ¬ nI (sp_lW u (sp_tr u z v t).1 (u 1 - u 0)) < nI v := g
        rw [nI_ltI (by omega) (by omega)] at g
        rw [if_pos (by omega), ← nI_1] at k9
        exact k9 _ _
    refine am_vcl hJ [37, 52] 200 ?_
    refine br_f (by show ¬ nI nn ≤ nI t; exact nI_ge (by omega) (by omega)) ?_
    refine x_startAhead hJ R C hO (fun I1 q1 R1 C1 => ?_)
    exact x_trial (I0 := I0) hJ hO fin (u 1 - u 0) 0 I1 (Nat.zero_add _) (fun o h1 h2 => by rw [q1 o h1]; exact hI o h1 h2) R1 C1
theorem m_trial (hJ : am_Cl am_meth L xs J) {I0 : am_I} {u : am_U} {z : Int32} {cd : Nat → Int32} (hRu : RuR cd u) (hO : OKu u) {p1 p2 p3 p4 p6 : Option Value} (h : ∀ I : am_I, (∀ o, o ≠ 67 → o ≠ 70 → I o = I0 o) → MRep I 67 (upN (sp_lU u z (u 1 - u 0)) 5 (sp_z (sp_zN z (u 1 - u 0)))) → J (d + 8) q_M_times 60 [some (.ref 66), p1, p2, p3, p4, some (.int (nI (sp_lW u z (u 1 - u 0)))), p6] [] I Q) : ∀ (n i : Nat) (I : am_I), i + n = u 1 - u 0 → (∀ o, o ≠ 67 → o ≠ 70 → I o = I0 o) → MRep I 67 (upN (sp_lU u z i) 5 (sp_z (sp_zN z i))) → J (d + 8) q_M_times 41 [some (.ref 66), p1, p2, p3, p4, some (.int (nI (sp_lW u z i))), p6] [] I Q
  | n, i, I, hn, hI, hM => by
    obtain ⟨c1, c2, c3, c4, c5, c6, c7⟩ := hO.Cn
    have c01 := hO.2.1
    obtain ⟨a, b, c⟩ := sp_lU_ok (z := z) hO i (by omega)
    have e6 : sp_lU u z i 6 = u 6 := b 6 (by decide)
    have e1 : sp_lU u z i 1 = u 1 := b 1 (by decide)
    have m0 : I 67 0 = nI (sp_lU u z i 0) := by rw [hM 0 (by decide), upN_n (by decide)]
    have m1 : I 67 1 = nI (sp_lU u z i 1) := by rw [hM 1 (by decide), upN_n (by decide)]
    have ac := a.Cn
    cases n with
    | zero =>
      have k9 := h I hI
      rw [show u 1 - u 0 = i by omega] at k9
      refine am_vcl hJ [41, 60] 200 ?_
      refine m_isOver hJ m0 m1 (by omega) (by omega) (fun q => ?_) (fun q => by exfalso; omega)
      refine br_f (by decide) ?_
      exact k9 hM
    | succ n =>
      refine am_vcl hJ [41, 60] 200 ?_
      refine m_isOver hJ m0 m1 (by omega) (by omega) (fun q => by exfalso; omega) (fun q => ?_)
      refine br_t (by decide) ?_
      refine m_byLot hJ hM ((hRu.same b).keptu (upN_n (by decide)) (fun j hj => upN_n (by omega))) a.up5 (fun I1 q1 M1 => ?_)
      have f1 : ∀ o, o ≠ 67 → o ≠ 70 → I1 o = I0 o := fun o h1 h2 => by rw [q1 o h1 h2]; exact hI o h1 h2
      rw [upN_s, sp_z_eq, upN_twice, upN_n (i := 6) (by decide), e6] at M1 ⊢
      rw [u5_goU] at M1
      rw [u5_goW]
      have k9 := m_trial hJ hRu hO h n (i + 1) I1 (by omega) f1 M1
      have e2 : nI (sp_lW u z i) + nI (sp_goW (sp_lU u z i) (sp_act (sp_zN z (i + 1)) (u 6))) = nI (sp_lW u z (i + 1)) := nI_add _ _
      rw [← e2] at k9
      exact k9
theorem m_times_loop (hJ : am_Cl am_meth L xs J) {I0 : am_I} {u : am_U} {z : Int32} {cd : Nat → Int32} {nn v : Nat} (hRu : RuR cd u) (hO : OKu u) (hL : LaidR I0 u) (hn40 : nn ≤ 40) (hv : v ≤ 999) (h : ∀ I : am_I, (∀ o, o ≠ 67 → o ≠ 70 → I o = I0 o) → MRep I 67 u → Q (some (.int (nI (sp_tr u z v nn).2))) I) : ∀ (n t : Nat) (I : am_I) (z5 z6 : Option Value), t + n = nn → (∀ o, o ≠ 67 → o ≠ 70 → I o = I0 o) → MRep I 67 (upN u 5 (sp_z (sp_tr u z v t).1)) → J (d + 8) q_M_times 32 [some (.ref 66), some (.int (nI nn)), some (.int (nI v)), some (.int (nI (sp_tr u z v t).2)), some (.int (nI t)), z5, z6] [] I Q
  | 0, t, I, z5, z6, hn, hI, hM => by
    rw [show nn = t by omega] at h ⊢
    refine am_vcl hJ [32] 200 ?_
    refine br_t (by show nI t ≤ nI t; exact nI_le (by omega) (by omega)) ?_
    refine m_layBack hJ hM (hL.kept (hI 69 (by decide) (by decide))) (fun j hj => upN_n (by omega)) (fun I1 q1 M1 => ?_)
    exact h I1 (fun o h1 h2 => by rw [q1 o h1]; exact hI o h1 h2) M1
  | n + 1, t, I, z5, z6, hn, hI, hM => by
    have c1 := hO.Cn
    have hl := sp_lW_le (z := (sp_tr u z v t).1) hO (u 1 - u 0) (by omega)
    have fin : ∀ I1 : am_I, (∀ o, o ≠ 67 → o ≠ 70 → I1 o = I0 o) → MRep I1 67 (upN (sp_lU u (sp_tr u z v t).1 (u 1 - u 0)) 5 (sp_z (sp_zN (sp_tr u z v t).1 (u 1 - u 0)))) → J (d + 8) q_M_times 60 [some (.ref 66), some (.int (nI nn)), some (.int (nI v)), some (.int (nI (sp_tr u z v t).2)), some (.int (nI t)), some (.int (nI (sp_lW u (sp_tr u z v t).1 (u 1 - u 0)))), z6] [] I1 Q := by
      intro I1 q1 M1
      have e5 : I1 67 5 = sp_zN (sp_tr u z v t).1 (u 1 - u 0) := by rw [M1 5 (by decide), upN_s, sp_z_eq]
      have hs : ∀ j, 74 ≤ j → upN (sp_lU u (sp_tr u z v t).1 (u 1 - u 0)) 5 (sp_z (sp_zN (sp_tr u z v t).1 (u 1 - u 0))) j = u j := fun j hj => by
        rw [upN_n (by omega)]
        exact (sp_lU_ok hO (u 1 - u 0) (by omega)).2.1.hi j hj
      have e1 : (sp_tr u z v (t + 1)).1 = sp_zN (sp_tr u z v t).1 (u 1 - u 0) := rfl
      have e2 : (sp_tr u z v (t + 1)).2 = (sp_tr u z v t).2 + if v ≤ sp_lW u (sp_tr u z v t).1 (u 1 - u 0) then 1 else 0 := rfl
      have back : ∀ g : Nat, g = (if v ≤ sp_lW u (sp_tr u z v t).1 (u 1 - u 0) then 1 else 0) → J (d + 8) q_M_times 72 [some (.ref 66), some (.int (nI nn)), some (.int (nI v)), some (.int (nI (sp_tr u z v t).2)), some (.int (nI t)), some (.int (nI (sp_lW u (sp_tr u z v t).1 (u 1 - u 0)))), z6] [.int (nI g), .int (nI (sp_tr u z v t).2)] I1 Q := by
        intro g hg
        refine am_vcc hJ [32] 200 _ _ _ _ _ _ _ ?_
        refine ⟨am_vin (by decide), ?_⟩
        refine m_layBack hJ M1 (hL.kept (q1 69 (by decide) (by decide))) hs (fun I2 q2 M2 => ?_)
        refine ⟨am_vin (by decide), ?_⟩
        have k9 := fun z5 z6 => m_times_loop hJ hRu hO hL hn40 hv h n (t + 1) (am_put I2 67 5 (sp_zN (sp_tr u z v t).1 (u 1 - u 0))) z5 z6 (by omega) (fun o h1 h2 => by rw [am_put_o h1, q2 o h1]; exact q1 o h1 h2) (by rw [e1]; exact M2.up (sp_z_eq _).symm)
        rw [e2, ← hg, ← nI_1, ← nI_add] at k9
        conv => whnf
        show J (d + 8) q_M_times 32 _ [] (am_put I2 67 5 (I1 67 5)) Q
        rw [e5]
        exact k9 _ _
      refine am_vcc hJ [72] 200 _ _ _ _ _ _ _ ?_
      refine ⟨fun g => ?_, fun g => ?_⟩
      · have g : nI (sp_lW u (sp_tr u z v t).1 (u 1 - u 0)) < nI v := g
        rw [nI_ltI (by omega) (by omega)] at g
        exact back 0 (by rw [if_neg (by omega)])
      · have g : ¬ nI (sp_lW u (sp_tr u z v t).1 (u 1 - u 0)) < nI v := g
        rw [nI_ltI (by omega) (by omega)] at g
        exact back 1 (by rw [if_pos (by omega)])
    refine am_vcl hJ [32, 41] 200 ?_
    refine br_f (by show ¬ nI nn ≤ nI t; exact nI_ge (by omega) (by omega)) ?_
    exact m_trial (I0 := I0) hJ hRu hO fin (u 1 - u 0) 0 I (Nat.zero_add _) hI hM
theorem op_times (hJ : am_Cl am_meth L xs J) (a b : Int32) : am_same Inv J q_X_times q_M_times [.int a, .int b] := by
  intro I hI Qc hQc
  obtain ⟨u, uk, hMn, hK, hRs⟩ := id hI
  obtain ⟨hM, hR, hC, hO⟩ := id hMn
  obtain ⟨c1, c2, c3, c4, c5, c6, c7⟩ := hO.Cn
  by_cases h1 : (1 : Int32) ≤ a ∧ a ≤ 40
  · by_cases h2 : (0 : Int32) ≤ b ∧ b ≤ 999
    · obtain ⟨n, hn, rfl⟩ := am_rng (N := 40) rfl (by decide) ⟨Int32.le_trans (by decide) h1.1, h1.2⟩
      obtain ⟨v, hv, rfl⟩ := am_rng (N := 999) rfl (by decide) h2
      have e5 : I 8 11 = nI (u 5) := hMn.get (j := 5) (by decide +kernel)
      refine am_vcc hJ [37] 200 _ _ _ _ _ _ _ ?_
      refine x_withinY hJ h1 ?_
      refine br_f (by decide) ?_
      refine x_withinY hJ h2 ?_
      refine br_f (by decide) ?_
      conv => whnf
      rw [e5]
      refine x_times_loop (I0 := I) (z := nI (u 5)) hJ hR hC hO hn hv (fun I1 q1 => ?_) n 0 I _ _ (Nat.zero_add _) (fun _ _ _ => rfl)
      refine ⟨_, rfl, ?_⟩
      have M1 : MRep I1 67 u := hM.kept (q1 67 (by decide) (by decide))
      refine am_vcc hJ [32] 200 _ _ _ _ _ _ _ ?_
      refine m_in1Y hJ h1 ?_
      refine br_f (by decide) ?_
      refine m_in1Y hJ h2 ?_
      refine br_f (by decide) ?_
      refine m_layDown hJ M1 (fun I2 q2 L2 => ?_)
      have M2 : MRep I2 67 u := M1.kept (q2 67 (by decide))
      have M2' : MRep I2 67 (upN u 5 (sp_z (nI (u 5)))) := by
        intro j hj
        by_cases z : j = 5
        · subst z
          rw [upN_s, sp_z_eq]
          exact M2 5 hj
        · rw [upN_n z]
          exact M2 j hj
      refine m_times_loop (I0 := I2) (z := nI (u 5)) hJ hR.2 hO L2 hn hv (fun I3 q3 M3 => ?_) n 0 I2 _ _ (Nat.zero_add _) (fun _ _ _ => rfl) M2'
      refine ⟨rfl, hQc _ (Inv.thought hI hMn (am_only2 (fun o h1 h2 => q1 o h2 h1)) (am_only3 (fun o h1 h2 h3 => ?_)) M3)⟩
      rw [q3 o h1 h3, q2 o h2]
    · repeat (
        (try conv => whnf)
        first
          | refine ⟨am_vin (by decide), ?_⟩
          | refine ⟨(by assumption : vp_in _ _), ?_⟩
          | refine br_f (by decide) ?_
          | refine br_t (by decide) ?_
          | refine br_t (by assumption) ?_
          | refine br_f (by assumption) ?_
          | refine x_withinY hJ (by assumption) ?_
          | refine x_withinN hJ (by assumption) ?_
          | refine m_in1Y hJ (by assumption) ?_
          | refine m_in1N hJ (by assumption) ?_
          | refine m_isGateY hJ (by assumption) ?_
          | refine m_isGateN hJ (by assumption) ?_
          | refine m_isDigitY hJ (by assumption) ?_
          | refine m_isDigitN hJ (by assumption) ?_
          | refine m_isNeedY hJ (by assumption) ?_
          | refine m_isNeedN hJ (by assumption) ?_
          | refine m_isPlanY hJ (by assumption) ?_
          | refine m_isPlanN hJ (by assumption) ?_
          | refine m_isSheetY hJ (by assumption) ?_
          | refine m_isSheetN hJ (by assumption) ?_
          | refine x_isSheetY hJ (by assumption) ?_
          | refine x_isSheetN hJ (by assumption) ?_
          | refine x_isShelfY hJ (by assumption) ?_
          | refine x_isShelfN hJ (by assumption) ?_
          | refine x_hasY hJ (by assumption) (by assumption) (by assumption) ?_
          | refine x_hasN hJ (by assumption) (by assumption) (by assumption) ?_
          | refine m_isPersonY hJ (by assumption) (by assumption) (by assumption) ?_
          | refine m_isPersonN hJ (by assumption) (by assumption) (by assumption) ?_
          | refine am_vc hJ 120 40 _ _ _ _ _ _ ?_
          | refine ⟨_, rfl, ?_⟩)
      exact ⟨rfl, hQc _ hI⟩
  · repeat (
      (try conv => whnf)
      first
        | refine ⟨am_vin (by decide), ?_⟩
        | refine ⟨(by assumption : vp_in _ _), ?_⟩
        | refine br_f (by decide) ?_
        | refine br_t (by decide) ?_
        | refine br_t (by assumption) ?_
        | refine br_f (by assumption) ?_
        | refine x_withinY hJ (by assumption) ?_
        | refine x_withinN hJ (by assumption) ?_
        | refine m_in1Y hJ (by assumption) ?_
        | refine m_in1N hJ (by assumption) ?_
        | refine m_isGateY hJ (by assumption) ?_
        | refine m_isGateN hJ (by assumption) ?_
        | refine m_isDigitY hJ (by assumption) ?_
        | refine m_isDigitN hJ (by assumption) ?_
        | refine m_isNeedY hJ (by assumption) ?_
        | refine m_isNeedN hJ (by assumption) ?_
        | refine m_isPlanY hJ (by assumption) ?_
        | refine m_isPlanN hJ (by assumption) ?_
        | refine m_isSheetY hJ (by assumption) ?_
        | refine m_isSheetN hJ (by assumption) ?_
        | refine x_isSheetY hJ (by assumption) ?_
        | refine x_isSheetN hJ (by assumption) ?_
        | refine x_isShelfY hJ (by assumption) ?_
        | refine x_isShelfN hJ (by assumption) ?_
        | refine x_hasY hJ (by assumption) (by assumption) (by assumption) ?_
        | refine x_hasN hJ (by assumption) (by assumption) (by assumption) ?_
        | refine m_isPersonY hJ (by assumption) (by assumption) (by assumption) ?_
        | refine m_isPersonN hJ (by assumption) (by assumption) (by assumption) ?_
        | refine am_vc hJ 120 40 _ _ _ _ _ _ ?_
        | refine ⟨_, rfl, ?_⟩)
    exact ⟨rfl, hQc _ hI⟩
end
