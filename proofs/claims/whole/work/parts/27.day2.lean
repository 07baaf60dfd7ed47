def am_held (v m : Int32) : Int32 := if 0 ≤ v then (if v ≤ m then v else m) else 0
theorem am_heldN {a m : Nat} (ha : a < 2 ^ 31) (hm : m < 2 ^ 31) : am_held (nI a) (nI m) = nI (if a ≤ m then a else m) := by
  unfold am_held
  rw [if_pos (nI_pos' ha)]
  by_cases h : a ≤ m
  · rw [if_pos (nI_le h hm), if_pos h]
  · rw [if_neg (by rw [nI_leI ha hm]; exact h), if_neg h]
theorem am_heldS {a b m : Nat} (ha : a < 2 ^ 30) (hb : b < 2 ^ 30) (hm : m < 2 ^ 31) : am_held (nI a - nI b) (nI m) = nI (if a - b ≤ m then a - b else m) := by
  by_cases h : a < b
  · have h1 := pk_sneg hb h
    unfold am_held
    rw [if_neg (Int32.not_le.mpr h1), show a - b = 0 by omega, if_pos (Nat.zero_le _)]
    rfl
  · rw [pk_sub (by omega)]
    exact am_heldN (by omega) hm
theorem nI_d4 : ∀ n, n < 16 → nI n / 4 = nI (n / 4) ∧ nI n - nI n / 4 * 4 = nI (n % 4) := by decide +kernel
theorem nI_d3 : ∀ n, n < 10 → nI n / 3 = nI (n / 3) := by decide +kernel
theorem am_subsub (a b c : Int32) : a - b - c = a - (b + c) := by
  apply Int32.toBitVec_inj.mp
  simp only [Int32.toBitVec_sub, Int32.toBitVec_add]
  rw [BitVec.sub_sub]
section
variable {L : Nat} {xs : Nat → Int32} {J : am_J} {d : Nat} {I : am_I} {Q : am_Q}
theorem m_held (hJ : am_Cl am_meth L xs J) {v m : Int32} (h : Q (some (.int (am_held v m))) I) : J d q_M_held 0 [some (.int v), some (.int m)] [] I Q := by
  unfold am_held at h
  refine am_vc hJ 12 _ _ _ _ _ _ _ ?_
  refine ⟨fun g => ?_, fun g => ?_⟩
  · rw [if_pos g] at h
    refine ⟨fun g2 => ?_, fun g2 => ?_⟩
    · rw [if_pos g2] at h
      exact h
    · rw [if_neg g2] at h
      exact h
  · rw [if_neg g] at h
    exact h
theorem x_lessByDay (hJ : am_Cl am_meth L xs J) {lo sn : Nat} (hl : lo ≤ 999) (hs : sn ≤ 9) (h : Q (some (.int (nI (lo - 1 - sn / 3)))) I) : J (d + 1) q_Road_lessByDay 0 [some (.int (nI lo)), some (.int (nI sn))] [] I Q := by
  refine am_vc hJ 12 _ _ _ _ _ _ _ ?_
  refine ⟨by decide, ?_⟩
  show Q (some (.int (am_mx 0 (nI lo - 1 - nI sn / 3)))) I
  have e : nI lo - 1 - nI sn / 3 = nI lo - nI (1 + sn / 3) := by
    rw [nI_d3 sn (by omega), ← nI_add, show nI 1 = (1 : Int32) from rfl]
    exact am_subsub _ _ _
  rw [e, am_mx0 (by omega) (by omega), show lo - (1 + sn / 3) = lo - 1 - sn / 3 by omega]
  exact h
theorem x_snowBehind (hJ : am_Cl am_meth L xs J) {dy sn : Nat} {u : am_U} (hR : Rel (TR 8) I u) (hO : OKu u) (hd : dy ≤ 16) (hs : sn ≤ 9) (h : Q (some (.int (nI (if dy < 16 then sp_snow sn (u (10 + dy)) else sn)))) I) {z : Option Value} : J (d + 1) q_Road_snowBehind 0 [some (.ref 8), some (.int (nI dy)), some (.int (nI sn)), z] [] I Q := by
  refine am_vc hJ 60 _ _ _ _ _ _ _ ?_
  refine x_within hJ (fun g => ?_) (fun g => ?_)
  · have hd16 : dy < 16 := by
      have := g.2
      rw [show (15 : Int32) = nI 15 from rfl, nI_leI (by omega) (by omega)] at this
      omega
    rw [if_pos hd16] at h
    obtain ⟨we, hwe⟩ : ∃ we, u (10 + dy) = we := ⟨_, rfl⟩
    have hw := hO.Wt hd16
    rw [hwe] at h hw
    have e : I 14 (nI dy).toNatClampNeg = nI we := by rw [nI_clamp (by omega), hR.get 14 dy _ (TR8_w dy hd16), hwe]
    obtain ⟨q4, r4⟩ := nI_d4 we (by omega)
    have gv : vp_in (nI dy) 16 := vp_in_nI hd16 (by omega)
    refine br_f (by decide) ?_
    refine ⟨gv, by decide, gv, by decide, ?_⟩
    have er : I 14 (nI dy).toNatClampNeg - I 14 (nI dy).toNatClampNeg / 4 * 4 = nI (we % 4) := by rw [e, r4]
    have eq : I 14 (nI dy).toNatClampNeg / 4 = nI (we / 4) := by rw [e, q4]
    refine ⟨fun g0 => ?_, fun g0 => ⟨fun g1 => ?_, fun g1 => ⟨fun g2 => ?_, fun g2 => ?_⟩⟩⟩
    · have g0 : I 14 (nI dy).toNatClampNeg - I 14 (nI dy).toNatClampNeg / 4 * 4 = nI 0 := g0
      rw [er, nI_eq (by omega) (by omega)] at g0
      show Q (some (.int (am_mn 9 (nI sn + I 14 (nI dy).toNatClampNeg / 4)))) I
      rw [eq, nI_add, show (9 : Int32) = nI 9 from rfl, am_mnN (by omega) (by omega)]
      have es : sp_snow sn we = if sn + we / 4 < 9 then sn + we / 4 else 9 := by
        unfold sp_snow
        rw [if_pos g0]
        split <;> split <;> omega
      rw [es] at h
      exact h
    · have g0 : ¬ I 14 (nI dy).toNatClampNeg - I 14 (nI dy).toNatClampNeg / 4 * 4 = nI 0 := g0
      have g1 : I 14 (nI dy).toNatClampNeg - I 14 (nI dy).toNatClampNeg / 4 * 4 = nI 1 := g1
      rw [er, nI_eq (by omega) (by omega)] at g0 g1
      show Q (some (.int (am_mx 0 (nI sn - I 14 (nI dy).toNatClampNeg / 4)))) I
      rw [eq, am_mx0 (by omega) (by omega)]
      have es : sp_snow sn we = sn - we / 4 := by
        unfold sp_snow
        rw [if_neg g0, if_pos g1]
      rw [es] at h
      exact h
    · have g0 : ¬ I 14 (nI dy).toNatClampNeg - I 14 (nI dy).toNatClampNeg / 4 * 4 = nI 0 := g0
      have g1 : ¬ I 14 (nI dy).toNatClampNeg - I 14 (nI dy).toNatClampNeg / 4 * 4 = nI 1 := g1
      have g2 : I 14 (nI dy).toNatClampNeg - I 14 (nI dy).toNatClampNeg / 4 * 4 = nI 2 := g2
      rw [er, nI_eq (by omega) (by omega)] at g0 g1 g2
      refine ⟨fun g3 => ?_, fun g3 => ?_⟩
      · have g3 : nI 5 ≤ nI sn := g3
        rw [nI_leI (by omega) (by omega)] at g3
        show Q (some (.int (am_mx 5 (nI sn - I 14 (nI dy).toNatClampNeg / 4)))) I
        rw [eq, pk_sub (by omega), show (5 : Int32) = nI 5 from rfl, am_mxN (by omega) (by omega)]
        have es : sp_snow sn we = if 5 < sn - we / 4 then sn - we / 4 else 5 := by
          unfold sp_snow
          rw [if_neg g0, if_neg g1, if_pos g2, if_neg (by omega)]
          split <;> split <;> omega
        rw [es] at h
        exact h
      · have g3 : ¬ nI 5 ≤ nI sn := g3
        rw [nI_leI (by omega) (by omega)] at g3
        show Q (some (.int (am_mn 5 (nI sn + I 14 (nI dy).toNatClampNeg / 4)))) I
        rw [eq, nI_add, show (5 : Int32) = nI 5 from rfl, am_mnN (by omega) (by omega)]
        have es : sp_snow sn we = if sn + we / 4 < 5 then sn + we / 4 else 5 := by
          unfold sp_snow
          rw [if_neg g0, if_neg g1, if_pos g2, if_pos (by omega)]
          split <;> split <;> omega
        rw [es] at h
        exact h
    · have g0 : ¬ I 14 (nI dy).toNatClampNeg - I 14 (nI dy).toNatClampNeg / 4 * 4 = nI 0 := g0
      have g1 : ¬ I 14 (nI dy).toNatClampNeg - I 14 (nI dy).toNatClampNeg / 4 * 4 = nI 1 := g1
      have g2 : ¬ I 14 (nI dy).toNatClampNeg - I 14 (nI dy).toNatClampNeg / 4 * 4 = nI 2 := g2
      rw [er, nI_eq (by omega) (by omega)] at g0 g1 g2
      have es : sp_snow sn we = sn := by
        unfold sp_snow
        rw [if_neg g0, if_neg g1, if_neg g2]
      rw [es] at h
      exact h
  · have hd16 : ¬ dy < 16 := by
      intro z
      exact g (am_rngI (N := 15) rfl (by omega) (by omega))
    rw [if_neg hd16] at h
    refine br_t (by decide) ?_
    exact h
/-! the reference's own -/
theorem m_snowBy (hJ : am_Cl am_meth L xs J) {sn we : Nat} (hs : sn ≤ 9) (hw : we ≤ 15) (h : Q (some (.int (nI (sp_snow sn we)))) I) {z1 z2 z3 : Option Value} : J (d + 1) q_M_snowBy 0 [some (.int (nI sn)), some (.int (nI we)), z1, z2, z3] [] I Q := by
  obtain ⟨q4, r4⟩ := nI_d4 we (by omega)
  have key : ∀ far near : Nat, far = (if sn < 5 then 5 - sn else sn - 5) → near = (if far < we / 4 then far else we / 4) → J (d + 1) q_M_snowBy 31 [some (.int (nI sn)), some (.int (nI we)), some (.int (nI (we / 4))), some (.int (nI far)), some (.int (nI near))] [] I Q := by
    intro far near hf hn
    refine am_vc hJ 40 _ _ _ _ _ _ _ ?_
    refine ⟨by decide, ?_⟩
    refine ⟨fun g0 => ?_, fun g0 => ⟨fun g1 => ?_, fun g1 => ⟨fun g2 => ?_, fun g2 => ?_⟩⟩⟩
    · have g0 : nI we - nI we / 4 * 4 = nI 0 := g0
      rw [r4, nI_eq (by omega) (by omega)] at g0
      refine m_held hJ ?_
      show Q (some (.int (am_held (nI sn + nI (we / 4)) 9))) I
      rw [nI_add, show (9 : Int32) = nI 9 from rfl, am_heldN (by omega) (by omega)]
      have es : sp_snow sn we = if sn + we / 4 ≤ 9 then sn + we / 4 else 9 := by
        unfold sp_snow
        rw [if_pos g0]
        split <;> split <;> omega
      rw [es] at h
      exact h
    · have g0 : ¬ nI we - nI we / 4 * 4 = nI 0 := g0
      have g1 : nI we - nI we / 4 * 4 = nI 1 := g1
      rw [r4, nI_eq (by omega) (by omega)] at g0 g1
      refine m_held hJ ?_
      show Q (some (.int (am_held (nI sn - nI (we / 4)) 9))) I
      rw [show (9 : Int32) = nI 9 from rfl, am_heldS (by omega) (by omega) (by omega)]
      have es : sp_snow sn we = if sn - we / 4 ≤ 9 then sn - we / 4 else 9 := by
        unfold sp_snow
        rw [if_neg g0, if_pos g1, if_pos (by omega)]
      rw [es] at h
      exact h
    · have g0 : ¬ nI we - nI we / 4 * 4 = nI 0 := g0
      have g1 : ¬ nI we - nI we / 4 * 4 = nI 1 := g1
      have g2 : nI we - nI we / 4 * 4 = nI 2 := g2
      rw [r4, nI_eq (by omega) (by omega)] at g0 g1 g2
      refine ⟨fun g3 => ?_, fun g3 => ?_⟩
      · have g3 : nI 5 ≤ nI sn := g3
        rw [nI_leI (by omega) (by omega)] at g3
        show Q (some (.int (nI sn - nI near))) I
        rw [if_neg (by omega)] at hf
        have hns : near ≤ sn := by rw [hn]; split <;> omega
        rw [pk_sub hns]
        have es : sp_snow sn we = sn - near := by
          unfold sp_snow
          rw [if_neg g0, if_neg g1, if_pos g2, if_neg (by omega), hn]
          split <;> split <;> omega
        rw [es] at h
        exact h
      · have g3 : ¬ nI 5 ≤ nI sn := g3
        rw [nI_leI (by omega) (by omega)] at g3
        show Q (some (.int (nI sn + nI near))) I
        rw [if_pos (by omega)] at hf
        rw [nI_add]
        have es : sp_snow sn we = sn + near := by
          unfold sp_snow
          rw [if_neg g0, if_neg g1, if_pos g2, if_pos (by omega), hn]
          split <;> split <;> omega
        rw [es] at h
        exact h
    · have g0 : ¬ nI we - nI we / 4 * 4 = nI 0 := g0
      have g1 : ¬ nI we - nI we / 4 * 4 = nI 1 := g1
      have g2 : ¬ nI we - nI we / 4 * 4 = nI 2 := g2
      rw [r4, nI_eq (by omega) (by omega)] at g0 g1 g2
      have es : sp_snow sn we = sn := by
        unfold sp_snow
        rw [if_neg g0, if_neg g1, if_neg g2]
      rw [es] at h
      exact h
  refine am_vcc hJ [31] 200 _ _ _ _ _ _ _ ?_
  refine ⟨by decide, ?_⟩
  refine ⟨fun g => ?_, fun g => ?_⟩
  · have g : nI 5 ≤ nI sn := g
    rw [nI_leI (by omega) (by omega)] at g
    have ef : nI sn - 5 = nI (sn - 5) := pk_sub (a := sn) (b := 5) g
    refine ⟨fun g2 => ?_, fun g2 => ?_⟩
    · have g2 : nI we / 4 ≤ nI sn - 5 := g2
      rw [q4, ef, nI_leI (by omega) (by omega)] at g2
      have k := key (sn - 5) (we / 4) (by rw [if_neg (by omega)]) (by rw [if_neg (by omega)])
      rw [← ef, ← q4] at k
      exact k
    · have g2 : ¬ nI we / 4 ≤ nI sn - 5 := g2
      rw [q4, ef, nI_leI (by omega) (by omega)] at g2
      have k := key (sn - 5) (sn - 5) (by rw [if_neg (by omega)]) (by rw [if_pos (by omega)])
      rw [← ef, ← q4] at k
      exact k
  · have g : ¬ nI 5 ≤ nI sn := g
    rw [nI_leI (by omega) (by omega)] at g
    have ef : 5 - nI sn = nI (5 - sn) := pk_sub (a := 5) (b := sn) (by omega)
    refine ⟨fun g2 => ?_, fun g2 => ?_⟩
    · have g2 : nI we / 4 ≤ 5 - nI sn := g2
      rw [q4, ef, nI_leI (by omega) (by omega)] at g2
      have k := key (5 - sn) (we / 4) (by rw [if_pos (by omega)]) (by rw [if_neg (by omega)])
      rw [← ef, ← q4] at k
      exact k
    · have g2 : ¬ nI we / 4 ≤ 5 - nI sn := g2
      rw [q4, ef, nI_leI (by omega) (by omega)] at g2
      have k := key (5 - sn) (5 - sn) (by rw [if_pos (by omega)]) (by rw [if_pos (by omega)])
      rw [← ef, ← q4] at k
      exact k
end
