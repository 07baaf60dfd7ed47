/-! STRANGERS -/
def st_sn (u : am_U) (s0 : Nat) : Nat → Nat
  | 0 => s0
  | d + 1 => sp_snow (st_sn u s0 d) (u (10 + d))
def st_md (kd ta lf d : Nat) : Nat := if d % 2 = 0 then (if lf + (sp_strange kd ta d - 2 * ((d + 1) / 2)) ≤ 999 then lf + (sp_strange kd ta d - 2 * ((d + 1) / 2)) else 999) else lf
def st_lf (u : am_U) (kd ta s0 : Nat) : Nat → Nat
  | 0 => 12
  | d + 1 => st_md kd ta (st_lf u kd ta s0 d) d - 1 - st_sn u s0 (d + 1) / 3
theorem st_sn_le {u : am_U} {s0 : Nat} (h : s0 ≤ 9) : ∀ d, st_sn u s0 d ≤ 9
  | 0 => h
  | d + 1 => sp_snow_le (st_sn_le h d)
theorem st_md_le {kd ta lf d : Nat} (h : lf ≤ 999) : st_md kd ta lf d ≤ 999 := by
  unfold st_md
  repeat' split
  all_goals omega
theorem st_lf_le {u : am_U} {kd ta s0 : Nat} : ∀ d, st_lf u kd ta s0 d ≤ 999
  | 0 => show 12 ≤ 999 by decide
  | d + 1 => by
    have := st_md_le (kd := kd) (ta := ta) (d := d) (st_lf_le (u := u) (kd := kd) (ta := ta) (s0 := s0) d)
    show st_md kd ta (st_lf u kd ta s0 d) d - 1 - st_sn u s0 (d + 1) / 3 ≤ 999
    omega
/-- what was asked, at a day -/
def st_v (u : am_U) (s r d : Nat) : Nat := if u (75 + 4 * r) = 0 then st_lf u (s / 100 + 1) (s / 10 % 10) (s % 10) d else st_sn u (s % 10) d
def st_so (u : am_U) (s r : Nat) : Prop := u (76 + 4 * r) ≤ st_v u s r (u (74 + 4 * r)) ∧ st_v u s r (u (74 + 4 * r)) ≤ u (77 + 4 * r)
theorem TR8_rp1 : ∀ k, k < 6 → (19, k, 74 + 4 * k) ∈ TR 8 ∧ (20, k, 75 + 4 * k) ∈ TR 8 := by decide +kernel
theorem TR8_rp2 : ∀ k, k < 6 → (21, k, 76 + 4 * k) ∈ TR 8 ∧ (22, k, 77 + 4 * k) ∈ TR 8 := by decide +kernel
theorem TR8_rp (k : Nat) (h : k < 6) : (19, k, 74 + 4 * k) ∈ TR 8 ∧ (20, k, 75 + 4 * k) ∈ TR 8 ∧ (21, k, 76 + 4 * k) ∈ TR 8 ∧ (22, k, 77 + 4 * k) ∈ TR 8 := ⟨(TR8_rp1 k h).1, (TR8_rp1 k h).2, (TR8_rp2 k h).1, (TR8_rp2 k h).2⟩
theorem OKu.Rp {u : am_U} (h : OKu u) {k : Nat} (hk : k < 6) : u (74 + 4 * k) ≤ 15 ∧ u (75 + 4 * k) ≤ 1 ∧ u (76 + 4 * k) ≤ 999 ∧ u (77 + 4 * k) ≤ 999 := by
  have t1 : ∀ k, k < 6 → (74 + 4 * k, 15) ∈ OKb ∧ (75 + 4 * k, 1) ∈ OKb ∧ (76 + 4 * k, 999) ∈ OKb ∧ (77 + 4 * k, 999) ∈ OKb := by decide +kernel
  obtain ⟨a, b, c, d⟩ := t1 k hk
  exact ⟨h.1 _ a, h.1 _ b, h.1 _ c, h.1 _ d⟩
section
variable {L : Nat} {xs : Nat → Int32} {J : am_J} {d : Nat} {Q : am_Q}
theorem x_kindOf (hJ : am_Cl am_meth L xs J) {I : am_I} {s : Nat} (hs : s < 500) (h : Q (some (.int (nI (s / 100 + 1)))) I) : J d q_Road_kindOfStranger 0 [some (.int (nI s))] [] I Q := by
  refine am_vc hJ 10 _ _ _ _ _ _ _ ?_
  refine ⟨by decide, ?_⟩
  refine am_qe ?_ h
  show nI s / 100 + 1 = _
  rw [show (100 : Int32) = nI 100 from rfl, pk_div (by omega) (by decide) (by decide), nI_1]
theorem x_taleOf (hJ : am_Cl am_meth L xs J) {I : am_I} {s : Nat} (hs : s < 500) (h : Q (some (.int (nI (s / 10 % 10)))) I) : J d q_Road_taleOfStranger 0 [some (.int (nI s))] [] I Q := by
  refine am_vc hJ 10 _ _ _ _ _ _ _ ?_
  refine ⟨by decide, by decide, ?_⟩
  refine am_qe ?_ h
  show nI s / 10 - nI s / 10 / 10 * 10 = _
  rw [show (10 : Int32) = nI 10 from rfl, pk_div (by omega) (by decide) (by decide), pk_rem (by omega) (by decide) (by decide)]
theorem x_snowOf (hJ : am_Cl am_meth L xs J) {I : am_I} {s : Nat} (hs : s < 500) (h : Q (some (.int (nI (s % 10)))) I) : J d q_Road_snowOfStranger 0 [some (.int (nI s))] [] I Q := by
  refine am_vc hJ 10 _ _ _ _ _ _ _ ?_
  refine ⟨by decide, ?_⟩
  refine am_qe ?_ h
  show nI s - nI s / 10 * 10 = _
  rw [show (10 : Int32) = nI 10 from rfl, pk_rem (by omega) (by decide) (by decide)]
theorem x_last_loop (hJ : am_Cl am_meth L xs J) {I : am_I} {u : am_U} (hR : Rel (TR 8) I u) (hO : OKu u) (h : ∀ m, m ≤ 15 → (∀ r, r < u 8 → u (74 + 4 * r) ≤ m) → Q (some (.int (nI m))) I) : ∀ (n r m : Nat), r + n = u 8 → m ≤ 15 → (∀ i, i < r → u (74 + 4 * i) ≤ m) → J (d + 1) q_Road_lastReported 4 [some (.ref 8), some (.int (nI m)), some (.int (nI r))] [] I Q
  | 0, r, m, hn, hm, hle => by
    have c := hO.Cn
    have x8 : I 8 15 = nI (u 8) := hR.get 8 15 8 (by decide +kernel)
    refine am_vcl hJ [4] 200 ?_
    refine br_t (by show I 8 15 ≤ nI r; rw [x8]; exact nI_le (by omega) (by omega)) ?_
    exact h m hm (fun i hi => hle i (by omega))
  | n + 1, r, m, hn, hm, hle => by
    have c := hO.Cn
    have x8 : I 8 15 = nI (u 8) := hR.get 8 15 8 (by decide +kernel)
    have er : I 19 r = nI (u (74 + 4 * r)) := hR _ (TR8_rp r (by omega)).1
    have hr := (hO.Rp (k := r) (by omega)).1
    have k9 := x_last_loop hJ hR hO h n (r + 1) (if m < u (74 + 4 * r) then u (74 + 4 * r) else m) (by omega) (by split <;> omega) (fun i hi => by
      by_cases q : i = r
      · subst q
        split <;> omega
      · have := hle i (by omega)
        split <;> omega)
    rw [← nI_1, ← am_mxN (by omega) (by omega), ← er] at k9
    refine am_vcl hJ [4] 200 ?_
    refine br_f (by show ¬ I 8 15 ≤ nI r; rw [x8]; exact nI_ge (by omega) (by omega)) ?_
    refine ⟨vp_in_nI (by omega) (by omega), ?_⟩
    rw [nI_clamp (by omega)]
    exact k9
theorem x_lastReported (hJ : am_Cl am_meth L xs J) {I : am_I} {u : am_U} (hR : Rel (TR 8) I u) (hO : OKu u) (h : ∀ m, m ≤ 15 → (∀ r, r < u 8 → u (74 + 4 * r) ≤ m) → Q (some (.int (nI m))) I) {z1 z2 : Option Value} : J (d + 1) q_Road_lastReported 0 [some (.ref 8), z1, z2] [] I Q := by
  have k9 := x_last_loop (d := d) hJ hR hO h (u 8) 0 0 (Nat.zero_add _) (by decide) (fun i hi => by omega)
  refine am_vcc hJ [4] 200 _ _ _ _ _ _ _ ?_
  exact k9
/-- the reports of a day that are not so -/
abbrev st_ag (u : am_U) (dy lf sn r : Nat) : Prop := u (74 + 4 * r) = dy ∧ ¬ (u (76 + 4 * r) ≤ (if u (75 + 4 * r) = 0 then lf else sn) ∧ (if u (75 + 4 * r) = 0 then lf else sn) ≤ u (77 + 4 * r))
theorem x_agd_loop (hJ : am_Cl am_meth L xs J) {I : am_I} {u : am_U} {dy lf sn : Nat} (hR : Rel (TR 8) I u) (hO : OKu u) (hd : dy ≤ 16) (hl : lf ≤ 999) (hs : sn ≤ 9) (h : ∀ B, B < 64 → (∀ r, B.testBit r = true ↔ r < u 8 ∧ st_ag u dy lf sn r) → Q (some (.int (nI B))) I) : ∀ (n r B : Nat) (z6 : Option Value), r + n = u 8 → B < 64 → (∀ i, B.testBit i = true ↔ i < r ∧ st_ag u dy lf sn i) → J (d + 1) q_Road_reportsAgainstDay 6 [some (.ref 8), some (.int (nI dy)), some (.int (nI lf)), some (.int (nI sn)), some (.int (nI B)), some (.int (nI r)), z6] [] I Q
  | 0, r, B, z6, hn, hB, hb => by
    have c := hO.Cn
    have x8 : I 8 15 = nI (u 8) := hR.get 8 15 8 (by decide +kernel)
    have er : r = u 8 := by omega
    refine am_vcl hJ [6] 200 ?_
    refine br_t (by show I 8 15 ≤ nI r; rw [x8]; exact nI_le (by omega) (by omega)) ?_
    rw [er] at hb
    exact h B hB hb
  | n + 1, r, B, z6, hn, hB, hb => by
    have c := hO.Cn
    have x8 : I 8 15 = nI (u 8) := hR.get 8 15 8 (by decide +kernel)
    have hr6 : r < 6 := by omega
    obtain ⟨t1, t2, t3, t4⟩ := TR8_rp r hr6
    have e1 : I 19 r = nI (u (74 + 4 * r)) := hR _ t1
    have e2 : I 20 r = nI (u (75 + 4 * r)) := hR _ t2
    have e3 : I 21 r = nI (u (76 + 4 * r)) := hR _ t3
    have e4 : I 22 r = nI (u (77 + 4 * r)) := hR _ t4
    obtain ⟨l1, l2, l3, l4⟩ := hO.Rp hr6
    have no : ∀ z6, ¬ st_ag u dy lf sn r → J (d + 1) q_Road_reportsAgainstDay 6 [some (.ref 8), some (.int (nI dy)), some (.int (nI lf)), some (.int (nI sn)), some (.int (nI B)), some (.int (nI r + 1)), z6] [] I Q := by
      intro z6 hz
      rw [nI_1]
      refine x_agd_loop hJ hR hO hd hl hs h n (r + 1) B z6 (by omega) hB (fun i => ?_)
      rw [hb]
      constructor
      · rintro ⟨a, b⟩
        exact ⟨by omega, b⟩
      · rintro ⟨a, b⟩
        refine ⟨?_, b⟩
        by_cases q : i = r
        · subst q; exact absurd b hz
        · omega
    have wth : ∀ v : Nat, v ≤ 999 → v = (if u (75 + 4 * r) = 0 then lf else sn) → u (74 + 4 * r) = dy → J (d + 1) q_Road_reportsAgainstDay 41 [some (.ref 8), some (.int (nI dy)), some (.int (nI lf)), some (.int (nI sn)), some (.int (nI B)), some (.int (nI r)), z6] [.int (nI v)] I Q := by
      intro v hv he hdy
      refine am_vcc hJ [6] 200 _ _ _ _ _ _ _ ?_
      refine ⟨vp_in_nI hr6 (by omega), vp_in_nI hr6 (by omega), ?_⟩
      rw [nI_clamp (by omega), e3, e4]
      refine x_within hJ (fun z => ?_) (fun z => ?_)
      · rw [nI_leI (by omega) (by omega), nI_leI (by omega) (by omega)] at z
        refine br_f (by decide) ?_
        exact no _ (fun y => y.2 (by rw [← he]; exact z))
      · rw [nI_leI (by omega) (by omega), nI_leI (by omega) (by omega)] at z
        have k9 := x_agd_loop hJ hR hO hd hl hs h n (r + 1) (B ||| 2 ^ r) (some (.int (nI v))) (by omega) (tb_or B hB r hr6).1 (fun i => by
          rw [tb_orb, hb]
          constructor
          · rintro (⟨a, b⟩ | a)
            · exact ⟨by omega, b⟩
            · subst a
              exact ⟨by omega, hdy, by rw [← he]; exact z⟩
          · rintro ⟨a, b⟩
            by_cases q : i = r
            · exact Or.inr q
            · exact Or.inl ⟨by omega, b⟩)
        rw [← nI_1, ← mb_or hB hr6] at k9
        refine br_t (by decide) ?_
        exact k9
    refine am_vcl hJ [6, 41] 200 ?_
    refine br_f (by show ¬ I 8 15 ≤ nI r; rw [x8]; exact nI_ge (by omega) (by omega)) ?_
    refine ⟨vp_in_nI hr6 (by omega), ?_⟩
    rw [nI_clamp (n := r) (by omega), e1]
    by_cases g : u (74 + 4 * r) = dy
    · refine br_t (by show nI (u (74 + 4 * r)) = nI dy; rw [g]) ?_
      refine ⟨vp_in_nI hr6 (by omega), ?_⟩
      rw [nI_clamp (n := r) (by omega), e2]
      by_cases g2 : u (75 + 4 * r) = 0
      · refine br_t (by show nI (u (75 + 4 * r)) = 0; rw [g2]; rfl) ?_
        exact wth lf (by omega) (by rw [if_pos g2]) g
      · refine br_f (by show ¬ nI (u (75 + 4 * r)) = 0; exact nI_ne0 (by omega) (by omega)) ?_
        exact wth sn (by omega) (by rw [if_neg g2]) g
    · refine br_f (by show ¬ nI (u (74 + 4 * r)) = nI dy; rw [nI_eq (by omega) (by omega)]; exact g) ?_
      exact no _ (fun y => g y.1)
theorem x_againstDay (hJ : am_Cl am_meth L xs J) {I : am_I} {u : am_U} {dy lf sn : Nat} (hR : Rel (TR 8) I u) (hO : OKu u) (hd : dy ≤ 16) (hl : lf ≤ 999) (hs : sn ≤ 9) (h : ∀ B, B < 64 → (∀ r, B.testBit r = true ↔ r < u 8 ∧ st_ag u dy lf sn r) → Q (some (.int (nI B))) I) {z4 z5 z6 : Option Value} : J (d + 1) q_Road_reportsAgainstDay 0 [some (.ref 8), some (.int (nI dy)), some (.int (nI lf)), some (.int (nI sn)), z4, z5, z6] [] I Q := by
  have k9 := x_agd_loop (d := d) hJ hR hO hd hl hs h (u 8) 0 0 z6 (Nat.zero_add _) (by decide) (fun i => ⟨fun z => (by rw [Nat.zero_testBit] at z; cases z), fun z => by omega⟩)
  refine am_vcc hJ [6] 200 _ _ _ _ _ _ _ ?_
  exact k9
theorem am_R1k : ∀ k, k < 6 → am_R 1 k = some (2 + k) := by decide +kernel
theorem x_ra_tail (hJ : am_Cl am_meth L xs J) {I : am_I} {u : am_U} {s m dy A come : Nat} (hR : Rel (TR 8) I u) (hO : OKu u) (hs : s < 500) (hdy : dy < 16) (hcome : come = (dy + 1 + 1) / 2) (md : Nat) (hmd : md = st_md (s / 100 + 1) (s / 10 % 10) (st_lf u (s / 100 + 1) (s / 10 % 10) (s % 10) dy) dy) (hA : A < 64) (hb : ∀ r, A.testBit r = true ↔ r < u 8 ∧ u (74 + 4 * r) ≤ dy ∧ ¬ st_so u s r)
    (ih : ∀ (A' : Nat) (z8 : Option Value), A' < 64 → (∀ r, A'.testBit r = true ↔ r < u 8 ∧ u (74 + 4 * r) ≤ dy + 1 ∧ ¬ st_so u s r) → J (d + 3) q_Road_reportsAgainst 29 [some (.ref 8), some (.int (nI s)), some (.int (nI (st_lf u (s / 100 + 1) (s / 10 % 10) (s % 10) (dy + 1)))), some (.int (nI (st_sn u (s % 10) (dy + 1)))), some (.int (nI come)), some (.int (nI m)), some (.int (nI A')), some (.int (nI (dy + 1))), z8] [] I Q) (z8 : Option Value) : J (d + 3) q_Road_reportsAgainst 94 [some (.ref 8), some (.int (nI s)), some (.int (nI md)), some (.int (nI (st_sn u (s % 10) (dy + 1)))), some (.int (nI come)), some (.int (nI m)), some (.int (nI A)), some (.int (nI dy)), z8] [] I Q := by
  have hsn := st_sn_le (u := u) (s0 := s % 10) (by omega) (dy + 1)
  have hlf := st_lf_le (u := u) (kd := s / 100 + 1) (ta := s / 10 % 10) (s0 := s % 10) (dy + 1)
  have hml : md ≤ 999 := by rw [hmd]; exact st_md_le (st_lf_le dy)
  have el : st_lf u (s / 100 + 1) (s / 10 % 10) (s % 10) (dy + 1) = md - 1 - st_sn u (s % 10) (dy + 1) / 3 := by rw [hmd]; rfl
  refine am_vcc hJ [29] 200 _ _ _ _ _ _ _ ?_
  refine x_lessByDay hJ hml hsn ?_
  rw [← el]
  conv => whnf
  rw [show (fun x y => x + y) (nI dy) 1 = nI (dy + 1) from nI_1 dy]
  refine x_againstDay hJ hR hO (by omega) hlf hsn (fun B hB hBb => ?_)
  have k9 := ih (A ||| B) z8 (or64 A hA B hB).2 (fun r => by
    rw [Nat.testBit_or, Bool.or_eq_true, hb, hBb]
    have key : u (74 + 4 * r) = dy + 1 → (st_so u s r ↔ (u (76 + 4 * r) ≤ (if u (75 + 4 * r) = 0 then st_lf u (s / 100 + 1) (s / 10 % 10) (s % 10) (dy + 1) else st_sn u (s % 10) (dy + 1)) ∧ (if u (75 + 4 * r) = 0 then st_lf u (s / 100 + 1) (s / 10 % 10) (s % 10) (dy + 1) else st_sn u (s % 10) (dy + 1)) ≤ u (77 + 4 * r))) := fun e => by
      unfold st_so st_v
      rw [e]
    constructor
    · rintro (⟨a, b, c⟩ | ⟨a, b, c⟩)
      · exact ⟨a, by omega, c⟩
      · exact ⟨a, by omega, fun z => c ((key b).mp z)⟩
    · rintro ⟨a, b, c⟩
      by_cases q : u (74 + 4 * r) = dy + 1
      · exact Or.inr ⟨a, q, fun z => c ((key q).mpr z)⟩
      · exact Or.inl ⟨a, by omega, c⟩)
  rw [← (or64 A hA B hB).1, ← nI_1 dy] at k9
  exact k9
theorem x_ra_loop (hJ : am_Cl am_meth L xs J) {I : am_I} {u : am_U} {s m : Nat} (hR : Rel (TR 8) I u) (hO : OKu u) (hs : s < 500) (hm : m ≤ 15) (hml : ∀ r, r < u 8 → u (74 + 4 * r) ≤ m) (h : ∀ A, A < 64 → (∀ r, A.testBit r = true ↔ r < u 8 ∧ ¬ st_so u s r) → Q (some (.int (nI A))) I) : ∀ (n dy A : Nat) (z8 : Option Value), dy + n = m → A < 64 → (∀ r, A.testBit r = true ↔ r < u 8 ∧ u (74 + 4 * r) ≤ dy ∧ ¬ st_so u s r) → J (d + 3) q_Road_reportsAgainst 29 [some (.ref 8), some (.int (nI s)), some (.int (nI (st_lf u (s / 100 + 1) (s / 10 % 10) (s % 10) dy))), some (.int (nI (st_sn u (s % 10) dy))), some (.int (nI ((dy + 1) / 2))), some (.int (nI m)), some (.int (nI A)), some (.int (nI dy)), z8] [] I Q
  | 0, dy, A, z8, hn, hA, hb => by
    refine am_vcl hJ [29] 200 ?_
    refine br_t (by show nI m ≤ nI dy; exact nI_le (by omega) (by omega)) ?_
    refine h A hA (fun r => ?_)
    rw [hb]
    exact ⟨fun z => ⟨z.1, z.2.2⟩, fun z => ⟨z.1, by have := hml r z.1; omega, z.2⟩⟩
  | n + 1, dy, A, z8, hn, hA, hb => by
    have hsn := st_sn_le (u := u) (s0 := s % 10) (by omega) dy
    have hlf := st_lf_le (u := u) (kd := s / 100 + 1) (ta := s / 10 % 10) (s0 := s % 10) dy
    have hst : sp_strange (s / 100 + 1) (s / 10 % 10) dy ≤ 18 := sp_strange_le (by omega)
    have ih := fun A z8 h1 h2 => x_ra_loop hJ hR hO hs hm hml h n (dy + 1) A z8 (by omega) h1 h2
    refine am_vcl hJ [29, 94] 200 ?_
    refine br_f (by show ¬ nI m ≤ nI dy; exact nI_ge (by omega) (by omega)) ?_
    refine x_snowBehind hJ hR hO (by omega) hsn ?_
    rw [if_pos (by omega : dy < 16)]
    refine ⟨by decide, ?_⟩
    by_cases g : dy % 2 = 0
    · refine br_t ((nI_mod2 dy (by omega)).mpr g) ?_
      have ec : (dy + 1 + 1) / 2 = (dy + 1) / 2 + 1 := by omega
      rw [ec] at ih
      have tail := fun md hmd z8 => x_ra_tail (come := (dy + 1) / 2 + 1) hJ hR hO hs (by omega) ec.symm md hmd hA hb ih z8
      have fin : ∀ sv : Nat, sv = sp_strange (s / 100 + 1) (s / 10 % 10) dy → J (d + 3) q_Road_reportsAgainst 94 [some (.ref 8), some (.int (nI s)), some (.int (am_mn 999 (nI (st_lf u (s / 100 + 1) (s / 10 % 10) (s % 10) dy) + am_mx 0 (nI sv - 2 * nI ((dy + 1) / 2))))), some (.int (nI (st_sn u (s % 10) (dy + 1)))), some (.int (nI ((dy + 1) / 2) + 1)), some (.int (nI m)), some (.int (nI A)), some (.int (nI dy)), some (.int (nI sv))] [] I Q := by
        intro sv hsv
        subst hsv
        rw [show (2 : Int32) * nI ((dy + 1) / 2) = nI (2 * ((dy + 1) / 2)) from pk_mul 2 _, am_mx0 (by omega) (by omega), nI_add, show (999 : Int32) = nI 999 from rfl, am_mnN (by omega) (by omega), nI_1]
        refine tail _ ?_ _
        unfold st_md
        rw [if_pos g]
        split <;> split <;> omega
      refine x_kindOf hJ hs ?_
      refine ⟨vp_in_nI (by omega) (by omega), ?_⟩
      rw [nI_clamp (by omega), am_R1k _ (by omega)]
      refine x_taleOf hJ hs ?_
      obtain ⟨kd, hkd⟩ : ∃ kd, s / 100 + 1 = kd := ⟨_, rfl⟩
      have hk5 : 1 ≤ kd ∧ kd ≤ 5 := by omega
      rw [hkd] at fin
      rw [hkd]
      rcases (show kd = 1 ∨ kd = 2 ∨ kd = 3 ∨ kd = 4 ∨ kd = 5 by omega) with rfl | rfl | rfl | rfl | rfl
      · refine x_Tramp_strange hJ ?_
        rw [show (2 : Int32) * nI (s / 10 % 10) = nI (2 * (s / 10 % 10)) from pk_mul 2 _]
        exact fin _ (by simp [sp_strange])
      · refine x_Pilgrim_strange hJ (Or.inl rfl) ?_
        rw [show nI (s / 10 % 10) + 3 = nI (s / 10 % 10 + 3) from nI_add _ 3]
        exact fin _ (by simp [sp_strange])
      · refine x_Bishop_strange hJ (by omega) ?_
        exact fin _ rfl
      · refine x_Friend_strange hJ (Or.inl rfl) ?_
        rw [nI_div2 _ (by omega)]
        exact fin _ (by simp [sp_strange])
      · refine x_Twin_strange hJ (by omega) (by omega) ?_
        exact fin _ rfl
    · refine br_f (fun z => g ((nI_mod2 dy (by omega)).mp z)) ?_
      have ec : (dy + 1 + 1) / 2 = (dy + 1) / 2 := by omega
      rw [ec] at ih
      exact x_ra_tail (come := (dy + 1) / 2) hJ hR hO hs (by omega) ec.symm _ (by unfold st_md; rw [if_neg g]) hA hb ih _
theorem x_reportsAgainst (hJ : am_Cl am_meth L xs J) {I : am_I} {u : am_U} {s : Nat} (hR : Rel (TR 8) I u) (hO : OKu u) (hs : s < 500) (h : ∀ A, A < 64 → (∀ r, A.testBit r = true ↔ r < u 8 ∧ ¬ st_so u s r) → Q (some (.int (nI A))) I) {z2 z3 z4 z5 z6 z7 z8 : Option Value} : J (d + 3) q_Road_reportsAgainst 0 [some (.ref 8), some (.int (nI s)), z2, z3, z4, z5, z6, z7, z8] [] I Q := by
  refine am_vcc hJ [29] 200 _ _ _ _ _ _ _ ?_
  refine x_snowOf hJ hs ?_
  refine x_lastReported hJ hR hO (fun m hm hml => ?_)
  refine x_againstDay (dy := 0) (lf := 12) (sn := s % 10) hJ hR hO (by omega) (by omega) (by omega) (fun B hB hBb => ?_)
  refine x_ra_loop hJ hR hO hs hm hml h m 0 B z8 (Nat.zero_add _) hB (fun r => ?_)
  rw [hBb]
  have key : u (74 + 4 * r) = 0 → (st_so u s r ↔ (u (76 + 4 * r) ≤ (if u (75 + 4 * r) = 0 then 12 else s % 10) ∧ (if u (75 + 4 * r) = 0 then 12 else s % 10) ≤ u (77 + 4 * r))) := fun e => by
    unfold st_so st_v
    rw [e]
    rfl
  constructor
  · rintro ⟨a, b, c⟩
    exact ⟨a, by omega, fun z => c ((key b).mp z)⟩
  · rintro ⟨a, b, c⟩
    exact ⟨a, by omega, fun z => c ((key (by omega)).mpr z)⟩
/-! the reference -/
theorem m_tell_tail (hJ : am_Cl am_meth L xs J) {I : am_I} {u : am_U} {s dy come : Nat} (hM : MRep I 67 u) (hO : OKu u) (hs : s < 500) (hdy : dy < 16) (md : Nat) (hmd : md = st_md (s / 100 + 1) (s / 10 % 10) (st_lf u (s / 100 + 1) (s / 10 % 10) (s % 10) dy) dy) {z1 z2 z3 : Option Value}
    (ih : ∀ z8 : Option Value, J (d + 2) q_M_tellsStranger 13 [some (.ref 66), z1, z2, z3, some (.int (nI (st_sn u (s % 10) (dy + 1)))), some (.int (nI (st_lf u (s / 100 + 1) (s / 10 % 10) (s % 10) (dy + 1)))), some (.int (nI come)), some (.int (nI (dy + 1))), z8] [] I Q) (z8 : Option Value) : J (d + 2) q_M_tellsStranger 101 [some (.ref 66), z1, z2, z3, some (.int (nI (st_sn u (s % 10) (dy + 1)))), some (.int (nI md)), some (.int (nI come)), some (.int (nI dy)), z8] [] I Q := by
  have hsn := st_sn_le (u := u) (s0 := s % 10) (by omega) (dy + 1)
  have hml : md ≤ 999 := by rw [hmd]; exact st_md_le (st_lf_le dy)
  have el : st_lf u (s / 100 + 1) (s / 10 % 10) (s % 10) (dy + 1) = md - 1 - st_sn u (s % 10) (dy + 1) / 3 := by rw [hmd]; rfl
  have e : nI md - 1 - nI (st_sn u (s % 10) (dy + 1)) / 3 = nI md - nI (1 + st_sn u (s % 10) (dy + 1) / 3) := by
    rw [nI_d3 _ (by omega), ← nI_add, show nI 1 = (1 : Int32) from rfl]
    exact am_subsub _ _ _
  have e2 : am_held (nI md - 1 - nI (st_sn u (s % 10) (dy + 1)) / 3) 999 = nI (st_lf u (s / 100 + 1) (s / 10 % 10) (s % 10) (dy + 1)) := by
    rw [e, show (999 : Int32) = nI 999 from rfl, am_heldS (by omega) (by omega) (by omega), el]
    congr 1
    split <;> omega
  have k9 := ih z8
  rw [← e2, ← nI_1 dy] at k9
  refine am_vcc hJ [13] 200 _ _ _ _ _ _ _ ?_
  refine ⟨by decide, ?_⟩
  refine m_held hJ ?_
  exact k9
theorem m_tell_loop (hJ : am_Cl am_meth L xs J) {I0 : am_I} {u : am_U} {s : Nat} (hM : MRep I0 67 u) (hO : OKu u) (hs : s < 500) {z3 : Option Value} (h : ∀ I : am_I, (∀ o, o ≠ 78 → o ≠ 79 → I o = I0 o) → (∀ i, i < 16 → I 78 i = nI (st_lf u (s / 100 + 1) (s / 10 % 10) (s % 10) i) ∧ I 79 i = nI (st_sn u (s % 10) i)) → Q none I) : ∀ (n dy : Nat) (I : am_I) (z8 : Option Value), dy + n = 16 → (∀ o, o ≠ 78 → o ≠ 79 → I o = I0 o) → (∀ i, i < dy → I 78 i = nI (st_lf u (s / 100 + 1) (s / 10 % 10) (s % 10) i) ∧ I 79 i = nI (st_sn u (s % 10) i)) → J (d + 2) q_M_tellsStranger 13 [some (.ref 66), some (.int (nI (s / 100 + 1))), some (.int (nI (s / 10 % 10))), z3, some (.int (nI (st_sn u (s % 10) dy))), some (.int (nI (st_lf u (s / 100 + 1) (s / 10 % 10) (s % 10) dy))), some (.int (nI ((dy + 1) / 2))), some (.int (nI dy)), z8] [] I Q
  | 0, dy, I, z8, hn, hF, hL => by
    refine am_vcl hJ [13] 200 ?_
    refine br_t (by show nI 16 ≤ nI dy; exact nI_le (by omega) (by omega)) ?_
    exact h I hF (fun i hi => hL i (by omega))
  | n + 1, dy, I, z8, hn, hF, hL => by
    have hsn := st_sn_le (u := u) (s0 := s % 10) (by omega) dy
    have hlf := st_lf_le (u := u) (kd := s / 100 + 1) (ta := s / 10 % 10) (s0 := s % 10) dy
    have hst : sp_strange (s / 100 + 1) (s / 10 % 10) dy ≤ 18 := sp_strange_le (by omega)
    have I1F : ∀ o, o ≠ 78 → o ≠ 79 → am_put (am_put I 78 dy (nI (st_lf u (s / 100 + 1) (s / 10 % 10) (s % 10) dy))) 79 dy (nI (st_sn u (s % 10) dy)) o = I0 o := fun o o1 o2 => by rw [am_put_o o2, am_put_o o1]; exact hF o o1 o2
    have ih := fun z8 => m_tell_loop (z3 := z3) hJ hM hO hs h n (dy + 1) (am_put (am_put I 78 dy (nI (st_lf u (s / 100 + 1) (s / 10 % 10) (s % 10) dy))) 79 dy (nI (st_sn u (s % 10) dy))) z8 (by omega) I1F (fun i hi => by
      by_cases q : i = dy
      · subst q
        exact ⟨by rw [am_put_o (by decide), put_at], put_at⟩
      · obtain ⟨a, b⟩ := hL i (by omega)
        exact ⟨by rw [am_put_o (by decide), put_nk q]; exact a, by rw [put_nk q, am_put_o (by decide)]; exact b⟩)
    have M1 : MRep (am_put (am_put I 78 dy (nI (st_lf u (s / 100 + 1) (s / 10 % 10) (s % 10) dy))) 79 dy (nI (st_sn u (s % 10) dy))) 67 u := hM.kept (I1F 67 (by decide) (by decide))
    have ew : 10 + nI dy = nI (10 + dy) := nI_add 10 dy
    refine am_vcl hJ [13, 101] 200 ?_
    refine br_f (by show ¬ nI 16 ≤ nI dy; exact nI_ge (by omega) (by omega)) ?_
    refine ⟨vp_in_nI (by omega) (by omega), vp_in_nI (by omega) (by omega), am_vinN ew (by omega) (by omega), ?_⟩
    rw [am_clN ew (by omega), nI_clamp (n := dy) (by omega), M1 _ (by omega)]
    refine m_snowBy hJ hsn (hO.Wt (by omega)) ?_
    refine ⟨by decide, ?_⟩
    by_cases g : dy % 2 = 0
    · refine br_t ((nI_mod2 dy (by omega)).mpr g) ?_
      have ec : (dy + 1 + 1) / 2 = (dy + 1) / 2 + 1 := by omega
      rw [ec] at ih
      have tail := fun md hmd z8 => m_tell_tail (come := (dy + 1) / 2 + 1) hJ M1 hO hs (by omega) md hmd ih z8
      refine m_strangeOf hJ (by omega) (by omega) (by omega) ?_
      have hcm : (2 : Int32) * nI ((dy + 1) / 2) = nI (2 * ((dy + 1) / 2)) := pk_mul 2 _
      have em : ∀ x : Nat, x = sp_strange (s / 100 + 1) (s / 10 % 10) dy - 2 * ((dy + 1) / 2) → am_held (nI (st_lf u (s / 100 + 1) (s / 10 % 10) (s % 10) dy) + nI x) 999 = nI (st_md (s / 100 + 1) (s / 10 % 10) (st_lf u (s / 100 + 1) (s / 10 % 10) (s % 10) dy) dy) := by
        intro x hx
        rw [nI_add, show (999 : Int32) = nI 999 from rfl, am_heldN (by omega) (by omega)]
        unfold st_md
        rw [if_pos g, hx]
      by_cases g2 : sp_strange (s / 100 + 1) (s / 10 % 10) dy < 2 * ((dy + 1) / 2)
      · refine br_f (by show ¬ 0 ≤ nI (sp_strange (s / 100 + 1) (s / 10 % 10) dy) - 2 * nI ((dy + 1) / 2); rw [hcm]; exact Int32.not_le.mpr (pk_sneg (by omega) g2)) ?_
        refine m_held hJ ?_
        have k9 := tail _ rfl (some (.int (nI (sp_strange (s / 100 + 1) (s / 10 % 10) dy) - 2 * nI ((dy + 1) / 2))))
        rw [← em 0 (by omega), ← nI_1 ((dy + 1) / 2)] at k9
        exact k9
      · have es : nI (sp_strange (s / 100 + 1) (s / 10 % 10) dy) - 2 * nI ((dy + 1) / 2) = nI (sp_strange (s / 100 + 1) (s / 10 % 10) dy - 2 * ((dy + 1) / 2)) := by rw [hcm]; exact pk_sub (by omega)
        refine br_t (by show 0 ≤ nI (sp_strange (s / 100 + 1) (s / 10 % 10) dy) - 2 * nI ((dy + 1) / 2); rw [es]; exact nI_pos' (by omega)) ?_
        refine m_held hJ ?_
        have k9 := tail _ rfl (some (.int (nI (sp_strange (s / 100 + 1) (s / 10 % 10) dy) - 2 * nI ((dy + 1) / 2))))
        rw [← em _ rfl, ← es, ← nI_1 ((dy + 1) / 2)] at k9
        exact k9
    · refine br_f (fun z => g ((nI_mod2 dy (by omega)).mp z)) ?_
      have ec : (dy + 1 + 1) / 2 = (dy + 1) / 2 := by omega
      rw [ec] at ih
      exact m_tell_tail (come := (dy + 1) / 2) hJ M1 hO hs (by omega) _ (by unfold st_md; rw [if_neg g]) ih _
theorem m_tells (hJ : am_Cl am_meth L xs J) {I : am_I} {u : am_U} {s : Nat} (hM : MRep I 67 u) (hO : OKu u) (hs : s < 500) (h : ∀ I' : am_I, (∀ o, o ≠ 78 → o ≠ 79 → I' o = I o) → (∀ i, i < 16 → I' 78 i = nI (st_lf u (s / 100 + 1) (s / 10 % 10) (s % 10) i) ∧ I' 79 i = nI (st_sn u (s % 10) i)) → Q none I') {z4 z5 z6 z7 z8 : Option Value} : J (d + 2) q_M_tellsStranger 0 [some (.ref 66), some (.int (nI (s / 100 + 1))), some (.int (nI (s / 10 % 10))), some (.int (nI (s % 10))), z4, z5, z6, z7, z8] [] I Q := by
  have k9 := m_tell_loop (d := d) (z3 := some (.int (nI (s % 10)))) hJ hM hO hs h 16 0 I z8 (by decide) (fun _ _ _ => rfl) (fun i hi => by omega)
  refine am_vcc hJ [13] 200 _ _ _ _ _ _ _ ?_
  exact k9
theorem m_isSo (hJ : am_Cl am_meth L xs J) {I : am_I} {u : am_U} {s r : Nat} (hM : MRep I 67 u) (hO : OKu u) (hr : r < 6) (hT : ∀ i, i < 16 → I 78 i = nI (st_lf u (s / 100 + 1) (s / 10 % 10) (s % 10) i) ∧ I 79 i = nI (st_sn u (s % 10) i)) (h1 : st_so u s r → Q (some (.int 1)) I) (h0 : ¬ st_so u s r → Q (some (.int 0)) I) {z2 z3 : Option Value} : J (d + 1) q_M_isSo 0 [some (.ref 66), some (.int (nI r)), z2, z3] [] I Q := by
  obtain ⟨l1, l2, l3, l4⟩ := hO.Rp hr
  have i0 : 74 + 4 * nI r = nI (74 + 4 * r) := by rw [show (4 : Int32) = nI 4 from rfl, pk_mul]; exact nI_add 74 _
  have i1 : 74 + 4 * nI r + 1 = nI (75 + 4 * r) := by rw [i0, nI_1]; congr 1; omega
  have i2 : 74 + 4 * nI r + 2 = nI (76 + 4 * r) := by rw [i0, show (2 : Int32) = nI 2 from rfl, nI_add]; congr 1; omega
  have i3 : 74 + 4 * nI r + 3 = nI (77 + 4 * r) := by rw [i0, show (3 : Int32) = nI 3 from rfl, nI_add]; congr 1; omega
  obtain ⟨a, b⟩ := hT (u (74 + 4 * r)) (by omega)
  have hsn : st_lf u (s / 100 + 1) (s / 10 % 10) (s % 10) (u (74 + 4 * r)) ≤ 999 := st_lf_le _
  have hsn2 : st_sn u (s % 10) (u (74 + 4 * r)) ≤ 9 := st_sn_le (by omega) _
  have fin : ∀ v : Nat, v = st_v u s r (u (74 + 4 * r)) → ∀ z3, J (d + 1) q_M_isSo 43 [some (.ref 66), some (.int (nI r)), some (.int (74 + 4 * nI r)), z3] [.int (nI v)] I Q := by
    intro v hv z3
    have hvl : v ≤ 999 := by rw [hv]; unfold st_v; split <;> omega
    refine am_vc hJ 30 _ _ _ _ _ _ _ ?_
    refine ⟨am_vinN i2 (by omega) (by omega), am_vinN i3 (by omega) (by omega), ?_⟩
    rw [am_clN i2 (by omega), am_clN i3 (by omega), hM _ (by omega), hM _ (by omega)]
    refine m_in1 hJ (fun z => ?_) (fun z => ?_)
    · rw [nI_leI (by omega) (by omega), nI_leI (by omega) (by omega)] at z
      exact ⟨Or.inr rfl, h1 (by unfold st_so; rw [← hv]; exact z)⟩
    · rw [nI_leI (by omega) (by omega), nI_leI (by omega) (by omega)] at z
      exact ⟨Or.inl rfl, h0 (by unfold st_so; rw [← hv]; exact z)⟩
  have e74 : I 67 (74 + 4 * nI r).toNatClampNeg = nI (u (74 + 4 * r)) := by rw [am_clN i0 (by omega), hM _ (by omega)]
  refine am_vcc hJ [43] 200 _ _ _ _ _ _ _ ?_
  refine ⟨am_vinN i1 (by omega) (by omega), ?_⟩
  rw [am_clN i1 (by omega), hM _ (by omega)]
  by_cases g : u (75 + 4 * r) = 0
  · refine br_t (by show nI (u (75 + 4 * r)) = 0; rw [g]; rfl) ?_
    refine ⟨am_vinN i0 (by omega) (by omega), ?_⟩
    refine ⟨by show vp_in (I 67 (74 + 4 * nI r).toNatClampNeg) 16; rw [e74]; exact vp_in_nI (by omega) (by omega), ?_⟩
    have k9 := fin _ rfl z3
    unfold st_v at k9
    rw [if_pos g, ← a] at k9
    show J (d + 1) q_M_isSo 43 _ [.int (I 78 (I 67 (74 + 4 * nI r).toNatClampNeg).toNatClampNeg)] I Q
    rw [e74, nI_clamp (by omega)]
    exact k9
  · refine br_f (by show ¬ nI (u (75 + 4 * r)) = 0; exact nI_ne0 (by omega) (by omega)) ?_
    refine ⟨am_vinN i0 (by omega) (by omega), ?_⟩
    refine ⟨by show vp_in (I 67 (74 + 4 * nI r).toNatClampNeg) 16; rw [e74]; exact vp_in_nI (by omega) (by omega), ?_⟩
    have k9 := fin _ rfl z3
    unfold st_v at k9
    rw [if_neg g, ← b] at k9
    show J (d + 1) q_M_isSo 43 _ [.int (I 79 (I 67 (74 + 4 * nI r).toNatClampNeg).toNatClampNeg)] I Q
    rw [e74, nI_clamp (by omega)]
    exact k9
end
