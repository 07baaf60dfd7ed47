theorem am_dropC {cs : List Nat} {p : Nat} (h : p < cs.length) : cs.drop p = cs.getD p 0 :: cs.drop (p + 1) := by
  rw [List.drop_eq_getElem_cons h]
  congr 1
  simp [List.getD, h]
section
variable {L : Nat} {xs : Nat → Int32} {J : am_J} {d : Nat} {I : am_I} {Q : am_Q}
theorem x_holds_loop (hJ : am_Cl am_meth L xs J) {F : Nat → Nat} {fr len : Nat} {cs : List Nat} {res : Bool} (hF : FactsR I F) (hfl : fr + len ≤ 200) (hcl : cs.length = len) (hcd : ∀ i, i < len → I 17 (fr + i) = nI (cs.getD i 0) ∧ cs.getD i 0 < 30000) (h1 : res = true → Q (some (.int 1)) I) (h0 : res = false → Q (some (.int 0)) I) : ∀ (n p : Nat) (pl : List Bool) (x : Int32) (z1 z2 : Option Value), len - p ≤ n → p ≤ len → sp_hc F (cs.drop p) pl = some [res] → Tr x pl → pl.length ≤ 20 → J (d + 2) q_Road_holds 18 [some (.ref 8), some (.int (nI fr)), some (.int (nI len)), some (.int x), some (.int (nI (fr + len))), some (.int (nI (fr + p))), z1, z2] [] I Q
  | n, p, pl, x, z1, z2, hn, hp, hh, hT, hl20 => by
    by_cases hpl : p < len
    · cases n with
      | zero => omega
      | succ n =>
        have ih := x_holds_loop hJ hF hfl hcl hcd h1 h0 n
        obtain ⟨e17, e30⟩ := hcd p hpl
        rw [am_dropC (by omega)] at hh
        obtain ⟨x0, hx0⟩ : ∃ x0, cs.getD p 0 = x0 := ⟨_, rfl⟩
        rw [hx0] at hh e17 e30
        have ec : I 17 (nI (fr + p)).toNatClampNeg = nI x0 := by rw [nI_clamp (by omega)]; exact e17
        have q1 : nI x0 = 10012 ↔ x0 = 10012 := by rw [show (10012 : Int32) = nI 10012 from rfl, nI_eq (by omega) (by omega)]
        have q2 : nI x0 = 10011 ↔ x0 = 10011 := by rw [show (10011 : Int32) = nI 10011 from rfl, nI_eq (by omega) (by omega)]
        have q3 : nI x0 = 10010 ↔ x0 = 10010 := by rw [show (10010 : Int32) = nI 10010 from rfl, nI_eq (by omega) (by omega)]
        have ei : nI (fr + p) + 1 = nI (fr + (p + 1)) := nI_1 (fr + p)
        unfold sp_hc at hh
        refine am_vcl hJ [18] 200 ?_
        refine br_f (nI_ge (by omega) (by omega)) ?_
        refine ⟨vp_in_nI (by omega) (by omega), ?_⟩
        refine ⟨fun g => ?_, fun g => ?_⟩
        · have g : I 17 (nI (fr + p)).toNatClampNeg = 10012 := g
          rw [ec] at g
          rw [if_pos (q1.mp g)] at hh
          match pl, hh, hT, hl20 with
          | [], hh, _, _ => cases hh
          | a :: pl, hh, hT, hl20 =>
            simp only [List.length_cons] at hl20
            have k := ih (p + 1) ((!a) :: pl) (x ^^^ 1) (some (.int (I 17 (nI (fr + p)).toNatClampNeg))) (some (.int (x &&& 1))) (by omega) (by omega) hh (hT.not (by omega)) (by simpa using hl20)
            rw [← ei] at k
            exact k
        · have g : ¬ I 17 (nI (fr + p)).toNatClampNeg = 10012 := g
          rw [ec] at g
          rw [if_neg (fun z => g (q1.mpr z))] at hh
          refine ⟨fun g2 => ?_, fun g2 => ?_⟩
          · have g2 : I 17 (nI (fr + p)).toNatClampNeg = 10011 := g2
            rw [ec] at g2
            rw [if_pos (q2.mp g2)] at hh
            match pl, hh, hT, hl20 with
            | [], hh, _, _ => cases hh
            | [_], hh, _, _ => cases hh
            | a :: b :: pl, hh, hT, hl20 =>
              simp only [List.length_cons] at hl20
              have k := ih (p + 1) ((b && a) :: pl) _ (some (.int (I 17 (nI (fr + p)).toNatClampNeg))) (some (.int (x &&& 1))) (by omega) (by omega) hh (hT.and (by omega)) (by simp only [List.length_cons]; omega)
              rw [← ei] at k
              exact k
          · have g2 : ¬ I 17 (nI (fr + p)).toNatClampNeg = 10011 := g2
            rw [ec] at g2
            rw [if_neg (fun z => g2 (q2.mpr z))] at hh
            refine ⟨fun g3 => ?_, fun g3 => ?_⟩
            · have g3 : I 17 (nI (fr + p)).toNatClampNeg = 10010 := g3
              rw [ec] at g3
              rw [if_pos (q3.mp g3)] at hh
              match pl, hh, hT, hl20 with
              | [], hh, _, _ => cases hh
              | [_], hh, _, _ => cases hh
              | a :: b :: pl, hh, hT, hl20 =>
                simp only [List.length_cons] at hl20
                have k := ih (p + 1) ((b || a) :: pl) _ (some (.int (I 17 (nI (fr + p)).toNatClampNeg))) (some (.int (x &&& 1))) (by omega) (by omega) hh (hT.or (by omega)) (by simp only [List.length_cons]; omega)
                rw [← ei] at k
                exact k
            · have g3 : ¬ I 17 (nI (fr + p)).toNatClampNeg = 10010 := g3
              rw [ec] at g3
              rw [if_neg (fun z => g3 (q3.mpr z))] at hh
              by_cases hp1 : p + 1 < len
              · rw [am_dropC (by omega)] at hh
                by_cases hp2 : p + 2 < len
                · rw [am_dropC (by omega)] at hh
                  dsimp only at hh
                  split at hh
                  · next hlen =>
                    obtain ⟨f1, f2⟩ := hcd (p + 1) hp1
                    obtain ⟨f3, f4⟩ := hcd (p + 1 + 1) hp2
                    have ei2 : nI (fr + p) + 1 + 1 = nI (fr + (p + 1 + 1)) := by rw [ei]; exact nI_1 _
                    have ei3 : nI (fr + p) + 1 + 2 = nI (fr + (p + 1 + 1 + 1)) := by rw [ei, show (2 : Int32) = nI 2 from rfl, nI_add]; congr 1
                    refine br_f (by show ¬ nI (fr + len) ≤ nI (fr + p) + 1 + 1; rw [ei2, nI_leI (by omega) (by omega)]; omega) ?_
                    refine ⟨am_vinN ei (by omega) (by omega), am_vinN ei2 (by omega) (by omega), ?_⟩
                    have c1 : I 17 (nI (fr + p) + 1).toNatClampNeg = nI (cs.getD (p + 1) 0) := by rw [am_clN ei (by omega)]; exact f1
                    have c2 : I 17 (nI (fr + p) + 1 + 1).toNatClampNeg = nI (cs.getD (p + 1 + 1) 0) := by rw [am_clN ei2 (by omega)]; exact f3
                    conv => whnf
                    show J (d + 1) q_Road_compared 0 [some (.ref 8), some (.int (I 17 (nI (fr + p)).toNatClampNeg)), some (.int (I 17 (nI (fr + p) + 1).toNatClampNeg)), some (.int (I 17 (nI (fr + p) + 1 + 1).toNatClampNeg)), none, none, none] [] I _
                    rw [ec, c1, c2]
                    refine x_compared hJ hF e30 f2 f4 ?_
                    have k := ih (p + 1 + 1 + 1) (sp_cmp F x0 (cs.getD (p + 1) 0) (cs.getD (p + 1 + 1) 0) :: pl) _ (some (.int (nI x0))) (some (.int (x &&& 1))) (by omega) (by omega) hh (hT.push (by omega) _) (by simp only [List.length_cons]; omega)
                    rw [← ei3] at k
                    exact k
                  · cases hh
                · have hd : cs.drop (p + 1 + 1) = [] := List.drop_eq_nil_iff.mpr (by omega)
                  rw [hd] at hh
                  cases hh
              · have hd : cs.drop (p + 1) = [] := List.drop_eq_nil_iff.mpr (by omega)
                rw [hd] at hh
                cases hh
    · have hd : cs.drop p = [] := List.drop_eq_nil_iff.mpr (by omega)
      rw [hd] at hh
      have hpl2 : pl = [res] := by
        simp only [sp_hc, Option.some.injEq] at hh
        exact hh
      subst hpl2
      have hb := hT.1 0 (by simp)
      refine am_vcl hJ [18] 200 ?_
      refine br_t (nI_le (by omega) (by omega)) ?_
      refine ⟨fun g => ?_, fun g => ?_⟩
      · have g := Tr.last.mp g
        rw [hb] at g
        exact ⟨Or.inl rfl, h0 (by simpa using g)⟩
      · have g : ¬ bt x 0 = false := fun z => g (Tr.last.mpr z)
        rw [hb] at g
        exact ⟨Or.inr rfl, h1 (by simpa using g)⟩
theorem Tr.one : Tr 1 [] := ⟨fun i hi => by simp at hi, fun _ => by decide⟩
theorem x_holds (hJ : am_Cl am_meth L xs J) {F : Nat → Nat} {fr len : Nat} {cs : List Nat} {res : Bool} (hF : FactsR I F) (hfl : fr + len ≤ 200) (hcl : cs.length = len) (hcd : ∀ i, i < len → I 17 (fr + i) = nI (cs.getD i 0) ∧ cs.getD i 0 < 30000) (hr : (len = 0 ∧ res = true) ∨ sp_hc F cs [] = some [res]) (h1 : res = true → Q (some (.int 1)) I) (h0 : res = false → Q (some (.int 0)) I) {z1 z2 z3 z4 z5 : Option Value} : J (d + 2) q_Road_holds 0 [some (.ref 8), some (.int (nI fr)), some (.int (nI len)), z1, z2, z3, z4, z5] [] I Q := by
  have em : am_mn (nI fr + nI len) (nI 200) = nI (fr + len) := by
    rw [nI_add, am_mnN (by omega) (by omega)]
    congr 1
    split <;> omega
  have start : J (d + 2) q_Road_holds 18 [some (.ref 8), some (.int (nI fr)), some (.int (nI len)), some (.int 1), some (.int (nI (fr + len))), some (.int (nI fr)), z4, z5] [] I Q := by
    rcases hr with ⟨hl0, hres⟩ | hh
    · subst hl0
      refine am_vcl hJ [18] 200 ?_
      refine br_t (nI_le (by omega) (by omega)) ?_
      refine br_f (by decide) ?_
      exact ⟨Or.inr rfl, h1 hres⟩
    · exact x_holds_loop hJ hF hfl hcl hcd h1 h0 len 0 [] 1 z4 z5 (by omega) (by omega) hh Tr.one (by simp)
  rw [← em] at start
  refine am_vcc hJ [18] 200 _ _ _ _ _ _ _ ?_
  exact start
end
