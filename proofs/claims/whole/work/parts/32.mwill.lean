/-! WILLOF IN THE REFERENCE -/
def PileR (I : am_I) (pl : List Nat) : Prop := ∀ i, i < pl.length → I 70 (pl.length - 1 - i) = nI (pl.getD i 0) ∧ pl.getD i 0 < 2 ^ 20
theorem PileR.push {I : am_I} {pl : List Nat} {a : Nat} (h : PileR I pl) (ha : a < 2 ^ 20) : PileR (am_put I 70 pl.length (nI a)) (a :: pl) := by
  intro i hi
  simp only [List.length_cons] at hi ⊢
  cases i with
  | zero =>
    rw [show pl.length + 1 - 1 - 0 = pl.length by omega, put_at]
    exact ⟨rfl, ha⟩
  | succ i =>
    rw [show pl.length + 1 - 1 - (i + 1) = pl.length - 1 - i by omega, put_nk (by omega)]
    exact h i (by omega)
theorem PileR.tail {I : am_I} {pl : List Nat} {a : Nat} (h : PileR I (a :: pl)) : PileR I pl := by
  intro i hi
  have := h (i + 1) (by simp only [List.length_cons]; omega)
  simp only [List.length_cons] at this
  rw [show pl.length + 1 - 1 - (i + 1) = pl.length - 1 - i by omega] at this
  exact this
theorem PileR.top {I : am_I} {pl : List Nat} {a : Nat} (h : PileR I (a :: pl)) : I 70 pl.length = nI a ∧ a < 2 ^ 20 := by
  have := h 0 (by simp)
  simp only [List.length_cons] at this
  exact this
theorem sp_join_lt {x a b : Nat} : sp_join x a b ≤ 1 := by
  unfold sp_join
  repeat' split
  all_goals omega
section
variable {L : Nat} {xs : Nat → Int32} {J : am_J} {d : Nat} {Q : am_Q}
theorem m_ruleOf (hJ : am_Cl am_meth L xs J) {I : am_I} {r w : Int32} {a b : Nat} (hr : r = nI a) (hw : w = nI b) (ha : a < 8) (hb : b < 3) (h : Q (some (.int (I 67 (98 + 3 * a + b)))) I) : J d q_M_ruleOf 0 [some (.ref 66), some (.int r), some (.int w)] [] I Q := by
  have e : 98 + 3 * r + w = nI (98 + 3 * a + b) := by
    rw [hr, hw, show (98 : Int32) = nI 98 from rfl, show (3 : Int32) = nI 3 from rfl, pk_mul, nI_add, nI_add]
  refine am_vc hJ 11 _ _ _ _ _ _ _ ?_
  refine ⟨am_vinN e (by omega) (by omega), ?_⟩
  show Q (some (.int (I 67 (98 + 3 * r + w).toNatClampNeg))) I
  rw [am_clN e (by omega)]
  exact h
theorem m_knownOf (hJ : am_Cl am_meth L xs J) {I : am_I} {w k : Nat} {u : am_U} (hM : MRep I 67 u) (hO : OKu u) (hk : k < 6) (hw : w < 10) (h : Q (some (.int (nI (sp_F u k w)))) I) : J (d + 2) q_M_knownOf 0 [some (.ref 66), some (.int (nI w)), some (.int (nI k))] [] I Q := by
  unfold sp_F sp_known at h
  refine am_vc hJ 30 _ _ _ _ _ _ _ ?_
  refine ⟨fun g => ?_, fun g => ?_⟩
  · have g : nI w = nI 0 := g
    rw [nI_eq (by omega) (by omega)] at g
    rw [if_pos g] at h
    refine ⟨am_vin (by decide), ?_⟩
    show Q (some (.int (I 67 0))) I
    rw [hM 0 (by omega)]
    exact h
  · have g : ¬ nI w = nI 0 := g
    rw [nI_eq (by omega) (by omega)] at g
    rw [if_neg g] at h
    refine ⟨fun g1 => ?_, fun g1 => ?_⟩
    · have g1 : nI w = nI 1 := g1
      rw [nI_eq (by omega) (by omega)] at g1
      rw [if_pos g1] at h
      refine m_get hJ (a := k) (b := 2) rfl rfl hk (by decide) ?_
      show Q (some (.int (I 67 (38 + 6 * k + 2)))) I
      rw [hM _ (by omega), show 38 + 6 * k + 2 = 40 + 6 * k by omega]
      exact h
    · have g1 : ¬ nI w = nI 1 := g1
      rw [nI_eq (by omega) (by omega)] at g1
      rw [if_neg g1] at h
      refine ⟨fun g2 => ?_, fun g2 => ?_⟩
      · have g2 : nI w = nI 2 := g2
        rw [nI_eq (by omega) (by omega)] at g2
        rw [if_pos g2] at h
        refine m_stillOf hJ hM hO hk ?_
        exact h
      · have g2 : ¬ nI w = nI 2 := g2
        rw [nI_eq (by omega) (by omega)] at g2
        rw [if_neg g2] at h
        refine ⟨fun g3 => ?_, fun g3 => ?_⟩
        · have g3 : nI w = nI 3 := g3
          rw [nI_eq (by omega) (by omega)] at g3
          rw [if_pos g3] at h
          refine ⟨am_vin (by decide), ?_⟩
          show Q (some (.int (I 67 3))) I
          rw [hM 3 (by omega)]
          exact h
        · have g3 : ¬ nI w = nI 3 := g3
          rw [nI_eq (by omega) (by omega)] at g3
          rw [if_neg g3] at h
          exact h
theorem m_joined (hJ : am_Cl am_meth L xs J) {I : am_I} {x a b : Nat} (hx : 10010 ≤ x ∧ x < 10015) (ha : a < 2 ^ 20) (hb : b < 2 ^ 20) (h : Q (some (.int (nI (sp_join x a b)))) I) : J d q_M_joined 0 [some (.int (nI x)), some (.int (nI a)), some (.int (nI b))] [] I Q := by
  have e0 : nI a = 0 ↔ a = 0 := by rw [show (0 : Int32) = nI 0 from rfl, nI_eq (by omega) (by omega)]
  have e1 : nI b = 0 ↔ b = 0 := by rw [show (0 : Int32) = nI 0 from rfl, nI_eq (by omega) (by omega)]
  have e2 : nI a = nI b ↔ a = b := nI_eq (by omega) (by omega)
  have e3 : nI b ≤ nI a ↔ b ≤ a := nI_leI (by omega) (by omega)
  have e4 : nI a ≤ nI b ↔ a ≤ b := nI_leI (by omega) (by omega)
  rcases (show x = 10010 ∨ x = 10011 ∨ x = 10012 ∨ x = 10013 ∨ x = 10014 by omega) with rfl | rfl | rfl | rfl | rfl
  · refine am_vc hJ 30 _ _ _ _ _ _ _ ?_
    refine br_t (by decide) ?_
    refine ⟨fun g => ?_, fun g => ?_⟩
    · have g := e3.mp g
      rw [show sp_join 10010 a b = 0 by simp [sp_join]; omega] at h
      exact h
    · have g : ¬ b ≤ a := fun z => g (e3.mpr z)
      rw [show sp_join 10010 a b = 1 by simp [sp_join]; omega] at h
      exact h
  · refine am_vc hJ 30 _ _ _ _ _ _ _ ?_
    refine br_f (by decide) ?_
    refine br_t (by decide) ?_
    refine ⟨fun g => ?_, fun g => ?_⟩
    · have g := e2.mp g
      rw [show sp_join 10011 a b = 1 by simp [sp_join]; omega] at h
      exact h
    · have g : ¬ a = b := fun z => g (e2.mpr z)
      rw [show sp_join 10011 a b = 0 by simp [sp_join]; omega] at h
      exact h
  · refine am_vc hJ 30 _ _ _ _ _ _ _ ?_
    refine br_f (by decide) ?_
    refine br_f (by decide) ?_
    refine br_t (by decide) ?_
    refine ⟨fun g => ?_, fun g => ?_⟩
    · have g := e4.mp g
      rw [show sp_join 10012 a b = 0 by simp [sp_join]; omega] at h
      exact h
    · have g : ¬ a ≤ b := fun z => g (e4.mpr z)
      rw [show sp_join 10012 a b = 1 by simp [sp_join]; omega] at h
      exact h
  · refine am_vc hJ 30 _ _ _ _ _ _ _ ?_
    refine br_f (by decide) ?_
    refine br_f (by decide) ?_
    refine br_f (by decide) ?_
    refine br_t (by decide) ?_
    refine ⟨fun g => ?_, fun g => ⟨fun g2 => ?_, fun g2 => ?_⟩⟩
    · have g := e0.mp g
      rw [show sp_join 10013 a b = 0 by simp [sp_join, g]] at h
      exact h
    · have g2 := e1.mp g2
      rw [show sp_join 10013 a b = 0 by simp [sp_join, g2]] at h
      exact h
    · have g : ¬ a = 0 := fun z => g (e0.mpr z)
      have g2 : ¬ b = 0 := fun z => g2 (e1.mpr z)
      rw [show sp_join 10013 a b = 1 by simp [sp_join, g, g2]] at h
      exact h
  · refine am_vc hJ 30 _ _ _ _ _ _ _ ?_
    refine br_f (by decide) ?_
    refine br_f (by decide) ?_
    refine br_f (by decide) ?_
    refine br_f (by decide) ?_
    refine ⟨fun g => ⟨fun g2 => ?_, fun g2 => ?_⟩, fun g => ?_⟩
    · have g := e0.mp g
      have g2 := e1.mp g2
      rw [show sp_join 10014 a b = 0 by simp [sp_join, g, g2]] at h
      exact h
    · have g2 : ¬ b = 0 := fun z => g2 (e1.mpr z)
      rw [show sp_join 10014 a b = 1 by simp [sp_join, g2]] at h
      exact h
    · have g : ¬ a = 0 := fun z => g (e0.mpr z)
      rw [show sp_join 10014 a b = 1 by simp [sp_join, g]] at h
      exact h
/-- the steps, one by one -/
theorem m_holds_loop (hJ : am_Cl am_meth L xs J) {I0 : am_I} {r k b m : Nat} {u : am_U} {st : List Nat} {res : List Nat} (hM0 : MRep I0 67 u) (hO : OKu u) (hk : k < 6) (hr : r < 8) (he : sp_end u r = b + m) (hb : b + m ≤ 200) (hst : st.length = m) (hs : ∀ i, i < m → u (122 + (b + i)) = st.getD i 0) (hres : res.length ≤ 1) (h1 : (res = [] ∨ ∃ a, res = [a] ∧ a ≠ 0) → ∀ I : am_I, (∀ o, o ≠ 70 → I o = I0 o) → Q (some (.int 1)) I) (h0 : res = [0] → ∀ I : am_I, (∀ o, o ≠ 70 → I o = I0 o) → Q (some (.int 0)) I) : ∀ (n p : Nat) (pl : List Nat) (I : am_I) (z : Option Value), m - p ≤ n → p ≤ m → pl.length ≤ p → PileR I pl → (∀ o, o ≠ 70 → I o = I0 o) → sp_ev (sp_F u k) (st.drop p) pl = some res → J (d + 3) q_M_holdsFor 20 [some (.ref 66), some (.int (nI r)), some (.int (nI k)), some (.int (nI pl.length)), some (.int (nI (b + p))), z] [] I Q
  | n, p, pl, I, z, hn, hp, hpl, hP, hI, hh => by
    have hM : MRep I 67 u := by
      unfold MRep
      rw [hI 67 (by decide)]
      exact hM0
    have ee : I 67 (98 + 3 * r + 2) = nI (b + m) := by
      rw [hM _ (by omega), ← he]
      rfl
    by_cases hpm : p < m
    · cases n with
      | zero => omega
      | succ n =>
        have ih := m_holds_loop hJ hM0 hO hk hr he hb hst hs hres h1 h0 n
        rw [am_dropC (by omega)] at hh
        obtain ⟨x, hx⟩ : ∃ x, st.getD p 0 = x := ⟨_, rfl⟩
        have hux := hs p hpm
        rw [hx] at hh hux
        have ei : nI (b + p) + 1 = nI (b + (p + 1)) := nI_1 (b + p)
        have es : 122 + nI (b + p) = nI (122 + (b + p)) := nI_add 122 (b + p)
        have ex : I 67 (122 + nI (b + p)).toNatClampNeg = nI x := by rw [am_clN es (by omega), hM _ (by omega), hux]
        unfold sp_ev at hh
        refine am_vcl hJ [20] 200 ?_
        refine m_ruleOf hJ (a := r) (b := 2) rfl rfl hr (by decide) ?_
        refine br_f (by show ¬ I 67 (98 + 3 * r + 2) ≤ nI (b + p); rw [ee]; exact nI_ge (by omega) (by omega)) ?_
        refine ⟨am_vinN es (by omega) (by omega), ?_⟩
        conv => whnf
        rw [ex]
        by_cases g : x < 10010
        · rw [if_pos g] at hh
          refine br_f (by show ¬ nI 10010 ≤ nI x; exact nI_ge (by omega) (by omega)) ?_
          by_cases g2 : x < 10000
          · rw [if_pos g2] at hh
            refine br_f (by show ¬ nI 10000 ≤ nI x; exact nI_ge (by omega) (by omega)) ?_
            refine ⟨vp_in_nI (by omega) (by omega), ?_⟩
            have k9 := ih (p + 1) (x :: pl) (am_put I 70 pl.length (nI x)) (some (.int (nI x))) (by omega) (by omega) (by simp only [List.length_cons]; omega) (hP.push (by omega)) (fun o ho => by rw [am_put_o ho]; exact hI o ho) hh
            rw [← ei, List.length_cons, ← nI_1] at k9
            conv => whnf
            rw [nI_clamp (by omega)]
            exact k9
          · rw [if_neg g2] at hh
            refine br_t (by show nI 10000 ≤ nI x; exact nI_le (by omega) (by omega)) ?_
            have e4 : nI x - 10000 = nI (x - 10000) := pk_sub (a := x) (b := 10000) (by omega)
            conv => whnf
            show J (d + 2) q_M_knownOf 0 [some (.ref 66), some (.int (nI x - 10000)), some (.int (nI k))] [] I _
            rw [e4]
            refine m_knownOf hJ hM hO hk (by omega) ?_
            refine ⟨vp_in_nI (by omega) (by omega), ?_⟩
            have k9 := ih (p + 1) (sp_F u k (x - 10000) :: pl) (am_put I 70 pl.length (nI (sp_F u k (x - 10000)))) (some (.int (nI x))) (by omega) (by omega) (by simp only [List.length_cons]; omega) (hP.push (sp_F_lt hO hk _)) (fun o ho => by rw [am_put_o ho]; exact hI o ho) hh
            rw [← ei, List.length_cons, ← nI_1] at k9
            conv => whnf
            rw [nI_clamp (by omega)]
            exact k9
        · rw [if_neg g] at hh
          by_cases gb : 10015 < x
          · rw [if_pos gb] at hh
            cases hh
          · rw [if_neg gb] at hh
            refine br_t (by show nI 10010 ≤ nI x; exact nI_le (by omega) (by omega)) ?_
            match pl, hh, hP, hpl with
            | [], hh, _, _ => cases hh
            | a :: pl, hh, hP, hpl =>
              simp only [List.length_cons] at hpl
              obtain ⟨t1, t2⟩ := hP.top
              have el : nI (a :: pl).length - 1 = nI pl.length := nI_pred _
              by_cases g3 : x = 10015
              · subst g3
                dsimp only at hh
                rw [if_pos rfl] at hh
                by_cases g4 : a ≤ 1
                · rw [if_pos g4] at hh
                  refine br_t (by decide) ?_
                  refine ⟨am_vinN el (by omega) (by omega), am_vinN el (by omega) (by omega), ?_⟩
                  have k9 := ih (p + 1) ((1 - a) :: pl) (am_put I 70 pl.length (nI (1 - a))) (some (.int (nI 10015))) (by omega) (by omega) (by simp only [List.length_cons]; omega) (hP.tail.push (by omega)) (fun o ho => by rw [am_put_o ho]; exact hI o ho) hh
                  have e1 : (1 : Int32) - nI a = nI (1 - a) := pk_sub (a := 1) (b := a) g4
                  rw [← ei] at k9
                  conv => whnf
                  show J (d + 3) q_M_holdsFor 20 [some (.ref 66), some (.int (nI r)), some (.int (nI k)), some (.int (nI (a :: pl).length)), some (.int (nI (b + p) + 1)), some (.int (nI 10015))] [] (am_put I 70 (nI (a :: pl).length - 1).toNatClampNeg (1 - I 70 (nI (a :: pl).length - 1).toNatClampNeg)) Q
                  rw [am_clN el (by omega), t1, e1]
                  exact k9
                · rw [if_neg g4] at hh
                  cases hh
              · dsimp only at hh
                rw [if_neg g3] at hh
                match pl, hh, hP, hpl, t1, el with
                | [], hh, _, _, _, _ => cases hh
                | c :: pl, hh, hP, hpl, t1, el =>
                  simp only [List.length_cons] at hpl
                  obtain ⟨s1, s2⟩ := hP.tail.top
                  refine br_f (by show ¬ nI x = nI 10015; rw [nI_eq (by omega) (by omega)]; exact g3) ?_
                  have el2 : nI (a :: c :: pl).length + (-1) - 1 = nI pl.length := by
                    rw [← Int32.sub_eq_add_neg, el]
                    exact nI_pred _
                  have el1 : nI (a :: c :: pl).length + (-1) = nI (c :: pl).length := by rw [← Int32.sub_eq_add_neg]; exact el
                  refine ⟨am_vinN el2 (by omega) (by omega), am_vinN el1 (by simp only [List.length_cons]; omega) (by omega), ?_⟩
                  conv => whnf
                  show J (d + 2) q_M_joined 0 [some (.int (nI x)), some (.int (I 70 (nI (a :: c :: pl).length + (-1) - 1).toNatClampNeg)), some (.int (I 70 (nI (a :: c :: pl).length + (-1)).toNatClampNeg))] [] I _
                  rw [am_clN el2 (by omega), am_clN el1 (by simp only [List.length_cons]; omega), s1, t1]
                  refine m_joined hJ (by omega) s2 t2 ?_
                  refine ⟨am_vinN el2 (by omega) (by omega), ?_⟩
                  have k9 := ih (p + 1) (sp_join x c a :: pl) (am_put I 70 pl.length (nI (sp_join x c a))) (some (.int (nI x))) (by omega) (by omega) (by simp only [List.length_cons]; omega) (hP.tail.tail.push (by have := sp_join_lt (x := x) (a := c) (b := a); omega)) (fun o ho => by rw [am_put_o ho]; exact hI o ho) hh
                  rw [← ei] at k9
                  conv => whnf
                  show J (d + 3) q_M_holdsFor 20 [some (.ref 66), some (.int (nI r)), some (.int (nI k)), some (.int (nI (a :: c :: pl).length + (-1))), some (.int (nI (b + p) + 1)), some (.int (nI x))] [] (am_put I 70 (nI (a :: c :: pl).length + (-1) - 1).toNatClampNeg (nI (sp_join x c a))) Q
                  rw [am_clN el2 (by omega), el1]
                  exact k9
    · have hd : st.drop p = [] := List.drop_eq_nil_iff.mpr (by omega)
      rw [hd] at hh
      have hpl2 : pl = res := by
        simp only [sp_ev, Option.some.injEq] at hh
        exact hh
      subst hpl2
      refine am_vcl hJ [20] 200 ?_
      refine m_ruleOf hJ (a := r) (b := 2) rfl rfl hr (by decide) ?_
      refine br_t (by show I 67 (98 + 3 * r + 2) ≤ nI (b + p); rw [ee]; exact nI_le (by omega) (by omega)) ?_
      match pl, hres, hP, h1, h0 with
      | [], _, _, h1, _ =>
        refine br_t (by decide) ?_
        exact ⟨Or.inr rfl, h1 (Or.inl rfl) I hI⟩
      | [a], _, hP, h1, h0 =>
        obtain ⟨t1, t2⟩ := hP.top
        have t1 : I 70 0 = nI a := t1
        refine br_f (by show ¬ nI 1 = nI 0; decide) ?_
        refine ⟨am_vin (by decide), ?_⟩
        refine ⟨fun g => ?_, fun g => ?_⟩
        · have g : I 70 0 = nI 0 := g
          rw [t1, nI_eq (by omega) (by omega)] at g
          subst g
          exact ⟨Or.inl rfl, h0 rfl I hI⟩
        · have g : ¬ I 70 0 = nI 0 := g
          rw [t1, nI_eq (by omega) (by omega)] at g
          exact ⟨Or.inr rfl, h1 (Or.inr ⟨a, rfl, g⟩) I hI⟩
      | _ :: _ :: _, hres, _, _, _ => simp at hres
theorem m_holdsFor (hJ : am_Cl am_meth L xs J) {I : am_I} {r k : Nat} {u : am_U} (hM : MRep I 67 u) (hO : OKu u) (hk : k < 6) (hr : r < 8) (hbe : sp_beg u r ≤ sp_end u r) (he : sp_end u r ≤ 200) (hsem : sp_steps u r = [] ∨ ∃ a, a ≤ 1 ∧ sp_ev (sp_F u k) (sp_steps u r) [] = some [a]) (h1 : sp_holds u r (sp_F u k) = true → ∀ I' : am_I, (∀ o, o ≠ 70 → I' o = I o) → Q (some (.int 1)) I') (h0 : sp_holds u r (sp_F u k) = false → ∀ I' : am_I, (∀ o, o ≠ 70 → I' o = I o) → Q (some (.int 0)) I') {z1 z2 z3 : Option Value} : J (d + 3) q_M_holdsFor 0 [some (.ref 66), some (.int (nI r)), some (.int (nI k)), z1, z2, z3] [] I Q := by
  have start : J (d + 3) q_M_holdsFor 20 [some (.ref 66), some (.int (nI r)), some (.int (nI k)), some (.int (nI 0)), some (.int (nI (sp_beg u r + 0))), z3] [] I Q := by
    have hl : (sp_steps u r).length = sp_end u r - sp_beg u r := by simp [sp_steps]
    have hg : ∀ i, i < sp_end u r - sp_beg u r → u (122 + (sp_beg u r + i)) = (sp_steps u r).getD i 0 := by
      intro i hi
      simp [sp_steps, List.getD, hi]
    obtain ⟨res, q1, q2, q3, q4⟩ : ∃ res, sp_ev (sp_F u k) (sp_steps u r) [] = some res ∧ res.length ≤ 1 ∧ ((res = [] ∨ ∃ a, res = [a] ∧ a ≠ 0) → sp_holds u r (sp_F u k) = true) ∧ (res = [0] → sp_holds u r (sp_F u k) = false) := by
      unfold sp_holds
      rcases hsem with z | ⟨a, ha, z⟩
      · rw [z]
        exact ⟨[], rfl, by decide, fun _ => rfl, fun w => by cases w⟩
      · refine ⟨[a], z, by simp, ?_, ?_⟩
        · rw [z]
          rintro (w | ⟨b, w, hb⟩)
          · cases w
          · cases w
            simpa using hb
        · rw [z]
          intro w
          cases w
          rfl
    exact m_holds_loop hJ hM hO hk hr (b := sp_beg u r) (m := sp_end u r - sp_beg u r) (by omega) (by omega) hl hg q2 (fun w => h1 (q3 w)) (fun w => h0 (q4 w)) (sp_end u r - sp_beg u r) 0 [] I z3 (by omega) (by omega) (by simp) (fun i hi => by simp at hi) (fun _ _ => rfl) q1
  refine am_vcc hJ [20] 200 _ _ _ _ _ _ _ ?_
  by_cases g : r = 0
  · subst g
    refine br_t (by decide) ?_
    exact start
  · refine br_f (by show ¬ nI r = nI 0; rw [nI_eq (by omega) (by omega)]; exact g) ?_
    have e1 : nI r - 1 = nI (r - 1) := pk_sub (a := r) (b := 1) (by omega)
    refine m_ruleOf hJ (a := r - 1) (b := 2) e1 rfl (by omega) (by decide) ?_
    have eb : I 67 (98 + 3 * (r - 1) + 2) = nI (sp_beg u r + 0) := by
      rw [hM _ (by omega)]
      unfold sp_beg
      rw [if_neg g]
      rfl
    conv => whnf
    rw [eb]
    exact start
theorem m_will_loop (hJ : am_Cl am_meth L xs J) {I0 : am_I} {k : Nat} {u : am_U} (hM0 : MRep I0 67 u) (hO : OKu u) (hk : k < 6) (hru : ∀ r, r < u 7 → sp_beg u r ≤ sp_end u r ∧ sp_end u r ≤ 200 ∧ (sp_steps u r = [] ∨ ∃ a, a ≤ 1 ∧ sp_ev (sp_F u k) (sp_steps u r) [] = some [a])) (w : Nat) (h : ∀ I : am_I, (∀ o, o ≠ 70 → I o = I0 o) → Q (some (.int (nI w))) I) : ∀ (n r : Nat) (I : am_I), r + n = u 7 → w = sp_wl u (u (38 + 6 * k)) (sp_F u k) n r → (∀ o, o ≠ 70 → I o = I0 o) → J (d + 4) q_M_willOf 2 [some (.ref 66), some (.int (nI k)), some (.int (nI r))] [] I Q
  | n, r, I, hr, hw, hI => by
    have hM : MRep I 67 u := by
      unfold MRep
      rw [hI 67 (by decide)]
      exact hM0
    obtain ⟨c1, c2, c3, c4, c5, c6, c7⟩ := hO.Cn
    have e7 : I 67 7 = nI (u 7) := hM 7 (by omega)
    cases n with
    | zero =>
      refine am_vcl hJ [2] 200 ?_
      refine ⟨am_vin (by decide), ?_⟩
      refine br_t (by show I 67 7 ≤ nI r; rw [e7]; exact nI_le (by omega) (by omega)) ?_
      have e0 : w = 0 := hw
      subst e0
      exact h I hI
    | succ n =>
      have ih := m_will_loop hJ hM0 hO hk hru w h n (r + 1)
      obtain ⟨p1, p2, p3, p4, p5, p6⟩ := hO.P hk
      obtain ⟨b1, b2, b3⟩ := hru r (by omega)
      have k5 := hO.Ru (r := r) (by omega)
      have er : nI r + 1 = nI (r + 1) := nI_1 r
      have next : (sp_under (u (38 + 6 * k)) (u (98 + 3 * r)) && sp_holds u r (sp_F u k)) = false → ∀ I' : am_I, (∀ o, o ≠ 70 → I' o = I0 o) → J (d + 4) q_M_willOf 47 [some (.ref 66), some (.int (nI k)), some (.int (nI r))] [] I' Q := by
        intro hne I' hI'
        have k9 := ih I' (by omega) (by rw [hw, sp_wl_succ, hne]; exact if_neg Bool.false_ne_true) hI'
        rw [← er] at k9
        refine am_vcc hJ [2] 200 _ _ _ _ _ _ _ ?_
        exact k9
      have e0 : I 67 (38 + 6 * k + 0) = nI (u (38 + 6 * k)) := hM _ (by omega)
      have e1 : I 67 (98 + 3 * r + 0) = nI (u (98 + 3 * r)) := hM _ (by omega)
      refine am_vcl hJ [2, 47] 200 ?_
      refine ⟨am_vin (by decide), ?_⟩
      refine br_f (by show ¬ I 67 7 ≤ nI r; rw [e7]; exact nI_ge (by omega) (by omega)) ?_
      refine m_get hJ (a := k) (b := 0) rfl rfl hk (by decide) ?_
      refine m_ruleOf hJ (a := r) (b := 0) rfl rfl (by omega) (by decide) ?_
      conv => whnf
      rw [e0, e1]
      refine m_isUnder hJ p1 k5 (fun hy => ?_) (fun hnn => ?_)
      · refine br_f (by decide) ?_
        refine m_holdsFor hJ hM hO hk (by omega) b1 b2 b3 (fun ht I' hI' => ?_) (fun hf I' hI' => ?_)
        · refine br_f (by decide) ?_
          refine m_ruleOf hJ (a := r) (b := 1) rfl rfl (by omega) (by decide) ?_
          have ew : w = u (98 + 3 * r + 1) := by
            rw [hw, sp_wl_succ, hy, ht]
            exact if_pos rfl
          have e9 : I' 67 (98 + 3 * r + 1) = nI w := by
            rw [hI' 67 (by decide), hM _ (by omega), ew]
          show Q (some (.int (I' 67 (98 + 3 * r + 1)))) I'
          rw [e9]
          exact h I' (fun o ho => by rw [hI' o ho, hI o ho])
        · refine br_t (by decide) ?_
          exact next (by rw [hf]; simp) I' (fun o ho => by rw [hI' o ho, hI o ho])
      · refine br_t (by decide) ?_
        exact next (by rw [hnn]; rfl) I hI
theorem RuR.sem {cd : Nat → Int32} {u : am_U} (h : RuR cd u) (F : Nat → Nat) : ∀ r, r < u 7 → sp_beg u r ≤ sp_end u r ∧ sp_end u r ≤ 200 ∧ (sp_steps u r = [] ∨ ∃ a, a ≤ 1 ∧ sp_ev F (sp_steps u r) [] = some [a]) := by
  obtain ⟨at', h0, hru⟩ := h
  intro r hr
  obtain ⟨⟨len, cs, g1, g2, g3, g4, g5, g6, g7⟩, g8, g9, g10, g11⟩ := hru r hr
  refine ⟨g10, g11, ?_⟩
  rcases g7 F with ⟨-, q⟩ | ⟨x, -, q⟩
  · exact Or.inl q
  · exact Or.inr ⟨_, by cases x <;> simp, q⟩
theorem m_willOf (hJ : am_Cl am_meth L xs J) {I : am_I} {k : Nat} {u : am_U} {cd : Nat → Int32} (hM : MRep I 67 u) (hR : RuR cd u) (hO : OKu u) (hk : k < 6) (h : ∀ I' : am_I, (∀ o, o ≠ 70 → I' o = I o) → Q (some (.int (nI (sp_will u k)))) I') {z : Option Value} : J (d + 4) q_M_willOf 0 [some (.ref 66), some (.int (nI k)), z] [] I Q := by
  have k9 := m_will_loop (d := d) hJ hM hO hk (hR.sem _) (sp_will u k) h (u 7) 0 I (by omega) rfl (fun _ _ => rfl)
  refine am_vcc hJ [2] 200 _ _ _ _ _ _ _ ?_
  exact k9
end
