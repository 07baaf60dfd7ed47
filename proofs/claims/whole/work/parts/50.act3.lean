theorem hT0 {kd : Nat} {pt : Bool} {tr : List Int32} (h : kd = 0 ∨ kd = 2 ∨ kd = 4 ∨ kd = 5) : hT kd pt tr = tp pt tr 10 := by
  unfold hT
  rw [if_neg (by omega), if_neg (by omega)]
theorem hV0 {kd : Nat} {k x : Int32} (h : kd = 0 ∨ kd = 2 ∨ kd = 4 ∨ kd = 5) : hV kd k x = x ^^^ k := by
  unfold hV
  rw [if_neg (by omega), if_neg (by omega)]
theorem lT0 {kd : Nat} {p : Bool} {tr : List Int32} (h : kd ≠ 3) : lT kd p tr = eT kd p tr := if_neg h
theorem lV0 {kd : Nat} {k g x : Int32} (h : kd ≠ 3) : lV kd k g x = eV kd k g x := if_neg h
def aT (a kd : Nat) (p : Bool) : List Int32 := if a = 0 then hT kd false [] else if a = 1 then sT kd false [] else if a = 2 then wT kd p [] else lT kd p []
def aV (a kd : Nat) (k g x : Int32) : Int32 := if a = 0 then hV kd k x else if a = 1 then sV kd k g x else if a = 2 then wV kd k g x else lV kd k g x
def aP (a : Nat) (p : Bool) : Bool := if a < 2 then false else p
section
variable {L : Nat} {xs : Nat → Int32} {J : am_J} {d : Nat} {Q : am_Q} {I0 I : am_I} {k g : Nat} {tr : List Int32} {pt : Bool}
theorem x_act_end (hJ : am_Cl am_meth L xs J) {v : Int32} {z1 z2 z3 z4 z5 : Option Value} (hD : DS I0 I k g tr pt) (h : Q (some (.int (if pt then -15 else v))) I) : J d q_X_act 156 [some (.ref 0), z1, z2, z3, z4, z5, some (.int v)] [] I Q := by
  refine am_vc hJ 12 _ _ _ _ _ _ _ ?_
  cases pt with
  | true =>
    refine br_f (by show ¬ I 64 2 = 0; rw [hD.2.2.2.1]; decide) ?_
    exact h
  | false =>
    refine br_t (by show I 64 2 = 0; rw [hD.2.2.2.1]; rfl) ?_
    exact h
theorem x_act_run (hJ : am_Cl am_meth L xs J) {a kd : Nat} {x : Int32} {z1 z4 : Option Value} (ha : a ≤ 3) (hk : kd ≤ 5) (hD : DS I0 I k g [] false) (h : ∀ (I' : am_I), DS I0 I' k g (aT a kd (wP (nI k) (nI g))) (aP a (wP (nI k) (nI g))) → Q (some (.int (if aP a (wP (nI k) (nI g)) then -15 else aV a kd (nI k) (nI g) x))) I') : J (d + 8) q_X_act 66 [some (.ref 0), z1, some (.int (nI a)), some (.int x), z4, some (.ref (2 + kd)), some (.int 0)] [] I Q := by
  have fin : ∀ (I' : am_I) (v : Int32) (tr : List Int32) (pt : Bool), DS I0 I' k g tr pt → tr = aT a kd (wP (nI k) (nI g)) → pt = aP a (wP (nI k) (nI g)) → (pt = false → v = aV a kd (nI k) (nI g) x) → J (d + 8) q_X_act 156 [some (.ref 0), z1, some (.int (nI a)), some (.int x), z4, some (.ref (2 + kd)), some (.int v)] [] I' Q := by
    intro I' v tr pt D e1 e2 hv
    refine x_act_end hJ D ?_
    subst e1
    subst e2
    have k9 := h I' D
    cases ep : aP a (wP (nI k) (nI g)) with
    | true =>
      rw [ep] at k9
      exact k9
    | false =>
      rw [ep] at k9 hv
      rw [hv rfl]
      exact k9
  refine am_vcc hJ [156] 200 _ _ _ _ _ _ _ ?_
  rcases (show a = 0 ∨ a = 1 ∨ a = 2 ∨ a = 3 by omega) with rfl | rfl | rfl | rfl
  · repeat (first | refine br_f (by decide) ?_ | refine br_t (by decide) ?_)
    rcases (show kd = 0 ∨ kd = 1 ∨ kd = 2 ∨ kd = 3 ∨ kd = 4 ∨ kd = 5 by omega) with rfl | rfl | rfl | rfl | rfl | rfl
    · refine x_P_hails hJ hD (fun I1 D1 => ?_)
      exact fin I1 _ _ _ D1 (hT0 (kd := 0) (pt := false) (tr := []) (by decide)).symm rfl (fun _ => (hV0 (kd := 0) (k := nI k) (x := x) (by decide)).symm)
    · refine x_T_hails hJ hD (fun I1 D1 => ?_)
      exact fin I1 _ _ _ D1 rfl rfl (fun _ => rfl)
    · refine x_P_hails hJ hD (fun I1 D1 => ?_)
      exact fin I1 _ _ _ D1 (hT0 (kd := 2) (pt := false) (tr := []) (by decide)).symm rfl (fun _ => (hV0 (kd := 2) (k := nI k) (x := x) (by decide)).symm)
    · refine x_B_hails hJ hD (fun I1 D1 => ?_)
      exact fin I1 _ _ _ D1 rfl rfl (fun _ => rfl)
    · refine x_P_hails hJ hD (fun I1 D1 => ?_)
      exact fin I1 _ _ _ D1 (hT0 (kd := 4) (pt := false) (tr := []) (by decide)).symm rfl (fun _ => (hV0 (kd := 4) (k := nI k) (x := x) (by decide)).symm)
    · refine x_P_hails hJ hD (fun I1 D1 => ?_)
      exact fin I1 _ _ _ D1 (hT0 (kd := 5) (pt := false) (tr := []) (by decide)).symm rfl (fun _ => (hV0 (kd := 5) (k := nI k) (x := x) (by decide)).symm)
  · repeat (first | refine br_f (by decide) ?_ | refine br_t (by decide) ?_)
    rcases (show kd = 0 ∨ kd = 1 ∨ kd = 2 ∨ kd = 3 ∨ kd = 4 ∨ kd = 5 by omega) with rfl | rfl | rfl | rfl | rfl | rfl
    · refine x_P_shares (kd := 0) hJ (by decide) hD (fun I1 D1 => ?_)
      exact fin I1 _ _ _ D1 (sT0 (kd := 0) (pt := false) (tr := []) (by decide)).symm rfl (fun _ => (sV0 (kd := 0) (k := nI k) (g := nI g) (x := x) (by decide)).symm)
    · refine x_P_shares (kd := 1) hJ (by decide) hD (fun I1 D1 => ?_)
      exact fin I1 _ _ _ D1 (sT0 (kd := 1) (pt := false) (tr := []) (by decide)).symm rfl (fun _ => (sV0 (kd := 1) (k := nI k) (g := nI g) (x := x) (by decide)).symm)
    · refine x_Pil_shares (kd := 2) hJ (Or.inl rfl) hD (fun I1 D1 => ?_)
      exact fin I1 _ _ _ D1 rfl rfl (fun _ => rfl)
    · refine x_Pil_shares (kd := 3) hJ (Or.inr rfl) hD (fun I1 D1 => ?_)
      exact fin I1 _ _ _ D1 rfl rfl (fun _ => rfl)
    · refine x_P_shares (kd := 4) hJ (by decide) hD (fun I1 D1 => ?_)
      exact fin I1 _ _ _ D1 (sT0 (kd := 4) (pt := false) (tr := []) (by decide)).symm rfl (fun _ => (sV0 (kd := 4) (k := nI k) (g := nI g) (x := x) (by decide)).symm)
    · refine x_Tw_shares hJ hD (fun I1 D1 => ?_)
      exact fin I1 _ _ _ D1 rfl rfl (fun _ => rfl)
  · repeat (first | refine br_f (by decide) ?_ | refine br_t (by decide) ?_)
    rcases (show kd = 0 ∨ kd = 1 ∨ kd = 2 ∨ kd = 3 ∨ kd = 4 ∨ kd = 5 by omega) with rfl | rfl | rfl | rfl | rfl | rfl
    · refine x_P_weighs hJ hD (fun I1 v D1 hv => ?_)
      exact fin I1 v _ _ D1 (wT0 (kd := 0) (p := wP (nI k) (nI g)) (tr := []) (by decide)).symm rfl (fun z => (hv z).trans (wV0 (kd := 0) (k := nI k) (g := nI g) (x := x) (by decide)).symm)
    · refine x_P_weighs hJ hD (fun I1 v D1 hv => ?_)
      exact fin I1 v _ _ D1 (wT0 (kd := 1) (p := wP (nI k) (nI g)) (tr := []) (by decide)).symm rfl (fun z => (hv z).trans (wV0 (kd := 1) (k := nI k) (g := nI g) (x := x) (by decide)).symm)
    · refine x_P_weighs hJ hD (fun I1 v D1 hv => ?_)
      exact fin I1 v _ _ D1 (wT0 (kd := 2) (p := wP (nI k) (nI g)) (tr := []) (by decide)).symm rfl (fun z => (hv z).trans (wV0 (kd := 2) (k := nI k) (g := nI g) (x := x) (by decide)).symm)
    · refine x_P_weighs hJ hD (fun I1 v D1 hv => ?_)
      exact fin I1 v _ _ D1 (wT0 (kd := 3) (p := wP (nI k) (nI g)) (tr := []) (by decide)).symm rfl (fun z => (hv z).trans (wV0 (kd := 3) (k := nI k) (g := nI g) (x := x) (by decide)).symm)
    · refine x_F_weighs hJ (Or.inl rfl) hD (fun I1 v D1 hv => ?_)
      exact fin I1 v _ _ D1 rfl rfl hv
    · refine x_Tw_weighs hJ hD (fun I1 v D1 hv => ?_)
      exact fin I1 v _ _ D1 rfl rfl hv
  · repeat (first | refine br_f (by decide) ?_ | refine br_t (by decide) ?_)
    rcases (show kd = 0 ∨ kd = 1 ∨ kd = 2 ∨ kd = 3 ∨ kd = 4 ∨ kd = 5 by omega) with rfl | rfl | rfl | rfl | rfl | rfl
    · refine x_P_blesses (kd := 0) hJ (by decide) hD (fun I1 v D1 hv => ?_)
      exact fin I1 v _ _ D1 (lT0 (kd := 0) (p := wP (nI k) (nI g)) (tr := []) (by decide)).symm rfl (fun z => (hv z).trans (lV0 (kd := 0) (k := nI k) (g := nI g) (x := x) (by decide)).symm)
    · refine x_P_blesses (kd := 1) hJ (by decide) hD (fun I1 v D1 hv => ?_)
      exact fin I1 v _ _ D1 (lT0 (kd := 1) (p := wP (nI k) (nI g)) (tr := []) (by decide)).symm rfl (fun z => (hv z).trans (lV0 (kd := 1) (k := nI k) (g := nI g) (x := x) (by decide)).symm)
    · refine x_P_blesses (kd := 2) hJ (by decide) hD (fun I1 v D1 hv => ?_)
      exact fin I1 v _ _ D1 (lT0 (kd := 2) (p := wP (nI k) (nI g)) (tr := []) (by decide)).symm rfl (fun z => (hv z).trans (lV0 (kd := 2) (k := nI k) (g := nI g) (x := x) (by decide)).symm)
    · refine x_B_blesses hJ hD (fun I1 v D1 hv => ?_)
      exact fin I1 v _ _ D1 rfl rfl hv
    · refine x_P_blesses (kd := 4) hJ (by decide) hD (fun I1 v D1 hv => ?_)
      exact fin I1 v _ _ D1 (lT0 (kd := 4) (p := wP (nI k) (nI g)) (tr := []) (by decide)).symm rfl (fun z => (hv z).trans (lV0 (kd := 4) (k := nI k) (g := nI g) (x := x) (by decide)).symm)
    · refine x_P_blesses (kd := 5) hJ (by decide) hD (fun I1 v D1 hv => ?_)
      exact fin I1 v _ _ D1 (lT0 (kd := 5) (p := wP (nI k) (nI g)) (tr := []) (by decide)).symm rfl (fun z => (hv z).trans (lV0 (kd := 5) (k := nI k) (g := nI g) (x := x) (by decide)).symm)
theorem m_act_run (hJ : am_Cl am_meth L xs J) {u : am_U} {a kd : Nat} {x : Int32} {z1 z5 : Option Value} (hM : MRep I0 67 u) (hk6 : k < 6) (hkd : u (38 + 6 * k) = kd) (hg : u (41 + 6 * k) = g) (ha : a ≤ 3) (hk5 : kd ≤ 5) (hD : MS I0 I k [] false) (h : ∀ (I' : am_I), MS I0 I' k (aT a kd (wP (nI k) (nI g))) (aP a (wP (nI k) (nI g))) → Q (some (.int (if aP a (wP (nI k) (nI g)) then -15 else aV a kd (nI k) (nI g) x))) I') : J (d + 8) q_M_act 57 [some (.ref 66), z1, some (.int (nI a)), some (.int x), some (.int (nI kd)), z5] [] I Q := by
  have fin : ∀ (I' : am_I) (v : Int32) (tr : List Int32) (pt : Bool), MS I0 I' k tr pt → tr = aT a kd (wP (nI k) (nI g)) → pt = aP a (wP (nI k) (nI g)) → (pt = false → v = aV a kd (nI k) (nI g) x) → J (d + 8) q_M_act 108 [some (.ref 66), z1, some (.int (nI a)), some (.int x), some (.int (nI kd)), z5] [.int v] I' Q := by
    intro I' v tr pt D e1 e2 hv
    refine am_vc hJ 12 _ _ _ _ _ _ _ ?_
    subst e1
    subst e2
    have k9 := h I' D
    cases ep : aP a (wP (nI k) (nI g)) with
    | true =>
      rw [ep] at k9 D
      refine br_f (by show ¬ I' 66 38 = 0; rw [D.2.2.2.1]; decide) ?_
      exact k9
    | false =>
      rw [ep] at k9 hv D
      refine br_t (by show I' 66 38 = 0; rw [D.2.2.2.1]; rfl) ?_
      rw [← hv rfl] at k9
      exact k9
  refine am_vcc hJ [108] 200 _ _ _ _ _ _ _ ?_
  rcases (show a = 0 ∨ a = 1 ∨ a = 2 ∨ a = 3 by omega) with rfl | rfl | rfl | rfl
  · repeat (first | refine br_f (by decide) ?_ | refine br_t (by decide) ?_)
    refine m_hailsAs hJ hk5 hD (fun I1 D1 => ?_)
    exact fin I1 _ _ _ D1 rfl rfl (fun _ => rfl)
  · repeat (first | refine br_f (by decide) ?_ | refine br_t (by decide) ?_)
    refine m_sharesAs hJ hM hk6 hkd hg hk5 hD (fun I1 D1 => ?_)
    exact fin I1 _ _ _ D1 rfl rfl (fun _ => rfl)
  · repeat (first | refine br_f (by decide) ?_ | refine br_t (by decide) ?_)
    refine m_weighsAs hJ hM hk6 hg hk5 hD (fun I1 v D1 hv => ?_)
    exact fin I1 v _ _ D1 rfl rfl hv
  · repeat (first | refine br_f (by decide) ?_ | refine br_t (by decide) ?_)
    refine m_blessesAs hJ hM hk6 hkd hg hk5 hD (fun I1 v D1 hv => ?_)
    exact fin I1 v _ _ D1 rfl rfl hv
theorem op_act (hJ : am_Cl am_meth L xs J) (a b x : Int32) : am_same Inv J q_X_act q_M_act [.int a, .int b, .int x] := by
  intro I hI Qc hQc
  obtain ⟨u, uk, hMn, hK, hRs⟩ := id hI
  obtain ⟨hT, hRw, hSh, hSf, hTr, hLe⟩ := id hRs
  obtain ⟨hM, hR, hC, hO⟩ := id hMn
  have c1 := hO.Cn.1
  have x6 : I 8 2 = nI (u 6) := hMn.get (j := 6) (by decide +kernel)
  -- nothing done
  have none0 : ∀ I1 : am_I, (∀ o, o ≠ 64 → I1 o = I o) → I1 64 4 = 0 → Inv (am_put I1 66 36 0) := by
    intro I1 f1 h4
    refine hI.trace (fun o o1 o2 o3 o4 => by rw [am_put_o o3, f1 o o1]) (fun j hj => ?_) ⟨0, by decide, ?_, ?_, fun j hj => by omega⟩
    · have : j ≠ 36 := by rintro rfl; revert hj; decide
      rw [put_nk this, f1 66 (by decide)]
    · rw [am_put_o (by decide), h4]; rfl
    · rw [put_at]; rfl
  generalize hIa : am_put (am_put I 64 4 0) 64 2 0 = Ia
  have fa : ∀ o, o ≠ 64 → Ia o = I o := fun o ho => by rw [← hIa, am_put_o ho, am_put_o ho]
  have a4 : Ia 64 4 = 0 := by rw [← hIa, put_nk (by decide), put_at]
  have a2 : Ia 64 2 = 0 := by rw [← hIa, put_at]
  have xa6 : Ia 8 2 = nI (u 6) := by rw [fa 8 (by decide)]; exact x6
  have clr : ∀ Q : am_Q, Q none Ia → J 39 q_Deed_clear 0 [some (.ref 64)] [] I Q := by
    intro Q hQ
    refine am_vc hJ 12 _ _ _ _ _ _ _ ?_
    refine ⟨Or.inl rfl, ?_⟩
    show Q none (am_put (am_put I 64 4 0) 64 2 0)
    rw [hIa]
    exact hQ
  by_cases h1 : (0 : Int32) ≤ a ∧ a ≤ 3
  · obtain ⟨h, hh, rfl⟩ := am_rng (N := 3) rfl (by decide) h1
    have hh4 : h < 4 := by omega
    have gv : vp_in (nI h) 4 := vp_in_nI hh4 (by omega)
    have ec : (nI h).toNatClampNeg = h := nI_clamp (by omega)
    -- no person there
    have noP : ∀ (r1 r2 : Int32), r1 = -3 → ¬ r2 = 0 → (Ia 61 h = 0 → (∃ j, j < u 6 ∧ Ia 62 h = nI j) → r1 = Ia 62 h) → (∀ I1 : am_I, (∀ o, o ≠ 64 → o ≠ 66 → I1 o = I o) → (I1 84 h = 0 → ¬ (∃ j, j < u 6 ∧ I1 85 h = nI j) → r2 = -1) ∧ (¬ (I1 84 h = 0 ∧ ¬ ∃ j, j < u 6 ∧ I1 85 h = nI j) → r2 = I1 84 h)) → J 40 q_X_act 0 (am_ents q_X_act [.ref 0, .int (nI h), .int b, .int x]) [] I (fun r1 I1 => ∃ v, r1 = some (.int v) ∧ J 40 q_M_act 0 (am_ents q_M_act [.ref 66, .int (nI h), .int b, .int x]) [] I1 (fun r2 I2 => r2 = some (.int v) ∧ Qc I2)) := by
      intro r1 r2 e1 e2 q1 q2
      refine am_vc hJ 60 _ _ _ _ _ _ _ ?_
      refine clr _ ?_
      refine x_isShelfY hJ h1 ?_
      refine br_f (by decide) ?_
      refine x_personOn (res := r1) hJ hh4 xa6 c1 q1 (fun _ => e1) ?_
      subst e1
      refine br_f (by decide) ?_
      refine ⟨_, rfl, ?_⟩
      have n6 : am_put Ia 66 36 0 67 6 = nI (u 6) := by rw [am_put_o (by decide), fa 67 (by decide)]; exact hM 6 (by decide)
      have q3 := q2 (am_put Ia 66 36 0) (fun o o1 o2 => by rw [am_put_o o2, fa o o1])
      refine am_vc hJ 60 _ _ _ _ _ _ _ ?_
      refine m_isSheetY hJ h1 ?_
      refine br_f (by decide) ?_
      refine m_in1 hJ (fun _ => ?_) (fun _ => ?_)
      · refine br_f (by decide) ?_
        refine m_heldOn (res := r2) hJ hh4 n6 c1 q3.1 q3.2 ?_
        refine br_f e2 ?_
        exact ⟨rfl, hQc _ (none0 Ia fa a4)⟩
      · refine br_t (by decide) ?_
        exact ⟨rfl, hQc _ (none0 Ia fa a4)⟩
    have ha61 : Ia 61 = I 61 := fa 61 (by decide)
    have ha62 : Ia 62 = I 62 := fa 62 (by decide)
    rcases hSf h hh4 with ⟨q1, q2⟩ | ⟨q1, q2, k, hk, q3, q4⟩ | ⟨q1, so, n, q2, q3, q4, q5, q6, q7⟩
    · refine noP (-3) (-1) rfl (by decide) (fun z => by rw [ha61, q1] at z; exact absurd z (by decide)) (fun I1 f1 => ?_)
      rw [f1 84 (by decide) (by decide), q2]
      exact ⟨fun _ _ => rfl, fun _ => rfl⟩
    · by_cases gk : k < u 6
      · have hk6 : k < 6 := by omega
        obtain ⟨p1, p2, p3, p4, p5, p6⟩ := hO.P hk6
        obtain ⟨kd, hkd⟩ : ∃ kd, u (38 + 6 * k) = kd := ⟨_, rfl⟩
        obtain ⟨g, hg⟩ : ∃ g, u (41 + 6 * k) = g := ⟨_, rfl⟩
        have h5 : kd ≤ 5 := by omega
        have Ra : Rel (TR 8) Ia u := hR.1.kept (fun t ht => fa _ (by
          have : ∀ t ∈ TR 8, t.1 ≠ 64 := by decide +kernel
          exact this t ht))
        have eg : Ia 13 (nI k).toNatClampNeg = nI g := by rw [nI_clamp (by omega), Ra.get 13 k _ (TR8_p k hk6).2.2.2, hg]
        generalize hIb : am_put (am_put Ia 64 0 (nI k)) 64 1 (nI g) = Ib
        have fb : ∀ o, o ≠ 64 → Ib o = I o := fun o ho => by rw [← hIb, am_put_o ho, am_put_o ho, fa o ho]
        have Db : DS I Ib k g [] false := by
          refine ⟨fun o o1 _ => fb o o1, ?_, ?_, ?_, ?_, by decide, fun j hj => by simp at hj⟩
          · rw [← hIb, put_nk (by decide), put_at]
          · rw [← hIb, put_at]
          · rw [← hIb, put_nk (by decide), put_nk (by decide), a2]; rfl
          · rw [← hIb, put_nk (by decide), put_nk (by decide), a4]; rfl
        have by' : ∀ Q : am_Q, Q none Ib → J 39 q_Deed_by 0 [some (.ref 64), some (.int (nI k)), some (.int (nI g))] [] Ia Q := by
          intro Q hQ
          refine am_vc hJ 12 _ _ _ _ _ _ _ ?_
          rw [← hIb] at hQ
          exact hQ
        have Rb : Rel (TR 8) Ib u := hR.1.kept (fun t ht => fb _ (by
          have : ∀ t ∈ TR 8, t.1 ≠ 64 := by decide +kernel
          exact this t ht))
        have start : ∀ Q : am_Q, J 40 q_X_act 66 [some (.ref 0), some (.int (nI h)), some (.int b), some (.int x), some (.int (nI k)), some (.ref (2 + kd)), some (.int 0)] [] Ib Q → J 40 q_X_act 0 (am_ents q_X_act [.ref 0, .int (nI h), .int b, .int x]) [] I Q := by
          intro Q hQ
          refine am_vcc hJ [66] 200 _ _ _ _ _ _ _ ?_
          refine clr _ ?_
          refine x_isShelfY hJ h1 ?_
          refine br_f (by decide) ?_
          refine x_personOn (res := nI k) hJ hh4 xa6 c1 (fun _ _ => by rw [ha62, q3]) (fun z => absurd ⟨by rw [ha61]; exact q1, k, gk, by rw [ha62]; exact q3⟩ z) ?_
          refine br_t (by show 0 ≤ nI k; exact nI_pos' (by omega)) ?_
          refine ⟨vp_in_nI (by omega) (by omega), ?_⟩
          conv => whnf
          rw [eg]
          refine by' _ ?_
          refine x_thingOf hJ Rb hk6 hkd h5 ?_
          exact hQ
        refine start _ ?_
        by_cases h2 : (0 : Int32) ≤ b ∧ b ≤ 3
        · obtain ⟨w, hw, rfl⟩ := am_rng (N := 3) rfl (by decide) h2
          refine x_act_run hJ hw h5 Db (fun I1 D1 => ?_)
          refine ⟨_, rfl, ?_⟩
          have f1 : ∀ o, o ≠ 64 → o ≠ 65 → I1 o = I o := D1.1
          have n6 : am_put I1 66 36 0 67 6 = nI (u 6) := by rw [am_put_o (by decide), f1 67 (by decide) (by decide)]; exact hM 6 (by decide)
          have e84 : am_put I1 66 36 0 84 h = 0 := by rw [am_put_o (by decide), f1 84 (by decide) (by decide)]; exact q2
          have e85 : am_put I1 66 36 0 85 h = nI k := by rw [am_put_o (by decide), f1 85 (by decide) (by decide)]; exact q4
          have M1 : MRep I1 67 u := hM.kept (f1 67 (by decide) (by decide))
          have S1 : MS I1 (am_put (am_put (am_put I1 66 36 0) 66 37 (nI k)) 66 38 0) k [] false := by
            refine ⟨fun o o1 _ => by rw [am_put_o o1, am_put_o o1, am_put_o o1], fun j hj => ?_, ?_, put_at, ?_, by decide, fun j hj => by simp at hj⟩
            · have : j ≠ 36 ∧ j ≠ 37 ∧ j ≠ 38 := by
                refine ⟨?_, ?_, ?_⟩ <;> (rintro rfl; revert hj; decide)
              rw [put_nk this.2.2, put_nk this.2.1, put_nk this.1]
            · rw [put_nk (by decide), put_at]
            · rw [put_nk (by decide), put_nk (by decide), put_at]; rfl
          refine am_vcc hJ [57] 200 _ _ _ _ _ _ _ ?_
          refine m_isSheetY hJ h1 ?_
          refine br_f (by decide) ?_
          refine m_in1Y hJ h2 ?_
          refine br_f (by decide) ?_
          refine m_heldOn (res := 0) hJ hh4 n6 c1 (fun _ z => absurd ⟨k, gk, e85⟩ z) (fun _ => e84.symm) ?_
          refine br_t (by decide) ?_
          refine ⟨gv, ?_⟩
          rw [ec, e85]
          refine ⟨Or.inl rfl, ?_⟩
          conv => whnf
          show J 39 q_M_get 0 [some (.ref 66), some (.int (am_put (am_put (am_put I1 66 36 0) 66 37 (nI k)) 66 38 0 66 37)), some (.int 0)] [] (am_put (am_put (am_put I1 66 36 0) 66 37 (nI k)) 66 38 0) _
          rw [S1.2.2.1]
          refine m_get hJ (a := k) (b := 0) rfl rfl hk6 (by decide) ?_
          have ekd : (am_put (am_put (am_put I1 66 36 0) 66 37 (nI k)) 66 38 0) 67 (38 + 6 * k + 0) = nI kd := by
            have q := (S1.m67 M1) (38 + 6 * k) (by omega)
            rw [hkd] at q
            exact q
          rw [ekd]
          refine m_act_run hJ M1 hk6 hkd hg hw h5 S1 (fun I2 D2 => ?_)
          refine ⟨rfl, hQc _ ?_⟩
          obtain ⟨d1, d2, d3, d4, d5, d6, d7⟩ := D1
          obtain ⟨m1, m2, m3, m4, m5, m6, m7⟩ := D2
          refine hI.trace (fun o o1 o2 o3 o4 => by rw [m1 o o3 o4, f1 o o1 o2]) (fun j hj => by rw [m2 j hj, f1 66 (by decide) (by decide)]) ⟨_, d6, ?_, m5, fun j hj => ?_⟩
          · rw [m1 64 (by decide) (by decide)]; exact d5
          · rw [m1 65 (by decide) (by decide), d7 j hj, m7 j hj]
        · refine am_vcc hJ [156] 200 _ _ _ _ _ _ _ ?_
          repeat (refine br_f (fun z => h2 (by have z : b = _ := z; rw [z]; decide)) ?_)
          have f1 : ∀ o, o ≠ 64 → Ib o = I o := fb
          refine x_act_end hJ Db ?_
          refine ⟨_, rfl, ?_⟩
          refine am_vc hJ 60 _ _ _ _ _ _ _ ?_
          refine m_isSheetY hJ h1 ?_
          refine br_f (by decide) ?_
          refine m_in1N hJ h2 ?_
          refine br_t (by decide) ?_
          exact ⟨rfl, hQc _ (none0 Ib fb Db.2.2.2.2.1)⟩
      · have nex : ∀ y, y = nI k → ¬ ∃ j, j < u 6 ∧ y = nI j := by
          rintro y rfl ⟨j, hj, ej⟩
          rw [nI_eq (by omega) (by omega)] at ej
          omega
        refine noP (-3) (-1) rfl (by decide) (fun _ z => absurd z (by rw [ha62]; exact nex _ q3)) (fun I1 f1 => ?_)
        have e84 : I1 84 h = 0 := by rw [f1 84 (by decide) (by decide)]; exact q2
        have e85 : I1 85 h = nI k := by rw [f1 85 (by decide) (by decide)]; exact q4
        exact ⟨fun _ _ => rfl, fun z => absurd ⟨e84, nex _ e85⟩ z⟩
    · refine noP (-3) (nI (10 + so)) rfl (by rw [show (0 : Int32) = nI 0 from rfl, nI_eq (by omega) (by omega)]; omega) (fun z => by rw [ha61, q1] at z; exact absurd z (by decide)) (fun I1 f1 => ?_)
      have e84 : I1 84 h = nI (10 + so) := by rw [f1 84 (by decide) (by decide)]; exact q4
      refine ⟨fun z => ?_, fun _ => e84.symm⟩
      rw [e84, show (0 : Int32) = nI 0 from rfl, nI_eq (by omega) (by omega)] at z
      omega
  · refine am_vc hJ 60 _ _ _ _ _ _ _ ?_
    refine clr _ ?_
    refine x_isShelfN hJ h1 ?_
    refine br_t (by decide) ?_
    refine br_f (by decide) ?_
    refine ⟨_, rfl, ?_⟩
    refine am_vc hJ 60 _ _ _ _ _ _ _ ?_
    refine m_isSheetN hJ h1 ?_
    refine br_t (by decide) ?_
    exact ⟨rfl, hQc _ (none0 Ia fa a4)⟩
end
