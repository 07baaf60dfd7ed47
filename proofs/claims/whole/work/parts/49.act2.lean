theorem Inv.trace {I I' : am_I} (h : Inv I) (hk : ∀ o, o ≠ 64 → o ≠ 65 → o ≠ 66 → o ≠ 86 → I' o = I o) (h66 : ∀ j ∈ [3, 6, 29], I' 66 j = I 66 j) (ht : TraceR I') : Inv I' := by
  obtain ⟨u, uk, hM, hK, h1, h2, h3, h4, h5, h6⟩ := h
  have a1 : ∀ o ∈ am_mc, o ≠ 64 ∧ o ≠ 65 ∧ o ≠ 66 ∧ o ≠ 86 := by decide
  have a2 : ∀ o ∈ am_kd, o ≠ 64 ∧ o ≠ 65 ∧ o ≠ 66 ∧ o ≠ 86 := by decide
  have a3 : ∀ o ∈ [54, 55, 57, 58, 59, 60, 81, 82, 83], o ≠ 64 ∧ o ≠ 65 ∧ o ≠ 66 ∧ o ≠ 86 := by decide
  have a4 : ∀ o ∈ [61, 62, 63, 84, 85], o ≠ 64 ∧ o ≠ 65 ∧ o ≠ 66 ∧ o ≠ 86 := by decide
  have f : ∀ o, o ≠ 64 ∧ o ≠ 65 ∧ o ≠ 66 ∧ o ≠ 86 → I' o = I o := fun o q => hk o q.1 q.2.1 q.2.2.1 q.2.2.2
  refine ⟨u, uk, hM.kept (fun o ho => f o (a1 o ho)), hK.kept2 (by rw [f 0 (by decide)]) (h66 3 (by decide)) (fun o ho => f o (a2 o ho)), ?_, ?_, ?_, ?_, ht, ?_⟩
  · exact h1.kept (by rw [f 38 (by decide)]) (h66 6 (by decide)) (f 71 (by decide)) (f 39 (by decide))
  · exact h2.kept (by rw [f 0 (by decide)]) (h66 29 (by decide)) (f 53 (by decide)) (f 80 (by decide))
  · exact h3.kept (fun o ho => f o (a3 o ho))
  · exact h4.kept (fun o ho => f o (a4 o ho))
  · exact h6.kept (f 72 (by decide))
section
variable {L : Nat} {xs : Nat → Int32} {J : am_J} {d : Nat} {Q : am_Q} {I0 I : am_I} {k g : Nat} {tr : List Int32} {pt : Bool}
theorem sT0 {kd : Nat} {pt : Bool} {tr : List Int32} (h : kd = 0 ∨ kd = 1 ∨ kd = 4) : sT kd pt tr = hT kd pt (tp pt tr 11) := by
  unfold sT
  rw [if_neg (by omega), if_neg (by omega)]
theorem sV0 {kd : Nat} {k g x : Int32} (h : kd = 0 ∨ kd = 1 ∨ kd = 4) : sV kd k g x = hV kd k x * 3 := by
  unfold sV
  rw [if_neg (by omega), if_neg (by omega)]
theorem wT0 {kd : Nat} {p : Bool} {tr : List Int32} (h : kd = 0 ∨ kd = 1 ∨ kd = 2 ∨ kd = 3) : wT kd p tr = tp false tr 12 := by
  unfold wT
  rw [if_neg (by omega), if_neg (by omega)]
theorem wV0 {kd : Nat} {k g x : Int32} (h : kd = 0 ∨ kd = 1 ∨ kd = 2 ∨ kd = 3) : wV kd k g x = wR x (g + 1 - k) := by
  unfold wV
  rw [if_neg (by omega), if_neg (by omega)]
theorem sT_true {tr : List Int32} : sT 3 true tr = tr := by simp [sT, hT, tp]
theorem lT3 {p : Bool} {tr : List Int32} : lT 3 p tr = sT 3 p (eT 3 p (tp false tr 51)) := if_pos rfl
theorem lV3 {k g x : Int32} : lV 3 k g x = eV 3 k g x ^^^ sV 3 k g 1 := if_pos rfl
theorem x_P_blesses (hJ : am_Cl am_meth L xs J) {kd : Nat} {x : Int32} (hk : kd ≤ 5) (hD : DS I0 I k g tr false) (h : ∀ (I' : am_I) (v : Int32), DS I0 I' k g (eT kd (wP (nI k) (nI g)) tr) (wP (nI k) (nI g)) → (wP (nI k) (nI g) = false → v = eV kd (nI k) (nI g) x) → Q (some (.int v)) I') : J (d + 5) q_Person_blesses 0 [some (.ref (2 + kd)), some (.int x), some (.ref 64)] [] I Q := by
  have fin : ∀ (I' : am_I) (v : Int32), DS I0 I' k g (eT kd (wP (nI k) (nI g)) tr) (wP (nI k) (nI g)) → (wP (nI k) (nI g) = false → v = wV kd (nI k) (nI g) x) → Q (some (.int (sV kd (nI k) (nI g) x - v))) I' := fun I' v q1 q2 => h I' _ q1 (fun z => by rw [q2 z]; rfl)
  refine am_vc hJ 20 _ _ _ _ _ _ _ ?_
  refine x_began hJ hD (fun I1 D1 => ?_)
  rcases (show kd = 0 ∨ kd = 1 ∨ kd = 2 ∨ kd = 3 ∨ kd = 4 ∨ kd = 5 by omega) with rfl | rfl | rfl | rfl | rfl | rfl
  all_goals unfold eT at fin
  · rw [wT0 (by decide), sT0 (by decide), wV0 (by decide), sV0 (by decide)] at fin
    refine x_P_shares (kd := 0) hJ (by decide) D1 (fun I2 D2 => ?_)
    refine x_P_weighs hJ D2 (fun I3 v D3 hv => ?_)
    exact fin I3 v D3 hv
  · rw [wT0 (by decide), sT0 (by decide), wV0 (by decide), sV0 (by decide)] at fin
    refine x_P_shares (kd := 1) hJ (by decide) D1 (fun I2 D2 => ?_)
    refine x_P_weighs hJ D2 (fun I3 v D3 hv => ?_)
    exact fin I3 v D3 hv
  · rw [wT0 (by decide), wV0 (by decide)] at fin
    refine x_Pil_shares (kd := 2) hJ (Or.inl rfl) D1 (fun I2 D2 => ?_)
    refine x_P_weighs hJ D2 (fun I3 v D3 hv => ?_)
    exact fin I3 v D3 hv
  · rw [wT0 (by decide), wV0 (by decide)] at fin
    refine x_Pil_shares (kd := 3) hJ (Or.inr rfl) D1 (fun I2 D2 => ?_)
    refine x_P_weighs hJ D2 (fun I3 v D3 hv => ?_)
    exact fin I3 v D3 hv
  · rw [sT0 (by decide), sV0 (by decide)] at fin
    refine x_P_shares (kd := 4) hJ (by decide) D1 (fun I2 D2 => ?_)
    refine x_F_weighs hJ (Or.inl rfl) D2 (fun I3 v D3 hv => ?_)
    exact fin I3 v D3 hv
  · refine x_Tw_shares hJ D1 (fun I2 D2 => ?_)
    refine x_Tw_weighs hJ D2 (fun I3 v D3 hv => ?_)
    exact fin I3 v D3 hv
theorem x_B_blesses (hJ : am_Cl am_meth L xs J) {x : Int32} (hD : DS I0 I k g tr false) (h : ∀ (I' : am_I) (v : Int32), DS I0 I' k g (lT 3 (wP (nI k) (nI g)) tr) (wP (nI k) (nI g)) → (wP (nI k) (nI g) = false → v = lV 3 (nI k) (nI g) x) → Q (some (.int v)) I') : J (d + 6) q_Bishop_blesses 0 [some (.ref 5), some (.int x), some (.ref 64)] [] I Q := by
  refine am_vc hJ 20 _ _ _ _ _ _ _ ?_
  refine x_began hJ hD (fun I1 D1 => ?_)
  refine x_P_blesses (kd := 3) hJ (by decide) D1 (fun I2 v D2 hv => ?_)
  refine x_Pil_shares (kd := 3) hJ (Or.inr rfl) D2 (fun I3 D3 => ?_)
  rw [lT3, lV3] at h
  refine h I3 _ D3 (fun z => ?_)
  show v ^^^ sV 3 (nI k) (nI g) 1 = _
  rw [hv z]
/-! the reference -/
theorem m_hails0 (hJ : am_Cl am_meth L xs J) {kd : Nat} {x : Int32} (hk : kd = 0 ∨ kd = 2 ∨ kd = 4 ∨ kd = 5) (hD : MS I0 I k tr pt) (h : ∀ I' : am_I, MS I0 I' k (tp false tr 10) pt → Q (some (.int (x ^^^ nI k))) I') : J (d + 1) q_M_hailsAs 0 [some (.ref 66), some (.int (nI kd)), some (.int x)] [] I Q := by
  rcases hk with rfl | rfl | rfl | rfl
  all_goals
    refine am_vc hJ 20 _ _ _ _ _ _ _ ?_
    refine br_f (by decide) ?_
    refine br_f (by decide) ?_
    refine m_starts hJ hD (fun I1 D1 => ?_)
    conv => whnf
    rw [D1.2.2.1]
    exact h I1 D1
theorem m_hailsAs (hJ : am_Cl am_meth L xs J) {kd : Nat} {x : Int32} (hk : kd ≤ 5) (hD : MS I0 I k tr pt) (h : ∀ I' : am_I, MS I0 I' k (hT kd false tr) pt → Q (some (.int (hV kd (nI k) x))) I') : J (d + 2) q_M_hailsAs 0 [some (.ref 66), some (.int (nI kd)), some (.int x)] [] I Q := by
  rcases (show kd = 1 ∨ kd = 3 ∨ (kd = 0 ∨ kd = 2 ∨ kd = 4 ∨ kd = 5) by omega) with rfl | rfl | hk0
  · refine am_vc hJ 20 _ _ _ _ _ _ _ ?_
    refine br_t (by decide) ?_
    refine m_starts hJ hD (fun I1 D1 => ?_)
    refine m_hails0 (kd := 0) hJ (Or.inl rfl) D1 (fun I2 D2 => ?_)
    exact h I2 D2
  · refine am_vc hJ 20 _ _ _ _ _ _ _ ?_
    refine br_f (by decide) ?_
    refine br_t (by decide) ?_
    refine m_starts hJ hD (fun I1 D1 => ?_)
    refine m_hails0 (kd := 2) hJ (Or.inr (Or.inl rfl)) D1 (fun I2 D2 => ?_)
    exact h I2 D2
  · refine m_hails0 hJ hk0 hD (fun I2 D2 => ?_)
    have e1 : hT kd false tr = tp false tr 10 := by
      unfold hT
      rw [if_neg (by omega), if_neg (by omega)]
    have e2 : hV kd (nI k) x = x ^^^ nI k := by
      unfold hV
      rw [if_neg (by omega), if_neg (by omega)]
    rw [e1, e2] at h
    exact h I2 D2
theorem MS.m67 {u : am_U} (hD : MS I0 I k tr pt) (hM : MRep I0 67 u) : MRep I 67 u := hM.kept (hD.1 67 (by decide) (by decide))
theorem m_shares0 (hJ : am_Cl am_meth L xs J) {u : am_U} {kd kd0 : Nat} {x : Int32} (hM : MRep I0 67 u) (hk6 : k < 6) (hkd : u (38 + 6 * k) = kd0) (hk5 : kd0 ≤ 5) (hk : kd = 0 ∨ kd = 1 ∨ kd = 4) (hD : MS I0 I k tr pt) (h : ∀ I' : am_I, MS I0 I' k (hT kd0 false (tp false tr 11)) pt → Q (some (.int (hV kd0 (nI k) x * 3))) I') : J (d + 3) q_M_sharesAs 0 [some (.ref 66), some (.int (nI kd)), some (.int x)] [] I Q := by
  have go : J (d + 3) q_M_sharesAs 52 [some (.ref 66), some (.int (nI kd)), some (.int x)] [] I Q := by
    refine am_vc hJ 30 _ _ _ _ _ _ _ ?_
    refine m_starts hJ hD (fun I1 D1 => ?_)
    conv => whnf
    rw [D1.2.2.1]
    refine m_get hJ (a := k) (b := 0) rfl rfl hk6 (by decide) ?_
    have e : I1 67 (38 + 6 * k + 0) = nI kd0 := by have q := (D1.m67 hM) (38 + 6 * k) (by omega); rw [hkd] at q; exact q
    rw [e]
    refine m_hailsAs hJ hk5 D1 (fun I2 D2 => ?_)
    exact h I2 D2
  rcases hk with rfl | rfl | rfl
  all_goals
    refine am_vcc hJ [52] 200 _ _ _ _ _ _ _ ?_
    refine br_f (by decide) ?_
    refine br_f (by decide) ?_
    refine br_f (by decide) ?_
    exact go
theorem m_sharesAs (hJ : am_Cl am_meth L xs J) {u : am_U} {kd : Nat} {x : Int32} (hM : MRep I0 67 u) (hk6 : k < 6) (hkd : u (38 + 6 * k) = kd) (hg : u (41 + 6 * k) = g) (hk5 : kd ≤ 5) (hD : MS I0 I k tr pt) (h : ∀ I' : am_I, MS I0 I' k (sT kd false tr) pt → Q (some (.int (sV kd (nI k) (nI g) x))) I') : J (d + 4) q_M_sharesAs 0 [some (.ref 66), some (.int (nI kd)), some (.int x)] [] I Q := by
  unfold sT sV at h
  have pil : (kd = 2 ∨ kd = 3) → J (d + 4) q_M_sharesAs 10 [some (.ref 66), some (.int (nI kd)), some (.int x)] [] I Q := by
    intro hk
    rw [if_pos hk, if_pos hk] at h
    refine am_vc hJ 30 _ _ _ _ _ _ _ ?_
    refine m_starts hJ hD (fun I1 D1 => ?_)
    refine m_shares0 (kd := 0) hJ hM hk6 hkd hk5 (Or.inl rfl) D1 (fun I2 D2 => ?_)
    conv => whnf
    rw [D2.2.2.1]
    refine m_get hJ (a := k) (b := 3) rfl rfl hk6 (by decide) ?_
    have e : I2 67 (38 + 6 * k + 3) = nI g := by rw [(D2.m67 hM) _ (by omega), show 38 + 6 * k + 3 = 41 + 6 * k by omega, hg]
    rw [e]
    exact h I2 D2
  rcases (show kd = 2 ∨ kd = 3 ∨ kd = 5 ∨ (kd = 0 ∨ kd = 1 ∨ kd = 4) by omega) with rfl | rfl | rfl | hk0
  · refine am_vcc hJ [10] 200 _ _ _ _ _ _ _ ?_
    refine br_t (by decide) ?_
    exact pil (Or.inl rfl)
  · refine am_vcc hJ [10] 200 _ _ _ _ _ _ _ ?_
    refine br_f (by decide) ?_
    refine br_t (by decide) ?_
    exact pil (Or.inr rfl)
  · refine am_vcc hJ [10] 200 _ _ _ _ _ _ _ ?_
    refine br_f (by decide) ?_
    refine br_f (by decide) ?_
    refine br_t (by decide) ?_
    refine m_starts hJ hD (fun I1 D1 => ?_)
    refine m_shares0 (kd := 4) hJ hM hk6 hkd hk5 (Or.inr (Or.inr rfl)) D1 (fun I2 D2 => ?_)
    exact h I2 D2
  · rw [if_neg (by omega), if_neg (by omega), if_neg (by omega), if_neg (by omega)] at h
    exact m_shares0 hJ hM hk6 hkd hk5 hk0 hD h
theorem m_weighs0 (hJ : am_Cl am_meth L xs J) {u : am_U} {kd : Nat} {x : Int32} (hM : MRep I0 67 u) (hk6 : k < 6) (hg : u (41 + 6 * k) = g) (hk : kd = 0 ∨ kd = 1 ∨ kd = 2 ∨ kd = 3) (hD : MS I0 I k tr false) (h : ∀ (I' : am_I) (v : Int32), MS I0 I' k (tp false tr 12) (wP (nI k) (nI g)) → (wP (nI k) (nI g) = false → v = wR x (nI g + 1 - nI k)) → Q (some (.int v)) I') {z : Option Value} : J (d + 1) q_M_weighsAs 0 [some (.ref 66), some (.int (nI kd)), some (.int x), z] [] I Q := by
  have go : J (d + 1) q_M_weighsAs 66 [some (.ref 66), some (.int (nI kd)), some (.int x), z] [] I Q := by
    refine am_vc hJ 50 _ _ _ _ _ _ _ ?_
    refine m_starts hJ hD (fun I1 D1 => ?_)
    conv => whnf
    rw [D1.2.2.1]
    refine m_get hJ (a := k) (b := 3) rfl rfl hk6 (by decide) ?_
    have e : I1 67 (38 + 6 * k + 3) = nI g := by rw [(D1.m67 hM) _ (by omega), show 38 + 6 * k + 3 = 41 + 6 * k by omega, hg]
    rw [e]
    refine br_t (by show I1 66 38 = 0; rw [D1.2.2.2.1]; rfl) ?_
    obtain ⟨h1, h2, h3, h4, h5, h6, h7⟩ := id D1
    have st : ∀ b : Bool, MS I0 (am_put I1 66 38 (bI b)) k (tp false tr 12) b := by
      intro b
      refine ⟨fun o o1 o2 => by rw [am_put_o o1]; exact h1 o o1 o2, fun j hj => ?_, ?_, put_at, ?_, h6, fun j hj => ?_⟩
      · have : j ≠ 38 := by rintro rfl; revert hj; decide
        rw [put_nk this]; exact h2 j hj
      · rw [put_nk (by decide)]; exact h3
      · rw [put_nk (by decide)]; exact h5
      · rw [am_put_o (by decide)]; exact h7 j hj
    conv => whnf
    show (nI g + 1 - I1 66 37 = 0 → _) ∧ (¬ nI g + 1 - I1 66 37 = 0 → _)
    by_cases gg : nI g + 1 - nI k = 0
    · have ep : wP (nI k) (nI g) = true := decide_eq_true gg
      rw [ep] at h
      refine br_t (by rw [h3]; exact gg) ?_
      refine ⟨Or.inr rfl, ?_⟩
      refine br_f (by show ¬ am_put I1 66 38 1 66 38 = 0; rw [put_at]; decide) ?_
      exact h _ _ (st true) (fun z => by cases z)
    · have ep : wP (nI k) (nI g) = false := decide_eq_false gg
      rw [ep] at h
      refine br_f (by rw [h3]; exact gg) ?_
      refine ⟨Or.inl rfl, ?_⟩
      refine br_t (by show am_put I1 66 38 0 66 38 = 0; rw [put_at]) ?_
      refine ⟨by show ¬ nI g + 1 - I1 66 37 = 0; rw [h3]; exact gg, ?_⟩
      refine h _ _ (st false) (fun _ => ?_)
      show wR x (nI g + 1 - I1 66 37) = _
      rw [h3]
  rcases hk with rfl | rfl | rfl | rfl
  all_goals
    refine am_vcc hJ [66] 200 _ _ _ _ _ _ _ ?_
    refine br_f (by decide) ?_
    refine br_f (by decide) ?_
    exact go
theorem m_weighs4 (hJ : am_Cl am_meth L xs J) {u : am_U} {x : Int32} (hM : MRep I0 67 u) (hk6 : k < 6) (hg : u (41 + 6 * k) = g) (hD : MS I0 I k tr false) (h : ∀ (I' : am_I) (v : Int32), MS I0 I' k (wT 4 (wP (nI k) (nI g)) tr) (wP (nI k) (nI g)) → (wP (nI k) (nI g) = false → v = wV 4 (nI k) (nI g) x) → Q (some (.int v)) I') {z : Option Value} : J (d + 2) q_M_weighsAs 0 [some (.ref 66), some (.int (nI 4)), some (.int x), z] [] I Q := by
  refine am_vc hJ 50 _ _ _ _ _ _ _ ?_
  refine br_f (by decide) ?_
  refine br_t (by decide) ?_
  refine m_starts hJ hD (fun I1 D1 => ?_)
  refine m_weighs0 (kd := 0) hJ hM hk6 hg (Or.inl rfl) D1 (fun I2 v D2 hv => ?_)
  exact h I2 _ D2 (fun z => by rw [← show v * 2 = wV 4 (nI k) (nI g) x by rw [hv z]; rfl])
theorem m_weighsAs (hJ : am_Cl am_meth L xs J) {u : am_U} {kd : Nat} {x : Int32} (hM : MRep I0 67 u) (hk6 : k < 6) (hg : u (41 + 6 * k) = g) (hk5 : kd ≤ 5) (hD : MS I0 I k tr false) (h : ∀ (I' : am_I) (v : Int32), MS I0 I' k (wT kd (wP (nI k) (nI g)) tr) (wP (nI k) (nI g)) → (wP (nI k) (nI g) = false → v = wV kd (nI k) (nI g) x) → Q (some (.int v)) I') {z : Option Value} : J (d + 3) q_M_weighsAs 0 [some (.ref 66), some (.int (nI kd)), some (.int x), z] [] I Q := by
  rcases (show kd = 4 ∨ kd = 5 ∨ (kd = 0 ∨ kd = 1 ∨ kd = 2 ∨ kd = 3) by omega) with rfl | rfl | hk0
  · exact m_weighs4 hJ hM hk6 hg hD h
  · refine am_vc hJ 50 _ _ _ _ _ _ _ ?_
    refine br_t (by decide) ?_
    refine m_starts hJ hD (fun I1 D1 => ?_)
    refine m_weighs4 hJ hM hk6 hg D1 (fun I2 v D2 hv => ?_)
    cases ep : wP (nI k) (nI g) with
    | true =>
      rw [ep] at h D2
      refine br_f (by show ¬ I2 66 38 = 0; rw [D2.2.2.2.1]; decide) ?_
      exact h I2 _ D2 (fun z => by cases z)
    | false =>
      rw [ep] at h D2
      refine br_t (by show I2 66 38 = 0; rw [D2.2.2.2.1]; rfl) ?_
      conv => whnf
      rw [D2.2.2.1]
      refine m_get hJ (a := k) (b := 3) rfl rfl hk6 (by decide) ?_
      have e : I2 67 (38 + 6 * k + 3) = nI g := by rw [(D2.m67 hM) _ (by omega), show 38 + 6 * k + 3 = 41 + 6 * k by omega, hg]
      rw [e]
      refine m_hails0 (kd := 5) hJ (by decide) D2 (fun I3 D3 => ?_)
      refine h I3 _ D3 (fun _ => ?_)
      show v + (nI g ^^^ nI k) = _
      rw [hv ep]
      rfl
  · have e1 : wT kd (wP (nI k) (nI g)) tr = tp false tr 12 := by
      unfold wT
      rw [if_neg (by omega), if_neg (by omega)]
    have e2 : wV kd (nI k) (nI g) x = wR x (nI g + 1 - nI k) := by
      unfold wV
      rw [if_neg (by omega), if_neg (by omega)]
    rw [e1, e2] at h
    exact m_weighs0 hJ hM hk6 hg hk0 hD h
theorem m_blesses0 (hJ : am_Cl am_meth L xs J) {u : am_U} {kd kd0 : Nat} {x : Int32} (hM : MRep I0 67 u) (hk6 : k < 6) (hkd : u (38 + 6 * k) = kd0) (hg : u (41 + 6 * k) = g) (hk5 : kd0 ≤ 5) (hk : kd ≤ 5 ∧ kd ≠ 3) (hD : MS I0 I k tr false) (h : ∀ (I' : am_I) (v : Int32), MS I0 I' k (eT kd0 (wP (nI k) (nI g)) tr) (wP (nI k) (nI g)) → (wP (nI k) (nI g) = false → v = eV kd0 (nI k) (nI g) x) → Q (some (.int v)) I') {z : Option Value} : J (d + 5) q_M_blessesAs 0 [some (.ref 66), some (.int (nI kd)), some (.int x), z] [] I Q := by
  refine am_vc hJ 60 _ _ _ _ _ _ _ ?_
  refine br_f (by show ¬ nI kd = nI 3; rw [nI_eq (by omega) (by omega)]; exact hk.2) ?_
  refine m_starts hJ hD (fun I1 D1 => ?_)
  conv => whnf
  rw [D1.2.2.1]
  refine m_get hJ (a := k) (b := 0) rfl rfl hk6 (by decide) ?_
  have e : I1 67 (38 + 6 * k + 0) = nI kd0 := by have q := (D1.m67 hM) (38 + 6 * k) (by omega); rw [hkd] at q; exact q
  rw [e]
  refine m_sharesAs hJ hM hk6 hkd hg hk5 D1 (fun I2 D2 => ?_)
  conv => whnf
  rw [D2.2.2.1]
  refine m_get hJ (a := k) (b := 0) rfl rfl hk6 (by decide) ?_
  have e : I2 67 (38 + 6 * k + 0) = nI kd0 := by have q := (D2.m67 hM) (38 + 6 * k) (by omega); rw [hkd] at q; exact q
  rw [e]
  refine m_weighsAs hJ hM hk6 hg hk5 D2 (fun I3 v D3 hv => ?_)
  refine h I3 _ D3 (fun z => ?_)
  show sV kd0 (nI k) (nI g) x - v = _
  rw [hv z]
  rfl
theorem m_blessesAs (hJ : am_Cl am_meth L xs J) {u : am_U} {kd : Nat} {x : Int32} (hM : MRep I0 67 u) (hk6 : k < 6) (hkd : u (38 + 6 * k) = kd) (hg : u (41 + 6 * k) = g) (hk5 : kd ≤ 5) (hD : MS I0 I k tr false) (h : ∀ (I' : am_I) (v : Int32), MS I0 I' k (lT kd (wP (nI k) (nI g)) tr) (wP (nI k) (nI g)) → (wP (nI k) (nI g) = false → v = lV kd (nI k) (nI g) x) → Q (some (.int v)) I') {z : Option Value} : J (d + 6) q_M_blessesAs 0 [some (.ref 66), some (.int (nI kd)), some (.int x), z] [] I Q := by
  by_cases h3 : kd = 3
  · subst h3
    have h3 := hkd
    rw [lT3, lV3] at h
    refine am_vc hJ 60 _ _ _ _ _ _ _ ?_
    refine br_t (by decide) ?_
    refine m_starts hJ hD (fun I1 D1 => ?_)
    refine m_blesses0 (kd := 2) hJ hM hk6 h3 hg (by decide) (by decide) D1 (fun I2 v D2 hv => ?_)
    cases ep : wP (nI k) (nI g) with
    | true =>
      rw [ep, sT_true] at h
      rw [ep] at D2
      refine br_f (by show ¬ I2 66 38 = 0; rw [D2.2.2.2.1]; decide) ?_
      exact h I2 _ D2 (fun z => by cases z)
    | false =>
      rw [ep] at h D2
      refine br_t (by show I2 66 38 = 0; rw [D2.2.2.2.1]; rfl) ?_
      refine m_sharesAs (kd := 3) hJ hM hk6 h3 hg (by decide) D2 (fun I3 D3 => ?_)
      refine h I3 _ D3 (fun _ => ?_)
      show v ^^^ sV 3 (nI k) (nI g) 1 = _
      rw [hv ep]
  · have e1 : lT kd (wP (nI k) (nI g)) tr = eT kd (wP (nI k) (nI g)) tr := if_neg h3
    have e2 : lV kd (nI k) (nI g) x = eV kd (nI k) (nI g) x := if_neg h3
    rw [e1, e2] at h
    exact m_blesses0 hJ hM hk6 hkd hg hk5 ⟨hk5, h3⟩ hD h
end
