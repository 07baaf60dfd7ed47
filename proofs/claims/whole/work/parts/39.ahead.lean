/-! DAYS THAT ARE ONLY THOUGHT -/
def LaidR (I : am_I) (u : am_U) : Prop := ∀ j, j < 74 → I 69 j = nI (u j)
theorem LaidR.kept {I I' : am_I} {u : am_U} (h : LaidR I u) (hk : I' 69 = I 69) : LaidR I' u := by
  unfold LaidR
  rw [hk]
  exact h
theorem MRep.kept {I I' : am_I} {u : am_U} (h : MRep I 67 u) (hk : I' 67 = I 67) : MRep I' 67 u := by
  unfold MRep
  rw [hk]
  exact h
def sp_rU (u : am_U) : Nat → am_U
  | 0 => u
  | n + 1 => sp_goU (sp_rU u n) (sp_rest (sp_rU u n))
def sp_rW (u : am_U) : Nat → Nat
  | 0 => 0
  | n + 1 => sp_rW u n + sp_goW (sp_rU u n) (sp_rest (sp_rU u n))
theorem sp_rU_ok {u : am_U} (h : OKu u) : ∀ n, n ≤ u 1 - u 0 → OKu (sp_rU u n) ∧ SameR u (sp_rU u n) ∧ sp_rU u n 0 = u 0 + n
  | 0, _ => ⟨h, SameR.refl u, rfl⟩
  | n + 1, hn => by
    obtain ⟨a, b, c⟩ := sp_rU_ok h n (by omega)
    have e1 : sp_rU u n 1 = u 1 := b 1 (by decide)
    have hlt : sp_rU u n 0 < sp_rU u n 1 := by omega
    refine ⟨sp_goU_ok a sp_rest_le hlt, b.trans (sp_goU_same a sp_rest_le), ?_⟩
    show sp_goU (sp_rU u n) (sp_rest (sp_rU u n)) 0 = _
    rw [(sp_goU_0 a sp_rest_le).1, c]
    omega
theorem sp_rW_le {u : am_U} (h : OKu u) : ∀ n, n ≤ u 1 - u 0 → sp_rW u n ≤ 36 * n
  | 0, _ => Nat.le_refl _
  | n + 1, hn => by
    have ih := sp_rW_le h n (by omega)
    have := sp_goW_le (sp_rU_ok h n (by omega)).1 (sp_rest_le (u := sp_rU u n))
    show sp_rW u n + sp_goW (sp_rU u n) (sp_rest (sp_rU u n)) ≤ _
    omega
section
variable {L : Nat} {xs : Nat → Int32} {J : am_J} {d : Nat} {Q : am_Q}
theorem m_layDown_loop (hJ : am_Cl am_meth L xs J) {I0 : am_I} {u : am_U} (hM : MRep I0 67 u) (h : ∀ I : am_I, (∀ o, o ≠ 69 → I o = I0 o) → LaidR I u → Q none I) : ∀ (n k : Nat) (I : am_I), k + n = 74 → (∀ o, o ≠ 69 → I o = I0 o) → (∀ j, j < k → I 69 j = nI (u j)) → J d q_M_layDown 2 [some (.ref 66), some (.int (nI k))] [] I Q
  | 0, k, I, hn, hI, hL => by
    refine am_vcl hJ [2] 200 ?_
    refine br_t (by show nI 74 ≤ nI k; exact nI_le (by omega) (by omega)) ?_
    exact h I hI (fun j hj => hL j (by omega))
  | n + 1, k, I, hn, hI, hL => by
    have ih := m_layDown_loop hJ hM h n (k + 1)
    have e : I 67 (nI k).toNatClampNeg = nI (u k) := by rw [nI_clamp (by omega), hI 67 (by decide), hM k (by omega)]
    refine am_vcl hJ [2] 200 ?_
    refine br_f (by show ¬ nI 74 ≤ nI k; exact nI_ge (by omega) (by omega)) ?_
    refine ⟨vp_in_nI (by omega) (by omega), vp_in_nI (by omega) (by omega), ?_⟩
    have k9 := ih (am_put I 69 k (nI (u k))) (by omega) (fun o ho => by rw [am_put_o ho]; exact hI o ho) (fun j hj => by
      by_cases z : j = k
      · subst z
        exact put_at
      · rw [put_nk z]
        exact hL j (by omega))
    rw [← nI_1] at k9
    conv => whnf
    rw [e, nI_clamp (by omega)]
    exact k9
theorem m_layDown (hJ : am_Cl am_meth L xs J) {I : am_I} {u : am_U} (hM : MRep I 67 u) (h : ∀ I' : am_I, (∀ o, o ≠ 69 → I' o = I o) → LaidR I' u → Q none I') {z : Option Value} : J d q_M_layDown 0 [some (.ref 66), z] [] I Q := by
  have k9 := m_layDown_loop (d := d) hJ hM h 74 0 I (by decide) (fun _ _ => rfl) (fun j hj => by omega)
  refine am_vcc hJ [2] 200 _ _ _ _ _ _ _ ?_
  exact k9
theorem m_layBack_loop (hJ : am_Cl am_meth L xs J) {I0 : am_I} {u u' : am_U} (hM : MRep I0 67 u') (hL : LaidR I0 u) (hs : ∀ j, 74 ≤ j → u' j = u j) (h : ∀ I : am_I, (∀ o, o ≠ 67 → I o = I0 o) → MRep I 67 u → Q none I) : ∀ (n k : Nat) (I : am_I), k + n = 74 → (∀ o, o ≠ 67 → I o = I0 o) → (∀ j, j < 322 → I 67 j = if j < k then nI (u j) else nI (u' j)) → J d q_M_layBack 2 [some (.ref 66), some (.int (nI k))] [] I Q
  | 0, k, I, hn, hI, hj => by
    refine am_vcl hJ [2] 200 ?_
    refine br_t (by show nI 74 ≤ nI k; exact nI_le (by omega) (by omega)) ?_
    refine h I hI (fun j h3 => ?_)
    rw [hj j h3]
    split
    · rfl
    · rw [hs j (by omega)]
  | n + 1, k, I, hn, hI, hj => by
    have ih := m_layBack_loop hJ hM hL hs h n (k + 1)
    have e : I 69 (nI k).toNatClampNeg = nI (u k) := by rw [nI_clamp (by omega), hI 69 (by decide), hL k (by omega)]
    refine am_vcl hJ [2] 200 ?_
    refine br_f (by show ¬ nI 74 ≤ nI k; exact nI_ge (by omega) (by omega)) ?_
    refine ⟨vp_in_nI (by omega) (by omega), vp_in_nI (by omega) (by omega), ?_⟩
    have k9 := ih (am_put I 67 k (nI (u k))) (by omega) (fun o ho => by rw [am_put_o ho]; exact hI o ho) (fun j h3 => by
      by_cases z : j = k
      · subst z
        rw [put_at, if_pos (by omega)]
      · rw [put_nk z, hj j h3]
        by_cases g : j < k
        · rw [if_pos g, if_pos (by omega)]
        · rw [if_neg g, if_neg (by omega)])
    rw [← nI_1] at k9
    conv => whnf
    rw [e, nI_clamp (by omega)]
    exact k9
theorem m_layBack (hJ : am_Cl am_meth L xs J) {I : am_I} {u u' : am_U} (hM : MRep I 67 u') (hL : LaidR I u) (hs : ∀ j, 74 ≤ j → u' j = u j) (h : ∀ I' : am_I, (∀ o, o ≠ 67 → I' o = I o) → MRep I' 67 u → Q none I') {z : Option Value} : J d q_M_layBack 0 [some (.ref 66), z] [] I Q := by
  have k9 := m_layBack_loop (d := d) hJ hM hL hs h 74 0 I (by decide) (fun _ _ => rfl) (fun j hj => by rw [if_neg (by omega)]; exact hM j hj)
  refine am_vcc hJ [2] 200 _ _ _ _ _ _ _ ?_
  exact k9
theorem SameR.hi {u u' : am_U} (h : SameR u u') : ∀ j, 74 ≤ j → u' j = u j := fun j hj => h j (am_dy_98 hj)
theorem CRep.copy {I I' : am_I} {c c' : Nat} {u : am_U} (h : CRep I c' u) (hk : ∀ f, f < 6 → I' c f = I c' f) : CRep I' c u := by
  obtain ⟨h1, h2, h3⟩ := h
  refine ⟨?_, ?_, ?_⟩
  · intro t ht
    simp only [TC, List.mem_cons, List.not_mem_nil, or_false] at ht
    rcases ht with rfl | rfl | rfl | rfl
    · show I' c 0 = _
      rw [hk 0 (by decide)]; exact h1 (c', 0, 0) (by simp [TC])
    · show I' c 1 = _
      rw [hk 1 (by decide)]; exact h1 (c', 1, 3) (by simp [TC])
    · show I' c 2 = _
      rw [hk 2 (by decide)]; exact h1 (c', 2, 4) (by simp [TC])
    · show I' c 3 = _
      rw [hk 3 (by decide)]; exact h1 (c', 3, 2) (by simp [TC])
  · rw [hk 4 (by decide)]
    exact h2
  · rw [hk 5 (by decide)]
    exact h3
theorem x_copyFrom (hJ : am_Cl am_meth L xs J) {I : am_I} {c c' : Nat} (hc : c ∈ am_cl) (hc' : c' ∈ am_cl) (hne : c' ≠ c) (h : ∀ I' : am_I, (∀ o, o ≠ c → I' o = I o) → (∀ f, f < 6 → I' c f = I c' f) → Q none I') : J d q_Course_copyFrom 0 [some (.ref c), some (.ref c')] [] I Q := by
  have e1 : ∀ (I : am_I) (k : Nat) (v : Int32), am_put I c k v c' = I c' := fun I k v => am_put_o hne
  have k9 := h (am_put (am_put (am_put (am_put (am_put (am_put I c 0 (I c' 0)) c 1 (I c' 1)) c 2 (I c' 2)) c 3 (I c' 3)) c 4 (I c' 4)) c 5 (I c' 5)) (fun o ho => by rw [am_put_o ho, am_put_o ho, am_put_o ho, am_put_o ho, am_put_o ho, am_put_o ho]) (fun f hf => by
    rcases (show f = 0 ∨ f = 1 ∨ f = 2 ∨ f = 3 ∨ f = 4 ∨ f = 5 by omega) with rfl | rfl | rfl | rfl | rfl | rfl
    · rw [put_nk (by decide), put_nk (by decide), put_nk (by decide), put_nk (by decide), put_nk (by decide), put_at]
    · rw [put_nk (by decide), put_nk (by decide), put_nk (by decide), put_nk (by decide), put_at]
    · rw [put_nk (by decide), put_nk (by decide), put_nk (by decide), put_at]
    · rw [put_nk (by decide), put_nk (by decide), put_at]
    · rw [put_nk (by decide), put_at]
    · rw [put_at])
  refine am_vc hJ 60 _ _ _ _ _ _ _ ?_
  conv => whnf
  rw [am_clG c' hc']
  conv => whnf
  rw [am_clG c hc]
  conv => whnf
  rw [am_clG c' hc']
  conv => whnf
  rw [am_clG c hc]
  conv => whnf
  rw [am_clG c' hc']
  conv => whnf
  rw [am_clG c hc]
  conv => whnf
  rw [am_clG c' hc']
  conv => whnf
  rw [am_clG c hc]
  conv => whnf
  rw [am_clG c' hc']
  conv => whnf
  rw [am_clG c hc]
  conv => whnf
  rw [am_clG c' hc']
  conv => whnf
  rw [am_clG c hc]
  conv => whnf
  simp only [e1]
  exact k9
theorem x_daysLeft (hJ : am_Cl am_meth L xs J) {I : am_I} {c : Nat} {u : am_U} (hc : c ∈ am_cl) (hR : Rel (TR 8) I u) (hC : CRep I c u) (hO : OKu u) (h : Q (some (.int (nI (u 1 - u 0)))) I) : J (d + 1) q_Road_daysLeft 0 [some (.ref 8), some (.ref c)] [] I Q := by
  obtain ⟨c1, c2, c3, c4, c5, c6, c7⟩ := hO.Cn
  have e0 := hC.day.1
  have e1 : I 8 10 = nI (u 1) := hR.get 8 10 1 (by decide +kernel)
  refine am_vc hJ 12 _ _ _ _ _ _ _ ?_
  conv => whnf
  rw [am_clG c hc]
  show Q (some (.int (am_mx 0 (I 8 10 - I c 0)))) I
  rw [e0, e1, am_mx0 (by omega) (by omega)]
  exact h
theorem x_startAhead (hJ : am_Cl am_meth L xs J) {I : am_I} {u : am_U} (hR : RRep I 8 u) (hC : CRep I 9 u) (hO : OKu u) (h : ∀ I' : am_I, (∀ o, o ≠ 52 → I' o = I o) → RRep I' 8 u → CRep I' 52 u → Q (some (.int (nI (u 1 - u 0)))) I') : J (d + 2) q_X_startAhead 0 [some (.ref 0)] [] I Q := by
  refine am_vc hJ 40 _ _ _ _ _ _ _ ?_
  refine x_copyFrom hJ (by decide) (by decide) (by decide) (fun I1 q1 q2 => ?_)
  have R1 : RRep I1 8 u := hR.offc (c := 52) (by decide) (fun o ho _ => q1 o ho)
  have C1 : CRep I1 52 u := hC.copy q2
  refine x_daysLeft hJ (by decide) R1.1 C1 hO ?_
  exact h I1 q1 R1 C1
theorem x_worth_loop (hJ : am_Cl am_meth L xs J) {I0 : am_I} {u : am_U} {m : Nat} (hO : OKu u) (hm : m ≤ u 1 - u 0) (h : ∀ I : am_I, (∀ o, o ≠ 52 → o ≠ 18 → I o = I0 o) → Q (some (.int (nI (sp_rW u m)))) I) {z : Option Value} : ∀ (n i : Nat) (I : am_I), i + n = m → (∀ o, o ≠ 52 → o ≠ 18 → I o = I0 o) → RRep I 8 (sp_rU u i) → CRep I 52 (sp_rU u i) → J (d + 5) q_X_worthOfRest 11 [some (.ref 0), z, some (.int (nI (sp_rW u i))), some (.int (nI n))] [] I Q
  | 0, i, I, hn, hI, hR, hC => by
    refine am_vcl hJ [11] 200 ?_
    refine br_t (by decide) ?_
    rw [show i = m by omega]
    exact h I hI
  | n + 1, i, I, hn, hI, hR, hC => by
    have c1 := hO.Cn
    have hOi := (sp_rU_ok hO i (by omega)).1
    refine am_vcl hJ [11] 200 ?_
    refine br_f (by show ¬ nI (n + 1) ≤ nI 0; exact nI_ge (by omega) (by omega)) ?_
    refine x_restAct hJ (by decide) hR hC hOi ?_
    refine x_goBy hJ (by decide) hR hC hOi sp_rest_le (fun I1 q1 R1 C1 => ?_)
    have k9 := x_worth_loop (z := z) hJ hO hm h n (i + 1) I1 (by omega) (fun o h1 h2 => by rw [q1 o h1 h2]; exact hI o h1 h2) R1 C1
    have e1 : nI (n + 1) + (-1) = nI n := by rw [← Int32.sub_eq_add_neg]; exact nI_pred n
    have e2 : nI (sp_rW u i) + nI (sp_goW (sp_rU u i) (sp_rest (sp_rU u i))) = nI (sp_rW u (i + 1)) := nI_add _ _
    rw [← e1, ← e2] at k9
    exact k9
theorem x_worthOfRest (hJ : am_Cl am_meth L xs J) {I : am_I} {u : am_U} {n : Nat} (hR : RRep I 8 u) (hC : CRep I 9 u) (hO : OKu u) (hn : n ≤ 16) (h : ∀ I' : am_I, (∀ o, o ≠ 52 → o ≠ 18 → I' o = I o) → Q (some (.int (nI (sp_rW u (if u 1 - u 0 < n then u 1 - u 0 else n))))) I') {z1 z2 : Option Value} : J (d + 5) q_X_worthOfRest 0 [some (.ref 0), some (.int (nI n)), z1, z2] [] I Q := by
  have c1 := hO.Cn
  refine am_vcc hJ [11] 200 _ _ _ _ _ _ _ ?_
  refine x_startAhead hJ hR hC hO (fun I1 q1 R1 C1 => ?_)
  have em : am_mn (nI n) (nI (u 1 - u 0)) = nI (if u 1 - u 0 < n then u 1 - u 0 else n) := am_mnN (by omega) (by omega)
  conv => whnf
  rw [em]
  exact x_worth_loop (I0 := I) hJ hO (by split <;> omega) h _ 0 I1 (Nat.zero_add _) (fun o h1 h2 => q1 o h1) R1 C1
theorem m_rest_days (hJ : am_Cl am_meth L xs J) {I0 : am_I} {u : am_U} {cd : Nat → Int32} {nn m : Nat} (hRu : RuR cd u) (hO : OKu u) (hnn : nn ≤ 16) (hm : m = if u 1 - u 0 < nn then u 1 - u 0 else nn) (h : ∀ I : am_I, (∀ o, o ≠ 67 → o ≠ 70 → I o = I0 o) → MRep I 67 (sp_rU u m) → Q (some (.int (nI (sp_rW u m)))) I) : ∀ (n i : Nat) (I : am_I), i + n = m → (∀ o, o ≠ 67 → o ≠ 70 → I o = I0 o) → MRep I 67 (sp_rU u i) → J (d + 7) q_M_restOf 4 [some (.ref 66), some (.int (nI nn)), some (.int (nI (sp_rW u i))), some (.int (nI i))] [] I Q
  | n, i, I, hn, hI, hM => by
    obtain ⟨c1, c2, c3, c4, c5, c6, c7⟩ := hO.Cn
    have hmle : m ≤ u 1 - u 0 := by rw [hm]; split <;> omega
    have hmn : m ≤ nn := by rw [hm]; split <;> omega
    obtain ⟨oi, si, di⟩ := sp_rU_ok hO i (by omega)
    have d1 : sp_rU u i 1 = u 1 := si 1 (by decide)
    have oc := oi.Cn
    cases n with
    | zero =>
      have ei : i = m := by omega
      refine am_vcl hJ [4] 200 ?_
      by_cases g : nn ≤ i
      · refine br_t (by show nI nn ≤ nI i; exact nI_le g (by omega)) ?_
        subst ei
        exact h I hI hM
      · refine br_f (by show ¬ nI nn ≤ nI i; exact nI_ge (by omega) (by omega)) ?_
        have hlt : u 1 - u 0 < nn := by
          apply Classical.byContradiction
          intro z
          rw [if_neg z] at hm
          omega
        rw [if_pos hlt] at hm
        refine m_isOver hJ (hM 0 (by decide)) (hM 1 (by decide)) (by omega) (by omega) (fun q => ?_) (fun q => ?_)
        · refine br_f (by decide) ?_
          subst ei
          exact h I hI hM
        · exfalso
          have := hO.2.1
          omega
    | succ n =>
      refine am_vcl hJ [4] 200 ?_
      refine br_f (by show ¬ nI nn ≤ nI i; exact nI_ge (by omega) (by omega)) ?_
      refine m_isOver hJ (hM 0 (by decide)) (hM 1 (by decide)) (by omega) (by omega) (fun q => by exfalso; omega) (fun q => ?_)
      refine br_t (by decide) ?_
      refine m_goesRest hJ hM (hRu.keptu (si 7 (by decide)) (fun j hj => si j (am_dy_98 (by omega)))) oi (fun I1 q1 M1 => ?_)
      have k9 := m_rest_days hJ hRu hO hnn hm h n (i + 1) I1 (by omega) (fun o h1 h2 => by rw [q1 o h1 h2]; exact hI o h1 h2) M1
      have e2 : nI (sp_rW u i) + nI (sp_goW (sp_rU u i) (sp_rest (sp_rU u i))) = nI (sp_rW u (i + 1)) := nI_add _ _
      rw [← nI_1, ← e2] at k9
      exact k9
theorem m_restOf (hJ : am_Cl am_meth L xs J) {I : am_I} {u : am_U} {cd : Nat → Int32} {n : Nat} (hM : MRep I 67 u) (hRu : RuR cd u) (hO : OKu u) (hn : n ≤ 16) (h : ∀ I' : am_I, (∀ o, o ≠ 67 → o ≠ 70 → I' o = I o) → MRep I' 67 (sp_rU u (if u 1 - u 0 < n then u 1 - u 0 else n)) → Q (some (.int (nI (sp_rW u (if u 1 - u 0 < n then u 1 - u 0 else n))))) I') {z1 z2 : Option Value} : J (d + 7) q_M_restOf 0 [some (.ref 66), some (.int (nI n)), z1, z2] [] I Q := by
  have k9 := m_rest_days (d := d) (I0 := I) hJ hRu hO hn rfl h _ 0 I (Nat.zero_add _) (fun _ _ _ => rfl) hM
  refine am_vcc hJ [4] 200 _ _ _ _ _ _ _ ?_
  exact k9
/-- what the class and the reference only think leaves the invariant -/
theorem Inv.thought {I I1 I2 : am_I} {u : am_U} (hI : Inv I) (hMn : Main I 8 9 67 u) (hS1 : am_only [18, 52] I I1) (hS2 : am_only [67, 69, 70] I1 I2) (M2 : MRep I2 67 u) : Inv I2 := by
  obtain ⟨v, uk, hMv, hK, hRs⟩ := hI
  have k : ∀ o, o ∉ [18, 52, 67, 69, 70] → I2 o = I o := by
    intro o ho
    simp only [List.mem_cons, List.not_mem_nil, or_false, not_or] at ho
    rw [hS2 o (by simp only [List.mem_cons, List.not_mem_nil, or_false, not_or]; exact ⟨ho.2.2.1, ho.2.2.2.1, ho.2.2.2.2⟩), hS1 o (by simp only [List.mem_cons, List.not_mem_nil, or_false, not_or]; exact ⟨ho.1, ho.2.1⟩)]
  obtain ⟨hM, hR, hC, hO⟩ := hMn
  refine Inv.main (S := [18, 52, 67, 69, 70]) (u := u) ⟨M2, ?_, hC.kept (k 9 (by decide)), hO⟩ hK hRs k (by decide)
  have t : ∀ t ∈ TR 8, t.1 ∉ [18, 52, 67, 69, 70] := by decide +kernel
  refine ⟨hR.1.kept (fun x hx => k _ (t x hx)), ?_⟩
  show RuR (I2 17) u
  rw [k 17 (by decide)]
  exact hR.2
theorem am_only2 {a b : Nat} {I I' : am_I} (h : ∀ o, o ≠ a → o ≠ b → I' o = I o) : am_only [a, b] I I' := fun o ho => by
  simp only [List.mem_cons, List.not_mem_nil, or_false, not_or] at ho
  exact h o ho.1 ho.2
theorem am_only3 {a b c : Nat} {I I' : am_I} (h : ∀ o, o ≠ a → o ≠ b → o ≠ c → I' o = I o) : am_only [a, b, c] I I' := fun o ho => by
  simp only [List.mem_cons, List.not_mem_nil, or_false, not_or] at ho
  exact h o ho.1 ho.2.1 ho.2.2
theorem op_on (hJ : am_Cl am_meth L xs J) (a : Int32) : am_same Inv J q_X_on q_M_on [.int a] := by
  intro I hI Qc hQc
  obtain ⟨u, uk, hMn, hK, hRs⟩ := id hI
  obtain ⟨hM, hR, hC, hO⟩ := id hMn
  have hc := hO.Cn
  by_cases h1 : (0 : Int32) ≤ a ∧ a ≤ 16
  · obtain ⟨n, hn, rfl⟩ := am_rng (N := 16) rfl (by decide) h1
    refine am_vc hJ 20 _ _ _ _ _ _ _ ?_
    refine x_withinY hJ h1 ?_
    refine br_f (by decide) ?_
    refine x_worthOfRest hJ hR hC hO hn (fun I1 q1 => ?_)
    refine ⟨_, rfl, ?_⟩
    have M1 : MRep I1 67 u := hM.kept (q1 67 (by decide) (by decide))
    refine am_vc hJ 20 _ _ _ _ _ _ _ ?_
    refine m_in1Y hJ h1 ?_
    refine br_f (by decide) ?_
    refine m_layDown hJ M1 (fun I2 q2 L2 => ?_)
    have M2 : MRep I2 67 u := M1.kept (q2 67 (by decide))
    refine m_restOf hJ M2 hR.2 hO hn (fun I3 q3 M3 => ?_)
    have L3 : LaidR I3 u := L2.kept (q3 69 (by decide) (by decide))
    refine m_layBack hJ M3 L3 (sp_rU_ok hO _ (by split <;> omega)).2.1.hi (fun I4 q4 M4 => ?_)
    refine ⟨rfl, hQc _ (Inv.thought hI hMn (am_only2 (fun o h1 h2 => q1 o h2 h1)) (am_only3 (fun o h1 h2 h3 => ?_)) M4)⟩
    rw [q4 o h1, q3 o h1 h3, q2 o h2]
  · repeat (
      (try conv => whnf)
      first
        | refine ⟨am_vin (by decide), ?_⟩
        | refine ⟨(by assumption : vp_in _ _), ?_⟩
        | refine br_f (by decide) ?_
        | refine br_t (by decide) ?_
        | refine br_t (by assumption) ?_
        | refine br_f (by assumption) ?_
        | refine x_withinY hJ (by assumption) ?_
        | refine x_withinN hJ (by assumption) ?_
        | refine m_in1Y hJ (by assumption) ?_
        | refine m_in1N hJ (by assumption) ?_
        | refine m_isGateY hJ (by assumption) ?_
        | refine m_isGateN hJ (by assumption) ?_
        | refine m_isDigitY hJ (by assumption) ?_
        | refine m_isDigitN hJ (by assumption) ?_
        | refine m_isNeedY hJ (by assumption) ?_
        | refine m_isNeedN hJ (by assumption) ?_
        | refine m_isPlanY hJ (by assumption) ?_
        | refine m_isPlanN hJ (by assumption) ?_
        | refine m_isSheetY hJ (by assumption) ?_
        | refine m_isSheetN hJ (by assumption) ?_
        | refine x_isSheetY hJ (by assumption) ?_
        | refine x_isSheetN hJ (by assumption) ?_
        | refine x_isShelfY hJ (by assumption) ?_
        | refine x_isShelfN hJ (by assumption) ?_
        | refine x_hasY hJ (by assumption) (by assumption) (by assumption) ?_
        | refine x_hasN hJ (by assumption) (by assumption) (by assumption) ?_
        | refine m_isPersonY hJ (by assumption) (by assumption) (by assumption) ?_
        | refine m_isPersonN hJ (by assumption) (by assumption) (by assumption) ?_
        | refine am_vc hJ 120 40 _ _ _ _ _ _ ?_
        | refine ⟨_, rfl, ?_⟩)
    exact ⟨rfl, hQc _ hI⟩
end
