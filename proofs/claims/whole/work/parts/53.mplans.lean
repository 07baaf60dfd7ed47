/-! PLANS: the reference -/
def SavR (I : am_I) (dp : Nat) (u : am_U) : Prop := ∀ j, j < 74 → I 75 (74 * dp + j) = nI (u j)
theorem SavR.kept {I I' : am_I} {dp : Nat} {u : am_U} (h : SavR I dp u) (hk : ∀ j, j < 74 * (dp + 1) → I' 75 j = I 75 j) : SavR I' dp u := by
  intro j hj
  rw [hk _ (by omega)]
  exact h j hj
theorem sv_ix (dp k : Nat) : 74 * nI dp + nI k = nI (74 * dp + k) := by
  rw [show (74 : Int32) = nI 74 from rfl, pk_mul, nI_add]
def PmR (I : am_I) (m : Nat) (S : PS) : Prop := I 66 21 = S.1 ∧ I 66 22 = S.2.1 ∧ I 66 23 = nI S.2.2.1 ∧ I 66 24 = nI S.2.2.2.1 ∧ ∀ i, i < m → I 77 i = S.2.2.2.2 i
theorem PmR.kept {I I' : am_I} {m : Nat} {S : PS} (h : PmR I m S) (h1 : I' 66 = I 66) (h2 : I' 77 = I 77) : PmR I' m S := by
  unfold PmR
  rw [h1, h2]
  exact h
def PmF (I I' : am_I) (dp : Nat) : Prop := (∀ o, o ≠ 66 → o ≠ 67 → o ≠ 70 → o ≠ 75 → o ≠ 76 → o ≠ 77 → I' o = I o) ∧ (∀ f, f < 21 ∨ 24 < f → I' 66 f = I 66 f) ∧ (∀ i, i < dp → I' 76 i = I 76 i) ∧ ∀ j, j < 74 * dp → I' 75 j = I 75 j
theorem PmF.refl (I : am_I) (dp : Nat) : PmF I I dp := ⟨fun _ _ _ _ _ _ _ => rfl, fun _ _ => rfl, fun _ _ => rfl, fun _ _ => rfl⟩
theorem PmF.trans {I I' I'' : am_I} {dp : Nat} (h : PmF I I' dp) (g : PmF I' I'' dp) : PmF I I'' dp := ⟨fun o a b c e f q => by rw [g.1 o a b c e f q, h.1 o a b c e f q], fun f hf => by rw [g.2.1 f hf, h.2.1 f hf], fun i hi => by rw [g.2.2.1 i hi, h.2.2.1 i hi], fun j hj => by rw [g.2.2.2 j hj, h.2.2.2 j hj]⟩
section
variable {L : Nat} {xs : Nat → Int32} {J : am_J} {d : Nat} {Q : am_Q}
theorem m_saves_loop (hJ : am_Cl am_meth L xs J) {I0 : am_I} {u : am_U} {dp : Nat} (hdp : dp < 5) (hM : MRep I0 67 u) (h : ∀ I : am_I, (∀ o, o ≠ 75 → I o = I0 o) → (∀ j, j < 74 * dp → I 75 j = I0 75 j) → SavR I dp u → Q none I) : ∀ (n k : Nat) (I : am_I), k + n = 74 → (∀ o, o ≠ 75 → I o = I0 o) → (∀ j, j < 74 * dp → I 75 j = I0 75 j) → (∀ j, j < k → I 75 (74 * dp + j) = nI (u j)) → J d q_M_saves 2 [some (.ref 66), some (.int (nI dp)), some (.int (nI k))] [] I Q
  | 0, k, I, hn, hI, hlo, hL => by
    refine am_vcl hJ [2] 200 ?_
    refine br_t (by show nI 74 ≤ nI k; exact nI_le (by omega) (by omega)) ?_
    exact h I hI hlo (fun j hj => hL j (by omega))
  | n + 1, k, I, hn, hI, hlo, hL => by
    have ih := m_saves_loop hJ hdp hM h n (k + 1)
    have e : I 67 (nI k).toNatClampNeg = nI (u k) := by rw [nI_clamp (by omega), hI 67 (by decide), hM k (by omega)]
    have ei := sv_ix dp k
    refine am_vcl hJ [2] 200 ?_
    refine br_f (by show ¬ nI 74 ≤ nI k; exact nI_ge (by omega) (by omega)) ?_
    refine ⟨vp_in_nI (by omega) (by omega), am_vinN ei (by omega) (by omega), ?_⟩
    have k9 := ih (am_put I 75 (74 * dp + k) (nI (u k))) (by omega) (fun o ho => by rw [am_put_o ho]; exact hI o ho) (fun j hj => by rw [put_nk (by omega)]; exact hlo j hj) (fun j hj => by
      by_cases z : j = k
      · subst z
        exact put_at
      · rw [put_nk (by omega)]
        exact hL j (by omega))
    rw [← nI_1] at k9
    show J d q_M_saves 2 [some (.ref 66), some (.int (nI dp)), some (.int (nI k + 1))] [] (am_put I 75 (74 * nI dp + nI k).toNatClampNeg (I 67 (nI k).toNatClampNeg)) Q
    rw [am_clN ei (by omega), e]
    exact k9
theorem m_saves (hJ : am_Cl am_meth L xs J) {I : am_I} {u : am_U} {dp : Nat} (hdp : dp < 5) (hM : MRep I 67 u) (h : ∀ I' : am_I, (∀ o, o ≠ 75 → I' o = I o) → (∀ j, j < 74 * dp → I' 75 j = I 75 j) → SavR I' dp u → Q none I') {z : Option Value} : J d q_M_saves 0 [some (.ref 66), some (.int (nI dp)), z] [] I Q := by
  have k9 := m_saves_loop (d := d) hJ hdp hM h 74 0 I (by decide) (fun _ _ => rfl) (fun _ _ => rfl) (fun j hj => by omega)
  refine am_vcc hJ [2] 200 _ _ _ _ _ _ _ ?_
  exact k9
theorem m_restores_loop (hJ : am_Cl am_meth L xs J) {I0 : am_I} {u u' : am_U} {dp : Nat} (hdp : dp < 5) (hM : MRep I0 67 u') (hL : SavR I0 dp u) (hs : ∀ j, 74 ≤ j → u' j = u j) (h : ∀ I : am_I, (∀ o, o ≠ 67 → I o = I0 o) → MRep I 67 u → Q none I) : ∀ (n k : Nat) (I : am_I), k + n = 74 → (∀ o, o ≠ 67 → I o = I0 o) → (∀ j, j < 322 → I 67 j = if j < k then nI (u j) else nI (u' j)) → J d q_M_restores 2 [some (.ref 66), some (.int (nI dp)), some (.int (nI k))] [] I Q
  | 0, k, I, hn, hI, hj => by
    refine am_vcl hJ [2] 200 ?_
    refine br_t (by show nI 74 ≤ nI k; exact nI_le (by omega) (by omega)) ?_
    refine h I hI (fun j h3 => ?_)
    rw [hj j h3]
    split
    · rfl
    · rw [hs j (by omega)]
  | n + 1, k, I, hn, hI, hj => by
    have ih := m_restores_loop hJ hdp hM hL hs h n (k + 1)
    have ei := sv_ix dp k
    have e : I 75 (74 * nI dp + nI k).toNatClampNeg = nI (u k) := by rw [am_clN ei (by omega), hI 75 (by decide), hL k (by omega)]
    refine am_vcl hJ [2] 200 ?_
    refine br_f (by show ¬ nI 74 ≤ nI k; exact nI_ge (by omega) (by omega)) ?_
    refine ⟨am_vinN ei (by omega) (by omega), vp_in_nI (by omega) (by omega), ?_⟩
    have k9 := ih (am_put I 67 k (nI (u k))) (by omega) (fun o ho => by rw [am_put_o ho]; exact hI o ho) (fun j h3 => by
      by_cases z : j = k
      · subst z
        rw [put_at, if_pos (by omega)]
      · rw [put_nk z, hj j h3]
        by_cases g : j < k
        · rw [if_pos g, if_pos (by omega)]
        · rw [if_neg g, if_neg (by omega)])
    rw [← nI_1] at k9
    show J d q_M_restores 2 [some (.ref 66), some (.int (nI dp)), some (.int (nI k + 1))] [] (am_put I 67 (nI k).toNatClampNeg (I 75 (74 * nI dp + nI k).toNatClampNeg)) Q
    rw [e, nI_clamp (by omega)]
    exact k9
theorem m_restores (hJ : am_Cl am_meth L xs J) {I : am_I} {u u' : am_U} {dp : Nat} (hdp : dp < 5) (hM : MRep I 67 u') (hL : SavR I dp u) (hs : ∀ j, 74 ≤ j → u' j = u j) (h : ∀ I' : am_I, (∀ o, o ≠ 67 → I' o = I o) → MRep I' 67 u → Q none I') {z : Option Value} : J d q_M_restores 0 [some (.ref 66), some (.int (nI dp)), z] [] I Q := by
  have k9 := m_restores_loop (d := d) hJ hdp hM hL hs h 74 0 I (by decide) (fun _ _ => rfl) (fun j hj => by rw [if_neg (by omega)]; exact hM j hj)
  refine am_vcc hJ [2] 200 _ _ _ _ _ _ _ ?_
  exact k9
def sp_m (u : am_U) (n : Nat) : Nat := if u 1 - u 0 < n then u 1 - u 0 else n
theorem sp_m_le {u : am_U} {n : Nat} : sp_m u n ≤ n ∧ sp_m u n ≤ u 1 - u 0 := by
  unfold sp_m
  split <;> omega
theorem m_daysOf (hJ : am_Cl am_meth L xs J) {I : am_I} {u : am_U} {n : Nat} (hM : MRep I 67 u) (hO : OKu u) (hn : n ≤ 16) (h : Q (some (.int (nI (sp_m u n)))) I) {z : Option Value} : J (d + 1) q_M_daysOf 0 [some (.ref 66), some (.int (nI n)), z] [] I Q := by
  obtain ⟨c1, c2, c3, c4, c5, c6, c7⟩ := hO.Cn
  have e0 := hM 0 (by decide)
  have e1 := hM 1 (by decide)
  have k9 : ∀ l, l = u 1 - u 0 → J (d + 1) q_M_daysOf 24 [some (.ref 66), some (.int (nI n)), z] [.int (nI l)] I Q := by
    intro l hl
    refine am_vc hJ 20 _ _ _ _ _ _ _ ?_
    refine ⟨fun g => ?_, fun g => ?_⟩
    · have g : nI l ≤ nI n := g
      rw [nI_leI (by omega) (by omega)] at g
      rw [show sp_m u n = l by unfold sp_m; split <;> omega] at h
      exact h
    · have g : ¬ nI l ≤ nI n := g
      rw [nI_leI (by omega) (by omega)] at g
      rw [show sp_m u n = n by unfold sp_m; split <;> omega] at h
      exact h
  refine am_vcc hJ [24] 200 _ _ _ _ _ _ _ ?_
  refine m_isOver hJ e0 e1 (by omega) (by omega) (fun q => ?_) (fun q => ?_)
  · refine br_f (by decide) ?_
    exact k9 0 (by omega)
  · refine br_t (by decide) ?_
    refine ⟨am_vin (by decide), ?_⟩
    refine ⟨am_vin (by decide), ?_⟩
    have ed : I 67 1 - I 67 0 = nI (u 1 - u 0) := by rw [e0, e1, pk_sub (by omega)]
    show J (d + 1) q_M_daysOf 24 [some (.ref 66), some (.int (nI n)), z] [.int (I 67 1 - I 67 0)] I Q
    rw [ed]
    exact k9 _ rfl
theorem m_ends_tail (hJ : am_Cl am_meth L xs J) {I : am_I} {m wt told F f e : Nat} {v : am_U} {a b : Int32} {g : Nat → Int32} (hM : MRep I 67 v) (hO : OKu v) (hF : F = fedN v) (hwt : wt < 64) (hP : PmR I m (a, b, f, e, g)) (hf : f ≤ 5) (he : e < 64) (ht : told ≤ 4) (h : ∀ I' : am_I, (∀ o, o ≠ 66 → I' o = I o) → (∀ j, j < 21 ∨ 24 < j → I' 66 j = I 66 j) → PmR I' m (a, b, if sp_fe wt F = true ∧ told < f then told else f, e ||| F, g) → Q none I') {z1 z2 z5 : Option Value} : J (d + 2) q_M_endsPlan 69 [some (.ref 66), z1, z2, some (.int (nI told)), some (.int (nI wt)), z5] [] I Q := by
  obtain ⟨p1, p2, p3, p4, pf⟩ := id hP
  have p3 : I 66 23 = nI f := p3
  have p4 : I 66 24 = nI e := p4
  have hF64 : F < 64 := by rw [hF]; exact fedN_lt hO.fed
  have eo : nI e ||| nI F = nI (e ||| F) := (or64 e he F hF64).1
  have fin : ∀ f', f' = (if sp_fe wt F = true ∧ told < f then told else f) → J (d + 2) q_M_endsPlan 103 [some (.ref 66), z1, z2, some (.int (nI told)), some (.int (nI wt)), some (.int (nI F))] [.int (nI f'), .ref 66] I Q := by
    intro f' hf'
    have k9 := h (am_put (am_put I 66 23 (nI f')) 66 24 (nI (e ||| F))) (fun o ho => by rw [am_put_o ho, am_put_o ho]) (fun j hj => by rw [put_nk (by omega), put_nk (by omega)]) ⟨by rw [put_nk (by decide), put_nk (by decide)]; exact p1, by rw [put_nk (by decide), put_nk (by decide)]; exact p2, by rw [put_nk (by decide), put_at, hf'], by rw [put_at], fun i hi => by rw [am_put_o (by decide), am_put_o (by decide)]; exact pf i hi⟩
    refine am_vc hJ 20 _ _ _ _ _ _ _ ?_
    show Q none (am_put (am_put I 66 23 (nI f')) 66 24 (am_put I 66 23 (nI f') 66 24 ||| nI F))
    rw [put_nk (by decide), p4, eo]
    exact k9
  refine am_vcc hJ [103] 200 _ _ _ _ _ _ _ ?_
  refine m_thoseFed hJ hM hO ?_
  rw [← hF]
  refine ⟨fun g1 => ?_, fun g1 => ?_⟩
  · have g1 : nI wt &&& (nI F ^^^ (-1)) = 0 := g1
    have e1 : sp_fe wt F = true := decide_eq_true ((sp_fe_eq wt hwt F hF64).mpr g1)
    refine ⟨fun g2 => ?_, fun g2 => ?_⟩
    · have g2 : I 66 23 ≤ nI told := g2
      rw [p3, nI_leI (by omega) (by omega)] at g2
      show J (d + 2) q_M_endsPlan 103 _ [.int (I 66 23), .ref 66] I Q
      rw [p3]
      exact fin f (by rw [if_neg (by omega)])
    · have g2 : ¬ I 66 23 ≤ nI told := g2
      rw [p3, nI_leI (by omega) (by omega)] at g2
      exact fin told (by rw [if_pos ⟨e1, by omega⟩])
  · have g1 : ¬ nI wt &&& (nI F ^^^ (-1)) = 0 := g1
    have e1 : ¬ sp_fe wt F = true := fun z => g1 ((sp_fe_eq wt hwt F hF64).mp (of_decide_eq_true z))
    show J (d + 2) q_M_endsPlan 103 _ [.int (I 66 23), .ref 66] I Q
    rw [p3]
    exact fin f (by rw [if_neg (fun z => e1 z.1)])
theorem m_ends_copy (hJ : am_Cl am_meth L xs J) {I0 : am_I} {m : Nat} {z2 z3 z4 : Option Value} (hm : m ≤ 4) (h : ∀ I : am_I, (∀ o, o ≠ 77 → I o = I0 o) → (∀ i, i < m → I 77 i = I0 76 i) → ∀ z5, J d q_M_endsPlan 47 [some (.ref 66), some (.int (nI m)), z2, z3, z4, z5] [] I Q) : ∀ (n k : Nat) (I : am_I), k + n = m → (∀ o, o ≠ 77 → I o = I0 o) → (∀ i, i < k → I 77 i = I0 76 i) → J d q_M_endsPlan 21 [some (.ref 66), some (.int (nI m)), z2, z3, z4, some (.int (nI k))] [] I Q
  | 0, k, I, hn, hI, hL => by
    refine am_vcl hJ [21, 47] 200 ?_
    refine br_t (by show nI m ≤ nI k; exact nI_le (by omega) (by omega)) ?_
    exact h I hI (fun i hi => hL i (by omega)) _
  | n + 1, k, I, hn, hI, hL => by
    have ih := m_ends_copy hJ hm h n (k + 1)
    have e : I 76 (nI k).toNatClampNeg = I0 76 k := by rw [nI_clamp (by omega), hI 76 (by decide)]
    refine am_vcl hJ [21, 47] 200 ?_
    refine br_f (by show ¬ nI m ≤ nI k; exact nI_ge (by omega) (by omega)) ?_
    refine ⟨vp_in_nI (by omega) (by omega), vp_in_nI (by omega) (by omega), ?_⟩
    have k9 := ih (am_put I 77 k (I0 76 k)) (by omega) (fun o ho => by rw [am_put_o ho]; exact hI o ho) (fun j hj => by
      by_cases z : j = k
      · subst z
        exact put_at
      · rw [put_nk z]
        exact hL j (by omega))
    rw [← nI_1] at k9
    show J d q_M_endsPlan 21 [some (.ref 66), some (.int (nI m)), z2, z3, z4, some (.int (nI k + 1))] [] (am_put I 77 (nI k).toNatClampNeg (I 76 (nI k).toNatClampNeg)) Q
    rw [e, nI_clamp (by omega)]
    exact k9
theorem m_endsPlan (hJ : am_Cl am_meth L xs J) {I : am_I} {m wt w told : Nat} {v : am_U} {path : Nat → Int32} {S : PS} (hM : MRep I 67 v) (hO : OKu v) (hwt : wt < 64) (hP : PmR I m S) (hS : PSok S) (hm : m ≤ 4) (ht : told ≤ 4) (hpath : ∀ i, i < m → I 76 i = path i) (h : ∀ I' : am_I, (∀ o, o ≠ 66 → o ≠ 77 → I' o = I o) → (∀ j, j < 21 ∨ 24 < j → I' 66 j = I 66 j) → PmR I' m (sp_we wt path w told (fedN v) S) → Q none I') {z5 : Option Value} : J (d + 2) q_M_endsPlan 0 [some (.ref 66), some (.int (nI m)), some (.int (nI w)), some (.int (nI told)), some (.int (nI wt)), z5] [] I Q := by
  obtain ⟨a, b, f, e, g⟩ := S
  obtain ⟨hf, he⟩ := hS
  have hf : f ≤ 5 := hf
  have he : e < 64 := he
  obtain ⟨p1, p2, p3, p4, pf⟩ := id hP
  have p1 : I 66 21 = a := p1
  have cnt : ∀ (I1 : am_I) (a1 b1 : Int32) (g1 : Nat → Int32), (∀ o, o ≠ 66 → o ≠ 77 → I1 o = I o) → (∀ j, j < 21 ∨ 24 < j → I1 66 j = I 66 j) → PmR I1 m (a1, b1, f, e, g1) → sp_we wt path w told (fedN v) (a, b, f, e, g) = (a1, b1 + (if nI w = a1 then 1 else 0), if sp_fe wt (fedN v) = true ∧ told < f then told else f, e ||| fedN v, g1) → ∀ z5 : Option Value, J (d + 2) q_M_endsPlan 47 [some (.ref 66), some (.int (nI m)), some (.int (nI w)), some (.int (nI told)), some (.int (nI wt)), z5] [] I1 Q := by
    intro I1 a1 b1 g1 f1 f66 P1 eE z5
    rw [eE] at h
    have q1 : I1 66 21 = a1 := P1.1
    have q2 : I1 66 22 = b1 := P1.2.1
    have M1 : MRep I1 67 v := hM.kept (f1 67 (by decide) (by decide))
    have fin : ∀ x : Int32, x = (if nI w = a1 then 1 else 0) → J (d + 2) q_M_endsPlan 69 [some (.ref 66), some (.int (nI m)), some (.int (nI w)), some (.int (nI told)), some (.int (nI wt)), z5] [] (am_put I1 66 22 (I1 66 22 + x)) Q := by
      intro x hx
      rw [q2, hx]
      refine m_ends_tail hJ (a := a1) (b := b1 + (if nI w = a1 then 1 else 0)) (f := f) (e := e) (g := g1) (M1.kept (am_put_o (by decide))) hO rfl hwt ⟨by rw [put_nk (by decide)]; exact q1, put_at, by rw [put_nk (by decide)]; exact P1.2.2.1, by rw [put_nk (by decide)]; exact P1.2.2.2.1, fun i hi => by rw [am_put_o (by decide)]; exact P1.2.2.2.2 i hi⟩ hf he ht (fun I' w1 w2 w3 => ?_)
      exact h I' (fun o o1 o2 => by rw [w1 o o1, am_put_o o1]; exact f1 o o1 o2) (fun j hj => by rw [w2 j hj, put_nk (by omega)]; exact f66 j hj) w3
    refine am_vcc hJ [69] 200 _ _ _ _ _ _ _ ?_
    refine ⟨fun z => ?_, fun z => ?_⟩
    · have z : nI w = I1 66 21 := z
      rw [q1] at z
      exact fin 1 (by rw [if_pos z])
    · have z : ¬ nI w = I1 66 21 := z
      rw [q1] at z
      exact fin 0 (by rw [if_neg z])
  refine am_vcc hJ [21, 47] 200 _ _ _ _ _ _ _ ?_
  refine ⟨fun z => ?_, fun z => ?_⟩
  · have z : nI w ≤ I 66 21 := z
    rw [p1] at z
    refine cnt I a b g (fun _ _ _ => rfl) (fun _ _ => rfl) hP ?_ _
    unfold sp_we
    simp only [if_pos z]
  · have z : ¬ nI w ≤ I 66 21 := z
    rw [p1] at z
    refine m_ends_copy (I0 := am_put (am_put I 66 22 0) 66 21 (nI w)) hJ hm (fun I1 q1 q2 z5 => ?_) m 0 _ (by omega) (fun _ _ => rfl) (fun i hi => by omega)
    refine cnt I1 (nI w) 0 path (fun o o1 o2 => by rw [q1 o o2, am_put_o o1, am_put_o o1]) (fun j hj => by rw [q1 66 (by decide), put_nk (by omega), put_nk (by omega)]) ⟨?_, ?_, ?_, ?_, fun i hi => ?_⟩ ?_ _
    · rw [q1 66 (by decide), put_at]
    · rw [q1 66 (by decide), put_nk (by decide), put_at]
    · rw [q1 66 (by decide), put_nk (by decide), put_nk (by decide)]; exact p3
    · rw [q1 66 (by decide), put_nk (by decide), put_nk (by decide)]; exact p4
    · rw [q2 i hi, am_put_o (by decide), am_put_o (by decide)]
      exact hpath i hi
    · unfold sp_we
      simp only [if_neg z]
end
