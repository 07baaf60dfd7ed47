/-! A DAY IN THE CLASS -/
theorem CRep.up {I : am_I} {c f j n : Nat} {u : am_U} (h : CRep I c u) (hf : (f = 0 ∧ j = 0) ∨ (f = 1 ∧ j = 3) ∨ (f = 2 ∧ j = 4) ∨ (f = 3 ∧ j = 2)) : CRep (am_put I c f (nI n)) c (upN u j n) := by
  obtain ⟨h1, h2, h3⟩ := h
  have e4 : am_put I c f (nI n) c 4 = I c 4 := put_nk (by omega)
  have e5 : am_put I c f (nI n) c 5 = I c 5 := put_nk (by omega)
  have fr : am_free j = true := by rcases hf with ⟨-, rfl⟩ | ⟨-, rfl⟩ | ⟨-, rfl⟩ | ⟨-, rfl⟩ <;> decide
  refine ⟨?_, ?_, ?_⟩
  · refine h1.put c f j rfl (fun t ht => ?_)
    simp only [TC, List.mem_cons, List.not_mem_nil, or_false] at ht
    rcases ht with rfl | rfl | rfl | rfl
    all_goals
      simp only [true_and]
      omega
  · rw [e4]
    exact h2.up fr
  · rw [e5, fedN.up fr]
    exact h3
theorem CRep.upMet {I : am_I} {c k v : Nat} {x : Int32} {u : am_U} (h : CRep I c u) (hk : k < 6) (hx : MetR x (upN u (42 + 6 * k) v)) : CRep (am_put I c 4 x) c (upN u (42 + 6 * k) v) := by
  obtain ⟨h1, h2, h3⟩ := h
  refine ⟨?_, ?_, ?_⟩
  · refine Rel.offu (Rel.off h1 c 4 (fun t ht => ?_)) _ (fun t ht => ?_)
    all_goals
      simp only [TC, List.mem_cons, List.not_mem_nil, or_false] at ht
      rcases ht with rfl | rfl | rfl | rfl
      all_goals
        simp only [true_and]
        omega
  · rw [put_at]
    exact hx
  · rw [put_nk (by decide), fedN_upM hk]
    exact h3
theorem CRep.upFed {I : am_I} {c k v : Nat} {u : am_U} (h : CRep I c u) : CRep (am_put I c 5 (nI (fedN (upN u (43 + 6 * k) v)))) c (upN u (43 + 6 * k) v) := by
  obtain ⟨h1, h2, h3⟩ := h
  refine ⟨?_, ?_, ?_⟩
  · refine Rel.offu (Rel.off h1 c 5 (fun t ht => ?_)) _ (fun t ht => ?_)
    all_goals
      simp only [TC, List.mem_cons, List.not_mem_nil, or_false] at ht
      rcases ht with rfl | rfl | rfl | rfl
      all_goals
        simp only [true_and]
        omega
  · rw [put_nk (by decide)]
    exact h2.upF
  · rw [put_at]
theorem sp_lf_mn {u : am_U} {k : Nat} (h : OKu u) (hk : k < 6) : am_mn 999 (nI (u 4) + nI (sp_still u k)) = nI (sp_lf u k) := by
  have h1 := sp_still_le h hk
  have h2 := h.Cn
  rw [nI_add, show (999 : Int32) = nI 999 from rfl, am_mnN (by omega) (by omega)]
  congr 1
  unfold sp_lf
  split <;> split <;> omega
section
variable {L : Nat} {xs : Nat → Int32} {J : am_J} {d : Nat} {Q : am_Q}
theorem x_eats (hJ : am_Cl am_meth L xs J) {I : am_I} {k kd : Nat} {u : am_U} (hkd : u (38 + 6 * k) = kd) (h5 : kd ≤ 5) (h : Q (some (.int (nI (sp_eats u k)))) I) : (kd = 0 → J (d + 2) q_Person_eats 0 [some (.ref 2), some (.int (nI k))] [] I Q) ∧ (kd = 1 → J (d + 2) q_Tramp_eats 0 [some (.ref 3), some (.int (nI k))] [] I Q) ∧ (kd = 2 → J (d + 2) q_Pilgrim_eats 0 [some (.ref 4), some (.int (nI k))] [] I Q) ∧ (kd = 3 → J (d + 2) q_Bishop_eats 0 [some (.ref 5), some (.int (nI k))] [] I Q) ∧ (kd = 4 → J (d + 2) q_Friend_eats 0 [some (.ref 6), some (.int (nI k))] [] I Q) ∧ (kd = 5 → J (d + 2) q_Twin_eats 0 [some (.ref 7), some (.int (nI k))] [] I Q) := by
  unfold sp_eats at h
  rw [hkd] at h
  refine ⟨fun e => ?_, fun e => ?_, fun e => ?_, fun e => ?_, fun e => ?_, fun e => ?_⟩
  all_goals subst e
  · exact x_Person_eats hJ h
  · refine x_Tramp_eats hJ ?_
    rw [show (3 : Int32) = nI 3 from rfl, nI_add]
    exact h
  · exact x_Pilgrim_eats hJ (Or.inl rfl) h
  · exact x_Bishop_eats hJ h
  · exact x_Friend_eats hJ (Or.inl rfl) h
  · exact x_Twin_eats hJ h
theorem x_breakWith (hJ : am_Cl am_meth L xs J) {I : am_I} {c k : Nat} {u : am_U} (hc : c ∈ am_cl) (hR : Rel (TR 8) I u) (hC : CRep I c u) (hO : OKu u) (hk : k < 6) (h : ∀ I' : am_I, (∀ o, o ≠ c → I' o = I o) → CRep I' c (sp_brk u k) → Q (some (.int (nI (sp_brkW u k)))) I') {z : Option Value} : J (d + 3) q_Road_breakWith 0 [some (.ref 8), some (.ref c), some (.int (nI k)), some (.int (nI (sp_still u k))), z] [] I Q := by
  obtain ⟨p1, p2, p3, p4, p5, p6⟩ := hO.P hk
  obtain ⟨c1, c2, c3, c4, c5, c6, c7⟩ := hO.Cn
  have hst := sp_still_le hO hk
  have hlf := sp_lf_le (u := u) (k := k)
  have hcl : c ∈ am_cl := hc
  have hcn : c ≠ 11 ∧ c ≠ 10 := by
    have : ∀ c ∈ am_cl, c ≠ 11 ∧ c ≠ 10 := by decide +kernel
    exact this c hc
  have eL : am_mn 999 (I c 2 + nI (sp_still u k)) = nI (sp_lf u k) := by rw [hC.day.2.2.1]; exact sp_lf_mn hO hk
  have C1 : CRep (am_put I c 2 (nI (sp_lf u k))) c (upN u 4 (sp_lf u k)) := hC.up (Or.inr (Or.inr (Or.inl ⟨rfl, rfl⟩)))
  have en : ∀ v, am_put I c 2 v 11 (nI k).toNatClampNeg = nI (u (39 + 6 * k)) := by
    intro v
    rw [am_put_o hcn.1.symm, nI_clamp (by omega), hR.get 11 k _ (TR8_p k hk).2.1]
  have R1 : Rel (TR 8) (am_put I c 2 (nI (sp_lf u k))) (upN u 4 (sp_lf u k)) := by
    refine Rel.offu (hR.kept (fun t ht => am_put_o (fun z => ?_))) 4 (by decide +kernel)
    have : ∀ t ∈ TR 8, t.1 ∉ am_cl := by decide +kernel
    exact this t ht (by rw [z]; exact hc)
  unfold sp_brk sp_brkW at h
  refine am_vcc hJ [43] 200 _ _ _ _ _ _ _ ?_
  conv => whnf
  rw [am_clG c hc]
  conv => whnf
  rw [am_clG c hcl]
  conv => whnf
  rw [am_clG c hcl]
  refine ⟨vp_in_nI (by omega) (by omega), ?_⟩
  rw [eL]
  refine ⟨fun g => ?_, fun g => ?_⟩
  · have g : am_put I c 2 (nI (sp_lf u k)) c 2 < am_put I c 2 (nI (sp_lf u k)) 11 (nI k).toNatClampNeg := g
    rw [en, put_at, nI_ltI (by omega) (by omega)] at g
    rw [if_neg (by omega), if_neg (by omega)] at h
    exact h _ (fun o ho => am_put_o ho) C1
  · have g : ¬ am_put I c 2 (nI (sp_lf u k)) c 2 < am_put I c 2 (nI (sp_lf u k)) 11 (nI k).toNatClampNeg := g
    rw [en, put_at, nI_ltI (by omega) (by omega)] at g
    rw [if_pos (by omega), if_pos (by omega)] at h
    have O1 : ∀ j, j < 6 → upN u 4 (sp_lf u k) (43 + 6 * j) ≤ 1 := fun j hj => by rw [upN_n (by omega)]; exact hO.fed j hj
    have ef : upN u 4 (sp_lf u k) (43 + 6 * k) = u (43 + 6 * k) := upN_n (by omega)
    obtain ⟨w, hw⟩ : ∃ w, w = (if u (43 + 6 * k) = 0 then sp_still u k + 9 else sp_still u k) := ⟨_, rfl⟩
    rw [← hw] at h
    have tail : J (d + 3) q_Road_breakWith 43 [some (.ref 8), some (.ref c), some (.int (nI k)), some (.int (nI (sp_still u k))), some (.int (nI w))] [] (am_put I c 2 (nI (sp_lf u k))) Q := by
      have e2 : am_put (am_put I c 2 (nI (sp_lf u k))) c 5 (nI (fedN (upN (upN u 4 (sp_lf u k)) (43 + 6 * k) 1))) c 2 = nI (sp_lf u k) := by rw [put_nk (by decide), put_at]
      have C2 := C1.upFed (k := k) (v := 1)
      obtain ⟨kd, hkd⟩ : ∃ kd, u (38 + 6 * k) = kd := ⟨_, rfl⟩
      have h5 : kd ≤ 5 := by omega
      have R2 : Rel (TR 8) (am_put (am_put I c 2 (nI (sp_lf u k))) c 5 (nI (fedN (upN (upN u 4 (sp_lf u k)) (43 + 6 * k) 1)))) u := by
        refine hR.kept (fun t ht => ?_)
        have : ∀ t ∈ TR 8, t.1 ∉ am_cl := by decide +kernel
        have hne : t.1 ≠ c := fun z => this t ht (by rw [z]; exact hc)
        rw [am_put_o hne, am_put_o hne]
      have he8 := sp_eats_le (u := u) hk
      have fin : J (d + 3) q_Road_breakWith 64 [some (.ref 8), some (.ref c), some (.int (nI k)), some (.int (nI (sp_still u k))), some (.int (nI w))] [.int (nI (sp_eats u k)), .int (am_put (am_put I c 2 (nI (sp_lf u k))) c 5 (nI (fedN (upN (upN u 4 (sp_lf u k)) (43 + 6 * k) 1))) c 2), .int 0, .ref c] (am_put (am_put I c 2 (nI (sp_lf u k))) c 5 (nI (fedN (upN (upN u 4 (sp_lf u k)) (43 + 6 * k) 1)))) Q := by
        rw [e2]
        refine am_vc hJ 12 _ _ _ _ _ _ _ ?_
        conv => whnf
        rw [am_clG c hc]
        show Q (some (.int (nI w))) (am_put (am_put (am_put I c 2 (nI (sp_lf u k))) c 5 (nI (fedN (upN (upN u 4 (sp_lf u k)) (43 + 6 * k) 1)))) c 2 (am_mx 0 (nI (sp_lf u k) - nI (sp_eats u k))))
        rw [am_mx0 (by omega) (by omega)]
        refine h _ (fun o ho => by rw [am_put_o ho, am_put_o ho, am_put_o ho]) ?_
        exact C2.up (Or.inr (Or.inr (Or.inl ⟨rfl, rfl⟩)))
      obtain ⟨x0, x1, x2, x3, x4, x5⟩ := x_eats (d := d) (I := (am_put (am_put I c 2 (nI (sp_lf u k))) c 5 (nI (fedN (upN (upN u 4 (sp_lf u k)) (43 + 6 * k) 1))))) (Q := fun r I' => J (d + 3) q_Road_breakWith 64 [some (.ref 8), some (.ref c), some (.int (nI k)), some (.int (nI (sp_still u k))), some (.int (nI w))] (r.toList ++ [.int (am_put (am_put I c 2 (nI (sp_lf u k))) c 5 (nI (fedN (upN (upN u 4 (sp_lf u k)) (43 + 6 * k) 1))) c 2), .int 0, .ref c]) I' Q) hJ hkd h5 fin
      refine am_vcc hJ [64] 200 _ _ _ _ _ _ _ ?_
      conv => whnf
      rw [am_clG c hc]
      refine x_setFed hJ hcl C1.2.2 O1 hk (by decide) ?_
      conv => whnf
      rw [am_clG c hc]
      refine x_thingOf hJ R2 hk hkd h5 ?_
      rcases (show kd = 0 ∨ kd = 1 ∨ kd = 2 ∨ kd = 3 ∨ kd = 4 ∨ kd = 5 by omega) with rfl | rfl | rfl | rfl | rfl | rfl
      · exact x0 rfl
      · exact x1 rfl
      · exact x2 rfl
      · exact x3 rfl
      · exact x4 rfl
      · exact x5 rfl
    conv => whnf
    rw [am_clG c hc]
    refine x_isFed hJ hcl C1.2.2 O1 hk (fun q => ?_) (fun q => ?_)
    · rw [ef] at q
      rw [if_neg (by omega)] at hw
      rw [hw] at tail
      refine br_f (by decide) ?_
      exact tail
    · rw [ef] at q
      rw [if_pos q] at hw
      rw [hw, ← nI_add] at tail
      refine br_t (by decide) ?_
      exact tail
theorem x_goBy_tail (hJ : am_Cl am_meth L xs J) {I : am_I} {c w : Nat} {v : am_U} (hc : c ∈ am_cl) (hC : CRep I c v) (hO : OKu v) (h : ∀ I' : am_I, (∀ o, o ≠ c → I' o = I o) → CRep I' c (sp_fin v w) → Q (some (.int (nI w))) I') {z2 z4 z5 z6 : Option Value} : J (d + 4) q_Road_goBy 113 [some (.ref 8), some (.ref c), z2, some (.int (nI w)), z4, z5, z6] [] I Q := by
  obtain ⟨c1, c2, c3, c4, c5, c6, c7⟩ := hO.Cn
  have hcl := hc
  obtain ⟨e0, e1, e2, e3⟩ := hC.day
  have C1 : CRep (am_put I c 2 (nI (v 4 - 1 - v 3 / 3))) c (upN v 4 (v 4 - 1 - v 3 / 3)) := hC.up (Or.inr (Or.inr (Or.inl ⟨rfl, rfl⟩)))
  have C2 : CRep (am_put (am_put I c 2 (nI (v 4 - 1 - v 3 / 3))) c 0 (nI (v 0 + 1))) c (upN (upN v 4 (v 4 - 1 - v 3 / 3)) 0 (v 0 + 1)) := C1.up (Or.inl ⟨rfl, rfl⟩)
  have C3 : CRep (am_put (am_put (am_put I c 2 (nI (v 4 - 1 - v 3 / 3))) c 0 (nI (v 0 + 1))) c 3 (nI (v 2 + w))) c (sp_fin v w) := C2.up (Or.inr (Or.inr (Or.inr ⟨rfl, rfl⟩)))
  have k9 := h _ (fun o ho => by rw [am_put_o ho, am_put_o ho, am_put_o ho]) C3
  have d0 : am_put I c 2 (nI (v 4 - 1 - v 3 / 3)) c 0 + 1 = nI (v 0 + 1) := by rw [put_nk (by decide), e0]; exact nI_1 _
  have d3 : am_put (am_put I c 2 (nI (v 4 - 1 - v 3 / 3))) c 0 (nI (v 0 + 1)) c 3 + nI w = nI (v 2 + w) := by rw [put_nk (by decide), put_nk (by decide), e3]; exact nI_add _ _
  refine am_vc hJ 40 _ _ _ _ _ _ _ ?_
  conv => whnf
  rw [am_clG c hc]
  conv => whnf
  rw [am_clG c hc]
  conv => whnf
  rw [e1, e2]
  refine x_lessByDay hJ (by omega) (by omega) ?_
  conv => whnf
  rw [am_clG c hc]
  conv => whnf
  rw [am_clG c hc]
  conv => whnf
  rw [am_clG c hc]
  conv => whnf
  rw [am_clG c hc]
  conv => whnf
  rw [am_clG c hc]
  show Q (some (.int (nI w))) (am_put (am_put (am_put I c 2 (nI (v 4 - 1 - v 3 / 3))) c 0 (am_put I c 2 (nI (v 4 - 1 - v 3 / 3)) c 0 + 1)) c 3 (am_put (am_put I c 2 (nI (v 4 - 1 - v 3 / 3))) c 0 (am_put I c 2 (nI (v 4 - 1 - v 3 / 3)) c 0 + 1) c 3 + nI w))
  rw [d0, d3]
  exact k9
theorem TR8_cl : ∀ t ∈ TR 8, t.1 ∉ am_cl ∧ t.1 ≠ 18 := by decide +kernel
theorem RRep.offc {I I' : am_I} {c : Nat} {u : am_U} (hc : c ∈ am_cl) (h : RRep I 8 u) (hk : ∀ o, o ≠ c → o ≠ 18 → I' o = I o) : RRep I' 8 u := by
  have t17 : (17 : Nat) ∉ am_cl := by decide
  refine ⟨h.1.kept (fun x hx => hk _ (fun z => (TR8_cl x hx).1 (by rw [z]; exact hc)) (TR8_cl x hx).2), ?_⟩
  show RuR (I' 17) u
  rw [hk 17 (fun z => t17 (by rw [z]; exact hc)) (by decide)]
  exact h.2
theorem x_goBy (hJ : am_Cl am_meth L xs J) {I : am_I} {c act : Nat} {u : am_U} (hc : c ∈ am_cl) (hR : RRep I 8 u) (hC : CRep I c u) (hO : OKu u) (ha : act ≤ u 6) (h : ∀ I' : am_I, (∀ o, o ≠ c → o ≠ 18 → I' o = I o) → RRep I' 8 (sp_goU u act) → CRep I' c (sp_goU u act) → Q (some (.int (nI (sp_goW u act)))) I') {z1 z2 z3 z4 : Option Value} : J (d + 4) q_Road_goBy 0 [some (.ref 8), some (.ref c), some (.int (nI act)), z1, z2, z3, z4] [] I Q := by
  obtain ⟨c1, c2, c3, c4, c5, c6, c7⟩ := hO.Cn
  have hcl := hc
  have hne := am_clN0 c hc
  obtain ⟨e0, e1, e2, e3⟩ := hC.day
  have C1 : CRep (am_put I c 1 (nI (sp_snowD u))) c (sp_s u) := hC.up (Or.inr (Or.inl ⟨rfl, rfl⟩))
  have R1 : RRep (am_put I c 1 (nI (sp_snowD u))) 8 (sp_s u) := (hR.offc hc (fun o ho _ => am_put_o ho)).same sp_s_same
  have OV := sp_goV_ok hO ha
  have OS := sp_s_ok hO
  have hsn := sp_snowD_le hO
  have h' : ∀ I' : am_I, (∀ o, o ≠ c → o ≠ 18 → I' o = I o) → CRep I' c (sp_goU u act) → Q (some (.int (nI (sp_goW u act)))) I' := fun I' q1 q2 => h I' q1 ((hR.offc hc q1).same (sp_goU_same hO ha)) q2
  have tail : ∀ I1 : am_I, (∀ o, o ≠ c → o ≠ 18 → I1 o = I o) → CRep I1 c (sp_goV u act) → ∀ z2 z4 z5 z6 : Option Value, J (d + 4) q_Road_goBy 113 [some (.ref 8), some (.ref c), z2, some (.int (nI (sp_goW u act))), z4, z5, z6] [] I1 Q := by
    intro I1 q1 q2 z2 z4 z5 z6
    refine x_goBy_tail hJ hc q2 OV (fun I' w1 w2 => h' I' (fun o ho h18 => by rw [w1 o ho]; exact q1 o ho h18) w2)
  refine am_vcc hJ [113] 200 _ _ _ _ _ _ _ ?_
  conv => whnf
  rw [am_clG c hc]
  conv => whnf
  rw [am_clG c hc]
  conv => whnf
  rw [e0, e1]
  refine x_snowBehind hJ hR.1 hO c2 c4 ?_
  rw [show (if u 0 < 16 then sp_snow (u 3) (u (10 + u 0)) else u 3) = sp_snowD u from rfl]
  conv => whnf
  rw [am_clG c hc]
  have e6 : am_put I c 1 (nI (sp_snowD u)) 8 2 = nI (u 6) := by rw [R1.1.get 8 2 6 (by decide +kernel), sp_s_n (by decide)]
  cases act with
  | zero =>
    have eV : sp_goV u 0 = sp_s u := if_neg (fun q => q.1 rfl)
    have eW : sp_goW u 0 = 0 := if_neg (fun q => q.1 rfl)
    rw [eV, eW] at tail
    refine x_hasN hJ e6 c1 (fun ⟨j, _, q⟩ => am_neg1 (n := j) (by omega) q.symm) ?_
    refine br_t (by decide) ?_
    exact tail _ (fun o ho _ => am_put_o ho) C1 _ _ _ _
  | succ k =>
    have hk : k < 6 := by omega
    have ek : nI (k + 1) - 1 = nI k := nI_pred k
    refine x_hasY hJ e6 c1 ⟨k, by omega, ek⟩ ?_
    refine br_f (by decide) ?_
    conv => whnf
    rw [am_clG c hc]
    conv => whnf
    rw [put_at]
    show J (d + 3) q_Road_takesBy 0 [some (.ref 8), some (.int (nI (sp_snowD u))), some (.int (nI (k + 1) - 1))] [] _ _
    rw [ek]
    refine x_takesBy hJ R1.1 OS hk hsn (fun q => ?_) (fun q => ?_)
    · have hcond : k + 1 ≠ 0 ∧ sp_tk (sp_s u) (k + 1 - 1) := ⟨by omega, q⟩
      have eV : sp_goV u (k + 1) = sp_meetU (sp_s u) k := if_pos hcond
      have eW : sp_goW u (k + 1) = sp_meetW (sp_s u) k := if_pos hcond
      rw [eV, eW] at tail
      have wl := sp_will_le OS k
      refine br_f (by decide) ?_
      conv => whnf
      show J (d + 3) q_Road_strangeStill 0 [some (.ref 8), some (.ref c), some (.int (nI (k + 1) - 1)), none] [] _ _
      rw [ek]
      refine x_strangeStill hJ hc R1.1 C1 OS hk ?_
      conv => whnf
      show J (d + 3) q_Road_willOf 0 [some (.ref 8), some (.ref c), some (.int (nI (k + 1) - 1)), some (.int (nI (sp_still (sp_s u) k))), none, none, none] [] _ _
      rw [ek]
      refine x_willOf hJ hc R1 C1 OS hk (fun I2 h2 => ?_)
      have C2 : CRep I2 c (sp_s u) := C1.kept (h2 c hne.2.2)
      have R2 : RRep I2 8 (sp_s u) := R1.offc hc (fun o _ ho => h2 o ho)
      have f2 : ∀ o, o ≠ c → o ≠ 18 → I2 o = I o := fun o ho h18 => by rw [h2 o h18, am_put_o ho]
      have hmt : sp_mt (sp_s u) k < 16 := by have := sp_mt_le (u := sp_s u) (k := k); omega
      have em : ∀ n, n ≤ 9 → am_mn 9 (nI n + 1) = nI (if 9 < n + 1 then 9 else n + 1) := by
        intro n hn
        rw [nI_1, show (9 : Int32) = nI 9 from rfl, am_mnN (by omega) (by omega)]
        congr 1
        split <;> split <;> omega
      obtain ⟨w, hw⟩ : ∃ w, sp_will (sp_s u) k = w := ⟨_, rfl⟩
      rw [hw] at wl ⊢
      unfold sp_meetU sp_meetW at tail
      rw [hw] at tail
      rcases (show w = 0 ∨ w = 1 ∨ w = 2 by omega) with rfl | rfl | rfl
      · refine br_t (by decide) ?_
        conv => whnf
        show J (d + 3) q_Road_breakWith 0 [some (.ref 8), some (.ref c), some (.int (nI (k + 1) - 1)), some (.int (nI (sp_still (sp_s u) k))), none] [] _ _
        rw [ek]
        refine x_breakWith hJ hc R2.1 C2 OS hk (fun I3 h3 C3 => ?_)
        refine br_f (by decide) ?_
        refine br_f (by decide) ?_
        conv => whnf
        rw [am_clG c hc]
        conv => whnf
        show J (d + 3) q_Course_metOf 0 [some (.ref c), some (.int (nI (k + 1) - 1))] [] _ _
        rw [ek]
        refine x_metOf hJ hc C3.2.1 hk ?_
        have e42 : sp_brk (sp_s u) k (42 + 6 * k) = sp_s u (42 + 6 * k) := by
          unfold sp_brk
          split
          · rw [upN_n (by omega), upN_n (by omega), upN_n (by omega)]
          · rw [upN_n (by omega)]
        conv => whnf
        rw [am_clG c hc]
        conv => whnf
        show J (d + 3) q_Course_setMet 0 [some (.ref c), some (.int (nI (k + 1) - 1)), some (.int (am_mn 9 (nI (sp_brk (sp_s u) k (42 + 6 * k)) + 1)))] [] _ _
        rw [ek, e42, em _ (OS.P hk).2.2.2.2.1]
        refine x_setMet hJ hc C3.2.1 hk hmt (fun x hx => ?_)
        exact tail _ (fun o ho h18 => by rw [am_put_o ho, h3 o ho]; exact f2 o ho h18) (C3.upMet hk hx) _ _ _ _
      · refine br_f (by decide) ?_
        refine br_t (by decide) ?_
        refine br_f (by decide) ?_
        conv => whnf
        rw [am_clG c hc]
        conv => whnf
        show J (d + 3) q_Course_metOf 0 [some (.ref c), some (.int (nI (k + 1) - 1))] [] _ _
        rw [ek]
        refine x_metOf hJ hc C2.2.1 hk ?_
        conv => whnf
        rw [am_clG c hc]
        conv => whnf
        show J (d + 3) q_Course_setMet 0 [some (.ref c), some (.int (nI (k + 1) - 1)), some (.int (am_mn 9 (nI (sp_s u (42 + 6 * k)) + 1)))] [] _ _
        rw [ek, em _ (OS.P hk).2.2.2.2.1]
        refine x_setMet hJ hc C2.2.1 hk hmt (fun x hx => ?_)
        exact tail _ (fun o ho h18 => by rw [am_put_o ho]; exact f2 o ho h18) (C2.upMet hk hx) _ _ _ _
      · refine br_f (by decide) ?_
        refine br_f (by decide) ?_
        refine br_t (by decide) ?_
        exact tail _ f2 C2 _ _ _ _
    · have hcond : ¬ (k + 1 ≠ 0 ∧ sp_tk (sp_s u) (k + 1 - 1)) := fun z => q z.2
      have eV : sp_goV u (k + 1) = sp_s u := if_neg hcond
      have eW : sp_goW u (k + 1) = 0 := if_neg hcond
      rw [eV, eW] at tail
      refine br_t (by decide) ?_
      exact tail _ (fun o ho _ => am_put_o ho) C1 _ _ _ _
end
