section
variable {L : Nat} {xs : Nat → Int32} {J : am_J} {d : Nat} {Q : am_Q}
theorem x_rest_loop (hJ : am_Cl am_meth L xs J) {I : am_I} {c : Nat} {u : am_U} (hc : c ∈ am_cl) (hR : RRep I 8 u) (hC : CRep I c u) (hO : OKu u) (w : Nat) (h : Q (some (.int (nI w))) I) : ∀ (n k : Nat) (z : Option Value), k + n = u 6 → w = sp_rl (sp_s u) n k → J (d + 4) q_Road_restAct 15 [some (.ref 8), some (.ref c), some (.int (nI (sp_snowD u))), some (.int (nI k)), z] [] I Q
  | 0, k, z, hn, hw => by
    have c1 := hO.Cn.1
    have e6 : I 8 2 = nI (u 6) := hR.1.get 8 2 6 (by decide +kernel)
    refine am_vcl hJ [15] 200 ?_
    refine br_t (by show I 8 2 ≤ nI k; rw [e6]; exact nI_le (by omega) (by omega)) ?_
    have e0 : w = 0 := hw
    subst e0
    exact h
  | n + 1, k, z, hn, hw => by
    have c1 := hO.Cn.1
    have c5 := hO.Cn.2.2.2.2.1
    have e6 : I 8 2 = nI (u 6) := hR.1.get 8 2 6 (by decide +kernel)
    have hk : k < 6 := by omega
    have hcl := hc
    obtain ⟨p1, p2, p3, p4, p5, p6⟩ := hO.P hk
    have hst := sp_still_le hO hk
    have hsn := sp_snowD_le hO
    obtain ⟨e0, e1, e2, e3⟩ := hC.day
    have ih := x_rest_loop hJ hc hR hC hO w h n (k + 1)
    have en : I 11 (nI k).toNatClampNeg = nI (u (39 + 6 * k)) := by rw [nI_clamp (by omega), hR.1.get 11 k _ (TR8_p k hk).2.1]
    have g41 : u (41 + 6 * k) ≤ 5 := p4
    have htk : sp_tk (sp_s u) k ↔ sp_snowD u ≤ u (32 + u (41 + 6 * k)) := by
      unfold sp_tk
      rw [sp_s_3, sp_s_n (j := 41 + 6 * k) (by omega), sp_s_n (j := 32 + u (41 + 6 * k)) (by omega)]
    have hcan : sp_can (sp_s u) k ↔ (u (43 + 6 * k) = 0 ∧ sp_snowD u ≤ u (32 + u (41 + 6 * k)) ∧ u (39 + 6 * k) ≤ u 4 + sp_still u k) := by
      unfold sp_can
      rw [htk, sp_still_s, sp_s_n (j := 43 + 6 * k) (by omega), sp_s_n (j := 39 + 6 * k) (by omega), sp_s_n (j := 4) (by omega)]
    rw [sp_rl_succ] at hw
    have next : ¬ sp_can (sp_s u) k → ∀ z', J (d + 4) q_Road_restAct 76 [some (.ref 8), some (.ref c), some (.int (nI (sp_snowD u))), some (.int (nI k)), z'] [] I Q := by
      intro hno z'
      rw [if_neg hno] at hw
      have k9 := ih z' (by omega) hw
      rw [← nI_1] at k9
      refine am_vcc hJ [15] 200 _ _ _ _ _ _ _ ?_
      exact k9
    refine am_vcl hJ [15, 76] 200 ?_
    refine br_f (by show ¬ I 8 2 ≤ nI k; rw [e6]; exact nI_ge (by omega) (by omega)) ?_
    conv => whnf
    rw [am_clG c hc]
    refine x_isFed hJ hc hC.2.2 hO.fed hk (fun q => ?_) (fun q => ?_)
    · refine br_f (by decide) ?_
      refine br_t (by decide) ?_
      exact next (fun z => by rw [hcan] at z; omega) _
    · refine br_t (by decide) ?_
      refine x_takesBy hJ hR.1 hO hk hsn (fun q2 => ?_) (fun q2 => ?_)
      · refine br_f (by decide) ?_
        refine br_f (by decide) ?_
        conv => whnf
        rw [am_clG c hc]
        refine x_strangeStill hJ hc hR.1 hC hO hk ?_
        refine ⟨vp_in_nI (by omega) (by omega), ?_⟩
        refine ⟨fun g => ?_, fun g => ?_⟩
        · have g : I c 2 + nI (sp_still u k) < I 11 (nI k).toNatClampNeg := g
          rw [e2, en, nI_add, nI_ltI (by omega) (by omega)] at g
          exact next (fun z => by rw [hcan] at z; omega) _
        · have g : ¬ I c 2 + nI (sp_still u k) < I 11 (nI k).toNatClampNeg := g
          rw [e2, en, nI_add, nI_ltI (by omega) (by omega)] at g
          rw [if_pos (hcan.mpr ⟨q, q2, by omega⟩)] at hw
          rw [hw, ← nI_1] at h
          exact h
      · refine br_t (by decide) ?_
        refine br_t (by decide) ?_
        exact next (fun z => by rw [hcan] at z; omega) _
theorem x_restAct (hJ : am_Cl am_meth L xs J) {I : am_I} {c : Nat} {u : am_U} (hc : c ∈ am_cl) (hR : RRep I 8 u) (hC : CRep I c u) (hO : OKu u) (h : Q (some (.int (nI (sp_rest u)))) I) {z1 z2 z3 : Option Value} : J (d + 4) q_Road_restAct 0 [some (.ref 8), some (.ref c), z1, z2, z3] [] I Q := by
  obtain ⟨c1, c2, c3, c4, c5, c6, c7⟩ := hO.Cn
  obtain ⟨e0, e1, e2, e3⟩ := hC.day
  have k9 := x_rest_loop (d := d) hJ hc hR hC hO (sp_rest u) h (u 6) 0 z3 (by omega) rfl
  refine am_vcc hJ [15] 200 _ _ _ _ _ _ _ ?_
  conv => whnf
  rw [am_clG c hc]
  conv => whnf
  rw [am_clG c hc]
  conv => whnf
  rw [e0, e1]
  refine x_snowBehind hJ hR.1 hO c2 c4 ?_
  exact k9
/-! THE REFERENCE'S DAY -/
theorem m_feeds (hJ : am_Cl am_meth L xs J) {I : am_I} {k : Nat} {u : am_U} (hM : MRep I 67 u) (hO : OKu u) (hk : k < u 6) (h : ∀ I' : am_I, (∀ o, o ≠ 67 → I' o = I o) → MRep I' 67 (upN (upN u (43 + 6 * k) 1) 4 (u 4 - sp_eats u k)) → Q (some (.int (nI (if u (43 + 6 * k) = 0 then 9 else 0)))) I') {z : Option Value} : J (d + 2) q_M_feeds 0 [some (.ref 66), some (.int (nI k)), z] [] I Q := by
  obtain ⟨c1, c2, c3, c4, c5, c6, c7⟩ := hO.Cn
  have hk6 : k < 6 := by omega
  have e5 : I 67 (38 + 6 * k + 5) = nI (u (43 + 6 * k)) := by rw [hM _ (by omega), show 38 + 6 * k + 5 = 43 + 6 * k by omega]
  have p6 := (hO.P hk6).2.2.2.2.2
  have tail : ∀ w : Int32, (∀ I' : am_I, (∀ o, o ≠ 67 → I' o = I o) → MRep I' 67 (upN (upN u (43 + 6 * k) 1) 4 (u 4 - sp_eats u k)) → Q (some (.int w)) I') → J (d + 2) q_M_feeds 16 [some (.ref 66), some (.int (nI k)), some (.int w)] [] I Q := by
    intro w hw
    have M1 : MRep (am_put I 67 (43 + 6 * k) 1) 67 (upN u (43 + 6 * k) 1) := hM.up rfl
    have O1 : OKu (upN u (43 + 6 * k) 1) := hO.upF hk (by decide)
    have ee : sp_eats (upN u (43 + 6 * k) 1) k = sp_eats u k := by
      unfold sp_eats
      rw [upN_n (by omega)]
    have he := sp_eats_le (u := u) hk6
    have e4 : am_put I 67 (43 + 6 * k) 1 67 4 = nI (u 4) := by rw [put_nk (by omega), hM 4 (by omega)]
    have e9 : am_held (nI (u 4) - nI (sp_eats u k)) 999 = nI (u 4 - sp_eats u k) := by
      rw [show (999 : Int32) = nI 999 from rfl, am_heldS (by omega) (by omega) (by omega), if_pos (by omega)]
    refine am_vc hJ 40 _ _ _ _ _ _ _ ?_
    refine m_puts hJ (a := k) (b := 5) rfl rfl hk6 (by decide) ?_
    rw [show 38 + 6 * k + 5 = 43 + 6 * k by omega]
    refine ⟨am_vin (by decide), ?_⟩
    refine m_eatsOf hJ M1 O1 hk6 ?_
    rw [ee]
    conv => whnf
    show J (d + 1) q_M_held 0 [some (.int (am_put I 67 (43 + 6 * k) 1 67 4 - nI (sp_eats u k))), some (.int 999)] [] _ _
    rw [e4]
    refine m_held hJ ?_
    rw [e9]
    refine ⟨am_vin (by decide), ?_⟩
    refine hw _ (fun o ho => ?_) ?_
    · show am_put (am_put I 67 (43 + 6 * k) 1) 67 4 _ o = I o
      rw [am_put_o ho, am_put_o ho]
    · exact M1.up rfl
  refine am_vcc hJ [16] 200 _ _ _ _ _ _ _ ?_
  refine m_get hJ (a := k) (b := 5) rfl rfl hk6 (by decide) ?_
  refine ⟨fun g => ?_, fun g => ?_⟩
  · have g : I 67 (38 + 6 * k + 5) = nI 0 := g
    rw [e5, nI_eq (by omega) (by omega)] at g
    rw [if_pos g] at h
    exact tail 9 h
  · have g : ¬ I 67 (38 + 6 * k + 5) = nI 0 := g
    rw [e5, nI_eq (by omega) (by omega)] at g
    rw [if_neg g] at h
    exact tail 0 h
theorem m_meets (hJ : am_Cl am_meth L xs J) {I : am_I} {k : Nat} {u : am_U} {cd : Nat → Int32} (hM : MRep I 67 u) (hRu : RuR cd u) (hO : OKu u) (hk : k < u 6) (h : ∀ I' : am_I, (∀ o, o ≠ 67 → o ≠ 70 → I' o = I o) → MRep I' 67 (sp_meetU u k) → Q (some (.int (nI (sp_meetW u k)))) I') {z1 z2 : Option Value} : J (d + 5) q_M_meets 0 [some (.ref 66), some (.int (nI k)), z1, z2] [] I Q := by
  obtain ⟨c1, c2, c3, c4, c5, c6, c7⟩ := hO.Cn
  have hk6 : k < 6 := by omega
  obtain ⟨p1, p2, p3, p4, p5, p6⟩ := hO.P hk6
  have hst := sp_still_le hO hk6
  have wl := sp_will_le hO k
  have hmt := sp_mt_le (u := u) (k := k)
  have hlf := sp_lf_le (u := u) (k := k)
  refine am_vc hJ 80 _ _ _ _ _ _ _ ?_
  refine m_willOf hJ hM hRu hO hk6 (fun I1 h1 => ?_)
  have M1 : MRep I1 67 u := by
    unfold MRep
    rw [h1 67 (by decide)]
    exact hM
  conv => whnf
  refine m_stillOf hJ M1 hO hk6 ?_
  obtain ⟨w, hw⟩ : ∃ w, sp_will u k = w := ⟨_, rfl⟩
  unfold sp_meetU sp_meetW at h
  rw [hw] at wl h ⊢
  have e4 : I1 67 (38 + 6 * k + 4) = nI (u (42 + 6 * k)) := by rw [M1 _ (by omega), show 38 + 6 * k + 4 = 42 + 6 * k by omega]
  have em : am_held (nI (u (42 + 6 * k)) + 1) 9 = nI (sp_mt u k) := by
    rw [nI_1, show (9 : Int32) = nI 9 from rfl, am_heldN (by omega) (by omega)]
    congr 1
    unfold sp_mt
    split <;> split <;> omega
  have M2 : MRep (am_put I1 67 (42 + 6 * k) (nI (sp_mt u k))) 67 (upN u (42 + 6 * k) (sp_mt u k)) := M1.up rfl
  have O2 : OKu (upN u (42 + 6 * k) (sp_mt u k)) := hO.upM hk hmt
  rcases (show w = 0 ∨ w = 1 ∨ w = 2 by omega) with rfl | rfl | rfl
  · refine br_f (by decide) ?_
    refine m_get hJ (a := k) (b := 4) rfl rfl hk6 (by decide) ?_
    conv => whnf
    rw [e4]
    refine m_held hJ ?_
    rw [em]
    refine m_puts hJ (a := k) (b := 4) rfl rfl hk6 (by decide) ?_
    rw [show 38 + 6 * k + 4 = 42 + 6 * k by omega]
    refine br_f (by decide) ?_
    refine ⟨am_vin (by decide), ?_⟩
    have l4 : am_put I1 67 (42 + 6 * k) (nI (sp_mt u k)) 67 4 = nI (u 4) := by rw [put_nk (by omega), M1 4 (by omega)]
    conv => whnf
    show J (d + 4) q_M_held 0 [some (.int (am_put I1 67 (42 + 6 * k) (nI (sp_mt u k)) 67 4 + nI (sp_still u k))), some (.int 999)] [] _ _
    rw [l4]
    refine m_held hJ ?_
    have el : am_held (nI (u 4) + nI (sp_still u k)) 999 = nI (sp_lf u k) := by
      rw [nI_add, show (999 : Int32) = nI 999 from rfl, am_heldN (by omega) (by omega)]
      congr 1
      unfold sp_lf
      split <;> split <;> omega
    rw [el]
    have M3 : MRep (am_put (am_put I1 67 (42 + 6 * k) (nI (sp_mt u k))) 67 4 (nI (sp_lf u k))) 67 (upN (upN u (42 + 6 * k) (sp_mt u k)) 4 (sp_lf u k)) := M2.up rfl
    have O3 : OKu (upN (upN u (42 + 6 * k) (sp_mt u k)) 4 (sp_lf u k)) := O2.up4 hlf
    have f3 : ∀ o, o ≠ 67 → o ≠ 70 → am_put (am_put I1 67 (42 + 6 * k) (nI (sp_mt u k))) 67 4 (nI (sp_lf u k)) o = I o := fun o ho h7 => by rw [am_put_o ho, am_put_o ho]; exact h1 o h7
    refine ⟨am_vin (by decide), ?_⟩
    refine ⟨am_vin (by decide), ?_⟩
    refine m_get hJ (a := k) (b := 1) rfl rfl hk6 (by decide) ?_
    have n1 : am_put (am_put I1 67 (42 + 6 * k) (nI (sp_mt u k))) 67 4 (nI (sp_lf u k)) 67 (38 + 6 * k + 1) = nI (u (39 + 6 * k)) := by rw [M3 _ (by omega), upN_n (by omega), upN_n (by omega), show 38 + 6 * k + 1 = 39 + 6 * k by omega]
    have n4 : am_put (am_put I1 67 (42 + 6 * k) (nI (sp_mt u k))) 67 4 (nI (sp_lf u k)) 67 4 = nI (sp_lf u k) := put_at
    rw [if_neg (by decide), if_neg (by decide), if_neg (by decide), if_neg (by decide)] at h
    unfold sp_brk sp_brkW at h
    refine ⟨fun g => ?_, fun g => ?_⟩
    · have g : am_put (am_put I1 67 (42 + 6 * k) (nI (sp_mt u k))) 67 4 (nI (sp_lf u k)) 67 4 < am_put (am_put I1 67 (42 + 6 * k) (nI (sp_mt u k))) 67 4 (nI (sp_lf u k)) 67 (38 + 6 * k + 1) := g
      rw [n1, n4, nI_ltI (by omega) (by omega)] at g
      rw [if_neg (by omega), if_neg (by omega)] at h
      refine h _ f3 ?_
      rw [upN_comm (by omega)]
      exact M3
    · have g : ¬ am_put (am_put I1 67 (42 + 6 * k) (nI (sp_mt u k))) 67 4 (nI (sp_lf u k)) 67 4 < am_put (am_put I1 67 (42 + 6 * k) (nI (sp_mt u k))) 67 4 (nI (sp_lf u k)) 67 (38 + 6 * k + 1) := g
      rw [n1, n4, nI_ltI (by omega) (by omega)] at g
      rw [if_pos (by omega), if_pos (by omega)] at h
      refine m_feeds hJ M3 O3 (by rw [upN_n (by omega), upN_n (by omega)]; exact hk) (fun I4 h4 M4 => ?_)
      have ee : sp_eats (upN (upN u (42 + 6 * k) (sp_mt u k)) 4 (sp_lf u k)) k = sp_eats u k := by
        unfold sp_eats
        rw [upN_n (by omega), upN_n (by omega)]
      rw [ee, upN_s] at M4
      have e43 : upN (upN u (42 + 6 * k) (sp_mt u k)) 4 (sp_lf u k) (43 + 6 * k) = u (43 + 6 * k) := by rw [upN_n (by omega), upN_n (by omega)]
      rw [e43]
      have ew : nI (sp_still u k) + nI (if u (43 + 6 * k) = 0 then 9 else 0) = nI (if u (43 + 6 * k) = 0 then sp_still u k + 9 else sp_still u k) := by
        rw [nI_add]
        congr 1
        split <;> omega
      show Q (some (.int (nI (sp_still u k) + nI (if u (43 + 6 * k) = 0 then 9 else 0)))) I4
      rw [ew]
      refine h I4 (fun o ho h7 => by rw [h4 o ho]; exact f3 o ho h7) ?_
      rw [upN_comm (i := 4) (j := 42 + 6 * k) (by omega), upN_comm (i := 43 + 6 * k) (j := 42 + 6 * k) (by omega), upN_comm (i := 4) (j := 42 + 6 * k) (by omega)]
      exact M4
  · refine br_f (by decide) ?_
    refine m_get hJ (a := k) (b := 4) rfl rfl hk6 (by decide) ?_
    conv => whnf
    rw [e4]
    refine m_held hJ ?_
    rw [em]
    refine m_puts hJ (a := k) (b := 4) rfl rfl hk6 (by decide) ?_
    rw [show 38 + 6 * k + 4 = 42 + 6 * k by omega]
    refine br_t (by decide) ?_
    rw [if_neg (by decide), if_pos rfl, if_neg (by decide), if_pos rfl] at h
    exact h _ (fun o ho h7 => by rw [am_put_o ho]; exact h1 o h7) M2
  · refine br_t (by decide) ?_
    rw [if_pos rfl, if_pos rfl] at h
    exact h I1 (fun o _ h7 => h1 o h7) M1
theorem m_rest_loop (hJ : am_Cl am_meth L xs J) {I : am_I} {u : am_U} (hM : MRep I 67 u) (hO : OKu u) (w : Nat) (h : Q (some (.int (nI w - 1))) I) : ∀ (n k : Nat), k + n = u 6 → w = sp_rl u n k → J (d + 2) q_M_restOne 2 [some (.ref 66), some (.int (nI k))] [] I Q
  | 0, k, hn, hw => by
    have c1 := hO.Cn.1
    have e6 : I 67 6 = nI (u 6) := hM 6 (by omega)
    refine am_vcl hJ [2] 200 ?_
    refine ⟨am_vin (by decide), ?_⟩
    refine br_t (by show I 67 6 ≤ nI k; rw [e6]; exact nI_le (by omega) (by omega)) ?_
    have e0 : w = 0 := hw
    subst e0
    exact h
  | n + 1, k, hn, hw => by
    have c1 := hO.Cn.1
    have c5 := hO.Cn.2.2.2.2.1
    have e6 : I 67 6 = nI (u 6) := hM 6 (by omega)
    have hk : k < 6 := by omega
    obtain ⟨p1, p2, p3, p4, p5, p6⟩ := hO.P hk
    have hst := sp_still_le hO hk
    have ih := m_rest_loop hJ hM hO w h n (k + 1)
    rw [sp_rl_succ] at hw
    have f5 : I 67 (38 + 6 * k + 5) = nI (u (43 + 6 * k)) := by rw [hM _ (by omega), show 38 + 6 * k + 5 = 43 + 6 * k by omega]
    have f1 : I 67 (38 + 6 * k + 1) = nI (u (39 + 6 * k)) := by rw [hM _ (by omega), show 38 + 6 * k + 1 = 39 + 6 * k by omega]
    have f4 : I 67 4 = nI (u 4) := hM 4 (by omega)
    have next : ¬ sp_can u k → J (d + 2) q_M_restOne 53 [some (.ref 66), some (.int (nI k))] [] I Q := by
      intro hno
      rw [if_neg hno] at hw
      have k9 := ih (by omega) hw
      rw [← nI_1] at k9
      refine am_vcc hJ [2] 200 _ _ _ _ _ _ _ ?_
      exact k9
    refine am_vcl hJ [2, 53] 200 ?_
    refine ⟨am_vin (by decide), ?_⟩
    refine br_f (by show ¬ I 67 6 ≤ nI k; rw [e6]; exact nI_ge (by omega) (by omega)) ?_
    refine m_get hJ (a := k) (b := 5) rfl rfl hk (by decide) ?_
    refine ⟨fun g => ?_, fun g => ?_⟩
    · have g : I 67 (38 + 6 * k + 5) = nI 0 := g
      rw [f5, nI_eq (by omega) (by omega)] at g
      refine m_isTaken hJ hM hO hk (fun q2 => ?_) (fun q2 => ?_)
      · refine br_f (by decide) ?_
        refine ⟨am_vin (by decide), ?_⟩
        refine m_stillOf hJ hM hO hk ?_
        refine m_get hJ (a := k) (b := 1) rfl rfl hk (by decide) ?_
        refine ⟨fun g3 => ?_, fun g3 => ?_⟩
        · have g3 : I 67 4 + nI (sp_still u k) < I 67 (38 + 6 * k + 1) := g3
          rw [f1, f4, nI_add, nI_ltI (by omega) (by omega)] at g3
          exact next (fun z => by have := z.2.2; omega)
        · have g3 : ¬ I 67 4 + nI (sp_still u k) < I 67 (38 + 6 * k + 1) := g3
          rw [f1, f4, nI_add, nI_ltI (by omega) (by omega)] at g3
          rw [if_pos ⟨g, q2, by omega⟩] at hw
          rw [hw, nI_pred] at h
          exact h
      · refine br_t (by decide) ?_
        exact next (fun z => q2 z.2.1)
    · have g : ¬ I 67 (38 + 6 * k + 5) = nI 0 := g
      rw [f5, nI_eq (by omega) (by omega)] at g
      exact next (fun z => g z.1)
theorem m_restOne (hJ : am_Cl am_meth L xs J) {I : am_I} {u : am_U} (hM : MRep I 67 u) (hO : OKu u) (h : Q (some (.int (nI (sp_rl u (u 6) 0) - 1))) I) {z : Option Value} : J (d + 2) q_M_restOne 0 [some (.ref 66), z] [] I Q := by
  have k9 := m_rest_loop (d := d) hJ hM hO _ h (u 6) 0 (by omega) rfl
  refine am_vcc hJ [2] 200 _ _ _ _ _ _ _ ?_
  exact k9
/-- from the choice on -/
theorem m_goes_mid (hJ : am_Cl am_meth L xs J) {I : am_I} {act : Nat} {u : am_U} {cd : Nat → Int32} (hM : MRep I 67 (sp_s u)) (hRu : RuR cd u) (hO : OKu u) (ha : act ≤ u 6) (h : ∀ I' : am_I, (∀ o, o ≠ 67 → o ≠ 70 → I' o = I o) → MRep I' 67 (sp_goU u act) → Q (some (.int (nI (sp_goW u act)))) I') {z1 z2 z3 : Option Value} : J (d + 6) q_M_goesBy 63 [some (.ref 66), z1, z2, z3] [.int (nI act - 1)] I Q := by
  have OS := sp_s_ok hO
  have c1 := hO.Cn.1
  have OV := sp_goV_ok hO ha
  have tail : ∀ I1 : am_I, (∀ o, o ≠ 67 → o ≠ 70 → I1 o = I o) → MRep I1 67 (sp_goV u act) → ∀ y1 y2 y3 : Option Value, J (d + 6) q_M_goesBy 85 [some (.ref 66), y1, y2, y3] [.int (nI (sp_goW u act))] I1 Q := by
    intro I1 q1 q2 y1 y2 y3
    obtain ⟨v1, v2, v3, v4, v5, v6, v7⟩ := OV.Cn
    obtain ⟨w, hw⟩ : ∃ w, w = sp_goW u act := ⟨_, rfl⟩
    unfold sp_goU at h
    rw [← hw] at h ⊢
    generalize sp_goV u act = v at *
    have e4 : I1 67 4 = nI (v 4) := q2 4 (by omega)
    have e3 : I1 67 3 = nI (v 3) := q2 3 (by omega)
    have ed : I1 67 4 - 1 - I1 67 3 / 3 = nI (v 4) - nI (1 + v 3 / 3) := by
      rw [e4, e3, nI_d3 _ (by omega), ← nI_add]
      exact am_subsub _ _ _
    have eh : am_held (I1 67 4 - 1 - I1 67 3 / 3) 999 = nI (v 4 - 1 - v 3 / 3) := by
      rw [ed, show (999 : Int32) = nI 999 from rfl, am_heldS (by omega) (by omega) (by omega), if_pos (by omega)]
      congr 1
      omega
    have M1 : MRep (am_put I1 67 4 (nI (v 4 - 1 - v 3 / 3))) 67 (upN v 4 (v 4 - 1 - v 3 / 3)) := q2.up rfl
    have d0 : am_put I1 67 4 (nI (v 4 - 1 - v 3 / 3)) 67 0 + 1 = nI (v 0 + 1) := by rw [put_nk (by decide), q2 0 (by omega)]; exact nI_1 _
    have M2 : MRep (am_put (am_put I1 67 4 (nI (v 4 - 1 - v 3 / 3))) 67 0 (nI (v 0 + 1))) 67 (upN (upN v 4 (v 4 - 1 - v 3 / 3)) 0 (v 0 + 1)) := M1.up rfl
    have d2 : am_put (am_put I1 67 4 (nI (v 4 - 1 - v 3 / 3))) 67 0 (nI (v 0 + 1)) 67 2 + nI w = nI (v 2 + w) := by rw [put_nk (by decide), put_nk (by decide), q2 2 (by omega)]; exact nI_add _ _
    have M3 : MRep (am_put (am_put (am_put I1 67 4 (nI (v 4 - 1 - v 3 / 3))) 67 0 (nI (v 0 + 1))) 67 2 (nI (v 2 + w))) 67 (sp_fin v w) := M2.up rfl
    refine am_vc hJ 60 _ _ _ _ _ _ _ ?_
    refine ⟨am_vin (by decide), ?_⟩
    refine ⟨am_vin (by decide), ?_⟩
    refine ⟨by decide, ?_⟩
    refine m_held hJ ?_
    conv => whnf
    show vp_in 4 322 ∧ _
    refine ⟨am_vin (by decide), ?_⟩
    refine ⟨am_vin (by decide), ?_⟩
    refine ⟨am_vin (by decide), ?_⟩
    refine ⟨am_vin (by decide), ?_⟩
    refine ⟨am_vin (by decide), ?_⟩
    show Q (some (.int (nI w))) (am_put (am_put (am_put I1 67 4 (am_held (I1 67 4 - 1 - I1 67 3 / 3) 999)) 67 0 (am_put I1 67 4 (am_held (I1 67 4 - 1 - I1 67 3 / 3) 999) 67 0 + 1)) 67 2 (am_put (am_put I1 67 4 (am_held (I1 67 4 - 1 - I1 67 3 / 3) 999)) 67 0 (am_put I1 67 4 (am_held (I1 67 4 - 1 - I1 67 3 / 3) 999) 67 0 + 1) 67 2 + nI w))
    rw [eh, d0, d2]
    exact h _ (fun o ho h7 => by rw [am_put_o ho, am_put_o ho, am_put_o ho]; exact q1 o ho h7) M3
  refine am_vcc hJ [85] 200 _ _ _ _ _ _ _ ?_
  cases act with
  | zero =>
    have eV : sp_goV u 0 = sp_s u := if_neg (fun q => q.1 rfl)
    have eW : sp_goW u 0 = 0 := if_neg (fun q => q.1 rfl)
    rw [eV, eW] at tail
    refine br_t (by decide) ?_
    exact tail I (fun _ _ _ => rfl) hM _ _ _
  | succ k =>
    have hk : k < 6 := by omega
    have ek : nI (k + 1) - 1 = nI k := nI_pred k
    rw [ek]
    refine br_f (nI_pos (by omega)) ?_
    refine m_isTaken hJ hM OS hk (fun q => ?_) (fun q => ?_)
    · have hcond : k + 1 ≠ 0 ∧ sp_tk (sp_s u) (k + 1 - 1) := ⟨by omega, q⟩
      have eV : sp_goV u (k + 1) = sp_meetU (sp_s u) k := if_pos hcond
      have eW : sp_goW u (k + 1) = sp_meetW (sp_s u) k := if_pos hcond
      rw [eV, eW] at tail
      refine br_f (by decide) ?_
      refine m_meets hJ hM (hRu.keptu (sp_s_n (by decide)) (fun j hj => sp_s_n (by omega))) OS (by rw [sp_s_n (by decide)]; omega) (fun I1 q1 q2 => ?_)
      exact tail I1 q1 q2 _ _ _
    · have hcond : ¬ (k + 1 ≠ 0 ∧ sp_tk (sp_s u) (k + 1 - 1)) := fun z => q z.2
      have eV : sp_goV u (k + 1) = sp_s u := if_neg hcond
      have eW : sp_goW u (k + 1) = 0 := if_neg hcond
      rw [eV, eW] at tail
      refine br_t (by decide) ?_
      exact tail I (fun _ _ _ => rfl) hM _ _ _
theorem m_goes_start (hJ : am_Cl am_meth L xs J) {I : am_I} {a : Int32} {u : am_U} (hM : MRep I 67 u) (hO : OKu u) (h : ∀ I' : am_I, (∀ o, o ≠ 67 → I' o = I o) → MRep I' 67 (sp_s u) → J (d + 6) q_M_goesBy 49 [some (.ref 66), some (.int a), none, none] [] I' Q) : J (d + 6) q_M_goesBy 0 [some (.ref 66), some (.int a), none, none] [] I Q := by
  obtain ⟨c1, c2, c3, c4, c5, c6, c7⟩ := hO.Cn
  have e0 : I 67 0 = nI (u 0) := hM 0 (by omega)
  have e3 : I 67 3 = nI (u 3) := hM 3 (by omega)
  have M1 : MRep (am_put I 67 3 (nI (sp_snowD u))) 67 (sp_s u) := hM.up rfl
  have k9 := h _ (fun o ho => am_put_o ho) M1
  refine am_vcc hJ [49] 200 _ _ _ _ _ _ _ ?_
  refine ⟨am_vin (by decide), ?_⟩
  refine ⟨fun g => ?_, fun g => ?_⟩
  · have g : nI 16 ≤ I 67 0 := g
    rw [e0, nI_leI (by omega) (by omega)] at g
    refine ⟨am_vin (by decide), ?_⟩
    refine ⟨am_vin (by decide), ?_⟩
    have es : sp_snowD u = u 3 := if_neg (by omega)
    rw [es, ← e3] at k9
    exact k9
  · have g : ¬ nI 16 ≤ I 67 0 := g
    rw [e0, nI_leI (by omega) (by omega)] at g
    have es : sp_snowD u = sp_snow (u 3) (u (10 + u 0)) := if_pos (by omega)
    have ei : 10 + I 67 0 = nI (10 + u 0) := by rw [e0]; exact nI_add 10 _
    have ew : I 67 (10 + I 67 0).toNatClampNeg = nI (u (10 + u 0)) := by rw [am_clN ei (by omega), hM _ (by omega)]
    refine ⟨am_vin (by decide), ?_⟩
    refine ⟨am_vin (by decide), ?_⟩
    refine ⟨am_vinN ei (by omega) (by omega), ?_⟩
    conv => whnf
    show J (d + 5) q_M_snowBy 0 [some (.int (I 67 3)), some (.int (I 67 (10 + I 67 0).toNatClampNeg)), none, none, none] [] I _
    rw [e3, ew]
    refine m_snowBy hJ c4 (hO.Wt (by omega)) ?_
    rw [← es]
    refine ⟨am_vin (by decide), ?_⟩
    exact k9
theorem m_goesBy (hJ : am_Cl am_meth L xs J) {I : am_I} {act : Nat} {u : am_U} {cd : Nat → Int32} (hM : MRep I 67 u) (hRu : RuR cd u) (hO : OKu u) (ha : act ≤ u 6) (h : ∀ I' : am_I, (∀ o, o ≠ 67 → o ≠ 70 → I' o = I o) → MRep I' 67 (sp_goU u act) → Q (some (.int (nI (sp_goW u act)))) I') : J (d + 6) q_M_goesBy 0 [some (.ref 66), some (.int (nI act)), none, none] [] I Q := by
  have c1 := hO.Cn.1
  refine m_goes_start hJ hM hO (fun I1 q1 M1 => ?_)
  refine am_vcc hJ [63] 200 _ _ _ _ _ _ _ ?_
  refine br_t (nI_pos' (by omega)) ?_
  exact m_goes_mid hJ M1 hRu hO ha (fun I' w1 w2 => h I' (fun o ho h7 => by rw [w1 o ho h7]; exact q1 o ho) w2)
theorem m_goesRest (hJ : am_Cl am_meth L xs J) {I : am_I} {u : am_U} {cd : Nat → Int32} (hM : MRep I 67 u) (hRu : RuR cd u) (hO : OKu u) (h : ∀ I' : am_I, (∀ o, o ≠ 67 → o ≠ 70 → I' o = I o) → MRep I' 67 (sp_goU u (sp_rest u)) → Q (some (.int (nI (sp_goW u (sp_rest u))))) I') : J (d + 6) q_M_goesBy 0 [some (.ref 66), some (.int (-1)), none, none] [] I Q := by
  have c1 := hO.Cn.1
  refine m_goes_start hJ hM hO (fun I1 q1 M1 => ?_)
  refine am_vcc hJ [63] 200 _ _ _ _ _ _ _ ?_
  refine br_f (by decide) ?_
  refine m_restOne hJ M1 (sp_s_ok hO) ?_
  rw [sp_s_n (j := 6) (by decide)]
  exact m_goes_mid hJ M1 hRu hO sp_rest_le (fun I' w1 w2 => h I' (fun o ho h7 => by rw [w1 o ho h7]; exact q1 o ho) w2)
end
