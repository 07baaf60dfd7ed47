/-! BARS, PROVE -/
def sp_lb (t : Nat) : Nat → Nat → Nat
  | 0, k => k
  | n + 1, k => if t / 2 ^ k % 2 = 1 then k else sp_lb t n (k + 1)
theorem sp_lb_succ (t n k : Nat) : sp_lb t (n + 1) k = if t / 2 ^ k % 2 = 1 then k else sp_lb t n (k + 1) := rfl
theorem ntz_x : ∀ t, t < 64 → t ≠ 0 → sp_lb t 6 0 < 6 ∧ (nI t ^^^ (-1)) &&& (nI t - 1) = nI (2 ^ (sp_lb t 6 0) - 1) := by decide +kernel
theorem lb_0 : ∀ n, n < 7 → sp_lb 0 n 0 = n := by decide +kernel
theorem lb_1 : ∀ n, n < 7 → ∀ t, t < 64 → (t = 0 ∨ 2 ^ n ≤ t) ∨ (sp_lb t n 0 < n ∧ sp_lb t n 0 = sp_lb t 6 0) := by decide +kernel
theorem lb_n (n : Nat) (hn : n < 7) (t : Nat) (ht : t < 64) (h2 : t < 2 ^ n) : (t = 0 → sp_lb t n 0 = n) ∧ (t ≠ 0 → sp_lb t n 0 < n ∧ sp_lb t n 0 = sp_lb t 6 0) := by
  refine ⟨fun e => by rw [e]; exact lb_0 n hn, fun e => ?_⟩
  rcases lb_1 n hn t ht with (q | q) | q
  · exact absurd q e
  · omega
  · exact q
theorem lb_bit : ∀ t, t < 64 → ∀ k, k < 6 → ((nI t >>> (nI k &&& 31)) &&& 1 = 0 ↔ ¬ t / 2 ^ k % 2 = 1) := by decide +kernel
theorem and64 : ∀ wt, wt < 64 → ∀ e, e < 64 → nI wt &&& (nI e ^^^ (-1)) = nI (wt &&& (63 - e)) := by decide +kernel
theorem am_qe {Q : am_Q} {I : am_I} {a b : Int32} (e : a = b) (h : Q (some (.int b)) I) : Q (some (.int a)) I := by rw [e]; exact h
section
variable {L : Nat} {xs : Nat → Int32} {J : am_J} {d : Nat} {Q : am_Q}
theorem x_ntz (hJ : am_Cl am_meth L xs J) {I : am_I} {t : Nat} (ht : t < 64) (h0 : t ≠ 0) (h : Q (some (.int (nI (sp_lb t 6 0)))) I) {z : Option Value} : J d q_Integer_numberOfTrailingZeros 0 [some (.int (nI t)), z] [] I Q := by
  obtain ⟨hl, e⟩ := ntz_x t ht h0
  refine am_vcc hJ [8] 200 _ _ _ _ _ _ _ ?_
  show J d q_Integer_numberOfTrailingZeros 8 [some (.int ((nI t ^^^ (-1)) &&& (nI t - 1))), z] [] I Q
  rw [e]
  revert hl h
  generalize sp_lb t 6 0 = c
  intro h hl
  rcases (show c = 0 ∨ c = 1 ∨ c = 2 ∨ c = 3 ∨ c = 4 ∨ c = 5 by omega) with rfl | rfl | rfl | rfl | rfl | rfl
  all_goals
    refine am_vc hJ 60 _ _ _ _ _ _ _ ?_
    repeat (first | refine br_f (by decide) ?_ | refine br_t (by decide) ?_)
    conv => whnf
    exact am_qe (by decide) h
theorem x_leastOf (hJ : am_Cl am_meth L xs J) {I : am_I} {t : Nat} (ht : t < 64) (h : Q (some (.int (if t = 0 then -3 else nI (sp_lb t 6 0)))) I) : J (d + 1) q_X_leastOf 0 [some (.int (nI t))] [] I Q := by
  refine am_vc hJ 20 _ _ _ _ _ _ _ ?_
  by_cases g : t = 0
  · rw [if_pos g] at h
    refine br_t (by show nI t = 0; rw [g]; rfl) ?_
    exact h
  · rw [if_neg g] at h
    refine br_f (by show ¬ nI t = 0; exact nI_ne0 (by omega) (by omega)) ?_
    refine x_ntz hJ ht g ?_
    exact h
theorem m_bars_loop (hJ : am_Cl am_meth L xs J) {I : am_I} {t m : Nat} {z1 z2 : Option Value} (ht : t < 64) (hm : m ≤ 6) (h6 : I 67 6 = nI m) (w : Nat) (h : Q (some (.int (if w < m then nI w else -3))) I) : ∀ (n k : Nat), k + n = m → w = sp_lb t n k → J d q_M_bars 35 [some (.ref 66), z1, z2, some (.int (nI t)), some (.int (nI k))] [] I Q
  | n, k, hn, hw => by
    have fin : ∀ k, k ≤ m → w = k → J d q_M_bars 62 [some (.ref 66), z1, z2, some (.int (nI t)), some (.int (nI k))] [] I Q := by
      intro k hk hwk
      subst hwk
      refine am_vc hJ 20 _ _ _ _ _ _ _ ?_
      refine ⟨am_vin (by decide), ?_⟩
      by_cases g : w < m
      · rw [if_pos g] at h
        refine br_f (by show ¬ I 67 6 ≤ nI w; rw [h6]; exact nI_ge g (by omega)) ?_
        exact h
      · rw [if_neg g] at h
        refine br_t (by show I 67 6 ≤ nI w; rw [h6]; exact nI_le (by omega) (by omega)) ?_
        exact h
    cases n with
    | zero =>
      refine am_vcl hJ [35, 62] 200 ?_
      refine ⟨am_vin (by decide), ?_⟩
      refine br_t (by show I 67 6 ≤ nI k; rw [h6]; exact nI_le (by omega) (by omega)) ?_
      exact fin k (by omega) hw
    | succ n =>
      have ih := m_bars_loop (z1 := z1) (z2 := z2) hJ ht hm h6 w h n (k + 1) (by omega)
      rw [sp_lb_succ] at hw
      refine am_vcl hJ [35, 62] 200 ?_
      refine ⟨am_vin (by decide), ?_⟩
      refine br_f (by show ¬ I 67 6 ≤ nI k; rw [h6]; exact nI_ge (by omega) (by omega)) ?_
      by_cases g : t / 2 ^ k % 2 = 1
      · rw [if_pos g] at hw
        refine br_f (fun z => (lb_bit t ht k (by omega)).mp z g) ?_
        exact fin k (by omega) hw
      · rw [if_neg g] at hw
        refine br_t ((lb_bit t ht k (by omega)).mpr g) ?_
        have k9 := ih hw
        rw [← nI_1] at k9
        exact k9
theorem op_bars (hJ : am_Cl am_meth L xs J) (a b : Int32) : am_same Inv J q_X_bars q_M_bars [.int a, .int b] := by
  intro I hI Qc hQc
  obtain ⟨u, uk, hMn, hK, hRs⟩ := id hI
  obtain ⟨hM, hR, hC, hO⟩ := id hMn
  obtain ⟨c1, c2, c3, c4, c5, c6, c7⟩ := hO.Cn
  have x6 : I 8 2 = nI (u 6) := hMn.get (j := 6) (by decide +kernel)
  have m6 : I 67 6 = nI (u 6) := hM 6 (by decide)
  by_cases h1 : (0 : Int32) ≤ a ∧ a ≤ 4
  · obtain ⟨n, hn, rfl⟩ := am_rng (N := 4) rfl (by decide) h1
    have hle := sp_m_le (u := u) (n := n)
    refine am_vc hJ 40 _ _ _ _ _ _ _ ?_
    refine x_withinY hJ h1 ?_
    refine br_f (by decide) ?_
    refine x_isSet hJ x6 c1 (fun g => ?_) (fun g => ?_)
    · obtain ⟨wt, hwt, rfl⟩ := id g
      have hp : 2 ^ u 6 ≤ 64 := Nat.pow_le_pow_right (by decide) c1
      have hok := sp_T_ok (wt := wt) hO (by omega : sp_m u n ≤ 4) (by omega)
      have he64 : (sp_T u wt (sp_m u n)).2.2.2.1 < 64 := hok.2
      have ean := and64 wt (by omega) _ he64
      have hle2 : wt &&& (63 - (sp_T u wt (sp_m u n)).2.2.2.1) ≤ wt := Nat.and_le_left
      refine br_f (by decide) ?_
      refine x_tryPlans hJ hR hC hO hn (wt := wt) (fun I1 q1 P1 => ?_)
      have M1 := hM.kept (q1 67 (by decide) (by decide))
      have p9 : I1 43 9 = nI (sp_T u wt (sp_m u n)).2.2.2.1 := P1.2.2.2.2.2.1
      conv => whnf
      dsimp only
      rw [p9, ean]
      refine x_leastOf hJ (by omega) ?_
      refine ⟨_, rfl, ?_⟩
      refine am_vcc hJ [35] 200 _ _ _ _ _ _ _ ?_
      refine m_isPlanY hJ h1 ?_
      refine br_f (by decide) ?_
      refine m_isSet hJ (M1 6 (by decide)) c1 (fun _ => ?_) (fun z => absurd g z)
      refine br_f (by decide) ?_
      refine m_triesAll hJ M1 hR.2 hO hn (wt := wt) (by omega) (fun I2 q2 q3 M2 P2 => ?_)
      have p4 : I2 66 24 = nI (sp_T u wt (sp_m u n)).2.2.2.1 := P2.2.2.2.1
      conv => whnf
      dsimp only
      rw [p4, ean]
      refine m_bars_loop hJ (by omega) c1 (M2 6 (by decide)) _ ?_ (u 6) 0 (Nat.zero_add _) rfl
      refine ⟨?_, hQc _ (Inv.plans2 hMn hK hRs q1 q2 q3 M2)⟩
      obtain ⟨l0, l1⟩ := lb_n (u 6) (by omega) (wt &&& (63 - (sp_T u wt (sp_m u n)).2.2.2.1)) (by omega) (by omega)
      by_cases gt : wt &&& (63 - (sp_T u wt (sp_m u n)).2.2.2.1) = 0
      · rw [if_pos gt, l0 gt, if_neg (by omega)]
      · rw [if_neg gt, if_pos (l1 gt).1, (l1 gt).2]
    · refine br_t (by decide) ?_
      refine ⟨_, rfl, ?_⟩
      refine am_vc hJ 40 _ _ _ _ _ _ _ ?_
      refine m_isPlanY hJ h1 ?_
      refine br_f (by decide) ?_
      refine m_isSet hJ m6 c1 (fun z => absurd z g) (fun _ => ?_)
      refine br_t (by decide) ?_
      exact ⟨rfl, hQc _ hI⟩
  · repeat (
      (try conv => whnf)
      first
        | refine ⟨am_vin (by decide), ?_⟩
        | refine ⟨(by assumption : vp_in _ _), ?_⟩
        | refine br_f (by decide) ?_
        | refine br_t (by decide) ?_
        | refine br_t (by assumption) ?_
        | refine br_f (by assumption) ?_
        | refine x_withinY hJ (by assumption) ?_
        | refine x_withinN hJ (by assumption) ?_
        | refine m_in1Y hJ (by assumption) ?_
        | refine m_in1N hJ (by assumption) ?_
        | refine m_isGateY hJ (by assumption) ?_
        | refine m_isGateN hJ (by assumption) ?_
        | refine m_isDigitY hJ (by assumption) ?_
        | refine m_isDigitN hJ (by assumption) ?_
        | refine m_isNeedY hJ (by assumption) ?_
        | refine m_isNeedN hJ (by assumption) ?_
        | refine m_isPlanY hJ (by assumption) ?_
        | refine m_isPlanN hJ (by assumption) ?_
        | refine m_isSheetY hJ (by assumption) ?_
        | refine m_isSheetN hJ (by assumption) ?_
        | refine x_isSheetY hJ (by assumption) ?_
        | refine x_isSheetN hJ (by assumption) ?_
        | refine x_isShelfY hJ (by assumption) ?_
        | refine x_isShelfN hJ (by assumption) ?_
        | refine x_hasY hJ (by assumption) (by assumption) (by assumption) ?_
        | refine x_hasN hJ (by assumption) (by assumption) (by assumption) ?_
        | refine m_isPersonY hJ (by assumption) (by assumption) (by assumption) ?_
        | refine m_isPersonN hJ (by assumption) (by assumption) (by assumption) ?_
        | refine am_vc hJ 120 40 _ _ _ _ _ _ ?_
        | refine ⟨_, rfl, ?_⟩)
    exact ⟨rfl, hQc _ hI⟩
end
def sp_pU (u : am_U) (A : Nat → Nat) : Nat → am_U
  | 0 => u
  | n + 1 => sp_goU (sp_pU u A n) (A n)
theorem sp_pU_ok {u : am_U} {A : Nat → Nat} {m : Nat} (h : OKu u) (hm : m ≤ u 1 - u 0) (hA : ∀ i, i < m → A i ≤ u 6) : ∀ n, n ≤ m → OKu (sp_pU u A n) ∧ SameR u (sp_pU u A n) ∧ sp_pU u A n 0 = u 0 + n
  | 0, _ => ⟨h, SameR.refl u, rfl⟩
  | n + 1, hn => by
    obtain ⟨a, b, c⟩ := sp_pU_ok h hm hA n (by omega)
    have e1 : sp_pU u A n 1 = u 1 := b 1 (by decide)
    have e6 : sp_pU u A n 6 = u 6 := b 6 (by decide)
    have ha : A n ≤ sp_pU u A n 6 := by rw [e6]; exact hA n (by omega)
    refine ⟨sp_goU_ok a ha (by omega), b.trans (sp_goU_same a ha), ?_⟩
    show sp_goU (sp_pU u A n) (A n) 0 = _
    rw [(sp_goU_0 a ha).1, c]
    omega
def RwR (I : am_I) (o : Nat) (u : am_U) (A : Nat → Nat) (r : Nat) : Prop := ∀ i, i < r → I o (3 * i) = nI (A i) ∧ I o (3 * i + 1) = nI (sp_goW (sp_pU u A i) (A i)) ∧ I o (3 * i + 2) = nI (fedN (sp_pU u A (i + 1)))
theorem RwR.step {I I' : am_I} {o : Nat} {u : am_U} {A : Nat → Nat} {r : Nat} (h : RwR I o u A r) (hk : ∀ j, j < 3 * r → I' o j = I o j) (h0 : I' o (3 * r) = nI (A r)) (h1 : I' o (3 * r + 1) = nI (sp_goW (sp_pU u A r) (A r))) (h2 : I' o (3 * r + 2) = nI (fedN (sp_pU u A (r + 1)))) : RwR I' o u A (r + 1) := by
  intro i hi
  by_cases g : i = r
  · subst g
    exact ⟨h0, h1, h2⟩
  · rw [hk _ (by omega), hk _ (by omega), hk _ (by omega)]
    exact h i (by omega)
theorem RwR.eq {I : am_I} {u : am_U} {A : Nat → Nat} {r : Nat} (h : RwR I 53 u A r) (g : RwR I 80 u A r) : ∀ j, j < 3 * r → I 53 j = I 80 j := by
  intro j hj
  obtain ⟨a, b, c⟩ := h (j / 3) (by omega)
  obtain ⟨a', b', c'⟩ := g (j / 3) (by omega)
  rcases (show j = 3 * (j / 3) ∨ j = 3 * (j / 3) + 1 ∨ j = 3 * (j / 3) + 2 by omega) with e | e | e
  · rw [e, a, a']
  · rw [e, b, b']
  · rw [e, c, c']
section
variable {L : Nat} {xs : Nat → Int32} {J : am_J} {d : Nat} {Q : am_Q}
theorem x_prove_loop (hJ : am_Cl am_meth L xs J) {I0 : am_I} {u : am_U} {m : Nat} {A : Nat → Nat} (hO : OKu u) (hm : m ≤ 4) (hmd : m ≤ u 1 - u 0) (hA : ∀ i, i < m → A i ≤ u 6) (hF : ∀ i, i < m → I0 46 i = nI (A i)) (h7 : I0 0 7 = nI m) (h : ∀ I : am_I, (∀ o, o ≠ 52 → o ≠ 18 → o ≠ 53 → I o = I0 o) → RwR I 53 u A m → Q (some (.int (nI m))) I) {z1 : Option Value} : ∀ (n r : Nat) (I : am_I), r + n = m → (∀ o, o ≠ 52 → o ≠ 18 → o ≠ 53 → I o = I0 o) → RwR I 53 u A r → RRep I 8 (sp_pU u A r) → CRep I 52 (sp_pU u A r) → J (d + 5) q_X_prove 38 [some (.ref 0), z1, some (.int (nI r))] [] I Q
  | 0, r, I, hn, hI, hw, hR, hC => by
    have e7 : I 0 7 = nI m := by rw [hI 0 (by decide) (by decide) (by decide)]; exact h7
    have er : r = m := by omega
    subst er
    refine am_vcl hJ [38] 200 ?_
    refine br_t (by show I 0 7 ≤ nI r; rw [e7]; exact nI_le (by omega) (by omega)) ?_
    show Q (some (.int (I 0 7))) I
    rw [e7]
    exact h I hI hw
  | n + 1, r, I, hn, hI, hw, hR, hC => by
    have e7 : I 0 7 = nI m := by rw [hI 0 (by decide) (by decide) (by decide)]; exact h7
    have e46 : I 46 r = nI (A r) := by rw [hI 46 (by decide) (by decide) (by decide)]; exact hF r (by omega)
    obtain ⟨ok, sm, d0⟩ := sp_pU_ok hO hmd hA r (by omega)
    have e6 : sp_pU u A r 6 = u 6 := sm 6 (by decide)
    have i0 : 3 * nI r + 0 = nI (3 * r) := am_rix (a := r) (b := 0)
    have i1 : 3 * nI r + 1 = nI (3 * r + 1) := am_rix (a := r) (b := 1)
    have i2 : 3 * nI r + 2 = nI (3 * r + 2) := am_rix (a := r) (b := 2)
    refine am_vcl hJ [38] 200 ?_
    refine br_f (by show ¬ I 0 7 ≤ nI r; rw [e7]; exact nI_ge (by omega) (by omega)) ?_
    refine x_placeInRow hJ ?_
    refine ⟨vp_in_nI (by omega) (by omega), am_vinN i0 (by omega) (by omega), ?_⟩
    rw [am_clN i0 (by omega), nI_clamp (n := r) (by omega), e46]
    refine x_placeInRow hJ ?_
    refine ⟨vp_in_nI (by omega) (by omega), ?_⟩
    rw [nI_clamp (n := r) (by omega), am_put_o (o' := 46) (by decide), e46]
    have R1 : RRep (am_put I 53 (3 * r) (nI (A r))) 8 (sp_pU u A r) := hR.kept (fun o ho _ => am_put_o (by rintro rfl; revert ho; decide))
    have C1 : CRep (am_put I 53 (3 * r) (nI (A r))) 52 (sp_pU u A r) := hC.kept (am_put_o (by decide))
    refine x_goBy hJ (by decide) R1 C1 ok (by rw [e6]; exact hA r (by omega)) (fun I2 q2 R2 C2 => ?_)
    refine ⟨am_vinN i1 (by omega) (by omega), ?_⟩
    refine x_placeInRow hJ ?_
    refine ⟨am_vinN i2 (by omega) (by omega), ?_⟩
    have e5 : I2 52 5 = nI (fedN (sp_pU u A (r + 1))) := C2.2.2
    show J (d + 5) q_X_prove 38 [some (.ref 0), z1, some (.int (nI r + 1))] [] (am_put (am_put I2 53 (3 * nI r + 1).toNatClampNeg (nI (sp_goW (sp_pU u A r) (A r)))) 53 (3 * nI r + 2).toNatClampNeg (am_put I2 53 (3 * nI r + 1).toNatClampNeg (nI (sp_goW (sp_pU u A r) (A r))) 52 5)) Q
    rw [am_clN i1 (by omega), am_clN i2 (by omega), am_put_o (o' := 52) (by decide), e5, nI_1]
    refine x_prove_loop hJ hO hm hmd hA hF h7 h n (r + 1) _ (by omega) (fun o o1 o2 o3 => by rw [am_put_o o3, am_put_o o3, q2 o o1 o2, am_put_o o3]; exact hI o o1 o2 o3) (hw.step (fun j hj => ?_) ?_ ?_ ?_) ?_ ?_
    · rw [put_nk (by omega), put_nk (by omega), q2 53 (by decide) (by decide), put_nk (by omega)]
    · rw [put_nk (by omega), put_nk (by omega), q2 53 (by decide) (by decide), put_at]
    · rw [put_nk (by omega), put_at]
    · rw [put_at]
    · exact R2.kept (fun o ho _ => by
        have : o ≠ 53 := by rintro rfl; revert ho; decide
        rw [am_put_o this, am_put_o this])
    · exact C2.kept (by rw [am_put_o (by decide), am_put_o (by decide)])
theorem m_prove_loop (hJ : am_Cl am_meth L xs J) {I0 : am_I} {u : am_U} {cd : Nat → Int32} {m : Nat} {A : Nat → Nat} (hRu : RuR cd u) (hO : OKu u) (hm : m ≤ 4) (hmd : m ≤ u 1 - u 0) (hA : ∀ i, i < m → A i ≤ u 6) (hF : ∀ i, i < m → I0 77 i = nI (A i)) (h7 : I0 66 29 = nI m) (hL : LaidR I0 u) (h : ∀ I : am_I, (∀ o, o ≠ 67 → o ≠ 70 → o ≠ 80 → I o = I0 o) → RwR I 80 u A m → MRep I 67 u → Q (some (.int (nI m))) I) {z1 : Option Value} : ∀ (n r : Nat) (I : am_I), r + n = m → (∀ o, o ≠ 67 → o ≠ 70 → o ≠ 80 → I o = I0 o) → RwR I 80 u A r → MRep I 67 (sp_pU u A r) → J (d + 7) q_M_prove 30 [some (.ref 66), z1, some (.int (nI r))] [] I Q
  | 0, r, I, hn, hI, hw, hM => by
    have e7 : I 66 29 = nI m := by rw [hI 66 (by decide) (by decide) (by decide)]; exact h7
    have er : r = m := by omega
    subst er
    refine am_vcl hJ [30] 200 ?_
    refine br_t (by show I 66 29 ≤ nI r; rw [e7]; exact nI_le (by omega) (by omega)) ?_
    refine m_layBack hJ hM (hL.kept (hI 69 (by decide) (by decide) (by decide))) (sp_pU_ok hO hmd hA r (by omega)).2.1.hi (fun I4 q4 M4 => ?_)
    show Q (some (.int (I4 66 29))) I4
    rw [q4 66 (by decide), e7]
    exact h I4 (fun o o1 o2 o3 => by rw [q4 o o1]; exact hI o o1 o2 o3) (fun i hi => by rw [q4 80 (by decide)]; exact hw i hi) M4
  | n + 1, r, I, hn, hI, hw, hM => by
    have e7 : I 66 29 = nI m := by rw [hI 66 (by decide) (by decide) (by decide)]; exact h7
    have e77 : I 77 r = nI (A r) := by rw [hI 77 (by decide) (by decide) (by decide)]; exact hF r (by omega)
    obtain ⟨ok, sm, d0⟩ := sp_pU_ok hO hmd hA r (by omega)
    have e6 : sp_pU u A r 6 = u 6 := sm 6 (by decide)
    have hAr : A r ≤ sp_pU u A r 6 := by rw [e6]; exact hA r (by omega)
    obtain ⟨ok1, -, -⟩ := sp_pU_ok hO hmd hA (r + 1) (by omega)
    have i0 : 3 * nI r = nI (3 * r) := pk_mul 3 r
    have i1 : 3 * nI r + 1 = nI (3 * r + 1) := am_rix (a := r) (b := 1)
    have i2 : 3 * nI r + 2 = nI (3 * r + 2) := am_rix (a := r) (b := 2)
    refine am_vcl hJ [30] 200 ?_
    refine br_f (by show ¬ I 66 29 ≤ nI r; rw [e7]; exact nI_ge (by omega) (by omega)) ?_
    refine ⟨vp_in_nI (by omega) (by omega), am_vinN i0 (by omega) (by omega), vp_in_nI (by omega) (by omega), ?_⟩
    have M1 : MRep (am_put I 80 (3 * r) (nI (A r))) 67 (sp_pU u A r) := hM.kept (am_put_o (by decide))
    have k8 : ∀ Q' : am_Q, (∀ I2 : am_I, (∀ o, o ≠ 67 → o ≠ 70 → I2 o = am_put I 80 (3 * r) (nI (A r)) o) → MRep I2 67 (sp_pU u A (r + 1)) → Q' (some (.int (nI (sp_goW (sp_pU u A r) (A r))))) I2) → J (d + 6) q_M_goesBy 0 [some (.ref 66), some (.int (am_put I 80 (3 * nI r).toNatClampNeg (I 77 (nI r).toNatClampNeg) 77 (nI r).toNatClampNeg)), none, none] [] (am_put I 80 (3 * nI r).toNatClampNeg (I 77 (nI r).toNatClampNeg)) Q' := by
      intro Q' hQ'
      rw [am_clN i0 (by omega), nI_clamp (n := r) (by omega), am_put_o (o' := 77) (by decide), e77]
      exact m_goesBy hJ M1 (hRu.same sm) ok hAr hQ'
    refine k8 _ (fun I2 q2 M2 => ?_)
    refine ⟨am_vinN i1 (by omega) (by omega), ?_⟩
    have M3 : MRep (am_put I2 80 (3 * nI r + 1).toNatClampNeg (nI (sp_goW (sp_pU u A r) (A r)))) 67 (sp_pU u A (r + 1)) := M2.kept (am_put_o (by decide))
    refine m_thoseFed hJ M3 ok1 ?_
    refine ⟨am_vinN i2 (by omega) (by omega), ?_⟩
    show J (d + 7) q_M_prove 30 [some (.ref 66), z1, some (.int (nI r + 1))] [] (am_put (am_put I2 80 (3 * nI r + 1).toNatClampNeg (nI (sp_goW (sp_pU u A r) (A r)))) 80 (3 * nI r + 2).toNatClampNeg (nI (fedN (sp_pU u A (r + 1))))) Q
    rw [am_clN i1 (by omega), am_clN i2 (by omega), nI_1]
    refine m_prove_loop hJ hRu hO hm hmd hA hF h7 hL h n (r + 1) _ (by omega) (fun o o1 o2 o3 => by rw [am_put_o o3, am_put_o o3, q2 o o1 o2, am_put_o o3]; exact hI o o1 o2 o3) (hw.step (fun j hj => ?_) ?_ ?_ ?_) ?_
    · rw [put_nk (by omega), put_nk (by omega), q2 80 (by decide) (by decide), put_nk (by omega)]
    · rw [put_nk (by omega), put_nk (by omega), q2 80 (by decide) (by decide), put_at]
    · rw [put_nk (by omega), put_at]
    · rw [put_at]
    · exact M2.kept (by rw [am_put_o (by decide), am_put_o (by decide)])
theorem Inv.proved {I I2 : am_I} {u uk : am_U} (hMn : Main I 8 9 67 u) (hK : KeptR I uk) (hRs : Rest I) (hS : ∀ o ∈ am_ac, o ≠ 66 → o ≠ 67 → o ≠ 0 → o ≠ 53 → o ≠ 80 → I2 o = I o) (h0 : I2 0 2 = I 0 2) (h66 : ∀ j ∈ [3, 6, 36], I2 66 j = I 66 j) (M2 : MRep I2 67 u) (hRw : RowsR I2) : Inv I2 := by
  obtain ⟨hM, hR, hC, hO⟩ := hMn
  obtain ⟨h1, h2, h3, h4, h5, h6⟩ := hRs
  have a1 : ∀ t ∈ TR 8, t.1 ∈ am_ac ∧ t.1 ≠ 66 ∧ t.1 ≠ 67 ∧ t.1 ≠ 0 ∧ t.1 ≠ 53 ∧ t.1 ≠ 80 := by decide +kernel
  have a2 : ∀ o ∈ am_kd, o ∈ am_ac ∧ o ≠ 66 ∧ o ≠ 67 ∧ o ≠ 0 ∧ o ≠ 53 ∧ o ≠ 80 := by decide
  have a3 : ∀ o ∈ [54, 55, 57, 58, 59, 60, 81, 82, 83], o ∈ am_ac ∧ o ≠ 66 ∧ o ≠ 67 ∧ o ≠ 0 ∧ o ≠ 53 ∧ o ≠ 80 := by decide
  have a4 : ∀ o ∈ [61, 62, 63, 84, 85], o ∈ am_ac ∧ o ≠ 66 ∧ o ≠ 67 ∧ o ≠ 0 ∧ o ≠ 53 ∧ o ≠ 80 := by decide
  have k : ∀ o, (o ∈ am_ac ∧ o ≠ 66 ∧ o ≠ 67 ∧ o ≠ 0 ∧ o ≠ 53 ∧ o ≠ 80) → I2 o = I o := fun o q => hS o q.1 q.2.1 q.2.2.1 q.2.2.2.1 q.2.2.2.2.1 q.2.2.2.2.2
  refine ⟨u, uk, ⟨M2, ⟨hR.1.kept (fun t ht => k _ (a1 t ht)), ?_⟩, hC.kept (k 9 (by decide)), hO⟩, ?_, ?_, hRw, ?_, ?_, ?_, ?_⟩
  · show RuR (I2 17) u
    rw [k 17 (by decide)]
    exact hR.2
  · exact hK.kept2 h0 (h66 3 (by decide)) (fun o ho => k o (a2 o ho))
  · exact h1.kept (by rw [k 38 (by decide)]) (h66 6 (by decide)) (k 71 (by decide)) (k 39 (by decide))
  · exact h3.kept (fun o ho => k o (a3 o ho))
  · exact h4.kept (fun o ho => k o (a4 o ho))
  · exact h5.kept (by rw [k 64 (by decide)]) (h66 36 (by decide)) (k 65 (by decide)) (k 86 (by decide))
  · exact h6.kept (k 72 (by decide))
theorem am_ac_pv : ∀ o ∈ am_ac, o ≠ 66 → o ≠ 67 → o ≠ 0 → o ≠ 53 → o ≠ 80 → o ≠ 18 ∧ o ≠ 52 ∧ (o < 43 ∨ 51 < o) ∧ o ≠ 69 ∧ o ≠ 70 ∧ o ≠ 75 ∧ o ≠ 76 ∧ o ≠ 77 := by decide
theorem op_prove (hJ : am_Cl am_meth L xs J) (a : Int32) : am_same Inv J q_X_prove q_M_prove [.int a] := by
  intro I hI Qc hQc
  obtain ⟨u, uk, hMn, hK, hRs⟩ := id hI
  obtain ⟨hM, hR, hC, hO⟩ := id hMn
  by_cases h1 : (0 : Int32) ≤ a ∧ a ≤ 4
  · obtain ⟨n, hn, rfl⟩ := am_rng (N := 4) rfl (by decide) h1
    have hle := sp_m_le (u := u) (n := n)
    have cO := hO.Cn
    have hfi := sp_T_first (wt := 0) hO (by omega : sp_m u n ≤ 4) (by omega)
    have hA : ∀ i, i < sp_m u n → sp_z ((sp_T u 0 (sp_m u n)).2.2.2.2 i) ≤ u 6 := by
      intro i hi
      obtain ⟨x, hx, ex⟩ := hfi i hi
      rw [ex]
      unfold sp_z
      rw [pk_tn (by omega)]
      exact hx
    refine am_vcc hJ [38] 200 _ _ _ _ _ _ _ ?_
    refine x_withinY hJ h1 ?_
    refine br_f (by decide) ?_
    refine x_tryPlans hJ hR hC hO hn (wt := 0) (fun I1 q1 P1 => ?_)
    have R1 : RRep I1 8 u := hR.kept (fun o ho _ => q1 o (by rintro rfl; revert ho; decide) (by
      have : ∀ o ∈ am_mc, o < 43 ∨ 51 < o := by decide
      exact this o ho))
    have C1 : CRep I1 9 u := hC.kept (q1 9 (by decide) (by decide))
    refine x_startAhead hJ R1 C1 hO (fun I2 q2 R2 C2 => ?_)
    have p4 : I2 43 4 = nI (sp_m u n) := by rw [q2 43 (by decide)]; exact P1.2.1
    show J 40 q_X_prove 38 [some (.ref 0), some (.int (nI n)), some (.int 0)] [] (am_put I2 0 7 (I2 43 4)) _
    rw [p4]
    refine x_prove_loop (d := 35) (I0 := am_put I2 0 7 (nI (sp_m u n))) (u := u) (m := sp_m u n) (A := fun i => sp_z ((sp_T u 0 (sp_m u n)).2.2.2.2 i)) hJ hO (by omega) hle.2 hA (fun i hi => ?_) put_at (fun I3 q3 w3 => ?_) (sp_m u n) 0 _ (Nat.zero_add _) (fun _ _ _ _ => rfl) (fun i hi => by omega) ?_ ?_
    · rw [am_put_o (by decide), q2 46 (by decide), P1.2.2.2.2.2.2 i hi, sp_z_eq]
    · refine ⟨_, rfl, ?_⟩
      have f3 : ∀ o, o ≠ 52 → o ≠ 18 → o ≠ 53 → o ≠ 0 → (o < 43 ∨ 51 < o) → I3 o = I o := fun o o1 o2 o3 o4 o5 => by rw [q3 o o1 o2 o3, am_put_o o4, q2 o o1, q1 o o2 o5]
      have M3 : MRep I3 67 u := hM.kept (f3 67 (by decide) (by decide) (by decide) (by decide) (by decide))
      refine am_vcc hJ [30] 200 _ _ _ _ _ _ _ ?_
      refine m_isPlanY hJ h1 ?_
      refine br_f (by decide) ?_
      refine m_triesAll hJ M3 hR.2 hO hn (wt := 0) (by decide) (fun I4 q4 q5 M4 P4 => ?_)
      refine m_daysOf hJ M4 hO (by omega) ?_
      have M5 : MRep (am_put I4 66 29 (nI (sp_m u n))) 67 u := M4.kept (am_put_o (by decide))
      refine m_layDown hJ M5 (fun I6 q6 L6 => ?_)
      refine m_prove_loop (d := 33) (I0 := I6) (u := u) (cd := I 17) (m := sp_m u n) (A := fun i => sp_z ((sp_T u 0 (sp_m u n)).2.2.2.2 i)) hJ hR.2 hO (by omega) hle.2 hA (fun i hi => ?_) ?_ L6 (fun I7 q7 w7 M7 => ?_) (sp_m u n) 0 _ (Nat.zero_add _) (fun _ _ _ _ => rfl) (fun i hi => by omega) (M5.kept (q6 67 (by decide)))
      · rw [q6 77 (by decide), am_put_o (by decide), P4.2.2.2.2 i hi, sp_z_eq]
      · rw [q6 66 (by decide), put_at]
      · have f7 : ∀ o, o ≠ 67 → o ≠ 70 → o ≠ 80 → o ≠ 69 → o ≠ 66 → o ≠ 75 → o ≠ 76 → o ≠ 77 → I7 o = I3 o := fun o o1 o2 o3 o4 o5 o6 o7 o8 => by rw [q7 o o1 o2 o3, q6 o o4, am_put_o o5, q4 o o5 o1 o2 o6 o7 o8]
        refine ⟨rfl, hQc _ (Inv.proved hMn hK hRs (fun o ho h6 h7 h0 h53 h80 => ?_) ?_ (fun j hj => ?_) M7 ⟨sp_m u n, by omega, ?_, ?_, ?_⟩)⟩
        · obtain ⟨a1, a2, a3, a4, a5, a6, a7, a8⟩ := am_ac_pv o ho h6 h7 h0 h53 h80
          rw [f7 o h7 a5 h80 a4 h6 a6 a7 a8, f3 o a2 a1 h53 h0 a3]
        · rw [f7 0 (by decide) (by decide) (by decide) (by decide) (by decide) (by decide) (by decide) (by decide), q3 0 (by decide) (by decide) (by decide), put_nk (by decide), q2 0 (by decide), q1 0 (by decide) (by decide)]
        · have : ∀ j ∈ [3, 6, 36], j ≠ 29 ∧ (j < 21 ∨ 24 < j) := by decide
          rw [q7 66 (by decide) (by decide) (by decide), q6 66 (by decide), put_nk (this j hj).1, q5 j (this j hj).2, f3 66 (by decide) (by decide) (by decide) (by decide) (by decide)]
        · rw [f7 0 (by decide) (by decide) (by decide) (by decide) (by decide) (by decide) (by decide) (by decide), q3 0 (by decide) (by decide) (by decide), put_at]
        · rw [q7 66 (by decide) (by decide) (by decide), q6 66 (by decide), put_at]
        · refine RwR.eq (u := u) (A := fun i => sp_z ((sp_T u 0 (sp_m u n)).2.2.2.2 i)) (fun i hi => ?_) w7
          rw [f7 53 (by decide) (by decide) (by decide) (by decide) (by decide) (by decide) (by decide) (by decide)]
          exact w3 i hi
    · exact R2.kept (fun o ho _ => am_put_o (by rintro rfl; revert ho; decide))
    · exact C2.kept (am_put_o (by decide))
  · repeat (
      (try conv => whnf)
      first
        | refine ⟨am_vin (by decide), ?_⟩
        | refine ⟨(by assumption : vp_in _ _), ?_⟩
        | refine br_f (by decide) ?_
        | refine br_t (by decide) ?_
        | refine br_t (by assumption) ?_
        | refine br_f (by assumption) ?_
        | refine x_withinY hJ (by assumption) ?_
        | refine x_withinN hJ (by assumption) ?_
        | refine m_in1Y hJ (by assumption) ?_
        | refine m_in1N hJ (by assumption) ?_
        | refine m_isGateY hJ (by assumption) ?_
        | refine m_isGateN hJ (by assumption) ?_
        | refine m_isDigitY hJ (by assumption) ?_
        | refine m_isDigitN hJ (by assumption) ?_
        | refine m_isNeedY hJ (by assumption) ?_
        | refine m_isNeedN hJ (by assumption) ?_
        | refine m_isPlanY hJ (by assumption) ?_
        | refine m_isPlanN hJ (by assumption) ?_
        | refine m_isSheetY hJ (by assumption) ?_
        | refine m_isSheetN hJ (by assumption) ?_
        | refine x_isSheetY hJ (by assumption) ?_
        | refine x_isSheetN hJ (by assumption) ?_
        | refine x_isShelfY hJ (by assumption) ?_
        | refine x_isShelfN hJ (by assumption) ?_
        | refine x_hasY hJ (by assumption) (by assumption) (by assumption) ?_
        | refine x_hasN hJ (by assumption) (by assumption) (by assumption) ?_
        | refine m_isPersonY hJ (by assumption) (by assumption) (by assumption) ?_
        | refine m_isPersonN hJ (by assumption) (by assumption) (by assumption) ?_
        | refine am_vc hJ 120 40 _ _ _ _ _ _ ?_
        | refine ⟨_, rfl, ?_⟩)
    exact ⟨rfl, hQc _ hI⟩
end
