def sp_ga (it : Nat → Int32) (sz i0 : Nat) : Nat → Nat → am_U → Nat → Int32 × am_U
  | 0, _, v, s => (nI s, v)
  | n + 1, j, v, s => if i0 + j < sz then (if sp_z (it (i0 + j)) ≤ v 6 ∧ v 0 < v 1 then sp_ga it sz i0 n (j + 1) (sp_goU v (sp_z (it (i0 + j)))) (s + sp_goW v (sp_z (it (i0 + j)))) else sp_ga it sz i0 n (j + 1) v s) else (-12, v)
theorem sp_ga_succ (it : Nat → Int32) (sz i0 n j : Nat) (v : am_U) (s : Nat) : sp_ga it sz i0 (n + 1) j v s = if i0 + j < sz then (if sp_z (it (i0 + j)) ≤ v 6 ∧ v 0 < v 1 then sp_ga it sz i0 n (j + 1) (sp_goU v (sp_z (it (i0 + j)))) (s + sp_goW v (sp_z (it (i0 + j)))) else sp_ga it sz i0 n (j + 1) v s) else (-12, v) := rfl
def sp_wb (it : Nat → Int32) (sz i0 : Nat) : Nat → Nat → am_U → Nat → Int32
  | 0, _, _, s => nI s
  | n + 1, j, v, s => if i0 + j < sz then (if sp_z (it (i0 + j)) ≤ v 6 ∧ v 0 < v 1 then sp_wb it sz i0 n (j + 1) (sp_goU v (sp_z (it (i0 + j)))) (s + sp_goW v (sp_z (it (i0 + j)))) else -4) else -12
theorem sp_wb_succ (it : Nat → Int32) (sz i0 n j : Nat) (v : am_U) (s : Nat) : sp_wb it sz i0 (n + 1) j v s = if i0 + j < sz then (if sp_z (it (i0 + j)) ≤ v 6 ∧ v 0 < v 1 then sp_wb it sz i0 n (j + 1) (sp_goU v (sp_z (it (i0 + j)))) (s + sp_goW v (sp_z (it (i0 + j)))) else -4) else -12 := rfl
section
variable {L : Nat} {xs : Nat → Int32} {J : am_J} {d : Nat} {Q : am_Q}
theorem m_isItem (hJ : am_Cl am_meth L xs J) {I : am_I} {h j sz : Nat} {i : Int32} (hh : h < 4) (hsz : I 82 h = nI sz) (h40 : sz ≤ 40) (hj : j ≤ 20) (h1 : (∃ x, x + j < sz ∧ i = nI x) → Q (some (.int 1)) I) (h0 : ¬ (∃ x, x + j < sz ∧ i = nI x) → Q (some (.int 0)) I) : J d q_M_isItem 0 [some (.ref 66), some (.int (nI h)), some (.int i), some (.int (nI j))] [] I Q := by
  have es : I 82 (nI h).toNatClampNeg = nI sz := by rw [nI_clamp (by omega)]; exact hsz
  refine am_vc hJ 20 _ _ _ _ _ _ _ ?_
  refine ⟨fun g => ?_, fun g => ?_⟩
  · refine ⟨Or.inl rfl, h0 ?_⟩
    rintro ⟨x, hx, rfl⟩
    exact absurd g (nI_pos (by omega))
  · have g0 : 0 ≤ i := Int32.not_lt.mp g
    refine ⟨vp_in_nI (by omega) (by omega), ?_⟩
    refine ⟨fun g2 => ?_, fun g2 => ?_⟩
    · have g2 : I 82 (nI h).toNatClampNeg - nI j ≤ i := g2
      rw [es] at g2
      refine ⟨Or.inl rfl, h0 ?_⟩
      rintro ⟨x, hx, rfl⟩
      rw [pk_sub (by omega), nI_leI (by omega) (by omega)] at g2
      omega
    · have g2 : ¬ I 82 (nI h).toNatClampNeg - nI j ≤ i := g2
      rw [es] at g2
      refine ⟨Or.inr rfl, h1 ?_⟩
      by_cases hjs : j ≤ sz
      · rw [pk_sub hjs] at g2
        have g3 := Int32.not_le.mp g2
        obtain ⟨x, hx, rfl⟩ := am_rng (N := sz - j) rfl (by omega) ⟨g0, Int32.le_of_lt g3⟩
        rw [nI_ltI (by omega) (by omega)] at g3
        exact ⟨x, by omega, rfl⟩
      · have := pk_sneg (a := sz) (b := j) (by omega) (by omega)
        exact absurd (Int32.lt_of_lt_of_le this g0) (fun z => g2 (Int32.le_of_lt z))
theorem x_ga_loop (hJ : am_Cl am_meth L xs J) {I0 : am_I} {h sz i0 nn : Nat} (hh : h < 4) (hsz : I0 55 h = nI sz) (h40 : sz ≤ 40) (hi0 : i0 < 40) (hnn : nn ≤ 20) (p : Int32 × am_U) (hQ : ∀ I : am_I, (∀ o, o ≠ 9 → o ≠ 18 → I o = I0 o) → RRep I 8 p.2 → CRep I 9 p.2 → OKu p.2 → Q (some (.int p.1)) I) {z4 : Option Value} : ∀ (n j : Nat) (v : am_U) (s : Nat) (I : am_I) (z7 : Option Value), j + n = nn → (∀ o, o ≠ 9 → o ≠ 18 → I o = I0 o) → OKu v → RRep I 8 v → CRep I 9 v → p = sp_ga (I0 (57 + h)) sz i0 n j v s → J (d + 5) q_X_goAll 41 [some (.ref 0), some (.int (nI h)), some (.int (nI i0)), some (.int (nI nn)), z4, some (.int (nI s)), some (.int (nI j)), z7] [] I Q
  | 0, j, v, s, I, z7, hn, hI, hO, hR, hC, hp => by
    refine am_vcl hJ [41] 200 ?_
    refine br_t (by show nI nn ≤ nI j; exact nI_le (by omega) (by omega)) ?_
    have hp : p = (nI s, v) := hp
    subst hp
    exact hQ I hI hR hC hO
  | n + 1, j, v, s, I, z7, hn, hI, hO, hR, hC, hp => by
    have x6 : I 8 2 = nI (v 6) := hR.1.get 8 2 6 (by decide +kernel)
    have cv := hO.Cn
    have e55 : I 55 h = nI sz := by rw [hI 55 (by decide) (by decide)]; exact hsz
    have eij : nI i0 + nI j = nI (i0 + j) := nI_add _ _
    have eit : I (57 + h) = I0 (57 + h) := hI _ (by omega) (by omega)
    rw [sp_ga_succ] at hp
    refine am_vcl hJ [41, 125] 200 ?_
    refine br_f (by show ¬ nI nn ≤ nI j; exact nI_ge (by omega) (by omega)) ?_
    refine x_hasItem hJ hh e55 h40 (fun g => ?_) (fun g => ?_)
    · obtain ⟨x, hx, ex⟩ := g
      have ex : nI i0 + nI j = nI x := ex
      rw [eij, nI_eq (by omega) (by omega)] at ex
      rw [if_pos (by omega)] at hp
      refine br_f (by decide) ?_
      refine ⟨vp_in_nI hh (by omega), ?_⟩
      rw [nI_clamp (n := h) (by omega), am_R56 h hh]
      conv => whnf
      rw [am_G57 h hh]
      refine ⟨am_vinN eij (by omega) (by omega), ?_⟩
      conv => whnf
      show J (d + 4) q_Road_isAct 0 [some (.ref 8), some (.int (I (57 + h) (nI i0 + nI j).toNatClampNeg))] [] I _
      rw [am_clN eij (by omega), eit]
      have k9 := x_ga_loop (z4 := z4) hJ hh hsz h40 hi0 hnn p hQ n (j + 1)
      have skip : ¬ (sp_z (I0 (57 + h) (i0 + j)) ≤ v 6 ∧ v 0 < v 1) → ∀ z, J (d + 5) q_X_goAll 125 [some (.ref 0), some (.int (nI h)), some (.int (nI i0)), some (.int (nI nn)), z4, some (.int (nI s)), some (.int (nI j)), z] [] I Q := by
        intro hno z
        rw [if_neg hno] at hp
        have k8 := k9 v s I z (by omega) hI hO hR hC hp
        rw [← nI_1] at k8
        refine am_vcc hJ [41] 200 _ _ _ _ _ _ _ ?_
        exact k8
      refine x_isAct hJ x6 (by omega) (fun ga => ?_) (fun ga => ?_)
      · refine br_f (by decide) ?_
        refine x_isOver hJ (by decide) hR.1 hC hO (fun q => ?_) (fun q => ?_)
        · refine br_f (by decide) ?_
          exact skip (fun z => by omega) _
        · refine br_t (by decide) ?_
          rw [if_pos ⟨ga, q⟩] at hp
          have eA : I0 (57 + h) (i0 + j) = nI (sp_z (I0 (57 + h) (i0 + j))) := (sp_z_eq _).symm
          conv => whnf
          rw [eA]
          refine x_goBy hJ (by decide) hR hC hO ga (fun I1 q1 R1 C1 => ?_)
          have k8 := fun z => k9 _ _ I1 z (by omega) (fun o h1 h2 => by rw [q1 o h1 h2]; exact hI o h1 h2) (sp_goU_ok hO ga q) R1 C1 hp
          rw [← nI_1, ← nI_add] at k8
          have k7 : ∀ z, J (d + 5) q_X_goAll 125 [some (.ref 0), some (.int (nI h)), some (.int (nI i0)), some (.int (nI nn)), z4, some (.int (nI s + nI (sp_goW v (sp_z (I0 (57 + h) (i0 + j)))))), some (.int (nI j)), z] [] I1 Q := by
            intro z
            refine am_vcc hJ [41] 200 _ _ _ _ _ _ _ ?_
            exact k8 z
          exact k7 _
      · refine br_t (by decide) ?_
        exact skip (fun z => ga z.1) _
    · have hno : ¬ i0 + j < sz := fun z => g ⟨i0 + j, z, eij⟩
      rw [if_neg hno] at hp
      refine br_t (by decide) ?_
      subst hp
      exact hQ I hI hR hC hO
theorem m_ga_loop (hJ : am_Cl am_meth L xs J) {I0 : am_I} {cd it : Nat → Int32} {u : am_U} {h sz i0 nn : Nat} (hRu : RuR cd u) (hh : h < 4) (hsz : I0 82 h = nI sz) (h40 : sz ≤ 40) (hit : ∀ x, x < 40 → it x = I0 83 (40 * h + x)) (hi0 : i0 < 40) (hnn : nn ≤ 20) (p : Int32 × am_U) (hQ : ∀ I : am_I, (∀ o, o ≠ 67 → o ≠ 70 → I o = I0 o) → MRep I 67 p.2 → Q (some (.int p.1)) I) {z4 : Option Value} : ∀ (n j : Nat) (v : am_U) (s : Nat) (I : am_I) (z7 : Option Value), j + n = nn → (∀ o, o ≠ 67 → o ≠ 70 → I o = I0 o) → OKu v → SameR u v → MRep I 67 v → p = sp_ga it sz i0 n j v s → J (d + 7) q_M_goAll 41 [some (.ref 66), some (.int (nI h)), some (.int (nI i0)), some (.int (nI nn)), z4, some (.int (nI s)), some (.int (nI j)), z7] [] I Q
  | 0, j, v, s, I, z7, hn, hI, hO, hS, hM, hp => by
    refine am_vcl hJ [41] 200 ?_
    refine br_t (by show nI nn ≤ nI j; exact nI_le (by omega) (by omega)) ?_
    have hp : p = (nI s, v) := hp
    subst hp
    exact hQ I hI hM
  | n + 1, j, v, s, I, z7, hn, hI, hO, hS, hM, hp => by
    have x6 : I 67 6 = nI (v 6) := hM 6 (by decide)
    have cv := hO.Cn
    have e82 : I 82 h = nI sz := by rw [hI 82 (by decide) (by decide)]; exact hsz
    have eix : 40 * nI h + nI i0 + nI j = nI (40 * h + (i0 + j)) := by
      rw [show (40 : Int32) = nI 40 from rfl, pk_mul, nI_add, nI_add]
      congr 1
      omega
    have k9 := m_ga_loop (z4 := z4) hJ hRu hh hsz h40 hit hi0 hnn p hQ n (j + 1)
    rw [sp_ga_succ] at hp
    refine am_vcl hJ [41] 200 ?_
    refine br_f (by show ¬ nI nn ≤ nI j; exact nI_ge (by omega) (by omega)) ?_
    refine m_isItem hJ hh e82 h40 (by omega) (fun g => ?_) (fun g => ?_)
    · obtain ⟨x, hx, ex⟩ := g
      rw [nI_eq (by omega) (by omega)] at ex
      rw [if_pos (by omega)] at hp
      refine br_f (by decide) ?_
      refine ⟨am_vinN eix (by omega) (by omega), ?_⟩
      have ei : I 83 (40 * nI h + nI i0 + nI j).toNatClampNeg = it (i0 + j) := by rw [am_clN eix (by omega), hI 83 (by decide) (by decide)]; exact (hit _ (by omega)).symm
      conv => whnf
      show J (d + 6) q_M_isAct 0 [some (.ref 66), some (.int (I 83 (40 * nI h + nI i0 + nI j).toNatClampNeg))] [] I _
      rw [ei]
      have skip : ¬ (sp_z (it (i0 + j)) ≤ v 6 ∧ v 0 < v 1) → ∀ z, J (d + 7) q_M_goAll 41 [some (.ref 66), some (.int (nI h)), some (.int (nI i0)), some (.int (nI nn)), z4, some (.int (nI s + 0)), some (.int (nI j + 1)), z] [] I Q := by
        intro hno z
        rw [if_neg hno] at hp
        have k8 := k9 v s I z (by omega) hI hO hS hM hp
        rw [nI_1, show nI s + 0 = nI s from nI_add s 0]
        exact k8
      refine m_isAct hJ x6 (by omega) (fun ga => ?_) (fun ga => ?_)
      · refine br_f (by decide) ?_
        refine m_isOver hJ (hM 0 (by decide)) (hM 1 (by decide)) (by omega) (by omega) (fun q => ?_) (fun q => ?_)
        · refine br_f (by decide) ?_
          exact skip (fun z => by omega) _
        · refine br_t (by decide) ?_
          rw [if_pos ⟨ga, q⟩] at hp
          have eA : it (i0 + j) = nI (sp_z (it (i0 + j))) := (sp_z_eq _).symm
          conv => whnf
          rw [eA]
          refine m_goesBy hJ hM (hRu.same hS) hO ga (fun I1 q1 M1 => ?_)
          have k8 := fun z => k9 _ _ I1 z (by omega) (fun o h1 h2 => by rw [q1 o h1 h2]; exact hI o h1 h2) (sp_goU_ok hO ga q) (hS.trans (sp_goU_same hO ga)) M1 hp
          rw [← nI_1, ← nI_add] at k8
          exact k8 _
      · refine br_t (by decide) ?_
        exact skip (fun z => ga z.1) _
    · have hno : ¬ i0 + j < sz := fun z => g ⟨i0, by omega, rfl⟩
      rw [if_neg hno] at hp
      refine br_t (by decide) ?_
      subst hp
      exact hQ I hI hM
theorem op_goAll (hJ : am_Cl am_meth L xs J) (a b c : Int32) : am_same Inv J q_X_goAll q_M_goAll [.int a, .int b, .int c] := by
  intro I hI Qc hQc
  obtain ⟨u, uk, hMn, hK, hRs⟩ := id hI
  obtain ⟨hT, hRw, hSh, hSf, hTr, hLe⟩ := id hRs
  obtain ⟨hM, hR, hC, hO⟩ := id hMn
  by_cases h1 : (0 : Int32) ≤ a ∧ a ≤ 3
  · by_cases h2 : (0 : Int32) ≤ c ∧ c ≤ 20
    · obtain ⟨h, hh, rfl⟩ := am_rng (N := 3) rfl (by decide) h1
      obtain ⟨nn, hnn, rfl⟩ := am_rng (N := 20) rfl (by decide) h2
      have hh4 : h < 4 := by omega
      refine am_vcc hJ [41] 200 _ _ _ _ _ _ _ ?_
      refine x_isSheetY hJ h1 ?_
      refine br_f (by decide) ?_
      refine x_withinY hJ h2 ?_
      refine br_f (by decide) ?_
      refine x_refusalAs hJ hh4 (fun g => ?_) (fun g g2 => ?_) (fun g g2 => ?_)
      · have s : I 81 h = -1 := by
          rcases hSh h hh4 with ⟨q1, q2⟩ | ⟨so, n, q1, q2, q3, q4, q5, q6, q7⟩
          · exact q2
          · exact absurd (q3.symm.trans g) (am_neg1 (by omega))
        refine br_f (by decide) ?_
        refine ⟨_, rfl, ?_⟩
        refine am_vcc hJ [41] 200 _ _ _ _ _ _ _ ?_
        refine m_isSheetY hJ h1 ?_
        refine br_f (by decide) ?_
        refine m_in1Y hJ h2 ?_
        refine br_f (by decide) ?_
        refine m_lacks hJ hh4 (fun _ => ?_) (fun z => ?_) (fun z => ?_)
        · refine br_f (by decide) ?_
          exact ⟨rfl, hQc _ hI⟩
        · rw [s] at z; exact absurd z (by decide)
        · rw [s] at z; exact absurd z (by decide)
      · rcases hSh h hh4 with ⟨q1, q2⟩ | ⟨so, sz, q1, q2, q3, q4, q5, q6, q7⟩
        · exact absurd q1 g
        · have g3 : I 81 h = 0 := by rw [q4, ← q3]; exact g2
          refine br_t (by decide) ?_
          have mstart : ∀ (I1 : am_I) (Q : am_Q), I1 81 = I 81 → J 40 q_M_goAll 41 [some (.ref 66), some (.int (nI h)), some (.int b), some (.int (nI nn)), some (.int 0), some (.int (nI 0)), some (.int (nI 0)), none] [] I1 Q → J 40 q_M_goAll 0 [some (.ref 66), some (.int (nI h)), some (.int b), some (.int (nI nn)), none, none, none, none] [] I1 Q := by
            intro I1 Q e81 hQ
            refine am_vcc hJ [41] 200 _ _ _ _ _ _ _ ?_
            refine m_isSheetY hJ h1 ?_
            refine br_f (by decide) ?_
            refine m_in1Y hJ h2 ?_
            refine br_f (by decide) ?_
            refine m_lacks hJ hh4 (fun z => ?_) (fun _ _ => ?_) (fun _ z => ?_)
            · rw [e81, g3] at z; exact absurd z (by decide)
            · refine br_t (by decide) ?_
              exact hQ
            · rw [e81] at z; exact absurd g3 z
          by_cases hb : ∃ x, x < sz ∧ b = nI x
          · obtain ⟨i0, hi0, rfl⟩ := hb
            obtain ⟨p, hp⟩ : ∃ p, p = sp_ga (I (57 + h)) sz i0 nn 0 u 0 := ⟨_, rfl⟩
            refine x_ga_loop (I0 := I) hJ hh4 q5 q2 (by omega) hnn p (fun I1 f1 R1 C1 O1 => ?_) nn 0 u 0 I _ (Nat.zero_add _) (fun _ _ _ => rfl) hO hR hC hp
            refine ⟨_, rfl, ?_⟩
            refine mstart I1 _ (f1 81 (by decide) (by decide)) ?_
            refine m_ga_loop (I0 := I1) (it := I (57 + h)) (u := u) hJ hR.2 hh4 (by rw [f1 82 (by decide) (by decide)]; exact q6) q2 (fun x hx => by rw [f1 83 (by decide) (by decide)]; exact q7 x hx) (by omega) hnn p (fun I2 f2 M2 => ?_) nn 0 u 0 I1 _ (Nat.zero_add _) (fun _ _ _ => rfl) hO (SameR.refl u) (hM.kept (f1 67 (by decide) (by decide))) hp
            exact ⟨rfl, hQc _ (Inv.day hK hRs f1 R1 C1 f2 M2 O1)⟩
          · cases nn with
            | zero =>
              refine am_vcl hJ [41] 200 ?_
              refine br_t (by decide) ?_
              refine ⟨_, rfl, ?_⟩
              refine mstart I _ rfl ?_
              refine am_vcl hJ [41] 200 ?_
              refine br_t (by decide) ?_
              exact ⟨rfl, hQc _ hI⟩
            | succ nn =>
              refine am_vcl hJ [41] 200 ?_
              refine br_f (by show ¬ nI (nn + 1) ≤ nI 0; exact nI_ge (by omega) (by omega)) ?_
              refine x_hasItem hJ hh4 q5 q2 (fun z => ?_) (fun _ => ?_)
              · obtain ⟨x, hx, ex⟩ := z
                have ex : b + 0 = nI x := ex
                rw [Int32.add_zero] at ex
                exact absurd ⟨x, hx, ex⟩ hb
              · refine br_t (by decide) ?_
                refine ⟨_, rfl, ?_⟩
                refine mstart I _ rfl ?_
                refine am_vcl hJ [41] 200 ?_
                refine br_f (by show ¬ nI (nn + 1) ≤ nI 0; exact nI_ge (by omega) (by omega)) ?_
                refine m_isItem (j := 0) hJ hh4 q6 q2 (by omega) (fun z => absurd z hb) (fun _ => ?_)
                refine br_t (by decide) ?_
                exact ⟨rfl, hQc _ hI⟩
      · rcases hSh h hh4 with ⟨q1, q2⟩ | ⟨so, n, q1, q2, q3, q4, q5, q6, q7⟩
        · exact absurd q1 g
        · have g3 : ¬ I 81 h = 0 := by rw [q4, ← q3]; exact g2
          refine br_f (by decide) ?_
          refine ⟨_, rfl, ?_⟩
          refine am_vcc hJ [41] 200 _ _ _ _ _ _ _ ?_
          refine m_isSheetY hJ h1 ?_
          refine br_f (by decide) ?_
          refine m_in1Y hJ h2 ?_
          refine br_f (by decide) ?_
          refine m_lacks hJ hh4 (fun z => ?_) (fun _ z => absurd z g3) (fun _ _ => ?_)
          · rw [q4] at z; exact absurd z (nI_pos (by omega))
          refine br_f (by decide) ?_
          exact ⟨rfl, hQc _ hI⟩
    · repeat (
        (try conv => whnf)
        first
          | refine ⟨am_vin (by decide), ?_⟩
          | refine ⟨(by assumption : vp_in _ _), ?_⟩
          | refine br_f (by decide) ?_
          | refine br_t (by decide) ?_
          | refine br_t (by assumption) ?_
          | refine br_f (by assumption) ?_
          | refine x_withinY hJ (by assumption) ?_
          | refine x_withinN hJ (by assumption) ?_
          | refine m_in1Y hJ (by assumption) ?_
          | refine m_in1N hJ (by assumption) ?_
          | refine m_isGateY hJ (by assumption) ?_
          | refine m_isGateN hJ (by assumption) ?_
          | refine m_isDigitY hJ (by assumption) ?_
          | refine m_isDigitN hJ (by assumption) ?_
          | refine m_isNeedY hJ (by assumption) ?_
          | refine m_isNeedN hJ (by assumption) ?_
          | refine m_isPlanY hJ (by assumption) ?_
          | refine m_isPlanN hJ (by assumption) ?_
          | refine m_isSheetY hJ (by assumption) ?_
          | refine m_isSheetN hJ (by assumption) ?_
          | refine x_isSheetY hJ (by assumption) ?_
          | refine x_isSheetN hJ (by assumption) ?_
          | refine x_isShelfY hJ (by assumption) ?_
          | refine x_isShelfN hJ (by assumption) ?_
          | refine x_hasY hJ (by assumption) (by assumption) (by assumption) ?_
          | refine x_hasN hJ (by assumption) (by assumption) (by assumption) ?_
          | refine m_isPersonY hJ (by assumption) (by assumption) (by assumption) ?_
          | refine m_isPersonN hJ (by assumption) (by assumption) (by assumption) ?_
          | refine am_vc hJ 120 40 _ _ _ _ _ _ ?_
          | refine ⟨_, rfl, ?_⟩)
      exact ⟨rfl, hQc _ hI⟩
  · repeat (
      (try conv => whnf)
      first
        | refine ⟨am_vin (by decide), ?_⟩
        | refine ⟨(by assumption : vp_in _ _), ?_⟩
        | refine br_f (by decide) ?_
        | refine br_t (by decide) ?_
        | refine br_t (by assumption) ?_
        | refine br_f (by assumption) ?_
        | refine x_withinY hJ (by assumption) ?_
        | refine x_withinN hJ (by assumption) ?_
        | refine m_in1Y hJ (by assumption) ?_
        | refine m_in1N hJ (by assumption) ?_
        | refine m_isGateY hJ (by assumption) ?_
        | refine m_isGateN hJ (by assumption) ?_
        | refine m_isDigitY hJ (by assumption) ?_
        | refine m_isDigitN hJ (by assumption) ?_
        | refine m_isNeedY hJ (by assumption) ?_
        | refine m_isNeedN hJ (by assumption) ?_
        | refine m_isPlanY hJ (by assumption) ?_
        | refine m_isPlanN hJ (by assumption) ?_
        | refine m_isSheetY hJ (by assumption) ?_
        | refine m_isSheetN hJ (by assumption) ?_
        | refine x_isSheetY hJ (by assumption) ?_
        | refine x_isSheetN hJ (by assumption) ?_
        | refine x_isShelfY hJ (by assumption) ?_
        | refine x_isShelfN hJ (by assumption) ?_
        | refine x_hasY hJ (by assumption) (by assumption) (by assumption) ?_
        | refine x_hasN hJ (by assumption) (by assumption) (by assumption) ?_
        | refine m_isPersonY hJ (by assumption) (by assumption) (by assumption) ?_
        | refine m_isPersonN hJ (by assumption) (by assumption) (by assumption) ?_
        | refine am_vc hJ 120 40 _ _ _ _ _ _ ?_
        | refine ⟨_, rfl, ?_⟩)
    exact ⟨rfl, hQc _ hI⟩
/-! wouldBe -/
theorem x_wb_loop (hJ : am_Cl am_meth L xs J) {I0 : am_I} {u : am_U} {h sz i0 nn : Nat} (hO0 : OKu u) (hh : h < 4) (hsz : I0 55 h = nI sz) (h40 : sz ≤ 40) (hi0 : i0 < 40) (hnn : nn ≤ 20) (p : Int32) (hQ : ∀ I : am_I, (∀ o, o ≠ 52 → o ≠ 18 → I o = I0 o) → Q (some (.int p)) I) {z4 : Option Value} : ∀ (n j : Nat) (v : am_U) (s : Nat) (I : am_I) (z8 : Option Value), j + n = nn → (∀ o, o ≠ 52 → o ≠ 18 → I o = I0 o) → OKu v → SameR u v → v 0 = u 0 + j → RRep I 8 v → CRep I 52 v → p = sp_wb (I0 (57 + h)) sz i0 n j v s → J (d + 5) q_X_wouldBe 47 [some (.ref 0), some (.int (nI h)), some (.int (nI i0)), some (.int (nI nn)), z4, some (.int (nI (u 1 - u 0))), some (.int (nI s)), some (.int (nI j)), z8] [] I Q
  | 0, j, v, s, I, z7, hn, hI, hO, hS, hd, hR, hC, hp => by
    refine am_vcl hJ [47] 200 ?_
    refine br_t (by show nI nn ≤ nI j; exact nI_le (by omega) (by omega)) ?_
    have hp : p = nI s := hp
    subst hp
    exact hQ I hI
  | n + 1, j, v, s, I, z7, hn, hI, hO, hS, hd, hR, hC, hp => by
    have x6 : I 8 2 = nI (v 6) := hR.1.get 8 2 6 (by decide +kernel)
    have cv := hO.Cn
    have cu := hO0.Cn
    have v1 : v 1 = u 1 := hS 1 (by decide)
    have v01 := hO.2.1
    have u01 := hO0.2.1
    have e55 : I 55 h = nI sz := by rw [hI 55 (by decide) (by decide)]; exact hsz
    have eij : nI i0 + nI j = nI (i0 + j) := nI_add _ _
    have eit : I (57 + h) = I0 (57 + h) := hI _ (by omega) (by omega)
    rw [sp_wb_succ] at hp
    refine am_vcl hJ [47] 200 ?_
    refine br_f (by show ¬ nI nn ≤ nI j; exact nI_ge (by omega) (by omega)) ?_
    refine x_hasItem hJ hh e55 h40 (fun g => ?_) (fun g => ?_)
    · obtain ⟨x, hx, ex⟩ := g
      have ex : nI i0 + nI j = nI x := ex
      rw [eij, nI_eq (by omega) (by omega)] at ex
      rw [if_pos (by omega)] at hp
      refine br_f (by decide) ?_
      refine ⟨vp_in_nI hh (by omega), ?_⟩
      rw [nI_clamp (n := h) (by omega), am_R56 h hh]
      conv => whnf
      rw [am_G57 h hh]
      refine ⟨am_vinN eij (by omega) (by omega), ?_⟩
      have ei : I (57 + h) (nI i0 + nI j).toNatClampNeg = I0 (57 + h) (i0 + j) := by rw [am_clN eij (by omega), eit]
      have no : ¬ (sp_z (I0 (57 + h) (i0 + j)) ≤ v 6 ∧ v 0 < v 1) → Q (some (.int (-4))) I := by
        intro hno
        rw [if_neg hno] at hp
        subst hp
        exact hQ I hI
      by_cases gl : j < u 1 - u 0
      · refine br_f (by show ¬ nI (u 1 - u 0) ≤ nI j; exact nI_ge gl (by omega)) ?_
        conv => whnf
        show J (d + 4) q_Road_isAct 0 [some (.ref 8), some (.int (I (57 + h) (nI i0 + nI j).toNatClampNeg))] [] I _
        rw [ei]
        refine x_isAct hJ x6 (by omega) (fun ga => ?_) (fun ga => ?_)
        · have q : v 0 < v 1 := by omega
          refine br_f (by decide) ?_
          rw [if_pos ⟨ga, q⟩] at hp
          have eA : I0 (57 + h) (i0 + j) = nI (sp_z (I0 (57 + h) (i0 + j))) := (sp_z_eq _).symm
          conv => whnf
          rw [eA]
          refine x_goBy hJ (by decide) hR hC hO ga (fun I1 q1 R1 C1 => ?_)
          have k8 := fun z => x_wb_loop (z4 := z4) hJ hO0 hh hsz h40 hi0 hnn p hQ n (j + 1) _ _ I1 z (by omega) (fun o h1 h2 => by rw [q1 o h1 h2]; exact hI o h1 h2) (sp_goU_ok hO ga q) (hS.trans (sp_goU_same hO ga)) (by rw [(sp_goU_0 hO ga).1]; omega) R1 C1 hp
          rw [← nI_1, ← nI_add] at k8
          exact k8 _
        · refine br_t (by decide) ?_
          exact no (fun z => ga z.1)
      · refine br_t (by show nI (u 1 - u 0) ≤ nI j; exact nI_le (by omega) (by omega)) ?_
        exact no (fun z => by omega)
    · have hno : ¬ i0 + j < sz := fun z => g ⟨i0 + j, z, eij⟩
      rw [if_neg hno] at hp
      refine br_t (by decide) ?_
      subst hp
      exact hQ I hI
theorem m_wb_back (hJ : am_Cl am_meth L xs J) {I0 : am_I} {u : am_U} (hL : LaidR I0 u) (p : Int32) (hQ : ∀ I : am_I, (∀ o, o ≠ 67 → o ≠ 70 → I o = I0 o) → MRep I 67 u → Q (some (.int p)) I) {v : am_U} {I : am_I} {why s : Int32} (hI : ∀ o, o ≠ 67 → o ≠ 70 → I o = I0 o) (hS : SameR u v) (hM : MRep I 67 v) (hp : p = if why = 0 then s else why) {z1 z2 z3 z6 z7 : Option Value} : J (d + 7) q_M_wouldBe 145 [some (.ref 66), z1, z2, z3, some (.int why), some (.int s), z6, z7] [] I Q := by
  refine am_vc hJ 20 _ _ _ _ _ _ _ ?_
  refine m_layBack hJ hM (hL.kept (hI 69 (by decide) (by decide))) hS.hi (fun I4 q4 M4 => ?_)
  have k9 := hQ I4 (fun o h1 h2 => by rw [q4 o h1]; exact hI o h1 h2) M4
  refine ⟨fun g => ?_, fun g => ?_⟩
  · rw [if_pos g] at hp
    subst hp
    exact k9
  · rw [if_neg g] at hp
    subst hp
    exact k9
theorem m_wb_loop (hJ : am_Cl am_meth L xs J) {I0 : am_I} {cd it : Nat → Int32} {u : am_U} {h sz i0 nn : Nat} (hRu : RuR cd u) (hL : LaidR I0 u) (hh : h < 4) (hsz : I0 82 h = nI sz) (h40 : sz ≤ 40) (hit : ∀ x, x < 40 → it x = I0 83 (40 * h + x)) (hi0 : i0 < 40) (hnn : nn ≤ 20) (p : Int32) (hQ : ∀ I : am_I, (∀ o, o ≠ 67 → o ≠ 70 → I o = I0 o) → MRep I 67 u → Q (some (.int p)) I) : ∀ (n j : Nat) (v : am_U) (s : Nat) (I : am_I) (z7 : Option Value), j + n = nn → (∀ o, o ≠ 67 → o ≠ 70 → I o = I0 o) → OKu v → SameR u v → MRep I 67 v → p = sp_wb it sz i0 n j v s → J (d + 7) q_M_wouldBe 37 [some (.ref 66), some (.int (nI h)), some (.int (nI i0)), some (.int (nI nn)), some (.int 0), some (.int (nI s)), some (.int (nI j)), z7] [] I Q
  | 0, j, v, s, I, z7, hn, hI, hO, hS, hM, hp => by
    refine am_vcl hJ [37, 145] 200 ?_
    refine br_t (by show nI nn ≤ nI j; exact nI_le (by omega) (by omega)) ?_
    exact m_wb_back hJ hL p hQ hI hS hM (by rw [if_pos rfl]; exact hp)
  | n + 1, j, v, s, I, z7, hn, hI, hO, hS, hM, hp => by
    have x6 : I 67 6 = nI (v 6) := hM 6 (by decide)
    have cv := hO.Cn
    have e82 : I 82 h = nI sz := by rw [hI 82 (by decide) (by decide)]; exact hsz
    have eix : 40 * nI h + nI i0 + nI j = nI (40 * h + (i0 + j)) := by
      rw [show (40 : Int32) = nI 40 from rfl, pk_mul, nI_add, nI_add]
      congr 1
      omega
    rw [sp_wb_succ] at hp
    have stop : ∀ (why : Int32) (z7 : Option Value), why ≠ 0 → p = why → J (d + 7) q_M_wouldBe 117 [some (.ref 66), some (.int (nI h)), some (.int (nI i0)), some (.int (nI nn)), some (.int 0), some (.int (nI s)), some (.int (nI j)), z7] [.int why] I Q := by
      intro why z7 hne hpw
      refine am_vcc hJ [37] 200 _ _ _ _ _ _ _ ?_
      refine br_f hne ?_
      refine am_vcl hJ [37, 145] 200 ?_
      by_cases gg : nI nn ≤ nI j + 1
      · refine br_t gg ?_
        exact m_wb_back hJ hL p hQ hI hS hM (by rw [if_neg hne]; exact hpw)
      · refine br_f gg ?_
        refine br_f hne ?_
        exact m_wb_back hJ hL p hQ hI hS hM (by rw [if_neg hne]; exact hpw)
    refine am_vcl hJ [37, 117, 145] 200 ?_
    refine br_f (by show ¬ nI nn ≤ nI j; exact nI_ge (by omega) (by omega)) ?_
    refine br_t (by decide) ?_
    refine m_isItem hJ hh e82 h40 (by omega) (fun g => ?_) (fun g => ?_)
    · obtain ⟨x, hx, ex⟩ := id g
      rw [nI_eq (by omega) (by omega)] at ex
      rw [if_pos (by omega)] at hp
      refine br_f (by decide) ?_
      refine ⟨am_vinN eix (by omega) (by omega), ?_⟩
      have ei : I 83 (40 * nI h + nI i0 + nI j).toNatClampNeg = it (i0 + j) := by rw [am_clN eix (by omega), hI 83 (by decide) (by decide)]; exact (hit _ (by omega)).symm
      refine m_isItem hJ hh e82 h40 (by omega) (fun _ => ?_) (fun g2 => absurd g g2)
      refine br_f (by decide) ?_
      conv => whnf
      show J (d + 6) q_M_isAct 0 [some (.ref 66), some (.int (I 83 (40 * nI h + nI i0 + nI j).toNatClampNeg))] [] I _
      rw [ei]
      refine m_isAct hJ x6 (by omega) (fun ga => ?_) (fun ga => ?_)
      · refine br_f (by decide) ?_
        refine m_isOver hJ (hM 0 (by decide)) (hM 1 (by decide)) (by omega) (by omega) (fun q => ?_) (fun q => ?_)
        · refine br_f (by decide) ?_
          rw [if_neg (fun z => by omega)] at hp
          exact stop (-4) _ (by decide) hp
        · refine br_t (by decide) ?_
          rw [if_pos ⟨ga, q⟩] at hp
          have eA : it (i0 + j) = nI (sp_z (it (i0 + j))) := (sp_z_eq _).symm
          have go : ∀ z7, z7 = some (.int (it (i0 + j))) → J (d + 7) q_M_wouldBe 117 [some (.ref 66), some (.int (nI h)), some (.int (nI i0)), some (.int (nI nn)), some (.int 0), some (.int (nI s)), some (.int (nI j)), z7] [.int 0] I Q := by
            intro z7 hz7
            subst hz7
            refine am_vcc hJ [37] 200 _ _ _ _ _ _ _ ?_
            refine br_t (by decide) ?_
            conv => whnf
            rw [eA]
            refine m_goesBy hJ hM (hRu.same hS) hO ga (fun I1 q1 M1 => ?_)
            have k8 := fun z => m_wb_loop hJ hRu hL hh hsz h40 hit hi0 hnn p hQ n (j + 1) _ _ I1 z (by omega) (fun o h1 h2 => by rw [q1 o h1 h2]; exact hI o h1 h2) (sp_goU_ok hO ga q) (hS.trans (sp_goU_same hO ga)) M1 hp
            rw [← nI_1, ← nI_add] at k8
            exact k8 _
          exact go _ rfl
      · refine br_t (by decide) ?_
        rw [if_neg (fun z => ga z.1)] at hp
        exact stop (-4) _ (by decide) hp
    · have hno : ¬ i0 + j < sz := fun z => g ⟨i0, by omega, rfl⟩
      rw [if_neg hno] at hp
      refine br_t (by decide) ?_
      refine m_isItem hJ hh e82 h40 (by omega) (fun g2 => absurd g2 g) (fun _ => ?_)
      refine br_t (by decide) ?_
      exact stop (-12) _ (by decide) hp
theorem op_wouldBe (hJ : am_Cl am_meth L xs J) (a b c : Int32) : am_same Inv J q_X_wouldBe q_M_wouldBe [.int a, .int b, .int c] := by
  intro I hI Qc hQc
  obtain ⟨u, uk, hMn, hK, hRs⟩ := id hI
  obtain ⟨hT, hRw, hSh, hSf, hTr, hLe⟩ := id hRs
  obtain ⟨hM, hR, hC, hO⟩ := id hMn
  by_cases h1 : (0 : Int32) ≤ a ∧ a ≤ 3
  · by_cases h2 : (0 : Int32) ≤ c ∧ c ≤ 20
    · obtain ⟨h, hh, rfl⟩ := am_rng (N := 3) rfl (by decide) h1
      obtain ⟨nn, hnn, rfl⟩ := am_rng (N := 20) rfl (by decide) h2
      have hh4 : h < 4 := by omega
      have mstart : ∀ (I1 : am_I) (Q : am_Q), (∀ o, o ≠ 52 → o ≠ 18 → I1 o = I o) → (∀ I2 : am_I, (∀ o, o ≠ 69 → I2 o = I1 o) → LaidR I2 u → ∀ why : Int32, (I 81 h < 0 → why = -11) → (0 ≤ I 81 h → I 81 h = 0 → why = 0) → (0 ≤ I 81 h → ¬ I 81 h = 0 → why = -13) → J 40 q_M_wouldBe 37 [some (.ref 66), some (.int (nI h)), some (.int b), some (.int (nI nn)), some (.int why), some (.int (nI 0)), some (.int (nI 0)), none] [] I2 Q) → J 40 q_M_wouldBe 0 [some (.ref 66), some (.int (nI h)), some (.int b), some (.int (nI nn)), none, none, none, none] [] I1 Q := by
        intro I1 Q f1 hQ
        have e81 : I1 81 = I 81 := f1 81 (by decide) (by decide)
        have M1 : MRep I1 67 u := hM.kept (f1 67 (by decide) (by decide))
        refine am_vcc hJ [37] 200 _ _ _ _ _ _ _ ?_
        refine m_isSheetY hJ h1 ?_
        refine br_f (by decide) ?_
        refine m_in1Y hJ h2 ?_
        refine br_f (by decide) ?_
        refine m_lacks hJ hh4 (fun z => ?_) (fun z1 z2 => ?_) (fun z1 z2 => ?_)
        · rw [e81] at z
          refine m_layDown hJ M1 (fun I2 q2 L2 => ?_)
          exact hQ I2 q2 L2 (-11) (fun _ => rfl) (fun w => absurd z (Int32.not_lt.mpr w)) (fun w => absurd z (Int32.not_lt.mpr w))
        · rw [e81] at z1 z2
          refine m_layDown hJ M1 (fun I2 q2 L2 => ?_)
          exact hQ I2 q2 L2 0 (fun w => absurd w (Int32.not_lt.mpr z1)) (fun _ _ => rfl) (fun _ w => absurd z2 w)
        · rw [e81] at z1 z2
          refine m_layDown hJ M1 (fun I2 q2 L2 => ?_)
          exact hQ I2 q2 L2 (-13) (fun w => absurd w (Int32.not_lt.mpr z1)) (fun _ w => absurd w z2) (fun _ _ => rfl)
      have mstop : ∀ (I1 I2 : am_I) (why : Int32), (∀ o, o ≠ 52 → o ≠ 18 → I1 o = I o) → (∀ o, o ≠ 69 → I2 o = I1 o) → LaidR I2 u → why ≠ 0 → J 40 q_M_wouldBe 37 [some (.ref 66), some (.int (nI h)), some (.int b), some (.int (nI nn)), some (.int why), some (.int (nI 0)), some (.int (nI 0)), none] [] I2 (fun r2 I3 => r2 = some (.int why) ∧ Qc I3) := by
        intro I1 I2 why f1 f2 L2 hne
        have M2 : MRep I2 67 u := (hM.kept (f1 67 (by decide) (by decide))).kept (f2 67 (by decide))
        have bk : ∀ z6 z7, J 40 q_M_wouldBe 145 [some (.ref 66), some (.int (nI h)), some (.int b), some (.int (nI nn)), some (.int why), some (.int (nI 0)), z6, z7] [] I2 (fun r2 I3 => r2 = some (.int why) ∧ Qc I3) := fun z6 z7 => m_wb_back (I0 := I2) (d := 33) hJ L2 why (fun I3 q3 M3 => ⟨rfl, hQc _ (Inv.thought hI hMn (am_only2 (fun o h1 h2 => f1 o h2 h1)) (am_only3 (fun o h1 h2 h3 => by rw [q3 o h1 h3, f2 o h2])) M3)⟩) (fun _ _ _ => rfl) (SameR.refl u) M2 (by rw [if_neg hne])
        refine am_vcl hJ [37, 145] 200 ?_
        by_cases gg : nI nn ≤ nI 0
        · refine br_t gg ?_
          exact bk _ _
        · refine br_f gg ?_
          refine br_f hne ?_
          exact bk _ _
      refine am_vcc hJ [47] 200 _ _ _ _ _ _ _ ?_
      refine x_isSheetY hJ h1 ?_
      refine br_f (by decide) ?_
      refine x_withinY hJ h2 ?_
      refine br_f (by decide) ?_
      refine x_refusalAs hJ hh4 (fun g => ?_) (fun g g2 => ?_) (fun g g2 => ?_)
      · have s : I 81 h = -1 := by
          rcases hSh h hh4 with ⟨q1, q2⟩ | ⟨so, n, q1, q2, q3, q4, q5, q6, q7⟩
          · exact q2
          · exact absurd (q3.symm.trans g) (am_neg1 (by omega))
        refine br_f (by decide) ?_
        refine ⟨_, rfl, ?_⟩
        refine mstart I _ (fun _ _ _ => rfl) (fun I2 f2 L2 why w1 w2 w3 => ?_)
        rw [w1 (by rw [s]; decide)]
        exact mstop I I2 _ (fun _ _ _ => rfl) f2 L2 (by decide)
      · rcases hSh h hh4 with ⟨q1, q2⟩ | ⟨so, sz, q1, q2, q3, q4, q5, q6, q7⟩
        · exact absurd q1 g
        · have g3 : I 81 h = 0 := by rw [q4, ← q3]; exact g2
          refine br_t (by decide) ?_
          refine x_startAhead hJ hR hC hO (fun I1 f1 R1 C1 => ?_)
          by_cases hb : ∃ x, x < sz ∧ b = nI x
          · obtain ⟨i0, hi0, rfl⟩ := hb
            obtain ⟨p, hp⟩ : ∃ p, p = sp_wb (I (57 + h)) sz i0 nn 0 u 0 := ⟨_, rfl⟩
            refine x_wb_loop (I0 := I) hJ hO hh4 q5 q2 (by omega) hnn p (fun I2 f2 => ?_) nn 0 u 0 I1 _ (Nat.zero_add _) (fun o h1 _ => f1 o h1) hO (SameR.refl u) rfl R1 C1 hp
            refine ⟨_, rfl, ?_⟩
            refine mstart I2 _ f2 (fun I3 f3 L3 why w1 w2 w3 => ?_)
            rw [w2 (by rw [g3]; decide) g3]
            refine m_wb_loop (I0 := I3) (it := I (57 + h)) (u := u) hJ hR.2 L3 hh4 (by rw [f3 82 (by decide), f2 82 (by decide) (by decide)]; exact q6) q2 (fun x hx => by rw [f3 83 (by decide), f2 83 (by decide) (by decide)]; exact q7 x hx) (by omega) hnn p (fun I4 f4 M4 => ?_) nn 0 u 0 I3 _ (Nat.zero_add _) (fun _ _ _ => rfl) hO (SameR.refl u) ((hM.kept (f2 67 (by decide) (by decide))).kept (f3 67 (by decide))) hp
            refine ⟨rfl, hQc _ (Inv.thought hI hMn (am_only2 (fun o h1 h2 => f2 o h2 h1)) (am_only3 (fun o h1 h2 h3 => ?_)) M4)⟩
            rw [f4 o h1 h3, f3 o h2]
          · have e55 : I1 55 h = nI sz := by rw [f1 55 (by decide)]; exact q5
            have f1' : ∀ o, o ≠ 52 → o ≠ 18 → I1 o = I o := fun o h _ => f1 o h
            have fin : ∀ (I4 I3 : am_I), (∀ o, o ≠ 69 → I3 o = I1 o) → (∀ o, o ≠ 67 → o ≠ 70 → I4 o = I3 o) → MRep I4 67 u → Qc I4 := fun I4 I3 f3 f4 M4 => hQc _ (Inv.thought hI hMn (am_only2 (fun o h1 h2 => f1' o h2 h1)) (am_only3 (fun o h1 h2 h3 => by rw [f4 o h1 h3, f3 o h2])) M4)
            cases nn with
            | zero =>
              refine am_vcl hJ [47] 200 ?_
              refine br_t (by decide) ?_
              refine ⟨_, rfl, ?_⟩
              refine mstart I1 _ f1' (fun I3 f3 L3 why w1 w2 w3 => ?_)
              rw [w2 (by rw [g3]; decide) g3]
              refine am_vcl hJ [37, 145] 200 ?_
              refine br_t (by decide) ?_
              exact m_wb_back (I0 := I3) hJ L3 (nI 0) (fun I4 f4 M4 => ⟨rfl, fin I4 I3 f3 f4 M4⟩) (fun _ _ _ => rfl) (SameR.refl u) ((hM.kept (f1 67 (by decide))).kept (f3 67 (by decide))) (by rw [if_pos rfl])
            | succ nn =>
              refine am_vcl hJ [47] 200 ?_
              refine br_f (by show ¬ nI (nn + 1) ≤ nI 0; exact nI_ge (by omega) (by omega)) ?_
              refine x_hasItem hJ hh4 e55 q2 (fun z => ?_) (fun _ => ?_)
              · obtain ⟨x, hx, ex⟩ := z
                have ex : b + 0 = nI x := ex
                rw [Int32.add_zero] at ex
                exact absurd ⟨x, hx, ex⟩ hb
              · refine br_t (by decide) ?_
                refine ⟨_, rfl, ?_⟩
                refine mstart I1 _ f1' (fun I3 f3 L3 why w1 w2 w3 => ?_)
                rw [w2 (by rw [g3]; decide) g3]
                have M3 : MRep I3 67 u := (hM.kept (f1 67 (by decide))).kept (f3 67 (by decide))
                have e82 : I3 82 h = nI sz := by rw [f3 82 (by decide), f1 82 (by decide)]; exact q6
                have bk : ∀ s z6 z7, J 40 q_M_wouldBe 145 [some (.ref 66), some (.int (nI h)), some (.int b), some (.int (nI (nn + 1))), some (.int (-12)), some (.int s), z6, z7] [] I3 (fun r2 I3 => r2 = some (.int (-12)) ∧ Qc I3) := fun s z6 z7 => m_wb_back (I0 := I3) (d := 33) hJ L3 (-12) (fun I4 f4 M4 => ⟨rfl, fin I4 I3 f3 f4 M4⟩) (fun _ _ _ => rfl) (SameR.refl u) M3 (by rw [if_neg (by decide)])
                refine am_vcl hJ [37, 145] 200 ?_
                refine br_f (by show ¬ nI (nn + 1) ≤ nI 0; exact nI_ge (by omega) (by omega)) ?_
                refine br_t (by decide) ?_
                refine m_isItem (j := 0) hJ hh4 e82 q2 (by omega) (fun z => absurd z hb) (fun _ => ?_)
                refine br_t (by decide) ?_
                refine m_isItem (j := 0) hJ hh4 e82 q2 (by omega) (fun z => absurd z hb) (fun _ => ?_)
                refine br_t (by decide) ?_
                refine br_f (by decide) ?_
                refine am_vcl hJ [37, 145] 200 ?_
                by_cases gg : nI (nn + 1) ≤ nI 0 + 1
                · refine br_t gg ?_
                  exact bk _ _ _
                · refine br_f gg ?_
                  refine br_f (by decide) ?_
                  exact bk _ _ _
      · rcases hSh h hh4 with ⟨q1, q2⟩ | ⟨so, n, q1, q2, q3, q4, q5, q6, q7⟩
        · exact absurd q1 g
        · have g3 : ¬ I 81 h = 0 := by rw [q4, ← q3]; exact g2
          refine br_f (by decide) ?_
          refine ⟨_, rfl, ?_⟩
          refine mstart I _ (fun _ _ _ => rfl) (fun I2 f2 L2 why w1 w2 w3 => ?_)
          rw [w3 (by rw [q4]; exact nI_pos' (by omega)) g3]
          exact mstop I I2 _ (fun _ _ _ => rfl) f2 L2 (by decide)
    · repeat (
        (try conv => whnf)
        first
          | refine ⟨am_vin (by decide), ?_⟩
          | refine ⟨(by assumption : vp_in _ _), ?_⟩
          | refine br_f (by decide) ?_
          | refine br_t (by decide) ?_
          | refine br_t (by assumption) ?_
          | refine br_f (by assumption) ?_
          | refine x_withinY hJ (by assumption) ?_
          | refine x_withinN hJ (by assumption) ?_
          | refine m_in1Y hJ (by assumption) ?_
          | refine m_in1N hJ (by assumption) ?_
          | refine m_isGateY hJ (by assumption) ?_
          | refine m_isGateN hJ (by assumption) ?_
          | refine m_isDigitY hJ (by assumption) ?_
          | refine m_isDigitN hJ (by assumption) ?_
          | refine m_isNeedY hJ (by assumption) ?_
          | refine m_isNeedN hJ (by assumption) ?_
          | refine m_isPlanY hJ (by assumption) ?_
          | refine m_isPlanN hJ (by assumption) ?_
          | refine m_isSheetY hJ (by assumption) ?_
          | refine m_isSheetN hJ (by assumption) ?_
          | refine x_isSheetY hJ (by assumption) ?_
          | refine x_isSheetN hJ (by assumption) ?_
          | refine x_isShelfY hJ (by assumption) ?_
          | refine x_isShelfN hJ (by assumption) ?_
          | refine x_hasY hJ (by assumption) (by assumption) (by assumption) ?_
          | refine x_hasN hJ (by assumption) (by assumption) (by assumption) ?_
          | refine m_isPersonY hJ (by assumption) (by assumption) (by assumption) ?_
          | refine m_isPersonN hJ (by assumption) (by assumption) (by assumption) ?_
          | refine am_vc hJ 120 40 _ _ _ _ _ _ ?_
          | refine ⟨_, rfl, ?_⟩)
      exact ⟨rfl, hQc _ hI⟩
  · repeat (
      (try conv => whnf)
      first
        | refine ⟨am_vin (by decide), ?_⟩
        | refine ⟨(by assumption : vp_in _ _), ?_⟩
        | refine br_f (by decide) ?_
        | refine br_t (by decide) ?_
        | refine br_t (by assumption) ?_
        | refine br_f (by assumption) ?_
        | refine x_withinY hJ (by assumption) ?_
        | refine x_withinN hJ (by assumption) ?_
        | refine m_in1Y hJ (by assumption) ?_
        | refine m_in1N hJ (by assumption) ?_
        | refine m_isGateY hJ (by assumption) ?_
        | refine m_isGateN hJ (by assumption) ?_
        | refine m_isDigitY hJ (by assumption) ?_
        | refine m_isDigitN hJ (by assumption) ?_
        | refine m_isNeedY hJ (by assumption) ?_
        | refine m_isNeedN hJ (by assumption) ?_
        | refine m_isPlanY hJ (by assumption) ?_
        | refine m_isPlanN hJ (by assumption) ?_
        | refine m_isSheetY hJ (by assumption) ?_
        | refine m_isSheetN hJ (by assumption) ?_
        | refine x_isSheetY hJ (by assumption) ?_
        | refine x_isSheetN hJ (by assumption) ?_
        | refine x_isShelfY hJ (by assumption) ?_
        | refine x_isShelfN hJ (by assumption) ?_
        | refine x_hasY hJ (by assumption) (by assumption) (by assumption) ?_
        | refine x_hasN hJ (by assumption) (by assumption) (by assumption) ?_
        | refine m_isPersonY hJ (by assumption) (by assumption) (by assumption) ?_
        | refine m_isPersonN hJ (by assumption) (by assumption) (by assumption) ?_
        | refine am_vc hJ 120 40 _ _ _ _ _ _ ?_
        | refine ⟨_, rfl, ?_⟩)
    exact ⟨rfl, hQc _ hI⟩
end
