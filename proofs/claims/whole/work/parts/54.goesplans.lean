theorem RuR.goU {cd : Nat → Int32} {v : am_U} {a : Nat} (h : RuR cd v) (hO : OKu v) (ha : a ≤ v 6) : RuR cd (sp_goU v a) := h.same (sp_goU_same hO ha)
section
variable {L : Nat} {xs : Nat → Int32} {J : am_J} {d : Nat}
theorem m_goesPlans (hJ : am_Cl am_meth L xs J) {m wt : Nat} {cd : Nat → Int32} (hm : m ≤ 4) (hwt : wt < 64) : ∀ (n dp : Nat) (v : am_U) (path : Nat → Int32) (w told : Nat) (S : PS) (I : am_I) (Q : am_Q), dp + n = m → OKu v → v 0 + n ≤ v 1 → MRep I 67 v → RuR cd v → PmR I m S → PSok S → told + n ≤ 4 → (∀ i, i < dp → I 76 i = path i) → (∀ I' : am_I, PmF I I' dp → MRep I' 67 v → PmR I' m (sp_try wt n dp v path w told S) → Q none I') → ∀ z6 z7 : Option Value, J (d + n + 7) q_M_goesPlans 0 [some (.ref 66), some (.int (nI dp)), some (.int (nI m)), some (.int (nI w)), some (.int (nI told)), some (.int (nI wt)), z6, z7] [] I Q
  | 0, dp, v, path, w, told, S, I, Q, hn, hO, hd, hM, hRu, hP, hS, ht, hpa, h, z6, z7 => by
    have hdp : dp = m := by omega
    refine am_vc hJ 30 _ _ _ _ _ _ _ ?_
    refine br_t (by show nI dp = nI m; rw [hdp]) ?_
    refine m_endsPlan hJ hM hO hwt hP hS hm (by omega) (fun i hi => hpa i (by omega)) (fun I' q1 q2 q3 => ?_)
    exact h I' ⟨fun o o1 _ _ _ _ o6 => q1 o o1 o6, q2, fun i _ => by rw [q1 76 (by decide) (by decide)], fun j _ => by rw [q1 75 (by decide) (by decide)]⟩ (hM.kept (q1 67 (by decide) (by decide))) q3
  | n + 1, dp, v, path, w, told, S, I, Q, hn, hO, hd, hM, hRu, hP, hS, ht, hpa, h, z6, z7 => by
    have cv := hO.Cn
    have loop : ∀ (k a : Nat) (I1 : am_I) (z7 : Option Value), a + k = v 6 + 1 → PmF I I1 dp → MRep I1 67 v → SavR I1 dp v → PmR I1 m (sp_fo (fun act S => sp_try wt n (dp + 1) (sp_goU v act) (sp_pth path dp act) (w + sp_goW v act) (if act = 0 then told else told + 1) S) a S) → J (d + (n + 1) + 7) q_M_goesPlans 24 [some (.ref 66), some (.int (nI dp)), some (.int (nI m)), some (.int (nI w)), some (.int (nI told)), some (.int (nI wt)), some (.int (nI a)), z7] [] I1 Q := by
      intro k
      induction k with
      | zero =>
        intro a I1 z7 ha hF hM1 hS1 hP1
        have x6 : I1 67 6 = nI (v 6) := hM1 6 (by decide)
        have ea : a = v 6 + 1 := by omega
        refine am_vcl hJ [24] 200 ?_
        refine ⟨am_vin (by decide), ?_⟩
        refine br_t (by show I1 67 6 < nI a; rw [x6]; exact nI_lt (by omega) (by omega)) ?_
        subst ea
        exact h I1 hF hM1 hP1
      | succ k ih =>
        intro a I1 z7 ha hF hM1 hS1 hP1
        have x6 : I1 67 6 = nI (v 6) := hM1 6 (by decide)
        have hav : a ≤ v 6 := by omega
        have hOg := sp_goU_ok hO hav (by omega)
        obtain ⟨e0, e1, e6, e2⟩ := sp_goU_0 hO hav
        refine am_vcl hJ [24] 200 ?_
        refine ⟨am_vin (by decide), ?_⟩
        refine br_f (by show ¬ I1 67 6 < nI a; rw [x6, nI_ltI (by omega) (by omega)]; omega) ?_
        refine ⟨vp_in_nI (by omega) (by omega), ?_⟩
        rw [nI_clamp (n := dp) (by omega)]
        refine m_goesBy hJ (hM1.kept (am_put_o (by decide))) hRu hO hav (fun I3 q4 M3 => ?_)
        have f3 : ∀ o, o ≠ 67 → o ≠ 70 → o ≠ 76 → I3 o = I1 o := fun o o1 o2 o3 => by rw [q4 o o1 o2, am_put_o o3]
        have p3 : ∀ i, i ≤ dp → I3 76 i = sp_pth path dp a i := by
          intro i hi
          rw [q4 76 (by decide) (by decide)]
          unfold sp_pth
          by_cases z : i = dp
          · subst z
            rw [if_pos rfl, put_at]
          · rw [if_neg z, put_nk z, hF.2.2.1 i (by omega)]
            exact hpa i (by omega)
        have P3 : PmR I3 m (sp_fo (fun act S => sp_try wt n (dp + 1) (sp_goU v act) (sp_pth path dp act) (w + sp_goW v act) (if act = 0 then told else told + 1) S) a S) := hP1.kept (f3 66 (by decide) (by decide) (by decide)) (f3 77 (by decide) (by decide) (by decide))
        have S3 : PSok (sp_fo (fun act S => sp_try wt n (dp + 1) (sp_goU v act) (sp_pth path dp act) (w + sp_goW v act) (if act = 0 then told else told + 1) S) a S) := by
          refine sp_fo_ok PSok a S hS (fun b S hb hS => ?_)
          obtain ⟨g0, g1, g6, g2⟩ := sp_goU_0 hO (act := b) (by omega)
          refine sp_try_ok n (dp + 1) _ _ _ _ S (sp_goU_ok hO (by omega) (by omega)) (by omega) ?_ hS
          split <;> omega
        have go : ∀ (told' : Nat) (Q' : am_Q), told' = (if a = 0 then told else told + 1) → (∀ I4 : am_I, PmF I1 I4 dp → MRep I4 67 (sp_goU v a) → SavR I4 dp v → PmR I4 m (sp_fo (fun act S => sp_try wt n (dp + 1) (sp_goU v act) (sp_pth path dp act) (w + sp_goW v act) (if act = 0 then told else told + 1) S) (a + 1) S) → Q' none I4) → J (d + n + 7) q_M_goesPlans 0 [some (.ref 66), some (.int (nI (dp + 1))), some (.int (nI m)), some (.int (nI (w + sp_goW v a))), some (.int (nI told')), some (.int (nI wt)), none, none] [] I3 Q' := by
          intro told' Q' ht' hQ'
          refine m_goesPlans hJ hm hwt n (dp + 1) _ (sp_pth path dp a) (w + sp_goW v a) told' _ I3 _ (by omega) hOg (by omega) M3 (hRu.goU hO hav) P3 S3 (by rw [ht']; split <;> omega) (fun i hi => p3 i (by omega)) (fun I4 F4 M4 P4 => ?_) _ _
          rw [ht'] at P4
          have F14 : PmF I1 I4 dp := by
            refine ⟨fun o o1 o2 o3 o4 o5 o6 => by rw [F4.1 o o1 o2 o3 o4 o5 o6, f3 o o2 o3 o5], fun f hf => by rw [F4.2.1 f hf, f3 66 (by decide) (by decide) (by decide)], fun i hi => ?_, fun j hj => by rw [F4.2.2.2 j (by omega), f3 75 (by decide) (by decide) (by decide)]⟩
            rw [F4.2.2.1 i (by omega), p3 i (by omega)]
            unfold sp_pth
            rw [if_neg (by omega), hF.2.2.1 i hi]
            exact (hpa i hi).symm
          exact hQ' I4 F14 M4 (hS1.kept (fun j hj => by rw [F4.2.2.2 j hj, f3 75 (by decide) (by decide) (by decide)])) P4
        have fin : ∀ (I4 : am_I) (Q' : am_Q), PmF I1 I4 dp → MRep I4 67 (sp_goU v a) → SavR I4 dp v → PmR I4 m (sp_fo (fun act S => sp_try wt n (dp + 1) (sp_goU v act) (sp_pth path dp act) (w + sp_goW v act) (if act = 0 then told else told + 1) S) (a + 1) S) → (∀ I5 : am_I, J (d + (n + 1) + 7) q_M_goesPlans 24 [some (.ref 66), some (.int (nI dp)), some (.int (nI m)), some (.int (nI w)), some (.int (nI told)), some (.int (nI wt)), some (.int (nI a + 1)), some (.int (nI (sp_goW v a)))] [] I5 Q → Q' none I5) → J (d + n + 7) q_M_restores 0 [some (.ref 66), some (.int (nI dp)), none] [] I4 Q' := by
          intro I4 Q' F14 M4 S4 P4 hQ'
          refine m_restores hJ (by omega) M4 S4 (sp_goU_same hO hav).hi (fun I5 q5 M5 => ?_)
          have F15 : PmF I1 I5 dp := ⟨fun o o1 o2 o3 o4 o5 o6 => by rw [q5 o o2, F14.1 o o1 o2 o3 o4 o5 o6], fun f hf => by rw [q5 66 (by decide), F14.2.1 f hf], fun i hi => by rw [q5 76 (by decide), F14.2.2.1 i hi], fun j hj => by rw [q5 75 (by decide), F14.2.2.2 j hj]⟩
          have k9 := ih (a + 1) I5 (some (.int (nI (sp_goW v a)))) (by omega) (hF.trans F15) M5 (S4.kept (fun j _ => by rw [q5 75 (by decide)])) (P4.kept (q5 66 (by decide)) (q5 77 (by decide)))
          rw [← nI_1] at k9
          exact hQ' I5 k9
        by_cases ga : a = 0
        · refine br_t (by show nI a ≤ 0; rw [ga]; decide) ?_
          conv => whnf
          rw [show (fun x y => x + y) (nI dp) 1 = nI (dp + 1) from nI_1 dp, show (fun x y => x + y) (nI w) (nI (sp_goW v a)) = nI (w + sp_goW v a) from nI_add _ _]
          refine go told _ (by rw [if_pos ga]) (fun I4 F4 M4 S4 P4 => ?_)
          exact fin I4 _ F4 M4 S4 P4 (fun I5 k9 => k9)
        · refine br_f (by show ¬ nI a ≤ 0; exact nI_nle (by omega) (by omega)) ?_
          conv => whnf
          rw [show (fun x y => x + y) (nI dp) 1 = nI (dp + 1) from nI_1 dp, show (fun x y => x + y) (nI w) (nI (sp_goW v a)) = nI (w + sp_goW v a) from nI_add _ _, show (fun x y => x + y) (nI told) 1 = nI (told + 1) from nI_1 told]
          refine go (told + 1) _ (by rw [if_neg ga]) (fun I4 F4 M4 S4 P4 => ?_)
          exact fin I4 _ F4 M4 S4 P4 (fun I5 k9 => k9)
    refine am_vcc hJ [24] 200 _ _ _ _ _ _ _ ?_
    refine br_f (by show ¬ nI dp = nI m; rw [nI_eq (by omega) (by omega)]; omega) ?_
    refine m_saves hJ (by omega) hM (fun I1 q1 q2 q3 => ?_)
    exact loop (v 6 + 1) 0 I1 _ (by omega) ⟨fun o _ _ _ o4 _ _ => q1 o o4, fun f _ => by rw [q1 66 (by decide)], fun i _ => by rw [q1 76 (by decide)], q2⟩ (hM.kept (q1 67 (by decide))) q3 (hP.kept (q1 66 (by decide)) (q1 77 (by decide)))
end
