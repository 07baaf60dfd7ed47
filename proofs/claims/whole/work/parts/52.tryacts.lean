theorem RRep.plf {I I' : am_I} {dp : Nat} {v : am_U} (h : RRep I 8 v) (hf : PlF I I' dp) : RRep I' 8 v := h.kept (fun o ho _ => by
  have : ∀ o ∈ am_mc, o ≠ 18 ∧ o ≠ 43 ∧ o ≠ 45 ∧ o ≠ 46 ∧ (o ≤ 47 ∨ 51 < o) := by decide
  have q := this o ho
  exact hf.1 o q.1 q.2.1 q.2.2.1 q.2.2.2.1 (by omega))
section
variable {L : Nat} {xs : Nat → Int32} {J : am_J} {d : Nat}
theorem x_tryActs (hJ : am_Cl am_meth L xs J) {m wt u2 : Nat} (hm : m ≤ 4) : ∀ (n dp : Nat) (v : am_U) (path : Nat → Int32) (w told : Nat) (S : PS) (I : am_I) (Q : am_Q), dp + n = m → OKu v → v 0 + n ≤ v 1 → RRep I 8 v → CRep I (47 + dp) v → I 47 3 = nI u2 → v 2 = u2 + w → PlR I m wt S → PSok S → told + n ≤ 4 → (∀ i, i < dp → I 45 i = path i) → (∀ I' : am_I, PlF I I' dp → PlR I' m wt (sp_try wt n dp v path w told S) → Q none I') → ∀ z3 z4 : Option Value, J (d + n + 5) q_Planner_tryActs 0 [some (.ref 43), some (.int (nI dp)), some (.int (nI told)), z3, z4] [] I Q
  | 0, dp, v, path, w, told, S, I, Q, hn, hO, hd, hR, hC, h47, hv2, hP, hS, ht, hpa, h, z3, z4 => by
    have p4 : I 43 4 = nI m := hP.2.1
    have hdp : dp = m := by omega
    refine am_vc hJ 30 _ _ _ _ _ _ _ ?_
    refine br_f (by show ¬ nI dp < I 43 4; rw [p4, nI_ltI (by omega) (by omega)]; omega) ?_
    refine ⟨vp_in_nI (by omega) (by omega), ?_⟩
    rw [nI_clamp (by omega), am_R44 dp (by omega)]
    refine x_weighPlan (c := 47 + dp) hJ (am_lv dp (by omega)) ⟨by omega, by omega⟩ (fedN_lt hO.fed) hC.2.2 hC.day.2.2.2 hP hS hm (by omega) h47 hv2 (fun i hi => hpa i (by omega)) (fun I' q1 q2 => ?_)
    exact h I' ⟨fun o _ o2 _ o4 _ => q1 o o2 o4, fun i _ => by rw [q1 45 (by decide) (by decide)]⟩ q2
  | n + 1, dp, v, path, w, told, S, I, Q, hn, hO, hd, hR, hC, h47, hv2, hP, hS, ht, hpa, h, z3, z4 => by
    have p4 : I 43 4 = nI m := hP.2.1
    have cv := hO.Cn
    have loop : ∀ (k a : Nat) (I1 : am_I), a + k = v 6 + 1 → PlF I I1 dp → PlR I1 m wt (sp_fo (fun act S => sp_try wt n (dp + 1) (sp_goU v act) (sp_pth path dp act) (w + sp_goW v act) (if act = 0 then told else told + 1) S) a S) → J (d + (n + 1) + 5) q_Planner_tryActs 32 [some (.ref 43), some (.int (nI dp)), some (.int (nI told)), some (.ref (47 + (dp + 1))), some (.int (nI a))] [] I1 Q := by
      intro k
      induction k with
      | zero =>
        intro a I1 ha hF hP1
        have x6 : I1 8 2 = nI (v 6) := (hR.plf hF).1.get 8 2 6 (by decide +kernel)
        have ea : a = v 6 + 1 := by omega
        refine am_vcl hJ [32] 200 ?_
        refine br_t (by show I1 8 2 < nI a; rw [x6]; exact nI_lt (by omega) (by omega)) ?_
        subst ea
        exact h I1 hF hP1
      | succ k ih =>
        intro a I1 ha hF hP1
        have R1 := hR.plf hF
        have x6 : I1 8 2 = nI (v 6) := R1.1.get 8 2 6 (by decide +kernel)
        have hav : a ≤ v 6 := by omega
        have C1 : CRep I1 (47 + dp) v := hC.kept (hF.1 _ (by omega) (by omega) (by omega) (by omega) (by omega))
        have hOg := sp_goU_ok hO hav (by omega)
        obtain ⟨e0, e1, e6, e2⟩ := sp_goU_0 hO hav
        refine am_vcl hJ [32] 200 ?_
        refine br_f (by show ¬ I1 8 2 < nI a; rw [x6, nI_ltI (by omega) (by omega)]; omega) ?_
        refine ⟨vp_in_nI (by omega) (by omega), ?_⟩
        refine ⟨vp_in_nI (by omega) (by omega), ?_⟩
        rw [nI_clamp (n := dp) (by omega), am_R44 dp (by omega)]
        conv => whnf
        rw [am_clG (47 + (dp + 1)) (am_lv (dp + 1) (by omega))]
        refine x_copyFrom hJ (am_lv (dp + 1) (by omega)) (am_lv dp (by omega)) (by omega) (fun I2 q2 q3 => ?_)
        have f2 : ∀ o, o ≠ 45 → o ≠ 47 + (dp + 1) → I2 o = I1 o := fun o o1 o2 => by rw [q2 o o2, am_put_o o1]
        have C2 : CRep I2 (47 + (dp + 1)) v := (C1.kept (am_put_o (by omega))).copy q3
        have R2 : RRep I2 8 v := R1.kept (fun o ho _ => f2 o (by rintro rfl; revert ho; decide) (by
          have : ∀ o ∈ am_mc, o ≤ 47 ∨ 51 < o := by decide
          have := this o ho
          omega))
        refine x_goBy hJ (am_lv (dp + 1) (by omega)) R2 C2 hO hav (fun I3 q4 R3 C3 => ?_)
        have f3 : ∀ o, o ≠ 45 → o ≠ 47 + (dp + 1) → o ≠ 18 → I3 o = I1 o := fun o o1 o2 o3 => by rw [q4 o o2 o3, f2 o o1 o2]
        have p3 : ∀ i, i ≤ dp → I3 45 i = sp_pth path dp a i := by
          intro i hi
          rw [q4 45 (by omega) (by decide), q2 45 (by omega)]
          unfold sp_pth
          by_cases z : i = dp
          · subst z
            rw [if_pos rfl, put_at]
          · rw [if_neg z, put_nk z, hF.2 i (by omega)]
            exact hpa i (by omega)
        have P3 : PlR I3 m wt (sp_fo (fun act S => sp_try wt n (dp + 1) (sp_goU v act) (sp_pth path dp act) (w + sp_goW v act) (if act = 0 then told else told + 1) S) a S) := hP1.kept (f3 43 (by decide) (by omega) (by decide)) (f3 46 (by decide) (by omega) (by decide))
        have S3 : PSok (sp_fo (fun act S => sp_try wt n (dp + 1) (sp_goU v act) (sp_pth path dp act) (w + sp_goW v act) (if act = 0 then told else told + 1) S) a S) := by
          refine sp_fo_ok PSok a S hS (fun b S hb hS => ?_)
          obtain ⟨g0, g1, g6, g2⟩ := sp_goU_0 hO (act := b) (by omega)
          refine sp_try_ok n (dp + 1) _ _ _ _ S (sp_goU_ok hO (by omega) (by omega)) (by omega) ?_ hS
          split <;> omega
        have go : ∀ (told' : Nat) (Q' : am_Q), told' = (if a = 0 then told else told + 1) → (∀ I4 : am_I, J (d + (n + 1) + 5) q_Planner_tryActs 32 [some (.ref 43), some (.int (nI dp)), some (.int (nI told)), some (.ref (47 + (dp + 1))), some (.int (nI a + 1))] [] I4 Q → Q' none I4) → J (d + n + 5) q_Planner_tryActs 0 [some (.ref 43), some (.int (nI (dp + 1))), some (.int (nI told')), none, none] [] I3 Q' := by
          intro told' Q' ht' hQ'
          refine x_tryActs (u2 := u2) hJ hm n (dp + 1) _ (sp_pth path dp a) (w + sp_goW v a) told' _ I3 _ (by omega) hOg (by omega) R3 C3 ?_ (by omega) P3 S3 (by rw [ht']; split <;> omega) (fun i hi => p3 i (by omega)) (fun I4 F4 P4 => ?_) _ _
          · rw [f3 47 (by decide) (by omega) (by decide), hF.1 47 (by decide) (by decide) (by decide) (by decide) (by omega)]
            exact h47
          · rw [ht'] at P4
            have F14 : PlF I1 I4 dp := by
              refine ⟨fun o o1 o2 o3 o4 o5 => by rw [F4.1 o o1 o2 o3 o4 (by omega), f3 o o3 (by omega) o1], fun i hi => ?_⟩
              rw [F4.2 i (by omega), p3 i (by omega)]
              unfold sp_pth
              rw [if_neg (by omega), hF.2 i hi]
              exact (hpa i hi).symm
            have k9 := ih (a + 1) I4 (by omega) (hF.trans F14) P4
            rw [← nI_1] at k9
            exact hQ' I4 k9
        by_cases ga : a = 0
        · refine br_t (by show nI a = 0; rw [ga]; rfl) ?_
          conv => whnf
          rw [show (fun x y => x + y) (nI dp) 1 = nI (dp + 1) from nI_1 dp]
          exact go told _ (by rw [if_pos ga]) (fun I4 k9 => k9)
        · refine br_f (by show ¬ nI a = 0; exact nI_ne0 (by omega) (by omega)) ?_
          conv => whnf
          rw [show (fun x y => x + y) (nI dp) 1 = nI (dp + 1) from nI_1 dp, show (fun x y => x + y) (nI told) 1 = nI (told + 1) from nI_1 told]
          exact go (told + 1) _ (by rw [if_neg ga]) (fun I4 k9 => k9)
    refine am_vcc hJ [32] 200 _ _ _ _ _ _ _ ?_
    refine br_t (by show nI dp < I 43 4; rw [p4, nI_ltI (by omega) (by omega)]; omega) ?_
    have ei : nI dp + 1 = nI (dp + 1) := nI_1 dp
    refine ⟨am_vinN ei (by omega) (by omega), ?_⟩
    rw [am_clN ei (by omega), am_R44 (dp + 1) (by omega)]
    exact loop (v 6 + 1) 0 I (by omega) (PlF.refl I dp) hP
end
