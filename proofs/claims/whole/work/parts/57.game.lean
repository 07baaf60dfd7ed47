/-! THE GAME -/
def sp_bt (dp v val : Nat) : Bool := if dp % 2 = 0 then decide (val < v) else decide (v < val)
def sp_gf (dp : Nat) (f : Nat → Nat) : Nat → Nat × Nat
  | 0 => (f 0, 0)
  | a + 1 => if sp_bt dp (f (a + 1)) (sp_gf dp f a).1 = true then (f (a + 1), a + 1) else sp_gf dp f a
theorem sp_gf_succ (dp : Nat) (f : Nat → Nat) (a : Nat) : sp_gf dp f (a + 1) = if sp_bt dp (f (a + 1)) (sp_gf dp f a).1 = true then (f (a + 1), a + 1) else sp_gf dp f a := rfl
def sp_gw (g : am_U → Nat) (v : am_U) : Nat → Nat := fun act => sp_goW v act + g (sp_goU v act)
def sp_gm : Nat → Nat → am_U → Nat
  | 0, _, _ => 0
  | n + 1, dp, v => (sp_gf dp (sp_gw (sp_gm n (dp + 1)) v) (v 6)).1
def sp_gc : Nat → Nat → am_U → Nat
  | 0, _, _ => 0
  | n + 1, dp, v => (sp_gf dp (sp_gw (sp_gm n (dp + 1)) v) (v 6)).2
theorem sp_gf_ex (dp : Nat) (f : Nat → Nat) : ∀ a, ∃ b, b ≤ a ∧ (sp_gf dp f a).1 = f b ∧ (sp_gf dp f a).2 ≤ a
  | 0 => ⟨0, Nat.le_refl _, rfl, Nat.le_refl _⟩
  | a + 1 => by
    obtain ⟨b, h1, h2, h3⟩ := sp_gf_ex dp f a
    rw [sp_gf_succ]
    split
    · exact ⟨a + 1, Nat.le_refl _, rfl, Nat.le_refl _⟩
    · exact ⟨b, by omega, h2, by omega⟩
theorem sp_gm_le : ∀ (n dp : Nat) (v : am_U), OKu v → v 0 + n ≤ v 1 → sp_gm n dp v ≤ 36 * n
  | 0, _, _, _, _ => Nat.zero_le _
  | n + 1, dp, v, hO, hd => by
    obtain ⟨b, h1, h2, -⟩ := sp_gf_ex dp (sp_gw (sp_gm n (dp + 1)) v) (v 6)
    show (sp_gf dp (sp_gw (sp_gm n (dp + 1)) v) (v 6)).1 ≤ _
    rw [h2]
    obtain ⟨e0, e1, e6, e2⟩ := sp_goU_0 hO h1
    have i1 := sp_gm_le n (dp + 1) (sp_goU v b) (sp_goU_ok hO h1 (by omega)) (by omega)
    have i2 := sp_goW_le hO h1
    unfold sp_gw
    omega
theorem sp_gw_le {n dp b : Nat} {v : am_U} (hO : OKu v) (hd : v 0 + (n + 1) ≤ v 1) (h1 : b ≤ v 6) : sp_gw (sp_gm n (dp + 1)) v b ≤ 36 * (n + 1) := by
  obtain ⟨e0, e1, e6, e2⟩ := sp_goU_0 hO h1
  have i1 := sp_gm_le n (dp + 1) (sp_goU v b) (sp_goU_ok hO h1 (by omega)) (by omega)
  have i2 := sp_goW_le hO h1
  unfold sp_gw
  omega
def GF (I I' : am_I) (dp : Nat) : Prop := (∀ o, o ≠ 18 → o ≠ 43 → o ≤ 47 + dp ∨ 51 < o → I' o = I o) ∧ (∀ f, f ≠ 10 → I' 43 f = I 43 f) ∧ (dp ≠ 0 → I' 43 10 = I 43 10)
theorem GF.refl (I : am_I) (dp : Nat) : GF I I dp := ⟨fun _ _ _ _ => rfl, fun _ _ => rfl, fun _ => rfl⟩
theorem GF.trans {I I' I'' : am_I} {dp : Nat} (h : GF I I' dp) (g : GF I' I'' dp) : GF I I'' dp := ⟨fun o a b c => by rw [g.1 o a b c, h.1 o a b c], fun f hf => by rw [g.2.1 f hf, h.2.1 f hf], fun z => by rw [g.2.2 z, h.2.2 z]⟩
theorem RRep.gf {I I' : am_I} {dp : Nat} {v : am_U} (h : RRep I 8 v) (hf : GF I I' dp) : RRep I' 8 v := h.kept (fun o ho _ => by
  have : ∀ o ∈ am_mc, o ≠ 18 ∧ o ≠ 43 ∧ (o ≤ 47 ∨ 51 < o) := by decide
  have q := this o ho
  exact hf.1 o q.1 q.2.1 (by omega))
section
variable {L : Nat} {xs : Nat → Int32} {J : am_J} {d : Nat}
theorem x_valueFrom (hJ : am_Cl am_meth L xs J) {m : Nat} (hm : m ≤ 4) : ∀ (n dp : Nat) (v : am_U) (I : am_I) (Q : am_Q), dp + n = m → OKu v → v 0 + n ≤ v 1 → RRep I 8 v → CRep I (47 + dp) v → I 43 4 = nI m → (∀ I' : am_I, GF I I' dp → (dp = 0 → n ≠ 0 → I' 43 10 = nI (sp_gc n dp v)) → Q (some (.int (nI (sp_gm n dp v)))) I') → ∀ z2 z3 z4 z5 z6 : Option Value, J (d + n + 5) q_Planner_valueFrom 0 [some (.ref 43), some (.int (nI dp)), z2, z3, z4, z5, z6] [] I Q
  | 0, dp, v, I, Q, hn, hO, hd, hR, hC, p4, h, z2, z3, z4, z5, z6 => by
    refine am_vc hJ 30 _ _ _ _ _ _ _ ?_
    refine br_f (by show ¬ nI dp < I 43 4; rw [p4, nI_ltI (by omega) (by omega)]; omega) ?_
    exact h I (GF.refl I dp) (fun _ z => absurd rfl z)
  | n + 1, dp, v, I, Q, hn, hO, hd, hR, hC, p4, h, z2, z3, z4, z5, z6 => by
    have cv := hO.Cn
    have loop : ∀ (k a : Nat) (I1 : am_I) (val : Int32) (z6 : Option Value), a + k = v 6 + 1 → GF I I1 dp → (∀ b, a = b + 1 → val = nI (sp_gf dp (sp_gw (sp_gm n (dp + 1)) v) b).1 ∧ (dp = 0 → I1 43 10 = nI (sp_gf dp (sp_gw (sp_gm n (dp + 1)) v) b).2)) → J (d + (n + 1) + 5) q_Planner_valueFrom 37 [some (.ref 43), some (.int (nI dp)), some (.int (if dp % 2 = 0 then 1 else 0)), some (.ref (47 + (dp + 1))), some (.int val), some (.int (nI a)), z6] [] I1 Q := by
      intro k
      induction k with
      | zero =>
        intro a I1 val z6 ha hF hv
        have x6 : I1 8 2 = nI (v 6) := (hR.gf hF).1.get 8 2 6 (by decide +kernel)
        have ea : a = v 6 + 1 := by omega
        obtain ⟨v1, v2⟩ := hv (v 6) ea
        refine am_vcl hJ [37] 200 ?_
        refine br_t (by show I1 8 2 < nI a; rw [x6]; exact nI_lt (by omega) (by omega)) ?_
        have k9 := h I1 hF (fun z _ => v2 z)
        show Q (some (.int val)) I1
        rw [v1]
        exact k9
      | succ k ih =>
        intro a I1 val z6 ha hF hv
        have R1 := hR.gf hF
        have x6 : I1 8 2 = nI (v 6) := R1.1.get 8 2 6 (by decide +kernel)
        have hav : a ≤ v 6 := by omega
        have C1 : CRep I1 (47 + dp) v := hC.kept (hF.1 _ (by omega) (by omega) (by omega))
        have hOg := sp_goU_ok hO hav (by omega)
        obtain ⟨e0, e1, e6, e2⟩ := sp_goU_0 hO hav
        have hwl := sp_gw_le (n := n) (dp := dp) hO hd hav
        have at119 : ∀ (I4 : am_I) (val4 : Int32), GF I I4 dp → (val4 = nI (sp_gf dp (sp_gw (sp_gm n (dp + 1)) v) a).1 ∧ (dp = 0 → I4 43 10 = nI (sp_gf dp (sp_gw (sp_gm n (dp + 1)) v) a).2)) → J (d + (n + 1) + 5) q_Planner_valueFrom 119 [some (.ref 43), some (.int (nI dp)), some (.int (if dp % 2 = 0 then 1 else 0)), some (.ref (47 + (dp + 1))), some (.int val4), some (.int (nI a)), some (.int (nI (sp_gw (sp_gm n (dp + 1)) v a)))] [] I4 Q := by
          intro I4 val4 hF4 hv4
          have k9 := ih (a + 1) I4 val4 (some (.int (nI (sp_gw (sp_gm n (dp + 1)) v a)))) (by omega) hF4 (fun b hb => by
            have : b = a := by omega
            subst this
            exact hv4)
          rw [← nI_1] at k9
          refine am_vcc hJ [37] 200 _ _ _ _ _ _ _ ?_
          exact k9
        have at105 : ∀ (I4 : am_I) (val4 : Int32), GF I I4 dp → sp_gf dp (sp_gw (sp_gm n (dp + 1)) v) a = (sp_gw (sp_gm n (dp + 1)) v a, a) → J (d + (n + 1) + 5) q_Planner_valueFrom 105 [some (.ref 43), some (.int (nI dp)), some (.int (if dp % 2 = 0 then 1 else 0)), some (.ref (47 + (dp + 1))), some (.int val4), some (.int (nI a)), some (.int (nI (sp_gw (sp_gm n (dp + 1)) v a)))] [] I4 Q := by
          intro I4 val4 hF4 hg
          refine am_vcc hJ [37, 119] 200 _ _ _ _ _ _ _ ?_
          by_cases z : dp = 0
          · refine br_t (by show nI dp = 0; rw [z]; rfl) ?_
            refine at119 (am_put I4 43 10 (nI a)) _ (hF4.trans ⟨fun o _ o2 _ => am_put_o o2, fun f hf => put_nk hf, fun q => absurd z q⟩) ⟨by rw [hg], fun _ => by rw [put_at, hg]⟩
          · refine br_f (by show ¬ nI dp = 0; exact nI_ne0 (by omega) (by omega)) ?_
            exact at119 I4 _ hF4 ⟨by rw [hg], fun q => absurd q z⟩
        refine am_vcl hJ [37, 105, 119] 200 ?_
        refine br_f (by show ¬ I1 8 2 < nI a; rw [x6, nI_ltI (by omega) (by omega)]; omega) ?_
        refine ⟨vp_in_nI (by omega) (by omega), ?_⟩
        rw [nI_clamp (n := dp) (by omega), am_R44 dp (by omega)]
        conv => whnf
        rw [am_clG (47 + (dp + 1)) (am_lv (dp + 1) (by omega))]
        refine x_copyFrom hJ (am_lv (dp + 1) (by omega)) (am_lv dp (by omega)) (by omega) (fun I2 q2 q3 => ?_)
        have C2 : CRep I2 (47 + (dp + 1)) v := C1.copy q3
        have R2 : RRep I2 8 v := R1.kept (fun o ho _ => q2 o (by
          have : ∀ o ∈ am_mc, o ≤ 47 ∨ 51 < o := by decide
          have := this o ho
          omega))
        refine x_goBy hJ (am_lv (dp + 1) (by omega)) R2 C2 hO hav (fun I3 q4 R3 C3 => ?_)
        have f3 : ∀ o, o ≠ 47 + (dp + 1) → o ≠ 18 → I3 o = I1 o := fun o o2 o3 => by rw [q4 o o2 o3, q2 o o2]
        have go : ∀ Q' : am_Q, (∀ I4 : am_I, GF I I4 dp → (∀ b, a = b + 1 → dp = 0 → I4 43 10 = nI (sp_gf dp (sp_gw (sp_gm n (dp + 1)) v) b).2) → Q' (some (.int (nI (sp_gm n (dp + 1) (sp_goU v a))))) I4) → J (d + n + 5) q_Planner_valueFrom 0 [some (.ref 43), some (.int (nI (dp + 1))), none, none, none, none, none] [] I3 Q' := by
          intro Q' hQ'
          refine x_valueFrom hJ hm n (dp + 1) _ I3 _ (by omega) hOg (by omega) R3 C3 ?_ (fun I4 F4 _ => ?_) _ _ _ _ _
          · rw [f3 43 (by omega) (by decide), hF.2.1 4 (by decide)]
            exact p4
          · have F14 : GF I1 I4 dp := ⟨fun o o1 o2 o3 => by rw [F4.1 o o1 o2 (by omega), f3 o (by omega) o1], fun f hf => by rw [F4.2.1 f hf, f3 43 (by omega) (by decide)], fun _ => by rw [F4.2.2 (by omega), f3 43 (by omega) (by decide)]⟩
            refine hQ' I4 (hF.trans F14) (fun b hb hz => ?_)
            rw [F4.2.2 (by omega), f3 43 (by omega) (by decide)]
            exact (hv b hb).2 hz
        conv => whnf
        rw [show (fun x y => x + y) (nI dp) 1 = nI (dp + 1) from nI_1 dp]
        refine go _ (fun I4 F4 V4 => ?_)
        conv => whnf
        rw [show (fun x y => x + y) (nI (sp_goW v a)) (nI (sp_gm n (dp + 1) (sp_goU v a))) = nI (sp_gw (sp_gm n (dp + 1)) v a) from nI_add _ _]
        by_cases ga : a = 0
        · refine br_t (by show nI a = 0; rw [ga]; rfl) ?_
          exact at105 I4 val F4 (by subst ga; rfl)
        · refine br_f (by show ¬ nI a = 0; exact nI_ne0 (by omega) (by omega)) ?_
          obtain ⟨b, rfl⟩ : ∃ b, a = b + 1 := ⟨a - 1, by omega⟩
          obtain ⟨v1, v2⟩ := hv b rfl
          obtain ⟨c, hc1, hc2, -⟩ := sp_gf_ex dp (sp_gw (sp_gm n (dp + 1)) v) b
          have hcl := sp_gw_le (n := n) (dp := dp) hO hd (b := c) (by omega)
          have hs := sp_gf_succ dp (sp_gw (sp_gm n (dp + 1)) v) b
          have hbl : (sp_gf dp (sp_gw (sp_gm n (dp + 1)) v) b).1 ≤ 36 * (n + 1) := by rw [hc2]; exact hcl
          have keep : ¬ sp_bt dp (sp_gw (sp_gm n (dp + 1)) v (b + 1)) (sp_gf dp (sp_gw (sp_gm n (dp + 1)) v) b).1 = true → J (d + (n + 1) + 5) q_Planner_valueFrom 119 [some (.ref 43), some (.int (nI dp)), some (.int (if dp % 2 = 0 then 1 else 0)), some (.ref (47 + (dp + 1))), some (.int val), some (.int (nI (b + 1))), some (.int (nI (sp_gw (sp_gm n (dp + 1)) v (b + 1))))] [] I4 Q := by
            intro z
            rw [if_neg z] at hs
            exact at119 I4 val F4 (by rw [hs]; exact ⟨v1, fun z => V4 b rfl z⟩)
          have take : sp_bt dp (sp_gw (sp_gm n (dp + 1)) v (b + 1)) (sp_gf dp (sp_gw (sp_gm n (dp + 1)) v) b).1 = true → J (d + (n + 1) + 5) q_Planner_valueFrom 105 [some (.ref 43), some (.int (nI dp)), some (.int (if dp % 2 = 0 then 1 else 0)), some (.ref (47 + (dp + 1))), some (.int val), some (.int (nI (b + 1))), some (.int (nI (sp_gw (sp_gm n (dp + 1)) v (b + 1))))] [] I4 Q := by
            intro z
            rw [if_pos z] at hs
            exact at105 I4 val F4 hs
          by_cases gd : dp % 2 = 0
          · have eb : sp_bt dp (sp_gw (sp_gm n (dp + 1)) v (b + 1)) (sp_gf dp (sp_gw (sp_gm n (dp + 1)) v) b).1 = decide ((sp_gf dp (sp_gw (sp_gm n (dp + 1)) v) b).1 < sp_gw (sp_gm n (dp + 1)) v (b + 1)) := by unfold sp_bt; rw [if_pos gd]
            refine br_f (by show ¬ (if dp % 2 = 0 then (1 : Int32) else 0) = 0; rw [if_pos gd]; decide) ?_
            refine ⟨fun z => ?_, fun z => ?_⟩
            · have z : nI (sp_gw (sp_gm n (dp + 1)) v (b + 1)) ≤ val := z
              rw [v1, nI_leI (by omega) (by omega)] at z
              exact keep (by rw [eb, decide_eq_true_eq]; omega)
            · have z : ¬ nI (sp_gw (sp_gm n (dp + 1)) v (b + 1)) ≤ val := z
              rw [v1, nI_leI (by omega) (by omega)] at z
              exact take (by rw [eb, decide_eq_true_eq]; omega)
          · have eb : sp_bt dp (sp_gw (sp_gm n (dp + 1)) v (b + 1)) (sp_gf dp (sp_gw (sp_gm n (dp + 1)) v) b).1 = decide (sp_gw (sp_gm n (dp + 1)) v (b + 1) < (sp_gf dp (sp_gw (sp_gm n (dp + 1)) v) b).1) := by unfold sp_bt; rw [if_neg gd]
            refine br_t (by show (if dp % 2 = 0 then (1 : Int32) else 0) = 0; rw [if_neg gd]) ?_
            refine ⟨fun z => ?_, fun z => ?_⟩
            · have z : val ≤ nI (sp_gw (sp_gm n (dp + 1)) v (b + 1)) := z
              rw [v1, nI_leI (by omega) (by omega)] at z
              exact keep (by rw [eb, decide_eq_true_eq]; omega)
            · have z : ¬ val ≤ nI (sp_gw (sp_gm n (dp + 1)) v (b + 1)) := z
              rw [v1, nI_leI (by omega) (by omega)] at z
              exact take (by rw [eb, decide_eq_true_eq]; omega)
    have k9 := loop (v 6 + 1) 0 I 0 z6 (by omega) (GF.refl I dp) (fun b hb => by omega)
    refine am_vcc hJ [37] 200 _ _ _ _ _ _ _ ?_
    refine br_t (by show nI dp < I 43 4; rw [p4]; exact nI_lt (by omega) (by omega)) ?_
    refine ⟨by decide, ?_⟩
    by_cases gd : dp % 2 = 0
    · refine br_t ((nI_mod2 dp (by omega)).mpr gd) ?_
      have ei : nI dp + 1 = nI (dp + 1) := nI_1 dp
      refine ⟨am_vinN ei (by omega) (by omega), ?_⟩
      rw [if_pos gd] at k9
      rw [am_clN ei (by omega), am_R44 (dp + 1) (by omega)]
      exact k9
    · refine br_f (fun z => gd ((nI_mod2 dp (by omega)).mp z)) ?_
      have ei : nI dp + 1 = nI (dp + 1) := nI_1 dp
      refine ⟨am_vinN ei (by omega) (by omega), ?_⟩
      rw [if_neg gd] at k9
      rw [am_clN ei (by omega), am_R44 (dp + 1) (by omega)]
      exact k9
theorem x_valueOfGame (hJ : am_Cl am_meth L xs J) {I : am_I} {Q : am_Q} {u : am_U} {n : Nat} (hR : RRep I 8 u) (hC : CRep I 9 u) (hO : OKu u) (hn : n ≤ 4) (h : ∀ I' : am_I, (∀ o, o ≠ 18 → (o < 43 ∨ 51 < o) → I' o = I o) → (sp_m u n ≠ 0 → I' 43 10 = nI (sp_gc (sp_m u n) 0 u)) → Q (some (.int (nI (sp_gm (sp_m u n) 0 u)))) I') : J (d + 10) q_Planner_valueOfGame 0 [some (.ref 43), some (.int (nI n))] [] I Q := by
  have hle := sp_m_le (u := u) (n := n)
  have c := hO.2.1
  refine am_vc hJ 40 _ _ _ _ _ _ _ ?_
  refine x_start hJ hR hC hO hn (fun I1 q1 q2 q3 C1 => ?_)
  have R1 : RRep I1 8 u := hR.kept (fun o ho _ => q1 o (by rintro rfl; revert ho; decide) (by rintro rfl; revert ho; decide))
  have k9 := fun (Q' : am_Q) (hQ' : ∀ v I', Q (some (.int v)) I' → Q' (some (.int v)) I') => x_valueFrom (d := d + 4 - sp_m u n) hJ (m := sp_m u n) (by omega) (sp_m u n) 0 u (am_put I1 43 10 0) Q' (Nat.zero_add _) hO (by omega)
    (R1.kept (fun o ho _ => am_put_o (by rintro rfl; revert ho; decide))) (C1.kept (am_put_o (by decide))) (by rw [put_nk (by decide)]; exact q3) (fun I' f1 f2 => hQ' _ I' (h I' (fun o o1 o2 => by rw [f1.1 o o1 (by omega) (by omega), am_put_o (by omega), q1 o (by omega) (by omega)]) (fun z => f2 rfl z))) none none none none none
  rw [show d + 4 - sp_m u n + sp_m u n + 5 = d + 9 by omega] at k9
  exact k9 _ (fun _ _ q => q)
/-! the reference -/
def GmF (I I' : am_I) (dp : Nat) : Prop := (∀ o, o ≠ 67 → o ≠ 70 → o ≠ 75 → o ≠ 76 → I' o = I o) ∧ (∀ i, i < dp → I' 76 i = I 76 i) ∧ ∀ j, j < 74 * dp → I' 75 j = I 75 j
theorem GmF.trans {I I' I'' : am_I} {dp : Nat} (h : GmF I I' dp) (g : GmF I' I'' dp) : GmF I I'' dp := ⟨fun o a b c e => by rw [g.1 o a b c e, h.1 o a b c e], fun i hi => by rw [g.2.1 i hi, h.2.1 i hi], fun j hj => by rw [g.2.2 j hj, h.2.2 j hj]⟩
theorem m_playedFrom (hJ : am_Cl am_meth L xs J) {m : Nat} {cd : Nat → Int32} (hm : m ≤ 4) : ∀ (n dp : Nat) (v : am_U) (I : am_I) (Q : am_Q), dp + n = m → OKu v → v 0 + n ≤ v 1 → MRep I 67 v → RuR cd v → (∀ I' : am_I, GmF I I' dp → MRep I' 67 v → (n ≠ 0 → I' 76 dp = nI (sp_gc n dp v)) → Q (some (.int (nI (sp_gm n dp v)))) I') → ∀ z3 z4 z5 z6 z7 z8 : Option Value, J (d + n + 7) q_M_playedFrom 0 [some (.ref 66), some (.int (nI dp)), some (.int (nI m)), z3, z4, z5, z6, z7, z8] [] I Q
  | 0, dp, v, I, Q, hn, hO, hd, hM, hRu, h, z3, z4, z5, z6, z7, z8 => by
    have hdp : dp = m := by omega
    refine am_vc hJ 30 _ _ _ _ _ _ _ ?_
    refine br_t (by show nI dp = nI m; rw [hdp]) ?_
    exact h I ⟨fun _ _ _ _ _ => rfl, fun _ _ => rfl, fun _ _ => rfl⟩ hM (fun z => absurd rfl z)
  | n + 1, dp, v, I, Q, hn, hO, hd, hM, hRu, h, z3, z4, z5, z6, z7, z8 => by
    have cv := hO.Cn
    have loop : ∀ (k a : Nat) (I1 : am_I) (val cho : Int32) (z6 z7 z8 : Option Value), a + k = v 6 + 1 → GmF I I1 dp → MRep I1 67 v → SavR I1 dp v → (a = 0 → cho = -1) → (∀ b, a = b + 1 → val = nI (sp_gf dp (sp_gw (sp_gm n (dp + 1)) v) b).1 ∧ cho = nI (sp_gf dp (sp_gw (sp_gm n (dp + 1)) v) b).2) → J (d + (n + 1) + 7) q_M_playedFrom 20 [some (.ref 66), some (.int (nI dp)), some (.int (nI m)), some (.int val), some (.int cho), some (.int (nI a)), z6, z7, z8] [] I1 Q := by
      intro k
      induction k with
      | zero =>
        intro a I1 val cho z6 z7 z8 ha hF hM1 hS1 h0 hv
        have x6 : I1 67 6 = nI (v 6) := hM1 6 (by decide)
        have ea : a = v 6 + 1 := by omega
        obtain ⟨v1, v2⟩ := hv (v 6) ea
        refine am_vcl hJ [20] 200 ?_
        refine ⟨am_vin (by decide), ?_⟩
        refine br_t (by show I1 67 6 < nI a; rw [x6]; exact nI_lt (by omega) (by omega)) ?_
        refine ⟨vp_in_nI (by omega) (by omega), ?_⟩
        rw [nI_clamp (n := dp) (by omega)]
        have k9 := h (am_put I1 76 dp cho) (hF.trans ⟨fun o _ _ _ o4 => am_put_o o4, fun i hi => put_nk (by omega), fun j _ => by rw [am_put_o (by decide)]⟩) (hM1.kept (am_put_o (by decide))) (fun _ => by rw [put_at]; exact v2)
        show Q (some (.int val)) _
        rw [v1]
        exact k9
      | succ k ih =>
        intro a I1 val cho z6 z7 z8 ha hF hM1 hS1 h0 hv
        have x6 : I1 67 6 = nI (v 6) := hM1 6 (by decide)
        have hav : a ≤ v 6 := by omega
        have hOg := sp_goU_ok hO hav (by omega)
        obtain ⟨e0, e1, e6, e2⟩ := sp_goU_0 hO hav
        have hwl := sp_gw_le (n := n) (dp := dp) hO hd hav
        have nxt : ∀ (I5 : am_I) (val5 cho5 : Int32) (z8 : Option Value), GmF I I5 dp → MRep I5 67 v → SavR I5 dp v → val5 = nI (sp_gf dp (sp_gw (sp_gm n (dp + 1)) v) a).1 → cho5 = nI (sp_gf dp (sp_gw (sp_gm n (dp + 1)) v) a).2 → J (d + (n + 1) + 7) q_M_playedFrom 20 [some (.ref 66), some (.int (nI dp)), some (.int (nI m)), some (.int val5), some (.int cho5), some (.int (nI a + 1)), some (.int (nI (sp_goW v a))), some (.int (nI (sp_gw (sp_gm n (dp + 1)) v a))), z8] [] I5 Q := by
          intro I5 val5 cho5 z8 hF5 M5 S5 hv5 hc5
          have k9 := ih (a + 1) I5 val5 cho5 (some (.int (nI (sp_goW v a)))) (some (.int (nI (sp_gw (sp_gm n (dp + 1)) v a)))) z8 (by omega) hF5 M5 S5 (fun z => by omega) (fun b hb => by
            have : b = a := by omega
            subst this
            exact ⟨hv5, hc5⟩)
          rw [← nI_1] at k9
          exact k9
        refine am_vcl hJ [20] 200 ?_
        refine ⟨am_vin (by decide), ?_⟩
        refine br_f (by show ¬ I1 67 6 < nI a; rw [x6, nI_ltI (by omega) (by omega)]; omega) ?_
        refine m_goesBy hJ hM1 hRu hO hav (fun I3 q4 M3 => ?_)
        have go : ∀ Q' : am_Q, (∀ I4 : am_I, GmF I I4 dp → MRep I4 67 (sp_goU v a) → SavR I4 dp v → Q' (some (.int (nI (sp_gm n (dp + 1) (sp_goU v a))))) I4) → J (d + n + 7) q_M_playedFrom 0 [some (.ref 66), some (.int (nI (dp + 1))), some (.int (nI m)), none, none, none, none, none, none] [] I3 Q' := by
          intro Q' hQ'
          refine m_playedFrom hJ hm n (dp + 1) _ I3 _ (by omega) hOg (by omega) M3 (hRu.goU hO hav) (fun I4 F4 M4 _ => ?_) _ _ _ _ _ _
          have F14 : GmF I1 I4 dp := ⟨fun o o1 o2 o3 o4 => by rw [F4.1 o o1 o2 o3 o4, q4 o o1 o2], fun i hi => by rw [F4.2.1 i (by omega), q4 76 (by decide) (by decide)], fun j hj => by rw [F4.2.2 j (by omega), q4 75 (by decide) (by decide)]⟩
          exact hQ' I4 (hF.trans F14) M4 (hS1.kept (fun j hj => by rw [F4.2.2 j hj, q4 75 (by decide) (by decide)]))
        conv => whnf
        rw [show (fun x y => x + y) (nI dp) 1 = nI (dp + 1) from nI_1 dp]
        refine go _ (fun I4 F4 M4 S4 => ?_)
        conv => whnf
        rw [show (fun x y => x + y) (nI (sp_goW v a)) (nI (sp_gm n (dp + 1) (sp_goU v a))) = nI (sp_gw (sp_gm n (dp + 1)) v a) from nI_add _ _]
        refine m_restores hJ (by omega) M4 S4 (sp_goU_same hO hav).hi (fun I5 q5 M5 => ?_)
        have F5 : GmF I I5 dp := F4.trans ⟨fun o o1 _ _ _ => q5 o o1, fun i _ => by rw [q5 76 (by decide)], fun j _ => by rw [q5 75 (by decide)]⟩
        have S5 : SavR I5 dp v := S4.kept (fun j _ => by rw [q5 75 (by decide)])
        by_cases ga : a = 0
        · refine br_t (by show cho < 0; rw [h0 ga]; decide) ?_
          refine br_f (by decide) ?_
          refine br_f (by decide) ?_
          exact nxt I5 _ _ _ F5 M5 S5 (by subst ga; rfl) (by subst ga; rfl)
        · obtain ⟨b, rfl⟩ : ∃ b, a = b + 1 := ⟨a - 1, by omega⟩
          obtain ⟨v1, v2⟩ := hv b rfl
          obtain ⟨c, hc1, hc2, hc3⟩ := sp_gf_ex dp (sp_gw (sp_gm n (dp + 1)) v) b
          have hcl := sp_gw_le (n := n) (dp := dp) hO hd (b := c) (by omega)
          have hs := sp_gf_succ dp (sp_gw (sp_gm n (dp + 1)) v) b
          have hbl : (sp_gf dp (sp_gw (sp_gm n (dp + 1)) v) b).1 ≤ 36 * (n + 1) := by rw [hc2]; exact hcl
          refine br_f (by show ¬ cho < 0; rw [v2]; exact nI_pos (by omega)) ?_
          refine ⟨by decide, ?_⟩
          by_cases gd : dp % 2 = 0
          · have eb : sp_bt dp (sp_gw (sp_gm n (dp + 1)) v (b + 1)) (sp_gf dp (sp_gw (sp_gm n (dp + 1)) v) b).1 = decide ((sp_gf dp (sp_gw (sp_gm n (dp + 1)) v) b).1 < sp_gw (sp_gm n (dp + 1)) v (b + 1)) := by unfold sp_bt; rw [if_pos gd]
            rw [eb] at hs
            refine br_t ((nI_mod2 dp (by omega)).mpr gd) ?_
            refine ⟨fun z => ?_, fun z => ?_⟩
            · have z : nI (sp_gw (sp_gm n (dp + 1)) v (b + 1)) ≤ val := z
              rw [v1, nI_leI (by omega) (by omega)] at z
              rw [if_neg (by rw [decide_eq_true_eq]; omega)] at hs
              refine br_t (by decide) ?_
              refine br_t (by decide) ?_
              exact nxt I5 _ _ _ F5 M5 S5 (by rw [hs]; exact v1) (by rw [hs]; exact v2)
            · have z : ¬ nI (sp_gw (sp_gm n (dp + 1)) v (b + 1)) ≤ val := z
              rw [v1, nI_leI (by omega) (by omega)] at z
              rw [if_pos (by rw [decide_eq_true_eq]; omega)] at hs
              refine br_f (by decide) ?_
              refine br_f (by decide) ?_
              exact nxt I5 _ _ _ F5 M5 S5 (by rw [hs]) (by rw [hs])
          · have eb : sp_bt dp (sp_gw (sp_gm n (dp + 1)) v (b + 1)) (sp_gf dp (sp_gw (sp_gm n (dp + 1)) v) b).1 = decide (sp_gw (sp_gm n (dp + 1)) v (b + 1) < (sp_gf dp (sp_gw (sp_gm n (dp + 1)) v) b).1) := by unfold sp_bt; rw [if_neg gd]
            rw [eb] at hs
            refine br_f (fun z => gd ((nI_mod2 dp (by omega)).mp z)) ?_
            refine ⟨fun z => ?_, fun z => ?_⟩
            · have z : val ≤ nI (sp_gw (sp_gm n (dp + 1)) v (b + 1)) := z
              rw [v1, nI_leI (by omega) (by omega)] at z
              rw [if_neg (by rw [decide_eq_true_eq]; omega)] at hs
              refine br_t (by decide) ?_
              refine br_t (by decide) ?_
              exact nxt I5 _ _ _ F5 M5 S5 (by rw [hs]; exact v1) (by rw [hs]; exact v2)
            · have z : ¬ val ≤ nI (sp_gw (sp_gm n (dp + 1)) v (b + 1)) := z
              rw [v1, nI_leI (by omega) (by omega)] at z
              rw [if_pos (by rw [decide_eq_true_eq]; omega)] at hs
              refine br_f (by decide) ?_
              refine br_f (by decide) ?_
              exact nxt I5 _ _ _ F5 M5 S5 (by rw [hs]) (by rw [hs])
    refine am_vcc hJ [20] 200 _ _ _ _ _ _ _ ?_
    refine br_f (by show ¬ nI dp = nI m; rw [nI_eq (by omega) (by omega)]; omega) ?_
    refine m_saves hJ (by omega) hM (fun I1 q1 q2 q3 => ?_)
    exact loop (v 6 + 1) 0 I1 _ _ _ _ _ (by omega) ⟨fun o _ _ o3 _ => q1 o o3, fun i _ => by rw [q1 76 (by decide)], q2⟩ (hM.kept (q1 67 (by decide))) q3 (fun _ => rfl) (fun b hb => by omega)
theorem Inv.game {I I1 I2 : am_I} {u uk : am_U} (hMn : Main I 8 9 67 u) (hK : KeptR I uk) (hRs : Rest I) (q1 : ∀ o, o ≠ 18 → (o < 43 ∨ 51 < o) → I1 o = I o) (q2 : GmF I1 I2 0) (M2 : MRep I2 67 u) : Inv I2 := by
  refine Inv.plans hMn hK hRs (fun o ho h6 h7 => ?_) (fun j hj => ?_) M2
  · obtain ⟨a, b, c, e, f, g⟩ := am_ac_pl o ho
    rw [q2.1 o h7 c e f, q1 o a b]
  · rw [q2.1 66 (by decide) (by decide) (by decide) (by decide), q1 66 (by decide) (by decide)]
theorem m_playG (hJ : am_Cl am_meth L xs J) {I : am_I} {Q : am_Q} {u : am_U} {cd : Nat → Int32} {n : Nat} (hM : MRep I 67 u) (hRu : RuR cd u) (hO : OKu u) (hn : n ≤ 4) (h : ∀ I' : am_I, GmF I I' 0 → MRep I' 67 u → (sp_m u n ≠ 0 → I' 76 0 = nI (sp_gc (sp_m u n) 0 u)) → Q (some (.int (nI (sp_gm (sp_m u n) 0 u)))) I') : J (d + 11) q_M_playedFrom 0 [some (.ref 66), some (.int 0), some (.int (nI (sp_m u n))), none, none, none, none, none, none] [] I Q := by
  have hle := sp_m_le (u := u) (n := n)
  have c := hO.2.1
  have k9 := m_playedFrom (d := d + 4 - sp_m u n) hJ (m := sp_m u n) (cd := cd) (by omega) (sp_m u n) 0 u I Q (Nat.zero_add _) hO (by omega) hM hRu h none none none none none none
  rw [show d + 4 - sp_m u n + sp_m u n + 7 = d + 11 by omega] at k9
  exact k9
theorem op_game (hJ : am_Cl am_meth L xs J) (a : Int32) : am_same Inv J q_X_game q_M_game [.int a] := by
  intro I hI Qc hQc
  obtain ⟨u, uk, hMn, hK, hRs⟩ := id hI
  obtain ⟨hM, hR, hC, hO⟩ := id hMn
  by_cases h1 : (1 : Int32) ≤ a ∧ a ≤ 4
  · obtain ⟨n, hn, rfl⟩ := am_rng (N := 4) rfl (by decide) ⟨Int32.le_trans (by decide) h1.1, h1.2⟩
    refine am_vc hJ 40 _ _ _ _ _ _ _ ?_
    refine x_withinY hJ h1 ?_
    refine br_f (by decide) ?_
    refine x_valueOfGame hJ hR hC hO hn (fun I1 q1 P1 => ?_)
    refine ⟨_, rfl, ?_⟩
    have M1 := hM.kept (q1 67 (by decide) (by decide))
    refine am_vc hJ 40 _ _ _ _ _ _ _ ?_
    refine m_in1Y hJ h1 ?_
    refine br_f (by decide) ?_
    refine m_daysOf hJ M1 hO (by omega) ?_
    refine m_playG hJ M1 hR.2 hO hn (fun I2 q2 M2 P2 => ?_)
    exact ⟨rfl, hQc _ (Inv.game hMn hK hRs q1 q2 M2)⟩
  · repeat (
      (try conv => whnf)
      first
        | refine ⟨am_vin (by decide), ?_⟩
        | refine ⟨(by assumption : vp_in _ _), ?_⟩
        | refine br_f (by decide) ?_
        | refine br_t (by decide) ?_
        | refine br_t (by assumption) ?_
        | refine br_f (by assumption) ?_
        | refine x_withinY hJ (by assumption) ?_
        | refine x_withinN hJ (by assumption) ?_
        | refine m_in1Y hJ (by assumption) ?_
        | refine m_in1N hJ (by assumption) ?_
        | refine m_isGateY hJ (by assumption) ?_
        | refine m_isGateN hJ (by assumption) ?_
        | refine m_isDigitY hJ (by assumption) ?_
        | refine m_isDigitN hJ (by assumption) ?_
        | refine m_isNeedY hJ (by assumption) ?_
        | refine m_isNeedN hJ (by assumption) ?_
        | refine m_isPlanY hJ (by assumption) ?_
        | refine m_isPlanN hJ (by assumption) ?_
        | refine m_isSheetY hJ (by assumption) ?_
        | refine m_isSheetN hJ (by assumption) ?_
        | refine x_isSheetY hJ (by assumption) ?_
        | refine x_isSheetN hJ (by assumption) ?_
        | refine x_isShelfY hJ (by assumption) ?_
        | refine x_isShelfN hJ (by assumption) ?_
        | refine x_hasY hJ (by assumption) (by assumption) (by assumption) ?_
        | refine x_hasN hJ (by assumption) (by assumption) (by assumption) ?_
        | refine m_isPersonY hJ (by assumption) (by assumption) (by assumption) ?_
        | refine m_isPersonN hJ (by assumption) (by assumption) (by assumption) ?_
        | refine am_vc hJ 120 40 _ _ _ _ _ _ ?_
        | refine ⟨_, rfl, ?_⟩)
    exact ⟨rfl, hQc _ hI⟩
theorem op_play (hJ : am_Cl am_meth L xs J) (a : Int32) : am_same Inv J q_X_play q_M_play [.int a] := by
  intro I hI Qc hQc
  obtain ⟨u, uk, hMn, hK, hRs⟩ := id hI
  obtain ⟨hM, hR, hC, hO⟩ := id hMn
  obtain ⟨c1, c2, c3, c4, c5, c6, c7⟩ := hO.Cn
  by_cases h1 : (1 : Int32) ≤ a ∧ a ≤ 4
  · obtain ⟨n, hn, rfl⟩ := am_rng (N := 4) rfl (by decide) ⟨Int32.le_trans (by decide) h1.1, h1.2⟩
    have hn1 : 1 ≤ n := by
      have := h1.1
      rw [show (1 : Int32) = nI 1 from rfl, nI_leI (by decide) (by omega)] at this
      exact this
    refine am_vc hJ 40 _ _ _ _ _ _ _ ?_
    refine x_withinY hJ h1 ?_
    refine br_f (by decide) ?_
    refine x_isOver hJ (by decide) hR.1 hC hO (fun ho => ?_) (fun ho => ?_)
    · refine br_f (by decide) ?_
      refine ⟨_, rfl, ?_⟩
      refine am_vc hJ 40 _ _ _ _ _ _ _ ?_
      refine m_in1Y hJ h1 ?_
      refine br_f (by decide) ?_
      refine m_isOver hJ (hM 0 (by decide)) (hM 1 (by decide)) c2 c3 (fun _ => ?_) (fun z => by omega)
      refine br_f (by decide) ?_
      exact ⟨rfl, hQc _ hI⟩
    · refine br_t (by decide) ?_
      refine x_valueOfGame hJ hR hC hO hn (fun I1 q1 P1 => ?_)
      have hm0 : sp_m u n ≠ 0 := by unfold sp_m; split <;> omega
      have hle := sp_m_le (u := u) (n := n)
      have hgl := sp_gm_le (sp_m u n) 0 u hO (by omega)
      have M1 := hM.kept (q1 67 (by decide) (by decide))
      refine ⟨_, rfl, ?_⟩
      refine am_vc hJ 40 _ _ _ _ _ _ _ ?_
      refine m_in1Y hJ h1 ?_
      refine br_f (by decide) ?_
      refine m_isOver hJ (M1 0 (by decide)) (M1 1 (by decide)) c2 c3 (fun z => by omega) (fun _ => ?_)
      refine br_t (by decide) ?_
      refine m_daysOf hJ M1 hO (by omega) ?_
      refine m_playG hJ M1 hR.2 hO hn (fun I2 q2 M2 P2 => ?_)
      refine br_t (by show 0 ≤ nI (sp_gm (sp_m u n) 0 u); exact nI_pos' (by omega)) ?_
      refine ⟨am_vin (by decide), ?_⟩
      refine ⟨?_, hQc _ (Inv.game hMn hK hRs q1 q2 M2)⟩
      show some (Value.int (I2 76 0)) = some (Value.int (I1 43 10))
      rw [P1 hm0, P2 hm0]
  · repeat (
      (try conv => whnf)
      first
        | refine ⟨am_vin (by decide), ?_⟩
        | refine ⟨(by assumption : vp_in _ _), ?_⟩
        | refine br_f (by decide) ?_
        | refine br_t (by decide) ?_
        | refine br_t (by assumption) ?_
        | refine br_f (by assumption) ?_
        | refine x_withinY hJ (by assumption) ?_
        | refine x_withinN hJ (by assumption) ?_
        | refine m_in1Y hJ (by assumption) ?_
        | refine m_in1N hJ (by assumption) ?_
        | refine m_isGateY hJ (by assumption) ?_
        | refine m_isGateN hJ (by assumption) ?_
        | refine m_isDigitY hJ (by assumption) ?_
        | refine m_isDigitN hJ (by assumption) ?_
        | refine m_isNeedY hJ (by assumption) ?_
        | refine m_isNeedN hJ (by assumption) ?_
        | refine m_isPlanY hJ (by assumption) ?_
        | refine m_isPlanN hJ (by assumption) ?_
        | refine m_isSheetY hJ (by assumption) ?_
        | refine m_isSheetN hJ (by assumption) ?_
        | refine x_isSheetY hJ (by assumption) ?_
        | refine x_isSheetN hJ (by assumption) ?_
        | refine x_isShelfY hJ (by assumption) ?_
        | refine x_isShelfN hJ (by assumption) ?_
        | refine x_hasY hJ (by assumption) (by assumption) (by assumption) ?_
        | refine x_hasN hJ (by assumption) (by assumption) (by assumption) ?_
        | refine m_isPersonY hJ (by assumption) (by assumption) (by assumption) ?_
        | refine m_isPersonN hJ (by assumption) (by assumption) (by assumption) ?_
        | refine am_vc hJ 120 40 _ _ _ _ _ _ ?_
        | refine ⟨_, rfl, ?_⟩)
    exact ⟨rfl, hQc _ hI⟩
end
