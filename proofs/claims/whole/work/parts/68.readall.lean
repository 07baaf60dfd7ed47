/-! RULES: the class reads all -/
theorem rt_x2 {b : Nat → Nat} {n i : Nat} (hb : ∀ j, j < n → b j < 256) : rt_x (rt_C b n i) = -2 ↔ rt_C b n i = 30001 := by
  have hc := rt_C_c (i := i) hb
  generalize rt_C b n i = c at *
  by_cases g : c < 30000
  · rw [rt_x_n g]
    constructor
    · intro z
      have := nI_pos (n := c) (by omega)
      rw [z] at this
      exact absurd (by decide) this
    · intro z
      omega
  · rcases (show c = 30000 ∨ c = 30001 by omega) with rfl | rfl
    · exact ⟨fun z => absurd z (by decide), fun z => by omega⟩
    · exact ⟨fun _ => rfl, fun _ => rfl⟩
def XFa (I I' : am_I) : Prop := (∀ o, o ≠ 38 → o ≠ 42 → I' o = I o) ∧ ∀ f, f ≠ 5 → f ≠ 7 → f ≠ 8 → I' 38 f = I 38 f
theorem XFa.xf {I I' I'' : am_I} (h : XFa I I') (g : XF I' I'') : XFa I I'' := ⟨fun o a c => by rw [g.1 o a c, h.1 o a c], fun f a c e => by rw [g.2 f a c, h.2 f a c e]⟩
theorem TkR.xa {I I' : am_I} {b : Nat → Nat} {n T : Nat} (h : TkR I b n T) (g : XFa I I') : TkR I' b n T := by
  unfold TkR
  rw [g.2 4 (by decide) (by decide) (by decide), g.1 40 (by decide) (by decide), g.1 41 (by decide) (by decide)]
  exact h
theorem pa_top_e {C : Nat → Nat} {f i : Nat} {acc : List RU} (h : C i = 30001) : pa_top C f i acc = (i, some acc) := by
  cases f with
  | zero => show (if C i = 30001 then _ else _) = _; rw [if_pos h]
  | succ f => show (if C i = 30001 then _ else _) = _; rw [if_pos h]
theorem pa_top_0 {C : Nat → Nat} {i : Nat} {acc : List RU} (h : C i ≠ 30001) : pa_top C 0 i acc = (i, none) := by
  show (if C i = 30001 then _ else _) = _
  rw [if_neg h]
theorem pa_top_n {C : Nat → Nat} {f i e : Nat} {acc : List RU} (h : C i ≠ 30001) (hr : pa_rule C i = (e, none)) : pa_top C (f + 1) i acc = (e, none) := by
  show (if C i = 30001 then _ else match (pa_rule C i).2 with
    | none => ((pa_rule C i).1, none)
    | some R => pa_top C f (pa_rule C i).1 (acc ++ [R])) = _
  rw [if_neg h, hr]
theorem pa_top_s {C : Nat → Nat} {f i e : Nat} {acc : List RU} {R : RU} (h : C i ≠ 30001) (hr : pa_rule C i = (e, some R)) : pa_top C (f + 1) i acc = pa_top C f e (acc ++ [R]) := by
  show (if C i = 30001 then _ else match (pa_rule C i).2 with
    | none => ((pa_rule C i).1, none)
    | some R => pa_top C f (pa_rule C i).1 (acc ++ [R])) = _
  rw [if_neg h, hr]
section
variable {L : Nat} {xs : Nat → Int32} {J : am_J} {b : Nat → Nat} {n T d : Nat} {Q : am_Q}
theorem x_all_75f (hJ : am_Cl am_meth L xs J) {I : am_I} {i s : Nat} {v : Int32} (hb : ∀ j, j < n → b j < 256) (h200 : n ≤ 200) (hTn : T ≤ n) (hP : rt_P b n T = n) (hX : XS I b n T i s) (hi : i ≤ T) (hv : v = 0 ∨ rt_C b n i ≠ 30001) (h : Q (some (.int (nI (rt_P b n i)))) I) : J (d + 1) q_RuleText_readAll 75 [some (.ref 38), some (.int (nI n)), some (.int v)] [] I Q := by
  have fin : J (d + 1) q_RuleText_readAll 90 [some (.ref 38), some (.int (nI n)), some (.int v)] [] I Q := by
    obtain ⟨⟨t1, t2⟩, h5, -⟩ := hX
    refine am_vc hJ 20 _ _ _ _ _ _ _ ?_
    by_cases g : i < T
    · obtain ⟨-, a, -⟩ := t2 i g
      refine br_f (by show ¬ I 38 4 ≤ I 38 5; rw [t1, h5]; exact nI_ge g (by omega)) ?_
      refine ⟨by show vp_in (I 38 5) 200; rw [h5]; exact vp_in_nI (by omega) (by omega), ?_⟩
      refine am_qe ?_ h
      show I 41 (I 38 5).toNatClampNeg = _
      rw [h5, nI_clamp (by omega), a]
    · refine br_t (by show I 38 4 ≤ I 38 5; rw [t1, h5]; exact nI_le (by omega) (by omega)) ?_
      have : i = T := by omega
      subst this
      rw [hP] at h
      exact h
  refine am_vcc hJ [90] 200 _ _ _ _ _ _ _ ?_
  refine x_token hJ hX hi (by omega) hP ?_
  refine ⟨fun z => ?_, fun z => ?_⟩
  · have hc := (rt_x2 hb).mp z
    rcases hv with rfl | hv
    · refine br_t (by decide) ?_
      exact fin
    · exact absurd hc hv
  · exact fin
theorem x_all_loop (hJ : am_Cl am_meth L xs J) {I0 : am_I} (hb : ∀ j, j < n → b j < 256) (h200 : n ≤ 200) (hTn : T ≤ n) (hP : rt_P b n T = n) (hT0 : TkR I0 b n T) : ∀ (f i : Nat) (acc : List RU) (I : am_I), acc.length + f = 8 → i ≤ T → XFa I0 I → I 38 5 = nI i → I 38 7 = nI (pa_flat acc).length → (pa_flat acc).length ≤ rt_P b n i → CT I 0 (pa_flat acc) → I 38 8 = nI acc.length → (∀ I' acc', (pa_top (rt_C b n) f i acc).2 = some acc' → XFa I0 I' → CT I' 0 (pa_flat acc') → I' 38 8 = nI acc'.length → Q (some (.int (-1))) I') → (∀ I', (pa_top (rt_C b n) f i acc).2 = none → XFa I0 I' → Q (some (.int (nI (rt_P b n (pa_top (rt_C b n) f i acc).1)))) I') → J (d + 15) q_RuleText_readAll 31 [some (.ref 38), some (.int (nI n)), some (.int 1)] [] I Q
  | f, i, acc, I, hf, hi, hF, h5, h7, hl, hc, h8, hS, hN => by
    have hTe := rt_C_end hP
    have hlt : ∀ k, k < T → rt_P b n k < n := fun k hk => (hT0.2 k hk).2.2
    have hX : XS I b n T i (pa_flat acc).length := ⟨hT0.xa hF, h5, h7⟩
    have good : rt_C b n i = 30001 → J (d + 15) q_RuleText_readAll 75 [some (.ref 38), some (.int (nI n)), some (.int 1)] [] I Q := by
      intro g
      refine am_vc hJ 20 _ _ _ _ _ _ _ ?_
      refine x_token hJ hX hi (by omega) hP ?_
      refine br_t ((rt_x2 hb).mpr g) ?_
      refine br_f (by decide) ?_
      exact hS I acc (by rw [pa_top_e g]) hF hc h8
    by_cases g : rt_C b n i = 30001
    · refine am_vcl hJ [31, 75] 200 ?_
      refine br_f (by decide) ?_
      refine ⟨fun _ => good g, fun _ => ?_⟩
      refine x_token hJ hX hi (by omega) hP ?_
      refine br_t ((rt_x2 hb).mpr g) ?_
      exact good g
    · cases f with
      | zero =>
        rw [pa_top_0 g] at hN
        refine am_vcl hJ [31, 75] 200 ?_
        refine br_f (by decide) ?_
        refine br_t (by show nI 8 ≤ I 38 8; rw [h8]; exact nI_le (by omega) (by omega)) ?_
        exact x_all_75f hJ hb h200 hTn hP hX hi (Or.inr g) (hN I rfl hF)
      | succ f =>
        obtain ⟨r1, r2, r3⟩ := pa_rule_ok hTe hi
        refine am_vcl hJ [31, 75] 200 ?_
        refine br_f (by decide) ?_
        refine br_f (by show ¬ nI 8 ≤ I 38 8; rw [h8]; exact nI_ge (by omega) (by omega)) ?_
        refine x_token hJ hX hi (by omega) hP ?_
        refine br_f (fun z => g ((rt_x2 hb).mp z)) ?_
        refine x_rule (d := d) hJ hb h200 hTn hP hX hi hl (fun I1 O1 => ?_)
        obtain ⟨y1, y2, y3⟩ := O1
        have F1 := hF.xf y1
        rcases hr : pa_rule (rt_C b n) i with ⟨e, o⟩
        rw [hr] at r1 r2 r3 y2 y3
        have r1 : i ≤ e := r1
        have r2 : e ≤ T := r2
        cases o with
        | none =>
          rw [pa_top_n g hr] at hN
          refine br_t (show pa_ar (e, none) = 0 from rfl) ?_
          refine am_vcl hJ [31, 75] 200 ?_
          refine br_t (show pa_ar (e, none) = 0 from rfl) ?_
          exact x_all_75f hJ hb h200 hTn hP ⟨hT0.xa F1, y2, am_nIof _⟩ r2 (Or.inl rfl) (hN I1 rfl F1)
        | some R =>
          obtain ⟨t1, t2, t3⟩ := r3 R rfl
          have t1 : R.2.2.1.length + 3 + i ≤ e := t1
          obtain ⟨w1, w2, w3⟩ := y3 R rfl
          rw [pa_top_s g hr] at hS hN
          refine br_f (show ¬ pa_ar (e, some R) = 0 by show ¬ (1 : Int32) = 0; decide) ?_
          have hcl : (pa_code R).length = 3 + R.2.2.1.length := by
            show ([R.1, R.2.1, R.2.2.1.length] ++ R.2.2.1).length = _
            rw [List.length_append]
            rfl
          have hfl : (pa_flat (acc ++ [R])).length = (pa_flat acc).length + (pa_code R).length := by rw [pa_flat_app, List.length_append]
          have hp := rt_P_add (i := i) hlt (e - i) (by omega)
          rw [show i + (e - i) = e by omega] at hp
          have e8 : I1 38 8 = nI acc.length := by rw [y1.2 8 (by decide) (by decide)]; exact h8
          refine x_all_loop hJ hb h200 hTn hP hT0 f e (acc ++ [R]) (am_put I1 38 8 (I1 38 8 + 1)) (by rw [List.length_append, List.length_singleton]; omega) r2 ⟨fun o a c => by rw [am_put_o a]; exact F1.1 o a c, fun f a c e => by rw [put_nk e]; exact F1.2 f a c e⟩ (by rw [put_nk (by decide)]; exact y2) (by rw [put_nk (by decide), hfl]; exact w1) (by omega) ?_ ?_ hS hN
          · rw [pa_flat_app]
            refine CT.kept (I := I1) ?_ (fun k _ => by rw [am_put_o (by decide)])
            refine (hc.kept (fun k hk => w3 k (by omega))).app ?_
            rw [Nat.zero_add]
            exact w2
          · rw [put_at, e8, nI_1, List.length_append, List.length_singleton]
theorem x_readAll (hJ : am_Cl am_meth L xs J) {I : am_I} (hT : Tx I b n) (hb : ∀ j, j < n → b j < 256) (hS : ∀ (I' : am_I) (acc : List RU), (pa_top (rt_C b n) 8 0 []).2 = some acc → (∀ o, o ≠ 38 → o ≠ 40 → o ≠ 41 → o ≠ 42 → I' o = I o) → I' 38 1 = 0 → CT I' 0 (pa_flat acc) → I' 38 8 = nI acc.length → Q (some (.int (-1))) I') (hN : ∀ I' : am_I, (pa_top (rt_C b n) 8 0 []).2 = none → (∀ o, o ≠ 38 → o ≠ 40 → o ≠ 41 → o ≠ 42 → I' o = I o) → I' 38 1 = 0 → Q (some (.int (nI (rt_P b n (pa_top (rt_C b n) 8 0 []).1)))) I') {z1 z2 : Option Value} : J (d + 15) q_RuleText_readAll 0 [some (.ref 38), z1, z2] [] I Q := by
  have h200 := hT.1
  refine am_vcc hJ [31] 200 _ _ _ _ _ _ _ ?_
  refine x_splitTape hJ hT (fun I1 T hTn f1 f38 k1 hP => ?_)
  have e1 : I1 38 1 = nI n := by rw [f38 1 (by decide)]; exact hT.2.1
  have k2 : TkR (am_put (am_put (am_put (am_put I1 38 1 0) 38 5 0) 38 7 0) 38 8 0) b n T := by
    obtain ⟨a, c⟩ := k1
    refine ⟨?_, ?_⟩
    · rw [put_nk (by decide), put_nk (by decide), put_nk (by decide), put_nk (by decide)]; exact a
    · intro i hi
      rw [am_put_o (by decide), am_put_o (by decide), am_put_o (by decide), am_put_o (by decide), am_put_o (by decide), am_put_o (by decide), am_put_o (by decide), am_put_o (by decide)]
      exact c i hi
  have fr : ∀ I' : am_I, XFa (am_put (am_put (am_put (am_put I1 38 1 0) 38 5 0) 38 7 0) 38 8 0) I' → (∀ o, o ≠ 38 → o ≠ 40 → o ≠ 41 → o ≠ 42 → I' o = I o) ∧ I' 38 1 = 0 := fun I' g => by
    refine ⟨fun o o1 o2 o3 o4 => ?_, ?_⟩
    · rw [g.1 o o1 o4, am_put_o o1, am_put_o o1, am_put_o o1, am_put_o o1]
      exact f1 o o1 o2 o3
    · rw [g.2 1 (by decide) (by decide) (by decide), put_nk (by decide), put_nk (by decide), put_nk (by decide), put_at]
  have k9 := x_all_loop (d := d) (Q := Q) (I0 := am_put (am_put (am_put (am_put I1 38 1 0) 38 5 0) 38 7 0) 38 8 0) hJ hb h200 hTn hP k2 8 0 [] _ rfl (Nat.zero_le _) ⟨fun _ _ _ => rfl, fun _ _ _ _ => rfl⟩ (by rw [put_nk (by decide), put_nk (by decide), put_at]; rfl) (by rw [put_nk (by decide), put_at]; rfl) (Nat.zero_le _) CT.nil (by rw [put_at]; rfl) (fun I' acc a1 a2 a3 a4 => hS I' acc a1 (fr I' a2).1 (fr I' a2).2 a3 a4) (fun I' a1 a2 => hN I' a1 (fr I' a2).1 (fr I' a2).2)
  rw [← e1] at k9
  exact k9
end
