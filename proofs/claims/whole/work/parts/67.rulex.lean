/-! RULES: whole rules, and the class's reading of them -/
abbrev RU : Type := Nat × Nat × List Nat × List Nat
noncomputable def pa_cond (C : Nat → Nat) (i : Nat) : PR := if C (i + 1) = 10009 then pa_any C 3 (i + 2) else (i + 1, some ([], []))
noncomputable def pa_rule (C : Nat → Nat) (i : Nat) : Nat × Option RU := if 10000 ≤ C i ∧ C i < 10006 then (match (pa_cond C i).2 with
  | none => ((pa_cond C i).1, none)
  | some q => if 10006 ≤ C (pa_cond C i).1 ∧ C (pa_cond C i).1 < 10009 then (if C ((pa_cond C i).1 + 1) = 20059 then ((pa_cond C i).1 + 2, some (C i - 10000, C (pa_cond C i).1 - 10006, q.1, q.2)) else ((pa_cond C i).1 + 1, none)) else ((pa_cond C i).1, none)) else (i, none)
noncomputable def pa_top (C : Nat → Nat) : Nat → Nat → List RU → Nat × Option (List RU)
  | 0, i, acc => if C i = 30001 then (i, some acc) else (i, none)
  | f + 1, i, acc => if C i = 30001 then (i, some acc) else match (pa_rule C i).2 with
    | none => ((pa_rule C i).1, none)
    | some R => pa_top C f (pa_rule C i).1 (acc ++ [R])
def pa_code (R : RU) : List Nat := [R.1, R.2.1, R.2.2.1.length] ++ R.2.2.1
def pa_flat : List RU → List Nat
  | [] => []
  | R :: l => pa_code R ++ pa_flat l
theorem pa_flat_app : ∀ (l : List RU) (R : RU), pa_flat (l ++ [R]) = pa_flat l ++ pa_code R
  | [], R => by show pa_code R ++ [] = [] ++ pa_code R; rw [List.append_nil, List.nil_append]
  | S :: l, R => by
    show pa_code S ++ pa_flat (l ++ [R]) = pa_code S ++ pa_flat l ++ pa_code R
    rw [pa_flat_app l R, List.append_assoc]
/-- what a rule is -/
def RUok (R : RU) : Prop := R.1 ≤ 5 ∧ R.2.1 ≤ 2 ∧ (∀ x ∈ R.2.2.1, x < 30000) ∧ ((R.2.2.1 = [] ∧ R.2.2.2 = []) ∨ pa_se 8 (R.2.2.1, R.2.2.2))
theorem pa_cond_ok {C : Nat → Nat} {T i : Nat} (hT : ∀ j, T ≤ j → C j = 30001) (hi : i < T) : i + 1 ≤ (pa_cond C i).1 ∧ (pa_cond C i).1 ≤ T ∧ ∀ q, (pa_cond C i).2 = some q → q.1.length + (i + 1) ≤ (pa_cond C i).1 ∧ q.2.length + (i + 1) ≤ (pa_cond C i).1 ∧ (∀ x ∈ q.1, x < 30000) ∧ ((q.1 = [] ∧ q.2 = []) ∨ pa_se 8 q) := by
  unfold pa_cond
  by_cases g : C (i + 1) = 10009
  · rw [if_pos g]
    have l1 : i + 1 < T := pa_lt hT (by omega)
    obtain ⟨a, c, e⟩ := pa_any_ok hT 3 (i + 2) l1
    refine ⟨by omega, c, fun q hq => ?_⟩
    obtain ⟨e1, e2, e3⟩ := e q hq
    exact ⟨by omega, by omega, e3, Or.inr (pa_any_sem 3 (i + 2) q hq)⟩
  · rw [if_neg g]
    refine ⟨Nat.le_refl _, hi, fun q hq => ?_⟩
    injection hq with hq
    subst hq
    exact ⟨by show 0 + (i + 1) ≤ i + 1; omega, by show 0 + (i + 1) ≤ i + 1; omega, fun x hx => (by cases hx), Or.inl ⟨rfl, rfl⟩⟩
theorem pa_rule_ok {C : Nat → Nat} {T i : Nat} (hT : ∀ j, T ≤ j → C j = 30001) (hi : i ≤ T) : i ≤ (pa_rule C i).1 ∧ (pa_rule C i).1 ≤ T ∧ ∀ R, (pa_rule C i).2 = some R → R.2.2.1.length + 3 + i ≤ (pa_rule C i).1 ∧ R.2.2.2.length + 3 + i ≤ (pa_rule C i).1 ∧ RUok R := by
  unfold pa_rule
  by_cases g : 10000 ≤ C i ∧ C i < 10006
  · rw [if_pos g]
    have l1 : i < T := pa_lt hT (by omega)
    obtain ⟨a, c, e⟩ := pa_cond_ok hT l1
    generalize pa_cond C i = r at a c e
    obtain ⟨e1, o⟩ := r
    have a : i + 1 ≤ e1 := a
    have c : e1 ≤ T := c
    cases o with
    | none => exact ⟨by show i ≤ e1; omega, c, fun R hR => by cases hR⟩
    | some q =>
      obtain ⟨q1, q2, q3, q4⟩ := e q rfl
      have q1 : q.1.length + (i + 1) ≤ e1 := q1
      have q2 : q.2.length + (i + 1) ≤ e1 := q2
      dsimp only
      by_cases g2 : 10006 ≤ C e1 ∧ C e1 < 10009
      · rw [if_pos g2]
        have l2 : e1 < T := pa_lt hT (by omega)
        by_cases g3 : C (e1 + 1) = 20059
        · rw [if_pos g3]
          have l3 : e1 + 1 < T := pa_lt hT (by omega)
          refine ⟨by show i ≤ e1 + 2; omega, l3, fun R hR => ?_⟩
          injection hR with hR
          subst hR
          exact ⟨by show q.1.length + 3 + i ≤ e1 + 2; omega, by show q.2.length + 3 + i ≤ e1 + 2; omega, by show C i - 10000 ≤ 5; omega, by show C e1 - 10006 ≤ 2; omega, q3, q4⟩
        · rw [if_neg g3]
          exact ⟨by show i ≤ e1 + 1; omega, l2, fun R hR => by cases hR⟩
      · rw [if_neg g2]
        exact ⟨by show i ≤ e1; omega, c, fun R hR => by cases hR⟩
  · rw [if_neg g]
    exact ⟨Nat.le_refl _, hi, fun R hR => by cases hR⟩
theorem rt_xs {c a m : Nat} (hc : c < 10000 ∨ (10000 ≤ c ∧ c < 10018) ∨ (20000 ≤ c ∧ c < 20256) ∨ c = 30000 ∨ c = 30001) (ha : a = 10000 ∨ a = 10006) (hm : m ≤ 5) : (0 ≤ rt_x c - nI a ∧ rt_x c - nI a ≤ nI m) ↔ (a ≤ c ∧ c < a + m + 1) := by
  by_cases g : c < 30000
  · rw [rt_x_n g, Int32.le_iff_toInt_le, Int32.le_iff_toInt_le, pk_sub_toInt (by omega) (by omega), nI_toInt (by omega)]
    have e0 : (0 : Int32).toInt = 0 := rfl
    rw [e0]
    omega
  · rcases (show c = 30000 ∨ c = 30001 by omega) with rfl | rfl <;> rcases ha with rfl | rfl
    all_goals
      constructor
      · intro z
        exact absurd z.1 (by decide)
      · intro z
        omega
section
variable {L : Nat} {xs : Nat → Int32} {J : am_J} {b : Nat → Nat} {n T : Nat}
def pa_ar (r : Nat × Option RU) : Int32 := match r.2 with
  | none => 0
  | some _ => 1
def XOr (r : Nat × Option RU) (s : Nat) (I I' : am_I) : Prop := XF I I' ∧ I' 38 5 = nI r.1 ∧ ∀ R, r.2 = some R → I' 38 7 = nI (s + (pa_code R).length) ∧ CT I' s (pa_code R) ∧ ∀ k, k < s → I' 42 k = I 42 k
set_option maxRecDepth 100000 in
theorem x_rule (hJ : am_Cl am_meth L xs J) {d : Nat} (hb : ∀ j, j < n → b j < 256) (h200 : n ≤ 200) (hTn : T ≤ n) (hP : rt_P b n T = n) {I : am_I} {Q : am_Q} {i s : Nat} (hX : XS I b n T i s) (hi : i ≤ T) (hs : s ≤ rt_P b n i) (h : ∀ I', XOr (pa_rule (rt_C b n) i) s I I' → Q (some (.int (pa_ar (pa_rule (rt_C b n) i)))) I') {z1 z2 z3 : Option Value} : J (d + 14) q_RuleText_readRule 0 [some (.ref 38), z1, z2, z3] [] I Q := by
  have hTe := rt_C_end hP
  have hlt : ∀ k, k < T → rt_P b n k < n := fun k hk => (hX.1.2 k hk).2.2
  have hcc := fun i => rt_C_c (b := b) (n := n) (i := i) hb
  unfold pa_rule at h
  refine am_vcc hJ [80] 200 _ _ _ _ _ _ _ ?_
  refine x_token hJ hX hi (by omega) hP ?_
  refine x_within hJ (fun v1 => ?_) (fun v1 => ?_)
  · have g : 10000 ≤ rt_C b n i ∧ rt_C b n i < 10006 := (rt_xs (m := 5) (hcc i) (Or.inl rfl) (by decide)).mp v1
    rw [if_pos g] at h
    have ek : rt_x (rt_C b n i) - 10000 = nI (rt_C b n i - 10000) := by rw [rt_x_n (by omega), show (10000 : Int32) = nI 10000 from rfl, pk_sub (by omega)]
    have l1 : i < T := pa_lt hTe (by omega)
    have hk5 := rt_kind hb g.1 g.2
    have hpn := rt_P_le (b := b) (n := n) (i + 1)
    obtain ⟨ca, cc, ce⟩ := pa_cond_ok hTe l1
    have X1 := hX.adv
    refine br_f (by decide) ?_
    have e7 : am_put I 38 5 (I 38 5 + 1) 38 7 = nI s := X1.2.2
    refine x_put hJ X1.2.2 (by omega) ?_
    have X2 := X1.put (v := rt_x (rt_C b n i) - 10000)
    refine x_put hJ X2.2.2 (by omega) ?_
    have X3 := X2.put (v := 0)
    refine x_put hJ X3.2.2 (by omega) ?_
    have X4 := X3.put (v := 0)
    generalize hI4 : am_put (am_put (am_put (am_put (am_put (am_put (am_put I 38 5 (I 38 5 + 1)) 42 s (rt_x (rt_C b n i) - 10000)) 38 7 (nI (s + 1))) 42 (s + 1) 0) 38 7 (nI (s + 1 + 1))) 42 (s + 1 + 1) 0) 38 7 (nI (s + 1 + 1 + 1)) = I4 at X4
    have F4 : XF I I4 := by
      rw [← hI4]
      exact XF.adv.trans (XF.put.trans (XF.put.trans XF.put))
    have k4 : I4 42 s = nI (rt_C b n i - 10000) := by
      rw [← hI4, put42 (by omega), put42 (by omega), am_put_o (by decide), put_at, ek]
    have p4 : ∀ k, k < s → I4 42 k = I 42 k := fun k hk => by
      rw [← hI4, put42 (by omega), put42 (by omega), put42 hk, am_put_o (by decide)]
    have fin : ∀ (e : Nat) (q : List Nat × List Nat) (I5 : am_I), i + 1 ≤ e → e ≤ T → q.1.length + (i + 1) ≤ e → XO (e, some q) (s + 3) I4 I5 → (∀ I' : am_I, XOr (if 10006 ≤ rt_C b n e ∧ rt_C b n e < 10009 then (if rt_C b n (e + 1) = 20059 then (e + 2, some (rt_C b n i - 10000, rt_C b n e - 10006, q.1, q.2)) else (e + 1, none)) else (e, none)) s I I' → Q (some (.int (pa_ar (if 10006 ≤ rt_C b n e ∧ rt_C b n e < 10009 then (if rt_C b n (e + 1) = 20059 then (e + 2, some (rt_C b n i - 10000, rt_C b n e - 10006, q.1, q.2)) else (e + 1, none)) else (e, none))))) I') → J (d + 14) q_RuleText_readRule 80 [some (.ref 38), some (.int (rt_x (rt_C b n i) - 10000)), some (.int (nI s)), z3] [] I5 Q := by
      intro e q I5 e1 e2 e3 hO hh
      obtain ⟨y1, y2, y3⟩ := hO
      obtain ⟨w1, w2, w3⟩ := y3 q rfl
      have F5 : XF I I5 := F4.trans y1
      have X5 : XS I5 b n T e (s + 3 + q.1.length) := ⟨hX.1.xf F5, y2, w1⟩
      refine am_vc hJ 90 _ _ _ _ _ _ _ ?_
      refine x_token hJ X5 e2 (by omega) hP ?_
      refine x_within hJ (fun v2 => ?_) (fun v2 => ?_)
      · have g2 : 10006 ≤ rt_C b n e ∧ rt_C b n e < 10009 := (rt_xs (m := 2) (hcc e) (Or.inr rfl) (by decide)).mp v2
        have ed : rt_x (rt_C b n e) - 10006 = nI (rt_C b n e - 10006) := by rw [rt_x_n (by omega), show (10006 : Int32) = nI 10006 from rfl, pk_sub (by omega)]
        rw [if_pos g2] at hh
        have l2 : e < T := pa_lt hTe (by omega)
        refine br_f (by decide) ?_
        have X6 := X5.adv
        refine x_token hJ X6 l2 (by omega) hP ?_
        by_cases g3 : rt_C b n (e + 1) = 20059
        · rw [if_pos g3] at hh
          have l3 : e + 1 < T := pa_lt hTe (by omega)
          have hp2 := rt_P_add (i := i + 1) hlt (e + 2 - (i + 1)) (by omega)
          rw [show i + 1 + (e + 2 - (i + 1)) = e + 2 by omega] at hp2
          have hpn2 := rt_P_le (b := b) (n := n) (e + 2)
          have X7 := X6.adv
          refine br_t (by show rt_x (rt_C b n (e + 1)) = nI 20059; rw [rt_xC hb (by decide)]; exact g3) ?_
          have i3 : nI s + 3 = nI (s + 3) := nI_add s 3
          have i1 : nI s + 1 = nI (s + 1) := nI_1 s
          have i2 : nI s + 2 = nI (s + 2) := nI_add s 2
          refine br_f (by show ¬ nI 200 < nI s + 3; rw [i3, nI_ltI (by omega) (by omega)]; omega) ?_
          refine ⟨am_vinN i1 (by omega) (by omega), am_vinN i2 (by omega) (by omega), ?_⟩
          refine ⟨Or.inr rfl, ?_⟩
          rw [am_clN i1 (by omega), am_clN i2 (by omega)]
          have e7 : I5 38 7 - nI s - 3 = nI q.1.length := by
            rw [w1, pk_sub (by omega), show (3 : Int32) = nI 3 from rfl, pk_sub (by omega)]
            congr 1
            omega
          generalize hI7 : am_put (am_put I5 38 5 (I5 38 5 + 1)) 38 5 (am_put I5 38 5 (I5 38 5 + 1) 38 5 + 1) = I7 at X7
          have f7 : ∀ o, o ≠ 38 → I7 o = I5 o := fun o ho => by rw [← hI7, am_put_o ho, am_put_o ho]
          have s7 : I7 38 7 = I5 38 7 := by rw [← hI7, put_nk (by decide), put_nk (by decide)]
          have F7 : XF I5 I7 := by rw [← hI7]; exact XF.adv.trans XF.adv
          have k9 := hh (am_put (am_put I7 42 (s + 1) (nI (rt_C b n e - 10006))) 42 (s + 2) (nI q.1.length)) ⟨?_, ?_, fun R hR => ?_⟩
          · show Q (some (.int 1)) (am_put (am_put I7 42 (s + 1) (rt_x (rt_C b n e) - 10006)) 42 (s + 2) (am_put I7 42 (s + 1) (rt_x (rt_C b n e) - 10006) 38 7 - nI s - 3))
            rw [am_put_o (o' := 38) (by decide), s7, e7, ed]
            exact k9
          · exact (F5.trans F7).trans ⟨fun o _ o2 => by rw [am_put_o o2, am_put_o o2], fun f _ _ => by rw [am_put_o (by decide), am_put_o (by decide)]⟩
          · rw [am_put_o (by decide), am_put_o (by decide)]
            exact X7.2.1
          · injection hR with hR
            subst hR
            refine ⟨?_, ?_, fun k hk => ?_⟩
            · rw [am_put_o (by decide), am_put_o (by decide), s7, w1]
              congr 1
              show s + 3 + q.1.length = s + ([rt_C b n i - 10000, rt_C b n e - 10006, q.1.length] ++ q.1).length
              rw [List.length_append]
              show _ = s + (3 + q.1.length)
              omega
            · refine CT.app (l := [rt_C b n i - 10000, rt_C b n e - 10006, q.1.length]) (m := q.1) (fun k hk => ?_) (fun k hk => ?_)
              · have hk : k < 3 := hk
                have q5 : I5 42 s = I4 42 s := w3 s (by omega)
                rcases (show k = 0 ∨ k = 1 ∨ k = 2 by omega) with rfl | rfl | rfl
                · rw [put_nk (by omega), put_nk (by omega), f7 42 (by decide)]
                  show I5 42 s = _
                  rw [q5, k4]
                  rfl
                · rw [put_nk (by omega), put_at]
                  rfl
                · rw [put_at]
                  rfl
              · have : s + [rt_C b n i - 10000, rt_C b n e - 10006, q.1.length].length = s + 3 := rfl
                rw [this, put_nk (by omega), put_nk (by omega), f7 42 (by decide)]
                exact w2 k hk
            · rw [put_nk (by omega), put_nk (by omega), f7 42 (by decide), w3 k (by omega)]
              exact p4 k hk
        · rw [if_neg g3] at hh
          refine br_f (by show ¬ rt_x (rt_C b n (e + 1)) = nI 20059; rw [rt_xC hb (by decide)]; exact g3) ?_
          exact ⟨Or.inl rfl, hh _ ⟨F5.trans XF.adv, X6.2.1, fun R hR => by cases hR⟩⟩
      · have g2 : ¬ (10006 ≤ rt_C b n e ∧ rt_C b n e < 10009) := fun z => v2 ((rt_xs (m := 2) (hcc e) (Or.inr rfl) (by decide)).mpr z)
        rw [if_neg g2] at hh
        refine br_t (by decide) ?_
        exact ⟨Or.inl rfl, hh I5 ⟨F5, y2, fun R hR => by cases hR⟩⟩
    have e7b : am_put I 38 5 ((fun (x y : Int32) => x + y) (I 38 5) 1) 38 7 = nI s := X1.2.2
    refine x_token hJ X4 l1 (by omega) hP ?_
    rw [e7b]
    by_cases g1 : rt_C b n (i + 1) = 10009
    · have ec : pa_cond (rt_C b n) i = pa_any (rt_C b n) 3 (i + 2) := by unfold pa_cond; rw [if_pos g1]
      have l2 : i + 1 < T := pa_lt hTe (by omega)
      have hp2 := (rt_P_lt (hlt (i + 1) l2)).2
      refine br_t (by show rt_x (rt_C b n (i + 1)) = nI 10009; rw [rt_xC hb (by decide)]; exact g1) ?_
      have X5 := X4.adv
      refine x_any hJ hb h200 hTn hP 3 d 0 (by decide) (am_put I4 38 5 (I4 38 5 + 1)) _ (i + 2) (s + 3) X5 l2 (by show s + 3 ≤ rt_P b n (i + 1 + 1); omega) (fun I6 X6 => ?_)
      rw [← ec] at X6
      rw [← ec]
      generalize pa_cond (rt_C b n) i = r at ca cc ce h X6
      obtain ⟨e, o⟩ := r
      obtain ⟨y1, y2, y3⟩ := X6
      cases o with
      | none =>
        refine br_t pa_n0 ?_
        exact ⟨Or.inl rfl, h I6 ⟨F4.trans (XF.adv.trans y1), y2, fun R hR => by cases hR⟩⟩
      | some q =>
        refine br_f pa_n1 ?_
        obtain ⟨w1, w2, w3⟩ := y3 q rfl
        exact fin e q I6 ca cc (ce q rfl).1 ⟨XF.adv.trans y1, y2, fun p hp => by injection hp with hp; subst hp; exact ⟨w1, w2, fun k hk => by rw [w3 k hk, am_put_o (by decide)]⟩⟩ h
    · have ec : pa_cond (rt_C b n) i = (i + 1, some ([], [])) := by unfold pa_cond; rw [if_neg g1]
      rw [ec] at h
      refine br_f (by show ¬ rt_x (rt_C b n (i + 1)) = nI 10009; rw [rt_xC hb (by decide)]; exact g1) ?_
      exact fin (i + 1) ([], []) I4 (Nat.le_refl _) l1 (by show 0 + (i + 1) ≤ i + 1; omega) ⟨XF.refl _, X4.2.1, fun p hp => by injection hp with hp; subst hp; exact ⟨X4.2.2, CT.nil, fun _ _ => rfl⟩⟩ h
  · have g : ¬ (10000 ≤ rt_C b n i ∧ rt_C b n i < 10006) := fun z => v1 ((rt_xs (m := 5) (hcc i) (Or.inl rfl) (by decide)).mpr z)
    rw [if_neg g] at h
    refine br_t (by decide) ?_
    exact ⟨Or.inl rfl, h I ⟨XF.refl I, hX.2.1, fun R hR => by cases hR⟩⟩
end
