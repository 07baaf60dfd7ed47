/-! RULES: the class parses -/
def XS (I : am_I) (b : Nat → Nat) (n T i s : Nat) : Prop := TkR I b n T ∧ I 38 5 = nI i ∧ I 38 7 = nI s
def XF (I I' : am_I) : Prop := (∀ o, o ≠ 38 → o ≠ 42 → I' o = I o) ∧ ∀ f, f ≠ 5 → f ≠ 7 → I' 38 f = I 38 f
theorem XF.refl (I : am_I) : XF I I := ⟨fun _ _ _ => rfl, fun _ _ _ => rfl⟩
theorem XF.trans {I I' I'' : am_I} (h : XF I I') (g : XF I' I'') : XF I I'' := ⟨fun o a c => by rw [g.1 o a c, h.1 o a c], fun f a c => by rw [g.2 f a c, h.2 f a c]⟩
theorem XF.adv {I : am_I} {w : Int32} : XF I (am_put I 38 5 w) := ⟨fun o a _ => am_put_o a, fun f a _ => put_nk a⟩
theorem XF.put {I : am_I} {k : Nat} {v w : Int32} : XF I (am_put (am_put I 42 k v) 38 7 w) := ⟨fun o a c => by rw [am_put_o a, am_put_o c], fun f _ c => by rw [put_nk c, am_put_o (by decide)]⟩
theorem TkR.xf {I I' : am_I} {b : Nat → Nat} {n T : Nat} (h : TkR I b n T) (g : XF I I') : TkR I' b n T := by
  unfold TkR
  rw [g.2 4 (by decide) (by decide), g.1 40 (by decide) (by decide), g.1 41 (by decide) (by decide)]
  exact h
theorem XS.adv {I : am_I} {b : Nat → Nat} {n T i s : Nat} (h : XS I b n T i s) : XS (am_put I 38 5 (I 38 5 + 1)) b n T (i + 1) s := by
  obtain ⟨h1, h2, h3⟩ := h
  refine ⟨h1.xf XF.adv, ?_, ?_⟩
  · rw [put_at, h2, nI_1]
  · rw [put_nk (by decide)]; exact h3
theorem XS.put {I : am_I} {b : Nat → Nat} {n T i s : Nat} {v : Int32} (h : XS I b n T i s) : XS (am_put (am_put I 42 s v) 38 7 (nI (s + 1))) b n T i (s + 1) := by
  obtain ⟨h1, h2, h3⟩ := h
  refine ⟨h1.xf XF.put, ?_, put_at⟩
  rw [put_nk (by decide), am_put_o (by decide)]
  exact h2
/-- codes of a list lie in the draft from s on -/
def CT (I : am_I) (s : Nat) (l : List Nat) : Prop := ∀ k, k < l.length → I 42 (s + k) = nI (l.getD k 0)
theorem CT.nil {I : am_I} {s : Nat} : CT I s [] := fun k hk => absurd hk (Nat.not_lt_zero _)
theorem CT.app {I : am_I} {s : Nat} {l m : List Nat} (h : CT I s l) (g : CT I (s + l.length) m) : CT I s (l ++ m) := by
  intro k hk
  rw [List.length_append] at hk
  rw [List.getD_eq_getElem?_getD, List.getElem?_append]
  by_cases q : k < l.length
  · rw [if_pos q, ← List.getD_eq_getElem?_getD]
    exact h k q
  · rw [if_neg q, ← List.getD_eq_getElem?_getD]
    have := g (k - l.length) (by omega)
    rw [show s + l.length + (k - l.length) = s + k by omega] at this
    exact this
theorem CT.kept {I I' : am_I} {s : Nat} {l : List Nat} (h : CT I s l) (hk : ∀ k, k < s + l.length → I' 42 k = I 42 k) : CT I' s l := by
  intro k hl
  rw [hk _ (by omega)]
  exact h k hl
theorem CT.one {I : am_I} {s x : Nat} {w : Int32} : CT (am_put (am_put I 42 s (nI x)) 38 7 w) s [x] := by
  intro k hk
  have hk : k < 1 := hk
  have : k = 0 := by omega
  subst this
  rw [am_put_o (by decide), Nat.add_zero, put_at]
  rfl
theorem CT.one' {I : am_I} {s x : Nat} {v w : Int32} (hv : v = nI x) : CT (am_put (am_put I 42 s v) 38 7 w) s [x] := by
  rw [hv]
  exact CT.one
theorem put42 {I : am_I} {s k : Nat} {v w : Int32} (h : k < s) : am_put (am_put I 42 s v) 38 7 w 42 k = I 42 k := by
  rw [am_put_o (by decide), put_nk (by omega)]
def pa_an (r : PR) : Int32 := match r.2 with
  | none => 0
  | some _ => 1
theorem pa_n0 {e : Nat} : pa_an (e, none) = 0 := rfl
theorem pa_n1 {e : Nat} {q : List Nat × List Nat} : ¬ pa_an (e, some q) = 0 := by show ¬ (1 : Int32) = 0; decide
/-- behind a parse -/
def XO (r : PR) (s : Nat) (I I' : am_I) : Prop := XF I I' ∧ I' 38 5 = nI r.1 ∧ ∀ q, r.2 = some q → I' 38 7 = nI (s + q.1.length) ∧ CT I' s q.1 ∧ ∀ k, k < s → I' 42 k = I 42 k
section
variable {L : Nat} {xs : Nat → Int32} {J : am_J} {b : Nat → Nat} {n T : Nat}
/-- a parsing method of the class, with how many words it may open yet, or none -/
def XM (J : am_J) (b : Nat → Nat) (n T dd q : Nat) (lv : List (Option Value)) (sub : Nat → PR) : Prop := ∀ (I : am_I) (Q : am_Q) (i s : Nat), XS I b n T i s → i ≤ T → s ≤ rt_P b n i → (∀ I', XO (sub i) s I I' → Q (some (.int (pa_an (sub i)))) I') → J dd q 0 lv [] I Q
theorem x_token (hJ : am_Cl am_meth L xs J) {d : Nat} {I : am_I} {Q : am_Q} {i s : Nat} (hX : XS I b n T i s) (hi : i ≤ T) (h200 : T ≤ 200) (hP : rt_P b n T = n) (h : Q (some (.int (rt_x (rt_C b n i)))) I) : J d q_RuleText_token 0 [some (.ref 38)] [] I Q := by
  obtain ⟨⟨t1, t2⟩, h5, -⟩ := hX
  refine am_vc hJ 20 _ _ _ _ _ _ _ ?_
  by_cases g : i < T
  · obtain ⟨a, -, -⟩ := t2 i g
    refine br_f (by show ¬ I 38 4 ≤ I 38 5; rw [t1, h5]; exact nI_ge g (by omega)) ?_
    refine ⟨by show vp_in (I 38 5) 200; rw [h5]; exact vp_in_nI (by omega) (by omega), ?_⟩
    refine am_qe ?_ h
    show I 40 (I 38 5).toNatClampNeg = _
    rw [h5, nI_clamp (by omega), a]
  · refine br_t (by show I 38 4 ≤ I 38 5; rw [t1, h5]; exact nI_le (by omega) (by omega)) ?_
    rw [rt_C_end hP i (by omega)] at h
    exact h
theorem x_put (hJ : am_Cl am_meth L xs J) {d : Nat} {I : am_I} {Q : am_Q} {s : Nat} {v : Int32} (h7 : I 38 7 = nI s) (h200 : s < 200) (h : Q none (am_put (am_put I 42 s v) 38 7 (nI (s + 1)))) : J d q_RuleText_put 0 [some (.ref 38), some (.int v)] [] I Q := by
  have e : am_put I 42 s v 38 7 = nI s := by rw [am_put_o (by decide)]; exact h7
  refine am_vc hJ 30 _ _ _ _ _ _ _ ?_
  refine br_f (by show ¬ nI 200 ≤ I 38 7; rw [h7]; exact nI_ge h200 (by omega)) ?_
  refine ⟨by show vp_in (I 38 7) 200; rw [h7]; exact vp_in_nI h200 (by omega), ?_⟩
  show Q none (am_put (am_put I 42 (I 38 7).toNatClampNeg v) 38 7 (am_put I 42 (I 38 7).toNatClampNeg v 38 7 + 1))
  rw [h7, nI_clamp (by omega), e, nI_1]
  exact h
theorem rt_x_eq {c k : Nat} (hk : k < 30000) : rt_x c = nI k ↔ (c = k ∨ (2 ^ 31 ≤ c ∧ rt_x c = nI k)) := by
  unfold rt_x
  by_cases h1 : c = 30000
  · rw [if_pos h1]
    constructor
    · intro z
      have := nI_pos (n := k) (by omega)
      rw [← z] at this
      exact absurd (by decide) this
    · rintro (z | z) <;> omega
  · rw [if_neg h1]
    by_cases h2 : c = 30001
    · rw [if_pos h2]
      constructor
      · intro z
        have := nI_pos (n := k) (by omega)
        rw [← z] at this
        exact absurd (by decide) this
      · rintro (z | z) <;> omega
    · rw [if_neg h2]
      by_cases h3 : c < 2 ^ 31
      · rw [nI_eq h3 (by omega)]
        exact ⟨Or.inl, fun z => z.elim id (fun z => by omega)⟩
      · exact ⟨fun z => Or.inr ⟨by omega, z⟩, fun z => z.elim (fun z => by rw [z]) (fun z => z.2)⟩
theorem rt_xC {b : Nat → Nat} {n i k : Nat} (hb : ∀ j, j < n → b j < 256) (hk : k < 30000) : rt_x (rt_C b n i) = nI k ↔ rt_C b n i = k := by
  rw [rt_x_eq hk]
  have := rt_C_c (i := i) hb
  exact ⟨fun z => z.elim id (fun z => by omega), Or.inl⟩
theorem x_isValue (hJ : am_Cl am_meth L xs J) {d : Nat} {I : am_I} {Q : am_Q} {i : Nat} (hb : ∀ j, j < n → b j < 256) (h1 : pa_val (rt_C b n i) → Q (some (.int 1)) I) (h0 : ¬ pa_val (rt_C b n i) → Q (some (.int 0)) I) : J d q_RuleText_isValue 0 [some (.int (rt_x (rt_C b n i)))] [] I Q := by
  have hc := rt_C_c (i := i) hb
  generalize rt_C b n i = c at *
  by_cases g : c < 30000
  · rw [rt_x_n g]
    refine am_vc hJ 30 _ _ _ _ _ _ _ ?_
    refine br_f (by show ¬ nI c < 0; exact nI_pos (by omega)) ?_
    by_cases g1 : c < 10000
    · refine br_t (by show nI c < nI 10000; exact nI_lt g1 (by omega)) ?_
      exact ⟨Or.inr rfl, h1 (Or.inl g1)⟩
    · refine br_f (by show ¬ nI c < nI 10000; exact nI_nlt (by omega) (by omega)) ?_
      by_cases g2 : c < 10013
      · refine br_t (by show nI c < nI 10013; exact nI_lt g2 (by omega)) ?_
        exact ⟨Or.inl rfl, h0 (fun z => by unfold pa_val at z; omega)⟩
      · refine br_f (by show ¬ nI c < nI 10013; exact nI_nlt (by omega) (by omega)) ?_
        by_cases g3 : c < 10018
        · refine br_f (by show ¬ nI 10018 ≤ nI c; exact nI_ge g3 (by omega)) ?_
          exact ⟨Or.inr rfl, h1 (Or.inr ⟨by omega, g3⟩)⟩
        · refine br_t (by show nI 10018 ≤ nI c; exact nI_le (by omega) (by omega)) ?_
          exact ⟨Or.inl rfl, h0 (fun z => by unfold pa_val at z; omega)⟩
  · rcases (show c = 30000 ∨ c = 30001 by omega) with rfl | rfl
    · refine am_vc hJ 30 _ _ _ _ _ _ _ ?_
      refine br_t (by decide) ?_
      refine br_t (by decide) ?_
      exact ⟨Or.inl rfl, h0 (fun z => by unfold pa_val at z; omega)⟩
    · refine am_vc hJ 30 _ _ _ _ _ _ _ ?_
      refine br_t (by decide) ?_
      refine br_t (by decide) ?_
      exact ⟨Or.inl rfl, h0 (fun z => by unfold pa_val at z; omega)⟩
theorem x_cmp (hJ : am_Cl am_meth L xs J) {d : Nat} (hb : ∀ j, j < n → b j < 256) (h200 : n ≤ 200) (hTn : T ≤ n) (hP : rt_P b n T = n) {z1 z2 z3 : Option Value} : XM J b n T (d + 1) q_RuleText_readComparison [some (.ref 38), z1, z2, z3] (pa_cmp (rt_C b n)) := by
  intro I Q i s hX hi hs h
  have hlt : ∀ k, k < T → rt_P b n k < n := fun k hk => (hX.1.2 k hk).2.2
  have hTe := rt_C_end hP
  unfold pa_cmp at h
  refine am_vcc hJ [52] 200 _ _ _ _ _ _ _ ?_
  refine x_token hJ hX hi (by omega) hP ?_
  refine x_isValue hJ hb (fun v1 => ?_) (fun v1 => ?_)
  · rw [if_pos v1] at h
    have l1 : i < T := pa_lt hTe (by unfold pa_val at v1; omega)
    refine br_f (by decide) ?_
    have X1 := hX.adv
    refine x_token hJ X1 (by omega) (by omega) hP ?_
    have sg : ∀ k, k < 30000 → (rt_x (rt_C b n (i + 1)) = nI k ↔ rt_C b n (i + 1) = k) := fun k hk => rt_xC hb hk
    have good : pa_sg (rt_C b n (i + 1)) → J (d + 1) q_RuleText_readComparison 52 [some (.ref 38), some (.int (rt_x (rt_C b n i))), some (.int (rt_x (rt_C b n (i + 1)))), z3] [] (am_put I 38 5 (I 38 5 + 1)) Q := by
      intro g
      rw [if_pos g] at h
      have l2 : i + 1 < T := pa_lt hTe (by unfold pa_sg at g; omega)
      have X2 := X1.adv
      refine am_vc hJ 60 _ _ _ _ _ _ _ ?_
      refine x_token hJ X2 (by omega) (by omega) hP ?_
      refine x_isValue hJ hb (fun v3 => ?_) (fun v3 => ?_)
      · have v3 : pa_val (rt_C b n (i + 2)) := v3
        rw [if_pos v3] at h
        have l3 : i + 2 < T := pa_lt hTe (by unfold pa_val at v3; omega)
        have X3 := X2.adv
        have hp3 := rt_P_add (i := i) hlt 3 (by omega)
        have hpl := rt_P_le (b := b) (n := n) (i + 3)
        refine br_f (by decide) ?_
        refine x_put hJ X3.2.2 (by omega) ?_
        have X4 := X3.put (v := rt_x (rt_C b n (i + 1)))
        refine x_put hJ X4.2.2 (by omega) ?_
        have X5 := X4.put (v := rt_x (rt_C b n i))
        refine x_put hJ X5.2.2 (by omega) ?_
        have X6 := X5.put (v := rt_x (rt_C b n (i + 2)))
        refine ⟨Or.inr rfl, h _ ⟨?_, X6.2.1, fun q hq => ?_⟩⟩
        · exact XF.adv.trans (XF.adv.trans (XF.adv.trans (XF.put.trans (XF.put.trans XF.put))))
        · injection hq with hq
          subst hq
          have h1 : rt_C b n i < 30000 := by unfold pa_val at v1; omega
          have h2 : rt_C b n (i + 1) < 30000 := by unfold pa_sg at g; omega
          have h3 : rt_C b n (i + 2) < 30000 := by unfold pa_val at v3; omega
          refine ⟨X6.2.2, ?_, fun k hk => ?_⟩
          · refine CT.app (l := [rt_C b n (i + 1), rt_C b n i]) (m := [rt_C b n (i + 2)]) ?_ (CT.one' (rt_x_n h3))
            refine CT.kept ?_ (fun k hk => put42 hk)
            refine CT.app (l := [rt_C b n (i + 1)]) (m := [rt_C b n i]) ?_ (CT.one' (rt_x_n h1))
            exact CT.kept (CT.one' (rt_x_n h2)) (fun k hk => put42 hk)
          · rw [put42 (by omega), put42 (by omega), put42 hk, am_put_o (by decide), am_put_o (by decide), am_put_o (by decide)]
      · have v3 : ¬ pa_val (rt_C b n (i + 2)) := v3
        rw [if_neg v3] at h
        refine br_t (by decide) ?_
        exact ⟨Or.inl rfl, h _ ⟨XF.adv.trans XF.adv, X2.2.1, fun q hq => by cases hq⟩⟩
    refine ⟨fun g => ?_, fun g => ?_⟩
    · exact good (Or.inl ((sg 20060 (by decide)).mp g))
    · refine ⟨fun g2 => ?_, fun g2 => ?_⟩
      · exact good (Or.inr (Or.inl ((sg 20061 (by decide)).mp g2)))
      · refine ⟨fun g3 => ?_, fun g3 => ?_⟩
        · exact good (Or.inr (Or.inr ((sg 20062 (by decide)).mp g3)))
        · rw [if_neg (fun z => z.elim (fun z => g ((sg 20060 (by decide)).mpr z)) (fun z => z.elim (fun z => g2 ((sg 20061 (by decide)).mpr z)) (fun z => g3 ((sg 20062 (by decide)).mpr z))))] at h
          exact ⟨Or.inl rfl, h _ ⟨XF.adv, X1.2.1, fun q hq => by cases hq⟩⟩
  · rw [if_neg v1] at h
    refine br_t (by decide) ?_
    exact ⟨Or.inl rfl, h I ⟨XF.refl I, hX.2.1, fun q hq => by cases hq⟩⟩

theorem x_and_loop (hJ : am_Cl am_meth L xs J) {d : Nat} {sub : Nat → PR} {op : Int32} (hb : ∀ j, j < n → b j < 256) (h200 : n ≤ 200) (hTn : T ≤ n) (hP : rt_P b n T = n) (hok : pa_ok (rt_C b n) T sub) (hsub : XM J b n T d q_RuleText_readOne (am_pad 3 [some (.ref 38), some (.int op)]) sub) {I0 : am_I} {Q : am_Q} {i s : Nat} (hT0 : TkR I0 b n T) (hs : s ≤ rt_P b n i) : ∀ (f e : Nat) (q : List Nat × List Nat) (I : am_I), T < e + f → e ≤ T → q.1.length + i ≤ e → XO (e, some q) s I0 I → (∀ I', XO (pa_lp (rt_C b n) sub 10011 10013 f (e, some q)) s I0 I' → Q (some (.int (pa_an (pa_lp (rt_C b n) sub 10011 10013 f (e, some q))))) I') → J (d + 1) q_RuleText_readEach 10 [some (.ref 38), some (.int op)] [] I Q
  | 0, e, q, I, hf, he, hq, hX, h => by omega
  | f + 1, e, q, I, hf, he, hq, hX, h => by
    obtain ⟨x1, x2, x3⟩ := id hX
    obtain ⟨x4, x5, x6⟩ := x3 q rfl
    have x2 : I 38 5 = nI e := x2
    have hk := hT0.xf x1
    have hlt : ∀ k, k < T → rt_P b n k < n := fun k hk => (hT0.2 k hk).2.2
    have XSI : XS I b n T e (s + q.1.length) := ⟨hk, x2, x4⟩
    have hTe := rt_C_end hP
    have stop : rt_C b n e ≠ 10011 → Q (some (.int 1)) I := by
      intro y
      have el : pa_lp (rt_C b n) sub 10011 10013 (f + 1) (e, some q) = (e, some q) := by
        show (if rt_C b n e = 10011 then _ else _) = _
        rw [if_neg y]
      rw [el] at h
      exact h I hX
    refine am_vcl hJ [10] 200 ?_
    by_cases g : e < T
    · refine br_f (by show ¬ I 38 4 ≤ I 38 5; rw [hk.1, x2]; exact nI_ge g (by omega)) ?_
      refine x_token hJ XSI he (by omega) hP ?_
      by_cases y : rt_C b n e = 10011
      · refine br_t (by show rt_x (rt_C b n e) = nI 10011; rw [rt_xC hb (by decide)]; exact y) ?_
        have el : pa_lp (rt_C b n) sub 10011 10013 (f + 1) (e, some q) = pa_lp (rt_C b n) sub 10011 10013 f (pa_jn 10011 10013 q (sub (e + 1))) := by
          show (if rt_C b n e = 10011 then _ else _) = _
          rw [if_pos y]
        rw [el] at h
        have X1 := XSI.adv
        have hpi : i ≤ e := by omega
        have hp1 := rt_P_add (i := i) hlt (e - i) (by omega)
        rw [show i + (e - i) = e by omega] at hp1
        have hp2 := (rt_P_lt (hlt e g)).2
        obtain ⟨s1, s2, s3⟩ := hok (e + 1) g
        have go := hsub (am_put I 38 5 (I 38 5 + 1))
        refine go _ (e + 1) (s + q.1.length) X1 g (by omega) (fun I2 X2 => ?_)
        obtain ⟨y1, y2, y3⟩ := X2
        have F2 : XF I0 I2 := x1.trans (XF.adv.trans y1)
        have ih := x_and_loop (d := d) (op := op) hJ hb h200 hTn hP hok hsub (Q := Q) hT0 hs f
        generalize sub (e + 1) = r at s1 s2 s3 y2 y3 h
        obtain ⟨e1, o⟩ := r
        have s1 : e + 1 ≤ e1 := s1
        have s2 : e1 ≤ T := s2
        cases o with
        | none =>
          have en : pa_lp (rt_C b n) sub 10011 10013 f (pa_jn 10011 10013 q (e1, none)) = (e1, none) := by cases f <;> rfl
          rw [en] at h
          refine br_t pa_n0 ?_
          exact ⟨Or.inl rfl, h I2 ⟨F2, y2, fun q hq => by cases hq⟩⟩
        | some q' =>
          obtain ⟨t1, t2, t3⟩ := s3 q' rfl
          have t1 : q'.1.length + (e + 1) ≤ e1 := t1
          obtain ⟨w1, w2, w3⟩ := y3 q' rfl
          have hp3 := rt_P_add (i := e) hlt (e1 - e) (by omega)
          rw [show e + (e1 - e) = e1 by omega] at hp3
          have hpl := rt_P_le (b := b) (n := n) e1
          refine br_f pa_n1 ?_
          refine x_put hJ w1 (by omega) ?_
          have X3 : XS I2 b n T e1 (s + q.1.length + q'.1.length) := ⟨hT0.xf F2, y2, w1⟩
          have X4 := X3.put (v := 10011)
          have pre : ∀ k, k < s + q.1.length → I2 42 k = I 42 k := fun k hk => by rw [w3 k hk, am_put_o (by decide)]
          have c2 : CT I2 s (q.1 ++ q'.1) := (x5.kept pre).app w2
          refine ih e1 (q.1 ++ q'.1 ++ [10011], q.2 ++ q'.2 ++ [10013]) _ (by omega) s2 ?_ ⟨F2.trans XF.put, X4.2.1, fun p hp => ?_⟩ h
          · show (q.1 ++ q'.1 ++ [10011]).length + i ≤ e1
            rw [List.length_append, List.length_append, List.length_singleton]
            omega
          · injection hp with hp
            subst hp
            refine ⟨?_, ?_, fun k hk => ?_⟩
            · show _ = nI (s + (q.1 ++ q'.1 ++ [10011]).length)
              rw [List.length_append, List.length_append, List.length_singleton]
              exact X4.2.2.trans (by congr 1; omega)
            · have c3 : CT (am_put (am_put I2 42 (s + q.1.length + q'.1.length) 10011) 38 7 (nI (s + q.1.length + q'.1.length + 1))) s (q.1 ++ q'.1) := c2.kept (fun k hk => put42 (by rw [List.length_append] at hk; omega))
              refine c3.app ?_
              rw [List.length_append, show s + (q.1.length + q'.1.length) = s + q.1.length + q'.1.length by omega]
              exact CT.one (x := 10011)
            · rw [put42 (by omega), pre k (by omega)]
              exact x6 k hk
      · refine br_f (by show ¬ rt_x (rt_C b n e) = nI 10011; rw [rt_xC hb (by decide)]; exact y) ?_
        exact ⟨Or.inr rfl, stop y⟩
    · refine br_t (by show I 38 4 ≤ I 38 5; rw [hk.1, x2]; exact nI_le (by omega) (by omega)) ?_
      exact ⟨Or.inr rfl, stop (by rw [hTe e (by omega)]; decide)⟩
theorem x_and (hJ : am_Cl am_meth L xs J) {d : Nat} {sub : Nat → PR} {op : Int32} (hb : ∀ j, j < n → b j < 256) (h200 : n ≤ 200) (hTn : T ≤ n) (hP : rt_P b n T = n) (hok : pa_ok (rt_C b n) T sub) (hsub : XM J b n T d q_RuleText_readOne (am_pad 3 [some (.ref 38), some (.int op)]) sub) : XM J b n T (d + 1) q_RuleText_readEach [some (.ref 38), some (.int op)] (pa_ch (rt_C b n) sub 10011 10013) := by
  intro I Q i s hX hi hs h
  have lo := x_and_loop (d := d) (op := op) hJ hb h200 hTn hP hok hsub (Q := Q) (I0 := I) hX.1 hs 201
  obtain ⟨s1, s2, s3⟩ := hok i hi
  unfold pa_ch at h
  refine am_vcc hJ [10] 200 _ _ _ _ _ _ _ ?_
  refine hsub I _ i s hX hi hs (fun I2 X2 => ?_)
  generalize sub i = r at s1 s2 s3 X2 h
  obtain ⟨e1, o⟩ := r
  cases o with
  | none =>
    refine br_t pa_n0 ?_
    exact ⟨Or.inl rfl, h I2 X2⟩
  | some q =>
    obtain ⟨t1, t2, t3⟩ := s3 q rfl
    refine br_f pa_n1 ?_
    exact lo e1 q I2 (by have s2 : e1 ≤ T := s2; omega) s2 t1 X2 h

theorem x_or_loop (hJ : am_Cl am_meth L xs J) {d : Nat} {sub : Nat → PR} {op : Int32} (hb : ∀ j, j < n → b j < 256) (h200 : n ≤ 200) (hTn : T ≤ n) (hP : rt_P b n T = n) (hok : pa_ok (rt_C b n) T sub) (hsub : XM J b n T d q_RuleText_readEach (am_pad 2 [some (.ref 38), some (.int op)]) sub) {I0 : am_I} {Q : am_Q} {i s : Nat} (hT0 : TkR I0 b n T) (hs : s ≤ rt_P b n i) : ∀ (f e : Nat) (q : List Nat × List Nat) (I : am_I), T < e + f → e ≤ T → q.1.length + i ≤ e → XO (e, some q) s I0 I → (∀ I', XO (pa_lp (rt_C b n) sub 10010 10014 f (e, some q)) s I0 I' → Q (some (.int (pa_an (pa_lp (rt_C b n) sub 10010 10014 f (e, some q))))) I') → J (d + 1) q_RuleText_readAny 10 [some (.ref 38), some (.int op)] [] I Q
  | 0, e, q, I, hf, he, hq, hX, h => by omega
  | f + 1, e, q, I, hf, he, hq, hX, h => by
    obtain ⟨x1, x2, x3⟩ := id hX
    obtain ⟨x4, x5, x6⟩ := x3 q rfl
    have x2 : I 38 5 = nI e := x2
    have hk := hT0.xf x1
    have hlt : ∀ k, k < T → rt_P b n k < n := fun k hk => (hT0.2 k hk).2.2
    have XSI : XS I b n T e (s + q.1.length) := ⟨hk, x2, x4⟩
    have hTe := rt_C_end hP
    have stop : rt_C b n e ≠ 10010 → Q (some (.int 1)) I := by
      intro y
      have el : pa_lp (rt_C b n) sub 10010 10014 (f + 1) (e, some q) = (e, some q) := by
        show (if rt_C b n e = 10010 then _ else _) = _
        rw [if_neg y]
      rw [el] at h
      exact h I hX
    refine am_vcl hJ [10] 200 ?_
    by_cases g : e < T
    · refine br_f (by show ¬ I 38 4 ≤ I 38 5; rw [hk.1, x2]; exact nI_ge g (by omega)) ?_
      refine x_token hJ XSI he (by omega) hP ?_
      by_cases y : rt_C b n e = 10010
      · refine br_t (by show rt_x (rt_C b n e) = nI 10010; rw [rt_xC hb (by decide)]; exact y) ?_
        have el : pa_lp (rt_C b n) sub 10010 10014 (f + 1) (e, some q) = pa_lp (rt_C b n) sub 10010 10014 f (pa_jn 10010 10014 q (sub (e + 1))) := by
          show (if rt_C b n e = 10010 then _ else _) = _
          rw [if_pos y]
        rw [el] at h
        have X1 := XSI.adv
        have hpi : i ≤ e := by omega
        have hp1 := rt_P_add (i := i) hlt (e - i) (by omega)
        rw [show i + (e - i) = e by omega] at hp1
        have hp2 := (rt_P_lt (hlt e g)).2
        obtain ⟨s1, s2, s3⟩ := hok (e + 1) g
        have go := hsub (am_put I 38 5 (I 38 5 + 1))
        refine go _ (e + 1) (s + q.1.length) X1 g (by omega) (fun I2 X2 => ?_)
        obtain ⟨y1, y2, y3⟩ := X2
        have F2 : XF I0 I2 := x1.trans (XF.adv.trans y1)
        have ih := x_or_loop (d := d) (op := op) hJ hb h200 hTn hP hok hsub (Q := Q) hT0 hs f
        generalize sub (e + 1) = r at s1 s2 s3 y2 y3 h
        obtain ⟨e1, o⟩ := r
        have s1 : e + 1 ≤ e1 := s1
        have s2 : e1 ≤ T := s2
        cases o with
        | none =>
          have en : pa_lp (rt_C b n) sub 10010 10014 f (pa_jn 10010 10014 q (e1, none)) = (e1, none) := by cases f <;> rfl
          rw [en] at h
          refine br_t pa_n0 ?_
          exact ⟨Or.inl rfl, h I2 ⟨F2, y2, fun q hq => by cases hq⟩⟩
        | some q' =>
          obtain ⟨t1, t2, t3⟩ := s3 q' rfl
          have t1 : q'.1.length + (e + 1) ≤ e1 := t1
          obtain ⟨w1, w2, w3⟩ := y3 q' rfl
          have hp3 := rt_P_add (i := e) hlt (e1 - e) (by omega)
          rw [show e + (e1 - e) = e1 by omega] at hp3
          have hpl := rt_P_le (b := b) (n := n) e1
          refine br_f pa_n1 ?_
          refine x_put hJ w1 (by omega) ?_
          have X3 : XS I2 b n T e1 (s + q.1.length + q'.1.length) := ⟨hT0.xf F2, y2, w1⟩
          have X4 := X3.put (v := 10010)
          have pre : ∀ k, k < s + q.1.length → I2 42 k = I 42 k := fun k hk => by rw [w3 k hk, am_put_o (by decide)]
          have c2 : CT I2 s (q.1 ++ q'.1) := (x5.kept pre).app w2
          refine ih e1 (q.1 ++ q'.1 ++ [10010], q.2 ++ q'.2 ++ [10014]) _ (by omega) s2 ?_ ⟨F2.trans XF.put, X4.2.1, fun p hp => ?_⟩ h
          · show (q.1 ++ q'.1 ++ [10010]).length + i ≤ e1
            rw [List.length_append, List.length_append, List.length_singleton]
            omega
          · injection hp with hp
            subst hp
            refine ⟨?_, ?_, fun k hk => ?_⟩
            · show _ = nI (s + (q.1 ++ q'.1 ++ [10010]).length)
              rw [List.length_append, List.length_append, List.length_singleton]
              exact X4.2.2.trans (by congr 1; omega)
            · have c3 : CT (am_put (am_put I2 42 (s + q.1.length + q'.1.length) 10010) 38 7 (nI (s + q.1.length + q'.1.length + 1))) s (q.1 ++ q'.1) := c2.kept (fun k hk => put42 (by rw [List.length_append] at hk; omega))
              refine c3.app ?_
              rw [List.length_append, show s + (q.1.length + q'.1.length) = s + q.1.length + q'.1.length by omega]
              exact CT.one (x := 10010)
            · rw [put42 (by omega), pre k (by omega)]
              exact x6 k hk
      · refine br_f (by show ¬ rt_x (rt_C b n e) = nI 10010; rw [rt_xC hb (by decide)]; exact y) ?_
        exact ⟨Or.inr rfl, stop y⟩
    · refine br_t (by show I 38 4 ≤ I 38 5; rw [hk.1, x2]; exact nI_le (by omega) (by omega)) ?_
      exact ⟨Or.inr rfl, stop (by rw [hTe e (by omega)]; decide)⟩
theorem x_or (hJ : am_Cl am_meth L xs J) {d : Nat} {sub : Nat → PR} {op : Int32} (hb : ∀ j, j < n → b j < 256) (h200 : n ≤ 200) (hTn : T ≤ n) (hP : rt_P b n T = n) (hok : pa_ok (rt_C b n) T sub) (hsub : XM J b n T d q_RuleText_readEach (am_pad 2 [some (.ref 38), some (.int op)]) sub) : XM J b n T (d + 1) q_RuleText_readAny [some (.ref 38), some (.int op)] (pa_ch (rt_C b n) sub 10010 10014) := by
  intro I Q i s hX hi hs h
  have lo := x_or_loop (d := d) (op := op) hJ hb h200 hTn hP hok hsub (Q := Q) (I0 := I) hX.1 hs 201
  obtain ⟨s1, s2, s3⟩ := hok i hi
  unfold pa_ch at h
  refine am_vcc hJ [10] 200 _ _ _ _ _ _ _ ?_
  refine hsub I _ i s hX hi hs (fun I2 X2 => ?_)
  generalize sub i = r at s1 s2 s3 X2 h
  obtain ⟨e1, o⟩ := r
  cases o with
  | none =>
    refine br_t pa_n0 ?_
    exact ⟨Or.inl rfl, h I2 X2⟩
  | some q =>
    obtain ⟨t1, t2, t3⟩ := s3 q rfl
    refine br_f pa_n1 ?_
    exact lo e1 q I2 (by have s2 : e1 ≤ T := s2; omega) s2 t1 X2 h

theorem x_nots (hJ : am_Cl am_meth L xs J) {d : Nat} {Q : am_Q} {I0 : am_I} {i s : Nat} {z1 : Option Value} (hb : ∀ j, j < n → b j < 256) (h200 : n ≤ 200) (hTn : T ≤ n) (hP : rt_P b n T = n) (R : Nat) (h : ∀ I, XF I0 I → XS I b n T (i + R) s → I 42 = I0 42 → J (d + 1) q_RuleText_readOne 46 [some (.ref 38), z1, some (.int (nI (R % 2)))] [] I Q) : ∀ (f k : Nat) (I : am_I), T < i + k + f → i + k ≤ T → XF I0 I → XS I b n T (i + k) s → I 42 = I0 42 → R = k + pa_nt (rt_C b n) f (i + k) → J (d + 1) q_RuleText_readOne 2 [some (.ref 38), z1, some (.int (nI (k % 2)))] [] I Q
  | 0, k, I, hf, hk, hF, hX, h42, hR => by omega
  | f + 1, k, I, hf, hk, hF, hX, h42, hR => by
    have hTe := rt_C_end hP
    have e0 : pa_nt (rt_C b n) (f + 1) (i + k) = if rt_C b n (i + k) = 10012 then pa_nt (rt_C b n) f (i + k + 1) + 1 else 0 := rfl
    rw [e0] at hR
    have stop : rt_C b n (i + k) ≠ 10012 → J (d + 1) q_RuleText_readOne 46 [some (.ref 38), z1, some (.int (nI (k % 2)))] [] I Q := by
      intro y
      rw [if_neg y] at hR
      have : R = k := by omega
      subst this
      exact h I hF hX h42
    refine am_vcl hJ [2, 46] 200 ?_
    by_cases g : i + k < T
    · refine br_f (by show ¬ I 38 4 ≤ I 38 5; rw [hX.1.1, hX.2.1]; exact nI_ge g (by omega)) ?_
      refine x_token hJ hX hk (by omega) hP ?_
      by_cases y : rt_C b n (i + k) = 10012
      · refine br_t (by show rt_x (rt_C b n (i + k)) = nI 10012; rw [rt_xC hb (by decide)]; exact y) ?_
        rw [if_pos y] at hR
        have k9 := x_nots (d := d) (z1 := z1) hJ hb h200 hTn hP R h f (k + 1) (am_put I 38 5 (I 38 5 + 1)) (by omega) (by omega) (hF.trans XF.adv) hX.adv (by rw [am_put_o (by decide)]; exact h42) (by rw [hR, show i + k + 1 = i + (k + 1) by omega]; omega)
        by_cases y2 : k % 2 = 0
        · rw [show (k + 1) % 2 = 1 by omega] at k9
          refine br_t (by show nI (k % 2) = 0; rw [y2]; rfl) ?_
          exact k9
        · rw [show (k + 1) % 2 = 0 by omega] at k9
          refine br_f (by show ¬ nI (k % 2) = 0; exact nI_ne0 (by omega) (by omega)) ?_
          exact k9
      · refine br_f (by show ¬ rt_x (rt_C b n (i + k)) = nI 10012; rw [rt_xC hb (by decide)]; exact y) ?_
        exact stop y
    · refine br_t (by show I 38 4 ≤ I 38 5; rw [hX.1.1, hX.2.1]; exact nI_le (by omega) (by omega)) ?_
      exact stop (by rw [hTe _ (by omega)]; decide)
theorem x_one (hJ : am_Cl am_meth L xs J) {d op : Nat} (hb : ∀ j, j < n → b j < 256) (h200 : n ≤ 200) (hTn : T ≤ n) (hP : rt_P b n T = n) {nx : Option (Nat → PR)} (h3 : op ≤ 3) (hn : nx = none → op = 3) (hs : ∀ f, nx = some f → op < 3 ∧ pa_ok (rt_C b n) T f ∧ XM J b n T (d + 1) q_RuleText_readAny [some (.ref 38), some (.int (nI (op + 1)))] f) {z2 : Option Value} : XM J b n T (d + 2) q_RuleText_readOne [some (.ref 38), some (.int (nI op)), z2] (pa_one (rt_C b n) nx) := by
  intro I Q i s hX hi hsl h
  have hTe := rt_C_end hP
  have hlt : ∀ k, k < T → rt_P b n k < n := fun k hk => (hX.1.2 k hk).2.2
  have hkl := pa_nt_le hTe 201 i hi
  unfold pa_one at h
  have lo := fun hh => x_nots (d := d + 1) (z1 := some (.int (nI op))) (I0 := I) (Q := Q) (s := s) hJ hb h200 hTn hP (pa_nt (rt_C b n) 201 i) hh 201 0 I (by omega) (by omega) (XF.refl I) hX rfl (by rw [Nat.add_zero, Nat.zero_add])
  generalize pa_nt (rt_C b n) 201 i = R at hkl h lo
  have hpR := rt_P_add (i := i) hlt R (by omega)
  refine am_vcc hJ [2] 200 _ _ _ _ _ _ _ ?_
  refine lo (fun I1 F1 X1 e42 => ?_)
  have fin : ∀ (r : PR) (I2 : am_I), i + R ≤ r.1 → r.1 ≤ T → (∀ q, r.2 = some q → q.1.length + (i + R) ≤ r.1) → XO r s I1 I2 → (∀ I', XO (pa_not R r) s I I' → Q (some (.int (pa_an (pa_not R r)))) I') → r.2.isSome = true → J (d + 2) q_RuleText_readOne 117 [some (.ref 38), some (.int (nI op)), some (.int (nI (R % 2)))] [] I2 Q := by
    rintro ⟨e, o⟩ I2 r1 r2 r3 ⟨y1, y2, y3⟩ hh hsome
    cases o with
    | none => cases hsome
    | some q =>
      obtain ⟨w1, w2, w3⟩ := y3 q rfl
      have r1 : i + R ≤ e := r1
      have r2 : e ≤ T := r2
      have r3 : q.1.length + (i + R) ≤ e := r3 q rfl
      by_cases g : R % 2 = 0
      · refine am_vc hJ 20 _ _ _ _ _ _ _ ?_
        refine br_t (by show nI (R % 2) = 0; rw [g]; rfl) ?_
        refine ⟨Or.inr rfl, hh I2 ⟨F1.trans y1, y2, fun p hp => ?_⟩⟩
        injection hp with hp
        subst hp
        have el : q.1 ++ (if R % 2 = 1 then [10012] else []) = q.1 := by rw [if_neg (by omega), List.append_nil]
        show I2 38 7 = nI (s + (q.1 ++ (if R % 2 = 1 then [10012] else [])).length) ∧ CT I2 s (q.1 ++ (if R % 2 = 1 then [10012] else [])) ∧ _
        rw [el]
        exact ⟨w1, w2, fun k hk => by rw [w3 k hk, e42]⟩
      · have hp1 := rt_P_add (i := i + R) hlt (e - (i + R)) (by omega)
        rw [show i + R + (e - (i + R)) = e by omega] at hp1
        have hpl := rt_P_le (b := b) (n := n) e
        refine am_vc hJ 20 _ _ _ _ _ _ _ ?_
        refine br_f (by show ¬ nI (R % 2) = 0; exact nI_ne0 (by omega) (by omega)) ?_
        refine x_put hJ w1 (by omega) ?_
        have X3 : XS I2 b n T e (s + q.1.length) := ⟨hX.1.xf (F1.trans y1), y2, w1⟩
        have X4 := X3.put (v := 10012)
        refine ⟨Or.inr rfl, hh _ ⟨(F1.trans y1).trans XF.put, X4.2.1, fun p hp => ?_⟩⟩
        injection hp with hp
        subst hp
        have el : q.1 ++ (if R % 2 = 1 then [10012] else []) = q.1 ++ [10012] := by rw [if_pos (by omega)]
        show _ = nI (s + (q.1 ++ (if R % 2 = 1 then [10012] else [])).length) ∧ CT _ s (q.1 ++ (if R % 2 = 1 then [10012] else [])) ∧ _
        rw [el, List.length_append, List.length_singleton]
        refine ⟨X4.2.2.trans (by congr 1), ?_, fun k hk => ?_⟩
        · have c3 : CT (am_put (am_put I2 42 (s + q.1.length) 10012) 38 7 (nI (s + q.1.length + 1))) s q.1 := w2.kept (fun k hk => put42 hk)
          exact c3.app (CT.one (x := 10012))
        · rw [put42 (by omega), w3 k hk, e42]
  refine am_vcc hJ [117] 200 _ _ _ _ _ _ _ ?_
  refine x_token hJ X1 hkl (by omega) hP ?_
  by_cases g : rt_C b n (i + R) = 20040
  · rw [if_pos g] at h
    have l1 : i + R < T := pa_lt hTe (by omega)
    refine br_t (by show rt_x (rt_C b n (i + R)) = nI 20040; rw [rt_xC hb (by decide)]; exact g) ?_
    cases nx with
    | none =>
      have e3 := hn rfl
      subst e3
      refine br_f (by decide) ?_
      exact ⟨Or.inl rfl, h I1 ⟨F1, X1.2.1, fun q hq => by cases hq⟩⟩
    | some f =>
      obtain ⟨o3, okf, xf⟩ := hs f rfl
      obtain ⟨s1, s2, s3⟩ := okf (i + R + 1) l1
      have hp2 := (rt_P_lt (hlt (i + R) l1)).2
      refine br_t (by show nI op < nI 3; exact nI_lt o3 (by omega)) ?_
      have h : ∀ I', XO (pa_not R (pa_cls (rt_C b n) (f (i + R + 1)))) s I I' → Q (some (.int (pa_an (pa_not R (pa_cls (rt_C b n) (f (i + R + 1))))))) I' := h
      have X2 := X1.adv
      have go := xf (am_put I1 38 5 (I1 38 5 + 1))
      conv => whnf
      rw [show (fun (x y : Int32) => x + y) (nI op) 1 = nI (op + 1) from nI_1 op]
      refine go _ (i + R + 1) s X2 l1 (by omega) (fun I3 X3 => ?_)
      generalize f (i + R + 1) = r at s1 s2 s3 X3 h
      obtain ⟨e, o⟩ := r
      obtain ⟨y1, y2, y3⟩ := X3
      have s1 : i + R + 1 ≤ e := s1
      have s2 : e ≤ T := s2
      have F3 : XF I I3 := F1.trans (XF.adv.trans y1)
      cases o with
      | none =>
        refine br_t pa_n0 ?_
        exact ⟨Or.inl rfl, h I3 ⟨F3, y2, fun q hq => by cases hq⟩⟩
      | some q =>
        obtain ⟨w1, w2, w3⟩ := y3 q rfl
        obtain ⟨t1, -, -⟩ := s3 q rfl
        have t1 : q.1.length + (i + R + 1) ≤ e := t1
        have X4 : XS I3 b n T e (s + q.1.length) := ⟨hX.1.xf F3, y2, w1⟩
        refine br_f pa_n1 ?_
        refine x_token hJ X4 s2 (by omega) hP ?_
        by_cases y : rt_C b n e = 20041
        · have ec : pa_cls (rt_C b n) (e, some q) = (e + 1, some q) := by
            show (if rt_C b n e = 20041 then _ else _) = _
            rw [if_pos y]
          rw [ec] at h
          have l2 : e < T := pa_lt hTe (by omega)
          refine br_t (by show rt_x (rt_C b n e) = nI 20041; rw [rt_xC hb (by decide)]; exact y) ?_
          refine fin (e + 1, some q) (am_put I3 38 5 (I3 38 5 + 1)) (by show i + R ≤ e + 1; omega) l2 (fun p hp => by injection hp with hp; subst hp; show q.1.length + (i + R) ≤ e + 1; omega) ⟨(XF.adv.trans y1).trans XF.adv, X4.adv.2.1, fun p hp => ?_⟩ h rfl
          injection hp with hp
          subst hp
          refine ⟨by rw [put_nk (by decide)]; exact w1, w2.kept (fun k _ => by rw [am_put_o (by decide)]), fun k hk => ?_⟩
          rw [am_put_o (by decide), w3 k hk, am_put_o (by decide)]
        · have ec : pa_cls (rt_C b n) (e, some q) = (e, none) := by
            show (if rt_C b n e = 20041 then _ else _) = _
            rw [if_neg y]
          rw [ec] at h
          refine br_f (by show ¬ rt_x (rt_C b n e) = nI 20041; rw [rt_xC hb (by decide)]; exact y) ?_
          exact ⟨Or.inl rfl, h I3 ⟨F3, y2, fun q hq => by cases hq⟩⟩
  · rw [if_neg g] at h
    refine br_f (by show ¬ rt_x (rt_C b n (i + R)) = nI 20040; rw [rt_xC hb (by decide)]; exact g) ?_
    obtain ⟨s1, s2, s3⟩ := pa_cmp_ok hTe (i + R) hkl
    refine x_cmp (d := d) hJ hb h200 hTn hP I1 _ (i + R) s X1 hkl (by omega) (fun I3 X3 => ?_)
    generalize pa_cmp (rt_C b n) (i + R) = r at s1 s2 s3 X3 h
    obtain ⟨e, o⟩ := r
    cases o with
    | none =>
      refine br_t pa_n0 ?_
      obtain ⟨y1, y2, y3⟩ := X3
      exact ⟨Or.inl rfl, h I3 ⟨F1.trans y1, y2, fun q hq => by cases hq⟩⟩
    | some q =>
      refine br_f pa_n1 ?_
      exact fin (e, some q) I3 s1 s2 (fun p hp => (s3 p hp).1) X3 h rfl
theorem x_any (hJ : am_Cl am_meth L xs J) (hb : ∀ j, j < n → b j < 256) (h200 : n ≤ 200) (hTn : T ≤ n) (hP : rt_P b n T = n) : ∀ (l d op : Nat), op + l = 3 → XM J b n T (d + 3 * l + 4) q_RuleText_readAny [some (.ref 38), some (.int (nI op))] (pa_any (rt_C b n) l)
  | 0, d, op, ho => by
    have hTe := rt_C_end hP
    have ok1 : pa_ok (rt_C b n) T (pa_one (rt_C b n) none) := pa_one_ok hTe (fun f hf => by cases hf)
    have ok2 := pa_ch_ok (tk := 10011) (jm := 10013) hTe (by decide) ok1
    exact x_or hJ hb h200 hTn hP ok2 (x_and hJ hb h200 hTn hP ok1 (x_one (d := d) (op := op) (nx := none) hJ hb h200 hTn hP (by omega) (fun _ => by omega) (fun f hf => by cases hf)))
  | l + 1, d, op, ho => by
    have hTe := rt_C_end hP
    have ok0 := pa_any_ok (C := rt_C b n) hTe l
    have ok1 : pa_ok (rt_C b n) T (pa_one (rt_C b n) (some (pa_any (rt_C b n) l))) := pa_one_ok hTe (fun f hf => by injection hf with hf; subst hf; exact ok0)
    have ok2 := pa_ch_ok (tk := 10011) (jm := 10013) hTe (by decide) ok1
    have ih := x_any hJ hb h200 hTn hP l d (op + 1) (by omega)
    exact x_or hJ hb h200 hTn hP ok2 (x_and hJ hb h200 hTn hP ok1 (x_one (d := d + 3 * l + 3) (op := op) hJ hb h200 hTn hP (by omega) (fun z => by cases z) (fun f hf => by injection hf with hf; subst hf; exact ⟨by omega, ok0, ih⟩)))
end
