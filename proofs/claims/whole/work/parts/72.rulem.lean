/-! RULES: whole rules, the reference's reading of them -/
def pa_fm : List RU → List Nat
  | [] => []
  | R :: l => R.2.2.2 ++ pa_fm l
theorem pa_fm_app : ∀ (l : List RU) (R : RU), pa_fm (l ++ [R]) = pa_fm l ++ R.2.2.2
  | [], R => by show R.2.2.2 ++ [] = [] ++ R.2.2.2; rw [List.append_nil, List.nil_append]
  | S :: l, R => by
    show S.2.2.2 ++ pa_fm (l ++ [R]) = S.2.2.2 ++ pa_fm l ++ R.2.2.2
    rw [pa_fm_app l R, List.append_assoc]
def pa_nth : List RU → Nat → RU
  | [], _ => (0, 0, [], [])
  | R :: _, 0 => R
  | _ :: l, r + 1 => pa_nth l r
def pa_off : List RU → Nat → Nat
  | [], _ => 0
  | _ :: _, 0 => 0
  | R :: l, r + 1 => (pa_code R).length + pa_off l r
def pa_cum : List RU → Nat → Nat
  | [], _ => 0
  | _ :: _, 0 => 0
  | R :: l, r + 1 => R.2.2.2.length + pa_cum l r
theorem pa_cum_0 (l : List RU) : pa_cum l 0 = 0 := by cases l <;> rfl
theorem pa_off_0 (l : List RU) : pa_off l 0 = 0 := by cases l <;> rfl
theorem pa_nth_app : ∀ (l : List RU) (R : RU) (r : Nat), r < l.length → pa_nth (l ++ [R]) r = pa_nth l r
  | [], R, r, h => absurd h (Nat.not_lt_zero _)
  | S :: l, R, 0, h => rfl
  | S :: l, R, r + 1, h => pa_nth_app l R r (Nat.lt_of_succ_lt_succ h)
theorem pa_nth_end : ∀ (l : List RU) (R : RU), pa_nth (l ++ [R]) l.length = R
  | [], R => rfl
  | S :: l, R => pa_nth_end l R
theorem pa_cum_app : ∀ (l : List RU) (R : RU) (r : Nat), r ≤ l.length → pa_cum (l ++ [R]) r = pa_cum l r
  | [], R, 0, h => rfl
  | [], R, r + 1, h => absurd h (Nat.not_succ_le_zero _)
  | S :: l, R, 0, h => rfl
  | S :: l, R, r + 1, h => by
    show S.2.2.2.length + pa_cum (l ++ [R]) r = S.2.2.2.length + pa_cum l r
    rw [pa_cum_app l R r (Nat.le_of_succ_le_succ h)]
theorem pa_cum_end : ∀ (l : List RU), pa_cum l l.length = (pa_fm l).length
  | [] => rfl
  | S :: l => by
    show S.2.2.2.length + pa_cum l l.length = (S.2.2.2 ++ pa_fm l).length
    rw [pa_cum_end l, List.length_append]
theorem pa_cum_e1 : ∀ (l : List RU) (R : RU), pa_cum (l ++ [R]) (l.length + 1) = (pa_fm l).length + R.2.2.2.length
  | [], R => by show R.2.2.2.length + 0 = 0 + R.2.2.2.length; omega
  | S :: l, R => by
    show S.2.2.2.length + pa_cum (l ++ [R]) (l.length + 1) = (S.2.2.2 ++ pa_fm l).length + R.2.2.2.length
    rw [pa_cum_e1 l R, List.length_append]
    omega
section
variable {L : Nat} {xs : Nat → Int32} {J : am_J} {b : Nat → Nat} {n T : Nat}
def MOr (b : Nat → Nat) (n rr : Nat) (r : Nat × Option RU) (st : Nat) (I I' : am_I) : Prop := MF I I' ∧ MSt I' b n r.1 ∧ ∀ R, r.2 = some R → I' 66 13 = nI (st + R.2.2.2.length) ∧ CM I' st R.2.2.2 ∧ (∀ k, k < st → I' 73 k = I 73 k) ∧ (I' 74 (3 * rr) = nI R.1 ∧ I' 74 (3 * rr + 1) = nI R.2.1 ∧ I' 74 (3 * rr + 2) = nI (st + R.2.2.2.length)) ∧ ∀ k, k < 3 * rr → I' 74 k = I 74 k
theorem rt_m_name {c w : Nat} (hc : c = 10000 + w) (hw : w < 10) : rt_m c = nI w := by
  subst hc
  unfold rt_m rt_pm
  rw [if_neg (by omega), if_pos (by omega), if_neg (by omega), if_neg (by omega), show 10000 + w - 10000 = w by omega]
theorem MP.off {I I' : am_I} {i op st : Nat} (h : MP I b n i op st) (hk : ∀ o, o ≠ 74 → I' o = I o) : MP I' b n i op st := by
  unfold MP Tm LetR MSt
  rw [hk 66 (by decide), hk 71 (by decide), hk 72 (by decide)]
  exact h
set_option maxRecDepth 100000 in
theorem m_rule (hJ : am_Cl am_meth L xs J) {d : Nat} (hb : ∀ j, j < n → b j < 256) (h200 : n ≤ 200) (hTn : T ≤ n) (hP : rt_P b n T = n) (hlt : ∀ k, k < T → rt_P b n k < n) {I : am_I} {Q : am_Q} {i op st rr : Nat} (hM : MP I b n i op st) (hi : i ≤ T) (hst : st ≤ rt_P b n i) (hr : rr < 8) (h : ∀ I', MOr b n rr (pa_rule (rt_C b n) i) st I I' → Q (some (.int (pa_ar (pa_rule (rt_C b n) i)))) I') : J (d + 21) q_M_readsRule 0 [some (.ref 66), some (.int (nI rr))] [] I Q := by
  have hTe := rt_C_end hP
  have i0 : 3 * nI rr = nI (3 * rr) := pk_mul 3 rr
  have i1 : 3 * nI rr + 1 = nI (3 * rr + 1) := by rw [i0, nI_1]
  have i2 : 3 * nI rr + 2 = nI (3 * rr + 2) := by rw [i0]; exact nI_add _ 2
  have hin := rt_mIn (b := b) (n := n) (i := i) (lo := 0) (hi := 5) hb (by decide) (by decide) (Or.inl (by decide))
  have ht := hM.2.1.2.1
  unfold pa_rule at h
  refine am_vcc hJ [59] 200 _ _ _ _ _ _ _ ?_
  refine br_f (by show ¬ nI rr = nI 8; rw [nI_eq (by omega) (by omega)]; omega) ?_
  refine m_in1 hJ (fun z => ?_) (fun z => ?_)
  · have z : nI 0 ≤ I 66 10 ∧ I 66 10 ≤ nI 5 := z
    rw [ht, hin] at z
    have g : 10000 ≤ rt_C b n i ∧ rt_C b n i < 10006 := by omega
    rw [if_pos g] at h
    have l1 : i < T := pa_lt hTe (by omega)
    have hk5 := rt_kind hb g.1 g.2
    have hpn := rt_P_le (b := b) (n := n) (i + 1)
    obtain ⟨ca, cc, ce⟩ := pa_cond_ok hTe l1
    have ek : I 66 10 = nI (rt_C b n i - 10000) := by rw [ht]; exact rt_m_name (by omega) (by omega)
    refine br_f (by decide) ?_
    refine ⟨am_vinN i0 (by omega) (by omega), ?_⟩
    rw [am_clN i0 (by omega), ek]
    have M1 : MP (am_put I 74 (3 * rr) (nI (rt_C b n i - 10000))) b n i op st := hM.off (fun o ho => am_put_o ho)
    refine m_nextS hJ M1.1 M1.2.1 (hlt i l1) (fun I2 F2 S2 => ?_)
    have M2 := M1.nx F2 S2
    have M3 : MP (am_put I2 66 12 0) b n (i + 1) 0 st := ⟨M2.1.mf GFm.op.mf, M2.2.1.kept (fun f _ f2 => put_nk (by omega)), put_at, by rw [put_nk (by decide)]; exact M2.2.2.2⟩
    have f2 : ∀ o, o ≠ 66 → I2 o = am_put I 74 (3 * rr) (nI (rt_C b n i - 10000)) o := fun o ho => F2.1 o ho
    have F02 : MF I (am_put I2 66 12 0) := by
      refine ⟨fun o a _ e => by rw [am_put_o a, f2 o a, am_put_o e], fun f hf => by rw [put_nk (by omega), F2.2 f (by omega), am_put_o (by decide)]⟩
    have fin : ∀ (e : Nat) (q : List Nat × List Nat) (I5 : am_I), i + 1 ≤ e → e ≤ T → q.2.length + (i + 1) ≤ e → MO b n (e, some q) 0 st (am_put I2 66 12 0) I5 → (∀ I' : am_I, MOr b n rr (if 10006 ≤ rt_C b n e ∧ rt_C b n e < 10009 then (if rt_C b n (e + 1) = 20059 then (e + 2, some (rt_C b n i - 10000, rt_C b n e - 10006, q.1, q.2)) else (e + 1, none)) else (e, none)) st I I' → Q (some (.int (pa_ar (if 10006 ≤ rt_C b n e ∧ rt_C b n e < 10009 then (if rt_C b n (e + 1) = 20059 then (e + 2, some (rt_C b n i - 10000, rt_C b n e - 10006, q.1, q.2)) else (e + 1, none)) else (e, none))))) I') → J (d + 21) q_M_readsRule 59 [some (.ref 66), some (.int (nI rr))] [] I5 Q := by
      intro e q I5 e1 e2 e3 hO hh
      obtain ⟨y1, y2, y3⟩ := hO
      obtain ⟨w1, w2, w3, w4⟩ := y3 q rfl
      have y2 : MSt I5 b n e := y2
      have F5 : MF I I5 := F02.trans y1.mf
      have M5 : MP I5 b n e 0 (st + q.2.length) := ⟨hM.1.mf F5, y2, w2, w1⟩
      have ht5 := y2.2.1
      have hin5 := rt_mIn (b := b) (n := n) (i := e) (lo := 6) (hi := 8) hb (by decide) (by decide) (Or.inl (by decide))
      have a5 : ∀ k, I5 74 k = am_put I 74 (3 * rr) (nI (rt_C b n i - 10000)) 74 k := fun k => by rw [y1.1 74 (by decide) (by decide), am_put_o (by decide), f2 74 (by decide)]
      have p5 : ∀ k, k < st → I5 73 k = I 73 k := fun k hk => by rw [w4 k hk, am_put_o (by decide), f2 73 (by decide), am_put_o (by decide)]
      refine am_vc hJ 60 _ _ _ _ _ _ _ ?_
      refine m_in1 hJ (fun z => ?_) (fun z => ?_)
      · have z : nI 6 ≤ I5 66 10 ∧ I5 66 10 ≤ nI 8 := z
        rw [ht5, hin5] at z
        have g2 : 10006 ≤ rt_C b n e ∧ rt_C b n e < 10009 := by omega
        rw [if_pos g2] at hh
        have l2 : e < T := pa_lt hTe (by omega)
        have ed : I5 66 10 - 6 = nI (rt_C b n e - 10006) := by
          rw [ht5, rt_m_name (w := rt_C b n e - 10000) (by omega) (by omega), show (6 : Int32) = nI 6 from rfl, pk_sub (by omega), show rt_C b n e - 10000 - 6 = rt_C b n e - 10006 by omega]
        refine br_f (by decide) ?_
        refine ⟨am_vinN i1 (by omega) (by omega), am_vinN i2 (by omega) (by omega), ?_⟩
        rw [am_clN i1 (by omega), am_clN i2 (by omega)]
        have e13 : ∀ v : Int32, am_put I5 74 (3 * rr + 1) v 66 13 = nI (st + q.2.length) := fun v => by rw [am_put_o (by decide)]; exact w1
        conv => whnf
        rw [show (fun (x y : Int32) => x - y) (I5 66 10) 6 = nI (rt_C b n e - 10006) from ed, e13]
        have M6 : MP (am_put (am_put I5 74 (3 * rr + 1) (nI (rt_C b n e - 10006))) 74 (3 * rr + 2) (nI (st + q.2.length))) b n e 0 (st + q.2.length) := M5.off (fun o ho => by rw [am_put_o ho, am_put_o ho])
        refine m_nextS hJ M6.1 M6.2.1 (hlt e l2) (fun I7 F7 S7 => ?_)
        have M7 := M6.nx F7 S7
        have F57 : MF I I7 := F5.trans ⟨fun o a _ c => by rw [F7.1 o a, am_put_o c, am_put_o c], fun f hf => by rw [F7.2 f (by omega), am_put_o (by decide), am_put_o (by decide)]⟩
        have a7 : I7 74 = am_put (am_put I5 74 (3 * rr + 1) (nI (rt_C b n e - 10006))) 74 (3 * rr + 2) (nI (st + q.2.length)) 74 := F7.1 74 (by decide)
        refine m_takes (e := 20059) hJ hb M7 (by omega) (by rfl) (fun y I8 F8 M8 => ?_) (fun y => ?_)
        · rw [if_pos y] at hh
          have f8 : ∀ o, o ≠ 66 → I8 o = I7 o := fun o ho => F8.1 o ho
          refine ⟨Or.inr rfl, hh I8 ⟨F57.trans F8.mf, M8.2.1, fun R hR => ?_⟩⟩
          injection hR with hR
          subst hR
          have b73 : I8 73 = I5 73 := by rw [f8 73 (by decide), F7.1 73 (by decide), am_put_o (by decide), am_put_o (by decide)]
          refine ⟨M8.2.2.2, w3.kept (fun k _ => by rw [b73]), fun k hk => by rw [b73]; exact p5 k hk, ⟨?_, ?_, ?_⟩, fun k hk => ?_⟩
          · rw [f8 74 (by decide), a7, put_nk (by omega), put_nk (by omega), a5, put_at]
          · rw [f8 74 (by decide), a7, put_nk (by omega), put_at]
          · rw [f8 74 (by decide), a7, put_at]
          · rw [f8 74 (by decide), a7, put_nk (by omega), put_nk (by omega), a5, put_nk (by omega)]
        · rw [if_neg y] at hh
          exact ⟨Or.inl rfl, hh I7 ⟨F57, S7, fun R hR => by cases hR⟩⟩
      · have z : ¬ (nI 6 ≤ I5 66 10 ∧ I5 66 10 ≤ nI 8) := z
        rw [ht5, hin5] at z
        rw [if_neg (by omega)] at hh
        refine br_t (by decide) ?_
        exact ⟨Or.inl rfl, hh I5 ⟨F5, y2, fun R hR => by cases hR⟩⟩
    refine m_takes (e := 10009) hJ hb M3 (by omega) (by rfl) (fun g1 I4 F4 M4 => ?_) (fun g1 => ?_)
    · have ec : pa_cond (rt_C b n) i = pa_any (rt_C b n) 3 (i + 2) := by unfold pa_cond; rw [if_pos g1]
      have l2 : i + 1 < T := pa_lt hTe (by omega)
      have hp2 := (rt_P_lt (hlt (i + 1) l2)).2
      refine br_f (by decide) ?_
      refine m_any hJ hb h200 hTn hP hlt 3 d 0 (by decide) I4 _ (i + 2) st M4 l2 (by show st ≤ rt_P b n (i + 1 + 1); omega) (fun I6 X6 => ?_)
      rw [← ec] at X6
      rw [← ec]
      generalize pa_cond (rt_C b n) i = r at ca cc ce h X6
      obtain ⟨e, o⟩ := r
      obtain ⟨y1, y2, y3⟩ := X6
      cases o with
      | none =>
        refine br_t pa_n0 ?_
        exact ⟨Or.inl rfl, h I6 ⟨F02.trans (F4.mf.trans y1.mf), y2, fun R hR => by cases hR⟩⟩
      | some q =>
        refine br_f pa_n1 ?_
        obtain ⟨w1, w2, w3, w4⟩ := y3 q rfl
        have b73 : I4 73 = am_put I2 66 12 0 73 := F4.1 73 (by decide)
        exact fin e q I6 ca cc (ce q rfl).2.1 ⟨F4.gm.trans y1, y2, fun p hp => by injection hp with hp; subst hp; exact ⟨w1, w2, w3, fun k hk => by rw [w4 k hk, b73]⟩⟩ h
    · have ec : pa_cond (rt_C b n) i = (i + 1, some ([], [])) := by unfold pa_cond; rw [if_neg g1]
      rw [ec] at h
      refine br_t (by decide) ?_
      exact fin (i + 1) ([], []) _ (Nat.le_refl _) l1 (by show 0 + (i + 1) ≤ i + 1; omega) ⟨GFm.refl _, M3.2.1, fun p hp => by injection hp with hp; subst hp; exact ⟨M3.2.2.2, M3.2.2.1, CM.nil, fun _ _ => rfl⟩⟩ h
  · have z : ¬ (nI 0 ≤ I 66 10 ∧ I 66 10 ≤ nI 5) := z
    rw [ht, hin] at z
    rw [if_neg (by omega)] at h
    refine br_t (by decide) ?_
    exact ⟨Or.inl rfl, h I ⟨MF.refl I, hM.2.1, fun R hR => by cases hR⟩⟩
theorem m_rule8 (hJ : am_Cl am_meth L xs J) {d : Nat} {I : am_I} {Q : am_Q} (h : Q (some (.int 0)) I) : J d q_M_readsRule 0 [some (.ref 66), some (.int 8)] [] I Q := by
  refine am_vc hJ 20 _ _ _ _ _ _ _ ?_
  refine br_t (by decide) ?_
  exact ⟨Or.inl rfl, h⟩
/-- what was read of the rules -/
def RdC (I : am_I) (acc : List RU) : Prop := ∀ r, r < acc.length → I 74 (3 * r) = nI (pa_nth acc r).1 ∧ I 74 (3 * r + 1) = nI (pa_nth acc r).2.1 ∧ I 74 (3 * r + 2) = nI (pa_cum acc (r + 1))
theorem rt_mE {i : Nat} (hb : ∀ j, j < n → b j < 256) : rt_m (rt_C b n i) = -1 ↔ rt_C b n i = 30001 := by
  have hc := rt_C_c (i := i) hb
  generalize rt_C b n i = c at *
  constructor
  · intro z
    refine Classical.byContradiction (fun y => ?_)
    rw [rt_m_mv y (by omega)] at z
    have := nI_pos (n := rt_mv c) (by have := rt_mv_lt (c := c) (by omega); omega)
    rw [z] at this
    exact absurd (by decide) this
  · intro z
    subst z
    rfl
theorem m_rules_loop (hJ : am_Cl am_meth L xs J) {d : Nat} {Q : am_Q} {I0 : am_I} {z3 : Option Value} (hb : ∀ j, j < n → b j < 256) (h200 : n ≤ 200) (hTn : T ≤ n) (hP : rt_P b n T = n) (hlt : ∀ k, k < T → rt_P b n k < n) : ∀ (f i op : Nat) (acc : List RU) (I : am_I), acc.length + f = 8 → i ≤ T → MF I0 I → MP I b n i op (pa_fm acc).length → (pa_fm acc).length ≤ rt_P b n i → CM I 0 (pa_fm acc) → RdC I acc → (∀ I' acc', (pa_top (rt_C b n) f i acc).2 = some acc' → MF I0 I' → CM I' 0 (pa_fm acc') → RdC I' acc' → I' 66 13 = nI (pa_fm acc').length → J (d + 22) q_M_rules 42 [some (.ref 66), some (.int (nI acc'.length)), some (.int 1), z3] [] I' Q) → (∀ I' v, (pa_top (rt_C b n) f i acc).2 = none → MF I0 I' → I' 66 9 = nI (rt_P b n (pa_top (rt_C b n) f i acc).1) → J (d + 22) q_M_rules 42 [some (.ref 66), some (.int v), some (.int 0), z3] [] I' Q) → J (d + 22) q_M_rules 18 [some (.ref 66), some (.int (nI acc.length)), some (.int 1), z3] [] I Q
  | f, i, op, acc, I, hf, hi, hF, hM, hl, hc, hr, hS, hN => by
    have hTe := rt_C_end hP
    have ht := hM.2.1.2.1
    by_cases g : rt_C b n i = 30001
    · have k9 := hS I acc (by rw [pa_top_e g]) hF hc hr hM.2.2.2
      refine am_vcl hJ [18, 42] 200 ?_
      refine br_f (by decide) ?_
      refine br_t (by show I 66 10 = -1; rw [ht]; exact (rt_mE hb).mpr g) ?_
      exact k9
    · cases f with
      | zero =>
        rw [pa_top_0 g] at hN
        have e8 : acc.length = 8 := by omega
        rw [e8]
        refine am_vcl hJ [18, 42] 200 ?_
        refine br_f (by decide) ?_
        refine br_f (by show ¬ I 66 10 = -1; rw [ht]; exact fun z => g ((rt_mE hb).mp z)) ?_
        refine m_rule8 hJ ?_
        refine am_vcl hJ [18, 42] 200 ?_
        refine br_t (by decide) ?_
        exact hN I _ rfl hF hM.2.1.1
      | succ f =>
        obtain ⟨r1, r2, r3⟩ := pa_rule_ok hTe hi
        refine am_vcl hJ [18, 42] 200 ?_
        refine br_f (by decide) ?_
        refine br_f (by show ¬ I 66 10 = -1; rw [ht]; exact fun z => g ((rt_mE hb).mp z)) ?_
        refine m_rule (d := d) (rr := acc.length) hJ hb h200 hTn hP hlt hM hi hl (by omega) (fun I1 O1 => ?_)
        obtain ⟨y1, y2, y3⟩ := O1
        have F1 := hF.trans y1
        rcases hru : pa_rule (rt_C b n) i with ⟨e, o⟩
        rw [hru] at r1 r2 r3 y2 y3
        have r1 : i ≤ e := r1
        have r2 : e ≤ T := r2
        cases o with
        | none =>
          rw [pa_top_n g hru] at hN
          refine am_vcl hJ [18, 42] 200 ?_
          refine br_t (show pa_ar (e, none) = 0 from rfl) ?_
          exact hN I1 _ rfl F1 y2.1
        | some R =>
          obtain ⟨t1, t2, t3⟩ := r3 R rfl
          have t2 : R.2.2.2.length + 3 + i ≤ e := t2
          obtain ⟨w1, w2, w3, ⟨v1, v2, v3⟩, w5⟩ := y3 R rfl
          rw [pa_top_s g hru] at hS hN
          have hfl : (pa_fm (acc ++ [R])).length = (pa_fm acc).length + R.2.2.2.length := by rw [pa_fm_app, List.length_append]
          have hp := rt_P_add (i := i) hlt (e - i) (by omega)
          rw [show i + (e - i) = e by omega] at hp
          have k9 := m_rules_loop (z3 := z3) hJ hb h200 hTn hP hlt f e (I1 66 12).toBitVec.toNat (acc ++ [R]) I1 (by rw [List.length_append, List.length_singleton]; omega) r2 F1 ⟨hM.1.mf y1, y2, am_nIof _, by rw [hfl]; exact w1⟩ (by omega) ?_ ?_ hS hN
          · rw [List.length_append, List.length_singleton, ← nI_1] at k9
            exact k9
          · rw [pa_fm_app]
            refine (hc.kept (fun k hk => w3 k (by omega))).app ?_
            rw [Nat.zero_add]
            exact w2
          · intro r hrr
            rw [List.length_append, List.length_singleton] at hrr
            by_cases q : r = acc.length
            · subst q
              rw [pa_nth_end, pa_cum_e1]
              exact ⟨v1, v2, v3⟩
            · obtain ⟨a1, a2, a3⟩ := hr r (by omega)
              rw [pa_nth_app acc R r (by omega), pa_cum_app acc R (r + 1) (by omega), w5 _ (by omega), w5 _ (by omega), w5 _ (by omega)]
              exact ⟨a1, a2, a3⟩
end
