/-! RULES: the call -/
theorem pa_flat_c : ∀ (l m : List RU), pa_flat (l ++ m) = pa_flat l ++ pa_flat m
  | [], m => rfl
  | S :: l, m => by
    show pa_code S ++ pa_flat (l ++ m) = pa_code S ++ pa_flat l ++ pa_flat m
    rw [pa_flat_c l m, List.append_assoc]
theorem pa_fm_c : ∀ (l m : List RU), pa_fm (l ++ m) = pa_fm l ++ pa_fm m
  | [], m => rfl
  | S :: l, m => by
    show S.2.2.2 ++ pa_fm (l ++ m) = S.2.2.2 ++ pa_fm l ++ pa_fm m
    rw [pa_fm_c l m, List.append_assoc]
theorem pa_at : ∀ (acc : List RU) (r : Nat), r < acc.length → ∃ l1 R l2, acc = l1 ++ R :: l2 ∧ l1.length = r
  | [], r, h => absurd h (Nat.not_lt_zero _)
  | S :: l, 0, h => ⟨[], S, l, rfl, rfl⟩
  | S :: l, r + 1, h => by
    obtain ⟨l1, R, l2, e, hl⟩ := pa_at l r (Nat.lt_of_succ_lt_succ h)
    exact ⟨S :: l1, R, l2, by rw [e]; rfl, by rw [List.length_cons, hl]⟩
theorem pa_off_at : ∀ (l1 : List RU) (R : RU) (l2 : List RU), pa_off (l1 ++ R :: l2) l1.length = (pa_flat l1).length ∧ pa_off (l1 ++ R :: l2) (l1.length + 1) = (pa_flat l1).length + (pa_code R).length ∧ pa_cum (l1 ++ R :: l2) l1.length = (pa_fm l1).length ∧ pa_cum (l1 ++ R :: l2) (l1.length + 1) = (pa_fm l1).length + R.2.2.2.length ∧ pa_nth (l1 ++ R :: l2) l1.length = R
  | [], R, l2 => by
    refine ⟨rfl, ?_, rfl, ?_, rfl⟩
    · show (pa_code R).length + pa_off l2 0 = 0 + (pa_code R).length
      rw [pa_off_0]
      omega
    · show R.2.2.2.length + pa_cum l2 0 = 0 + R.2.2.2.length
      rw [pa_cum_0]
      omega
  | S :: l1, R, l2 => by
    obtain ⟨a, b, c, e, f⟩ := pa_off_at l1 R l2
    refine ⟨?_, ?_, ?_, ?_, f⟩
    · show (pa_code S).length + pa_off (l1 ++ R :: l2) l1.length = (pa_code S ++ pa_flat l1).length
      rw [a, List.length_append]
    · show (pa_code S).length + pa_off (l1 ++ R :: l2) (l1.length + 1) = (pa_code S ++ pa_flat l1).length + (pa_code R).length
      rw [b, List.length_append]
      omega
    · show S.2.2.2.length + pa_cum (l1 ++ R :: l2) l1.length = (S.2.2.2 ++ pa_fm l1).length
      rw [c, List.length_append]
    · show S.2.2.2.length + pa_cum (l1 ++ R :: l2) (l1.length + 1) = (S.2.2.2 ++ pa_fm l1).length + R.2.2.2.length
      rw [e, List.length_append]
      omega
theorem getD_mid (l m t : List Nat) (k : Nat) (h : k < m.length) : (l ++ (m ++ t)).getD (l.length + k) 0 = m.getD k 0 := by
  rw [List.getD_eq_getElem?_getD, List.getElem?_append, if_neg (by omega), show l.length + k - l.length = k by omega, List.getElem?_append, if_pos h, ← List.getD_eq_getElem?_getD]
theorem range_getD (m : List Nat) : (List.range m.length).map (fun i => m.getD i 0) = m := by
  refine List.ext_getElem (by simp) (fun i h1 h2 => ?_)
  simp [List.getD_eq_getElem?_getD, List.getElem?_eq_getElem h2]
def ru_rd (acc : List RU) (k : Nat) : Nat := if k % 3 = 0 then (pa_nth acc (k / 3)).1 else if k % 3 = 1 then (pa_nth acc (k / 3)).2.1 else pa_cum acc (k / 3 + 1)
def ru_p (u : am_U) (acc : List RU) (k m : Nat) : am_U := fun j => if j = 7 then acc.length else if 98 ≤ j ∧ j < 98 + k then ru_rd acc (j - 98) else if 122 ≤ j ∧ j < 122 + m then (pa_fm acc).getD (j - 122) 0 else u j
theorem ru_p_lo {u : am_U} {acc : List RU} {k m j : Nat} (h : j ≠ 7) (h2 : j < 98) : ru_p u acc k m j = u j := by
  unfold ru_p
  rw [if_neg h, if_neg (by omega), if_neg (by omega)]
theorem ru_p_7 {u : am_U} {acc : List RU} {k m : Nat} : ru_p u acc k m 7 = acc.length := if_pos rfl
theorem ru_p_rd {u : am_U} {acc : List RU} {k m i : Nat} (h : i < k) : ru_p u acc k m (98 + i) = ru_rd acc i := by
  unfold ru_p
  rw [if_neg (by omega), if_pos (by omega), show 98 + i - 98 = i by omega]
theorem ru_p_st {u : am_U} {acc : List RU} {k m i : Nat} (hk : k ≤ 24) (h : i < m) : ru_p u acc k m (122 + i) = (pa_fm acc).getD i 0 := by
  unfold ru_p
  rw [if_neg (by omega), if_neg (by omega), if_pos (by omega), show 122 + i - 122 = i by omega]
theorem ru_up1 {u : am_U} {acc : List RU} {k : Nat} (hk : k < 24) : upN (ru_p u acc k 0) (98 + k) (ru_rd acc k) = ru_p u acc (k + 1) 0 := by
  funext j
  unfold upN
  by_cases h : j = 98 + k
  · subst h
    rw [if_pos rfl, ru_p_rd (by omega)]
  · rw [if_neg h]
    unfold ru_p
    by_cases h7 : j = 7
    · rw [if_pos h7, if_pos h7]
    · rw [if_neg h7, if_neg h7]
      by_cases h8 : 98 ≤ j ∧ j < 98 + k
      · rw [if_pos h8, if_pos (by omega)]
      · rw [if_neg h8, if_neg (show ¬ (98 ≤ j ∧ j < 98 + (k + 1)) by omega)]
theorem ru_up2 {u : am_U} {acc : List RU} {k m : Nat} (hk : k ≤ 24) : upN (ru_p u acc k m) (122 + m) ((pa_fm acc).getD m 0) = ru_p u acc k (m + 1) := by
  funext j
  unfold upN
  by_cases h : j = 122 + m
  · subst h
    rw [if_pos rfl, ru_p_st hk (by omega)]
  · rw [if_neg h]
    unfold ru_p
    by_cases h7 : j = 7
    · rw [if_pos h7, if_pos h7]
    · rw [if_neg h7, if_neg h7]
      by_cases h8 : 98 ≤ j ∧ j < 98 + k
      · rw [if_pos h8, if_pos h8]
      · rw [if_neg h8, if_neg h8]
        by_cases h9 : 122 ≤ j ∧ j < 122 + m
        · rw [if_pos h9, if_pos (by omega)]
        · rw [if_neg h9, if_neg (by omega)]
theorem ru_up0 {u : am_U} {acc : List RU} : upN u 7 acc.length = ru_p u acc 0 0 := by
  funext j
  unfold upN ru_p
  by_cases h7 : j = 7
  · rw [if_pos h7, if_pos h7]
  · rw [if_neg h7, if_neg h7, if_neg (by omega), if_neg (by omega)]
/-- the new rules, in both -/
theorem RuR_new {cd : Nat → Int32} {u : am_U} {acc : List RU} (h8 : acc.length ≤ 8) (hf : (pa_flat acc).length ≤ 200) (hm : (pa_fm acc).length ≤ 200) (hc : ∀ k, k < (pa_flat acc).length → cd k = nI ((pa_flat acc).getD k 0)) (hok : ∀ R ∈ acc, RUok R) : RuR cd (ru_p u acc (3 * acc.length) (pa_fm acc).length) := by
  refine ⟨pa_off acc, pa_off_0 acc, fun r hr => ?_⟩
  rw [ru_p_7] at hr
  obtain ⟨l1, R, l2, e, hl⟩ := pa_at acc r hr
  obtain ⟨o1, o2, c1, c2, nt⟩ := pa_off_at l1 R l2
  rw [← e, hl] at o1 o2 c1 c2 nt
  have ef : pa_flat acc = pa_flat l1 ++ (pa_code R ++ pa_flat l2) := by rw [e, pa_flat_c]; rfl
  have em : pa_fm acc = pa_fm l1 ++ (R.2.2.2 ++ pa_fm l2) := by rw [e, pa_fm_c]; rfl
  have lf : (pa_flat acc).length = (pa_flat l1).length + ((pa_code R).length + (pa_flat l2).length) := by rw [ef, List.length_append, List.length_append]
  have lm : (pa_fm acc).length = (pa_fm l1).length + (R.2.2.2.length + (pa_fm l2).length) := by rw [em, List.length_append, List.length_append]
  have lc : (pa_code R).length = 3 + R.2.2.1.length := by
    show ([R.1, R.2.1, R.2.2.1.length] ++ R.2.2.1).length = _
    rw [List.length_append]
    rfl
  obtain ⟨k1, k2, k3, k4⟩ := hok R (by rw [e]; exact List.mem_append_right _ (List.mem_cons_self ..))
  have cdk : ∀ k, k < (pa_code R).length → cd (pa_off acc r + k) = nI ((pa_code R).getD k 0) := fun k hk => by
    rw [o1, hc _ (by omega), ef, getD_mid _ _ _ _ hk]
  have u0 : ru_p u acc (3 * acc.length) (pa_fm acc).length (98 + 3 * r) = R.1 := by
    rw [ru_p_rd (by omega)]
    unfold ru_rd
    rw [if_pos (by omega), show 3 * r / 3 = r by omega, nt]
  have u1 : ru_p u acc (3 * acc.length) (pa_fm acc).length (98 + 3 * r + 1) = R.2.1 := by
    rw [show 98 + 3 * r + 1 = 98 + (3 * r + 1) by omega, ru_p_rd (by omega)]
    unfold ru_rd
    rw [if_neg (by omega), if_pos (by omega), show (3 * r + 1) / 3 = r by omega, nt]
  have ue : ∀ r', r' < acc.length → ru_p u acc (3 * acc.length) (pa_fm acc).length (98 + 3 * r' + 2) = pa_cum acc (r' + 1) := fun r' hr' => by
    rw [show 98 + 3 * r' + 2 = 98 + (3 * r' + 2) by omega, ru_p_rd (by omega)]
    unfold ru_rd
    rw [if_neg (by omega), if_neg (by omega), show (3 * r' + 2) / 3 = r' by omega]
  have se : sp_end (ru_p u acc (3 * acc.length) (pa_fm acc).length) r = (pa_fm l1).length + R.2.2.2.length := by
    unfold sp_end
    rw [ue r hr, c2]
  have sb : sp_beg (ru_p u acc (3 * acc.length) (pa_fm acc).length) r = (pa_fm l1).length := by
    unfold sp_beg
    by_cases g : r = 0
    · rw [if_pos g, ← c1, g, pa_cum_0]
    · rw [if_neg g, ue (r - 1) (by omega), show r - 1 + 1 = r by omega, c1]
  have ss : sp_steps (ru_p u acc (3 * acc.length) (pa_fm acc).length) r = R.2.2.2 := by
    unfold sp_steps
    rw [se, sb, show (pa_fm l1).length + R.2.2.2.length - (pa_fm l1).length = R.2.2.2.length by omega]
    refine Eq.trans (List.map_congr_left (fun i hi => ?_)) (range_getD R.2.2.2)
    rw [List.mem_range] at hi
    rw [ru_p_st (by omega) (by omega), em, getD_mid _ _ _ _ hi]
  refine ⟨⟨R.2.2.1.length, R.2.2.1, by omega, rfl, ?_, ?_, ?_, fun i hi => ⟨?_, ?_⟩, fun F => ?_⟩, ?_, ⟨by omega, by omega⟩, by omega, by omega⟩
  · rw [u0]
    have := cdk 0 (by omega)
    rw [Nat.add_zero] at this
    exact this
  · rw [u1]
    exact cdk 1 (by omega)
  · exact cdk 2 (by omega)
  · have := cdk (3 + i) (by omega)
    rw [show pa_off acc r + (3 + i) = pa_off acc r + 3 + i by omega] at this
    rw [this]
    congr 1
    show ([R.1, R.2.1, R.2.2.1.length] ++ R.2.2.1).getD (3 + i) 0 = _
    rw [List.getD_eq_getElem?_getD, List.getElem?_append, if_neg (by show ¬ 3 + i < 3; omega), ← List.getD_eq_getElem?_getD]
    show R.2.2.1.getD (3 + i - 3) 0 = _
    rw [show 3 + i - 3 = i by omega]
  · rw [List.getD_eq_getElem?_getD, List.getElem?_eq_getElem hi]
    exact k3 _ (List.getElem_mem hi)
  · rw [ss]
    rcases k4 with ⟨a, b⟩ | hs
    · left
      exact ⟨by rw [a]; rfl, b⟩
    · right
      obtain ⟨x, x1, x2⟩ := hs F [] [] [] [] (by decide)
      rw [List.append_nil] at x1 x2
      refine ⟨x, x1, ?_⟩
      exact x2
  · rw [cdk 2 (by omega), o2, o1]
    show nI R.2.2.1.length = _
    congr 1
    omega
theorem ru_rd_le {acc : List RU} (hok : ∀ R ∈ acc, RUok R) {r : Nat} (hr : r < acc.length) : (pa_nth acc r).1 ≤ 5 ∧ (pa_nth acc r).2.1 ≤ 2 := by
  obtain ⟨l1, R, l2, e, hl⟩ := pa_at acc r hr
  obtain ⟨o1, o2, c1, c2, nt⟩ := pa_off_at l1 R l2
  rw [← e, hl] at nt
  obtain ⟨k1, k2, k3, k4⟩ := hok R (by rw [e]; exact List.mem_append_right _ (List.mem_cons_self ..))
  rw [nt]
  exact ⟨k1, k2⟩
theorem okb_hi : ∀ q ∈ OKb, (q.1 = 7 ∧ q.2 = 8) ∨ (q.1 ≠ 7 ∧ q.1 < 98) ∨ (98 ≤ q.1 ∧ q.1 < 122 ∧ ((q.1 - 98) % 3 = 0 ∧ q.2 = 5 ∨ (q.1 - 98) % 3 = 1 ∧ q.2 = 2)) := by decide +kernel
theorem OKu_new {u : am_U} {acc : List RU} (hO : OKu u) (h8 : acc.length ≤ 8) (hok : ∀ R ∈ acc, RUok R) {m : Nat} : OKu (ru_p u acc (3 * acc.length) m) := by
  obtain ⟨g1, g2, g3, g4, g5⟩ := id hO
  have c := hO.Cn
  refine ⟨fun q hq => ?_, ?_, ?_, fun k hk => ?_, fun k f hk h6 hf => ?_⟩
  · rcases okb_hi q hq with ⟨a, b⟩ | ⟨a, b⟩ | ⟨a, b, d⟩
    · rw [a, b, ru_p_7]
      exact h8
    · rw [ru_p_lo a b]
      exact g1 q hq
    · by_cases z : q.1 < 98 + 3 * acc.length
      · obtain ⟨i, hi⟩ : ∃ i, q.1 = 98 + i := ⟨q.1 - 98, by omega⟩
        have hr := ru_rd_le hok (r := i / 3) (by omega)
        rw [hi, ru_p_rd (by omega)]
        rw [hi, show 98 + i - 98 = i by omega] at d
        unfold ru_rd
        rcases d with ⟨d1, d2⟩ | ⟨d1, d2⟩
        · rw [if_pos d1, d2]
          exact hr.1
        · rw [if_neg (by omega), if_pos d1, d2]
          exact hr.2
      · unfold ru_p
        rw [if_neg (by omega), if_neg (by omega), if_neg (by omega)]
        exact g1 q hq
  · rw [ru_p_lo (by decide) (by decide), ru_p_lo (by decide) (by decide)]
    exact g2
  · rw [ru_p_lo (by decide) (by decide)]
    exact g3
  · rw [ru_p_lo (by decide) (by decide)] at hk
    rw [ru_p_lo (by omega) (by omega)]
    exact g4 k hk
  · rw [ru_p_lo (by decide) (by decide)] at hk
    rw [ru_p_lo (by omega) (by omega)]
    exact g5 k f hk h6 hf
theorem rt_P_ge {b : Nat → Nat} {n : Nat} : ∀ k, rt_P b n k = n ∨ k ≤ rt_P b n k
  | 0 => Or.inr (Nat.zero_le _)
  | k + 1 => by
    rcases rt_P_ge (b := b) (n := n) k with h | h
    · left
      exact rt_P_end h 1
    · have h1 := rt_P_le (b := b) (n := n) k
      by_cases g : rt_P b n k < n
      · right
        have := (rt_P_lt g).2
        omega
      · left
        exact rt_P_end (by omega) 1
theorem rt_T {b : Nat → Nat} {n : Nat} : ∃ T, T ≤ n ∧ rt_P b n T = n ∧ ∀ k, k < T → rt_P b n k < n := by
  have hn : rt_P b n n = n := by
    rcases rt_P_ge (b := b) (n := n) n with h | h
    · exact h
    · have := rt_P_le (b := b) (n := n) n
      omega
  obtain ⟨T, h1, h2⟩ := pk_least (fun k => rt_P b n k = n) ⟨n, hn⟩
  refine ⟨T, ?_, h1, fun k hk => ?_⟩
  · by_cases g : T ≤ n
    · exact g
    · exact absurd hn (h2 n (by omega))
  · have := rt_P_le (b := b) (n := n) k
    have := h2 k hk
    omega
theorem pa_top_ok {b : Nat → Nat} {n T : Nat} (hP : rt_P b n T = n) (hlt : ∀ k, k < T → rt_P b n k < n) : ∀ (f i : Nat) (acc acc' : List RU), i ≤ T → acc.length + f = 8 → (pa_flat acc).length ≤ rt_P b n i → (pa_fm acc).length ≤ rt_P b n i → (∀ R ∈ acc, RUok R) → (pa_top (rt_C b n) f i acc).2 = some acc' → acc'.length ≤ 8 ∧ (pa_flat acc').length ≤ n ∧ (pa_fm acc').length ≤ n ∧ ∀ R ∈ acc', RUok R
  | f, i, acc, acc', hi, hf, hl, hm, hok, h => by
    have hpn := rt_P_le (b := b) (n := n) i
    have hTe := rt_C_end hP
    by_cases g : rt_C b n i = 30001
    · rw [pa_top_e g] at h
      injection h with h
      subst h
      exact ⟨by omega, by omega, by omega, hok⟩
    · cases f with
      | zero =>
        rw [pa_top_0 g] at h
        cases h
      | succ f =>
        obtain ⟨r1, r2, r3⟩ := pa_rule_ok hTe hi
        rcases hr : pa_rule (rt_C b n) i with ⟨e, o⟩
        rw [hr] at r1 r2 r3
        have r1 : i ≤ e := r1
        have r2 : e ≤ T := r2
        cases o with
        | none =>
          rw [pa_top_n g hr] at h
          cases h
        | some R =>
          obtain ⟨t1, t2, t3⟩ := r3 R rfl
          have t1 : R.2.2.1.length + 3 + i ≤ e := t1
          have t2 : R.2.2.2.length + 3 + i ≤ e := t2
          rw [pa_top_s g hr] at h
          have hp := rt_P_add (i := i) hlt (e - i) (by omega)
          rw [show i + (e - i) = e by omega] at hp
          have lc : (pa_code R).length = 3 + R.2.2.1.length := by
            show ([R.1, R.2.1, R.2.2.1.length] ++ R.2.2.1).length = _
            rw [List.length_append]
            rfl
          refine pa_top_ok hP hlt f e (acc ++ [R]) acc' r2 (by rw [List.length_append, List.length_singleton]; omega) (by rw [pa_flat_app, List.length_append]; omega) (by rw [pa_fm_app, List.length_append]; omega) (fun S hS => ?_) h
          rcases List.mem_append.mp hS with z | z
          · exact hok S z
          · rw [List.mem_singleton] at z
            rw [z]
            exact t3
section
variable {L : Nat} {xs : Nat → Int32} {J : am_J} {d : Nat} {Q : am_Q}
theorem m_ru_loop2 (hJ : am_Cl am_meth L xs J) {I0 : am_I} {u : am_U} {acc : List RU} {z1 z2 : Option Value} {k0 : Nat} (hk0 : k0 ≤ 24) (hm : (pa_fm acc).length ≤ 200) (hC : CM I0 0 (pa_fm acc)) (h13 : I0 66 13 = nI (pa_fm acc).length) (h : ∀ I, (∀ o, o ≠ 67 → I o = I0 o) → MRep I 67 (ru_p u acc k0 (pa_fm acc).length) → ∀ z3, J d q_M_rules 128 [some (.ref 66), z1, z2, z3] [] I Q) : ∀ (f m : Nat) (I : am_I), m + f = (pa_fm acc).length → (∀ o, o ≠ 67 → I o = I0 o) → MRep I 67 (ru_p u acc k0 m) → J d q_M_rules 99 [some (.ref 66), z1, z2, some (.int (nI m))] [] I Q
  | 0, m, I, hn, hF, hM => by
    have e13 : I 66 13 = nI (pa_fm acc).length := by rw [hF 66 (by decide)]; exact h13
    have em : m = (pa_fm acc).length := by omega
    refine am_vcl hJ [99, 128] 200 ?_
    refine br_t (by show I 66 13 ≤ nI m; rw [e13]; exact nI_le (by omega) (by omega)) ?_
    rw [em] at hM
    exact h I hF hM _
  | f + 1, m, I, hn, hF, hM => by
    have e13 : I 66 13 = nI (pa_fm acc).length := by rw [hF 66 (by decide)]; exact h13
    have e73 : I 73 m = nI ((pa_fm acc).getD m 0) := by
      rw [hF 73 (by decide)]
      have := hC m (by omega)
      rw [Nat.zero_add] at this
      exact this
    have ei : 122 + nI m = nI (122 + m) := nI_add 122 m
    have M1 := hM.up (j := 122 + m) e73
    rw [ru_up2 hk0] at M1
    have k9 := m_ru_loop2 (z1 := z1) (z2 := z2) hJ hk0 hm hC h13 h f (m + 1) (am_put I 67 (122 + m) (I 73 m)) (by omega) (fun o ho => by rw [am_put_o ho]; exact hF o ho) M1
    rw [← nI_1] at k9
    refine am_vcl hJ [99, 128] 200 ?_
    refine br_f (by show ¬ I 66 13 ≤ nI m; rw [e13]; exact nI_ge (by omega) (by omega)) ?_
    refine ⟨vp_in_nI (by omega) (by omega), am_vinN ei (by omega) (by omega), ?_⟩
    rw [am_clN ei (by omega), nI_clamp (by omega)]
    exact k9
theorem ru_rdc {I : am_I} {acc : List RU} (h : RdC I acc) {k : Nat} (hk : k < 3 * acc.length) : I 74 k = nI (ru_rd acc k) := by
  obtain ⟨a, b, c⟩ := h (k / 3) (by omega)
  unfold ru_rd
  by_cases g : k % 3 = 0
  · rw [if_pos g, ← a, show 3 * (k / 3) = k by omega]
  · rw [if_neg g]
    by_cases g1 : k % 3 = 1
    · rw [if_pos g1, ← b, show 3 * (k / 3) + 1 = k by omega]
    · rw [if_neg g1, ← c, show 3 * (k / 3) + 2 = k by omega]
theorem m_ru_loop1 (hJ : am_Cl am_meth L xs J) {I0 : am_I} {u : am_U} {acc : List RU} {z2 : Option Value} (h8 : acc.length ≤ 8) (hC : RdC I0 acc) (h : ∀ I, (∀ o, o ≠ 67 → I o = I0 o) → MRep I 67 (ru_p u acc (3 * acc.length) 0) → J d q_M_rules 99 [some (.ref 66), some (.int (nI acc.length)), z2, some (.int (nI 0))] [] I Q) : ∀ (f k : Nat) (I : am_I), k + f = 3 * acc.length → (∀ o, o ≠ 67 → I o = I0 o) → MRep I 67 (ru_p u acc k 0) → J d q_M_rules 69 [some (.ref 66), some (.int (nI acc.length)), z2, some (.int (nI k))] [] I Q
  | 0, k, I, hn, hF, hM => by
    have i3 : 3 * nI acc.length = nI (3 * acc.length) := pk_mul 3 _
    have ek : k = 3 * acc.length := by omega
    refine am_vcl hJ [69, 99] 200 ?_
    refine br_t (by show 3 * nI acc.length ≤ nI k; rw [i3]; exact nI_le (by omega) (by omega)) ?_
    rw [ek] at hM
    exact h I hF hM
  | f + 1, k, I, hn, hF, hM => by
    have i3 : 3 * nI acc.length = nI (3 * acc.length) := pk_mul 3 _
    have e74 : I 74 k = nI (ru_rd acc k) := by rw [hF 74 (by decide)]; exact ru_rdc hC (by omega)
    have ei : 98 + nI k = nI (98 + k) := nI_add 98 k
    have M1 := hM.up (j := 98 + k) e74
    rw [ru_up1 (by omega)] at M1
    have k9 := m_ru_loop1 (z2 := z2) hJ h8 hC h f (k + 1) (am_put I 67 (98 + k) (I 74 k)) (by omega) (fun o ho => by rw [am_put_o ho]; exact hF o ho) M1
    rw [← nI_1] at k9
    refine am_vcl hJ [69, 99] 200 ?_
    refine br_f (by show ¬ 3 * nI acc.length ≤ nI k; rw [i3]; exact nI_ge (by omega) (by omega)) ?_
    refine ⟨vp_in_nI (by omega) (by omega), am_vinN ei (by omega) (by omega), ?_⟩
    rw [am_clN ei (by omega), nI_clamp (by omega)]
    exact k9
/-- the reference's call -/
theorem m_rules (hJ : am_Cl am_meth L xs J) {I : am_I} {b : Nat → Nat} {n : Nat} {u : am_U} (hT : Tm I b n) (hM : MRep I 67 u) (hS : ∀ (I' : am_I) (acc : List RU), (pa_top (rt_C b n) 8 0 []).2 = some acc → acc.length ≤ 8 → (pa_flat acc).length ≤ 200 → (pa_fm acc).length ≤ 200 → (∀ R ∈ acc, RUok R) → (∀ o, o ≠ 66 → o ≠ 67 → o ≠ 73 → o ≠ 74 → I' o = I o) → (∀ f, f < 6 ∨ 13 < f → I' 66 f = I 66 f) → I' 66 6 = 0 → MRep I' 67 (ru_p u acc (3 * acc.length) (pa_fm acc).length) → Q (some (.int (nI acc.length))) I') (hN : ∀ I' : am_I, (pa_top (rt_C b n) 8 0 []).2 = none → (∀ o, o ≠ 66 → o ≠ 73 → o ≠ 74 → I' o = I o) → (∀ f, f < 6 ∨ 13 < f → I' 66 f = I 66 f) → I' 66 6 = 0 → Q (some (.int (-100 - nI (rt_P b n (pa_top (rt_C b n) 8 0 []).1)))) I') {z1 z2 z3 : Option Value} : J (d + 22) q_M_rules 0 [some (.ref 66), z1, z2, z3] [] I Q := by
  have hb : ∀ j, j < n → b j < 256 := fun j hj => (hT.2.2.1 j hj).1
  have h200 := hT.1
  obtain ⟨T, hTn, hP, hlt⟩ := rt_T (b := b) (n := n)
  have F0 : MF I (am_put (am_put I 66 8 0) 66 13 0) := (MF.put (by decide)).trans (MF.put (by decide))
  refine am_vcc hJ [18] 200 _ _ _ _ _ _ _ ?_
  refine m_next (q := 0) (i := 0) hJ (hT.mf F0) (Nat.zero_le _) (by rw [put_nk (by decide), put_at]; rfl) rfl (fun I1 F1 S1 => ?_)
  have F01 : MF I I1 := F0.trans F1.mf
  refine m_rules_loop (d := d) (I0 := I) hJ hb h200 hTn hP hlt 8 0 (I1 66 12).toBitVec.toNat [] I1 rfl (Nat.zero_le _) F01 ⟨hT.mf F01, S1, am_nIof _, by rw [F1.2 13 (by decide), put_at]; rfl⟩ (Nat.zero_le _) CM.nil (fun r hr => absurd hr (Nat.not_lt_zero _)) (fun I2 acc hs F2 c2 r2 e13 => ?_) (fun I2 v hn F2 e9 => ?_)
  · obtain ⟨a1, a2, a3, a4⟩ := pa_top_ok hP hlt 8 0 [] acc (Nat.zero_le _) rfl (Nat.zero_le _) (Nat.zero_le _) (fun R hR => by cases hR) hs
    have M2 : MRep (am_put I2 66 6 0) 67 u := hM.kept (by rw [am_put_o (by decide), F2.1 67 (by decide) (by decide) (by decide)])
    have M3 := M2.up (j := 7) (n := acc.length) (v := nI acc.length) rfl
    rw [ru_up0] at M3
    refine am_vcc hJ [69] 200 _ _ _ _ _ _ _ ?_
    refine br_f (by decide) ?_
    refine ⟨am_vin (by decide), ?_⟩
    refine m_ru_loop1 (I0 := am_put (am_put I2 66 6 0) 67 7 (nI acc.length)) (u := u) hJ a1 (fun r hr => ?_) (fun I4 F4 M4 => ?_) (3 * acc.length) 0 _ (Nat.zero_add _) (fun _ _ => rfl) M3
    · rw [am_put_o (by decide), am_put_o (by decide)]
      exact r2 r hr
    · refine m_ru_loop2 (I0 := I4) (u := u) (acc := acc) hJ (by omega) (by omega) (fun k hk => ?_) ?_ (fun I5 F5 M5 z3 => ?_) (pa_fm acc).length 0 I4 (Nat.zero_add _) (fun _ _ => rfl) M4
      · rw [F4 73 (by decide), am_put_o (by decide), am_put_o (by decide)]
        exact c2 k hk
      · rw [F4 66 (by decide), am_put_o (by decide), put_nk (by decide)]
        exact e13
      · refine am_vc hJ 5 _ _ _ _ _ _ _ ?_
        have g : ∀ o, o ≠ 67 → o ≠ 66 → I5 o = I2 o := fun o o1 o2 => by rw [F5 o o1, F4 o o1, am_put_o o1, am_put_o o2]
        refine hS I5 acc hs a1 (by omega) (by omega) a4 (fun o o1 o2 o3 o4 => by rw [g o o2 o1, F2.1 o o1 o3 o4]) (fun f hf => ?_) ?_ M5
        · rw [F5 66 (by decide), F4 66 (by decide), am_put_o (by decide), put_nk (by omega)]
          exact F2.2 f (by omega)
        · rw [F5 66 (by decide), F4 66 (by decide), am_put_o (by decide), put_at]
  · refine am_vc hJ 30 _ _ _ _ _ _ _ ?_
    refine br_t (by decide) ?_
    have k9 := hN (am_put I2 66 6 0) hn (fun o o1 o2 o3 => by rw [am_put_o o1, F2.1 o o1 o2 o3]) (fun f hf => by rw [put_nk (by omega)]; exact F2.2 f (by omega)) put_at
    refine am_qe ?_ k9
    show -100 - am_put I2 66 6 0 66 9 = _
    rw [put_nk (by decide), e9]
theorem am_ac_ru : ∀ o ∈ am_ac, o ≠ 40 ∧ o ≠ 41 ∧ o ≠ 42 ∧ o ≠ 73 ∧ o ≠ 74 := by decide
theorem TR8_ru : ∀ t ∈ TR 8, (t.1 = 8 ∧ t.2.1 = 12 ∧ t.2.2 = 7) ∨ (¬ (t.1 = 8 ∧ t.2.1 = 12) ∧ t.2.2 ≠ 7 ∧ t.2.2 < 98 ∧ t.1 ≠ 17 ∧ t.1 ≠ 38) := by decide +kernel
theorem op_rules (hJ : am_Cl am_meth L xs J) : am_same Inv J q_X_rules q_M_rules [] := by
  intro I hI Qc hQc
  obtain ⟨u, uk, hMn, hK, hRs⟩ := id hI
  obtain ⟨hM, hR, hC, hO⟩ := id hMn
  obtain ⟨r1, r2, r3, r4, r5, r6⟩ := hRs
  obtain ⟨n, hn, t1, t2, t3⟩ := id r1
  obtain ⟨b, hbd⟩ : ∃ b : Nat → Nat, b = fun j => (I 71 j).toBitVec.toNat := ⟨_, rfl⟩
  have bj : ∀ j, j < n → b j < 256 ∧ I 71 j = nI (b j) ∧ I 39 j = (nI (b j)).toInt8.toInt32 := fun j hj => by
    obtain ⟨x, x1, x2, x3⟩ := t3 j hj
    have e : b j = x := by rw [hbd]; show (I 71 j).toBitVec.toNat = x; rw [x2, pk_tn (by omega)]
    rw [e]
    exact ⟨x1, x2, x3⟩
  have hTx : Tx I b n := ⟨hn, t1, fun j hj => ⟨(bj j hj).1, (bj j hj).2.2⟩⟩
  have hb : ∀ j, j < n → b j < 256 := fun j hj => (bj j hj).1
  have hTm : ∀ I' : am_I, (∀ o, o = 66 ∨ o = 71 ∨ o = 72 → I' o = I o) → Tm I' b n := fun I' g => by
    refine ⟨hn, by rw [g 66 (by decide)]; exact t2, fun j hj => ⟨(bj j hj).1, by rw [g 71 (by decide)]; exact (bj j hj).2.1⟩, ?_⟩
    exact r6.kept (g 72 (by decide))
  -- what stays as it was, when all other cells do
  have rest : ∀ I2 : am_I, (∀ o ∈ am_ac, o ≠ 8 → o ≠ 17 → o ≠ 38 → o ≠ 66 → o ≠ 67 → I2 o = I o) → (∀ f ∈ [3, 29, 36], I2 66 f = I 66 f) → I2 38 1 = 0 → I2 66 6 = 0 → KeptR I2 uk ∧ Rest I2 := by
    intro I2 g g66 g38 g6
    have k : ∀ o, (o ∈ am_ac ∧ o ≠ 8 ∧ o ≠ 17 ∧ o ≠ 38 ∧ o ≠ 66 ∧ o ≠ 67) → I2 o = I o := fun o q => g o q.1 q.2.1 q.2.2.1 q.2.2.2.1 q.2.2.2.2.1 q.2.2.2.2.2
    have a2 : ∀ o ∈ am_kd, o ∈ am_ac ∧ o ≠ 8 ∧ o ≠ 17 ∧ o ≠ 38 ∧ o ≠ 66 ∧ o ≠ 67 := by decide
    have a3 : ∀ o ∈ [54, 55, 57, 58, 59, 60, 81, 82, 83], o ∈ am_ac ∧ o ≠ 8 ∧ o ≠ 17 ∧ o ≠ 38 ∧ o ≠ 66 ∧ o ≠ 67 := by decide
    have a4 : ∀ o ∈ [61, 62, 63, 84, 85], o ∈ am_ac ∧ o ≠ 8 ∧ o ≠ 17 ∧ o ≠ 38 ∧ o ≠ 66 ∧ o ≠ 67 := by decide
    refine ⟨hK.kept2 (by rw [k 0 (by decide)]) (g66 3 (by decide)) (fun o ho => k o (a2 o ho)), ⟨0, by decide, g38, g6, fun j hj => absurd hj (Nat.not_lt_zero _)⟩, r2.kept (by rw [k 0 (by decide)]) (g66 29 (by decide)) (k 53 (by decide)) (k 80 (by decide)), r3.kept (fun o ho => k o (a3 o ho)), r4.kept (fun o ho => k o (a4 o ho)), r5.kept (by rw [k 64 (by decide)]) (g66 36 (by decide)) (k 65 (by decide)) (k 86 (by decide)), r6.kept (k 72 (by decide))⟩
  have f66 : ∀ f ∈ [3, 29, 36], f < 6 ∨ 13 < f := by decide
  refine am_vc hJ 60 _ _ _ _ _ _ _ ?_
  refine x_readAll (d := 24) hJ hTx hb (fun I1 acc hs f1 e1 c1 e8 => ?_) (fun I1 hN1 f1 e1 => ?_)
  · refine br_t (by decide) ?_
    refine am_vc hJ 20 _ _ _ _ _ _ _ ?_
    refine x_copyRow (n := 200) hJ rfl rfl (by decide) ?_
    have g1 : am_cpy I1 42 0 17 0 200 38 8 = nI acc.length := by rw [cpy_ne (by decide)]; exact e8
    refine ⟨_, rfl, ?_⟩
    have ev : am_put (am_cpy I1 42 0 17 0 200) 8 12 (I1 38 8) 8 12 = nI acc.length := by rw [put_at, e8]
    have f2 : ∀ o, o ≠ 8 → o ≠ 17 → am_put (am_cpy I1 42 0 17 0 200) 8 12 (I1 38 8) o = I1 o := fun o o1 o2 => by rw [am_put_o o1, cpy_ne o2]
    have M2 : MRep (am_put (am_cpy I1 42 0 17 0 200) 8 12 (I1 38 8)) 67 u := hM.kept (by rw [f2 67 (by decide) (by decide), f1 67 (by decide) (by decide) (by decide) (by decide)])
    refine m_rules (d := 18) (b := b) (n := n) (u := u) hJ (hTm _ (fun o ho => by rw [f2 o (by omega) (by omega), f1 o (by omega) (by omega) (by omega) (by omega)])) M2 (fun I3 acc' hs' a1 a2 a3 a4 f3 f3' e3 M3 => ?_) (fun I3 hN3 _ _ _ => by rw [hs] at hN3; cases hN3)
    have ea : acc' = acc := by rw [hs] at hs'; injection hs' with z; exact z.symm
    subst ea
    refine ⟨?_, hQc _ ?_⟩
    · rw [show (some (Value.int (am_put (am_cpy I1 42 0 17 0 200) 8 12 (I1 38 8) 8 12))) = some (Value.int (nI acc'.length)) by rw [ev]]
    · have f13 : ∀ o, o ≠ 8 → o ≠ 17 → o ≠ 38 → o ≠ 40 → o ≠ 41 → o ≠ 42 → o ≠ 66 → o ≠ 67 → o ≠ 73 → o ≠ 74 → I3 o = I o := fun o o1 o2 o3 o4 o5 o6 o7 o8 o9 oa => by rw [f3 o o7 o8 o9 oa, f2 o o1 o2, f1 o o3 o4 o5 o6]
      obtain ⟨k3, rs3⟩ := rest I3 (fun o ho o1 o2 o3 o4 o5 => by
        obtain ⟨x1, x2, x3, x4, x5⟩ := am_ac_ru o ho
        exact f13 o o1 o2 o3 x1 x2 x3 o4 o5 x4 x5) (fun f hf => by rw [f3' f (f66 f hf), f2 66 (by decide) (by decide), f1 66 (by decide) (by decide) (by decide) (by decide)]) (by rw [f3 38 (by decide) (by decide) (by decide) (by decide), f2 38 (by decide) (by decide)]; exact e1) e3
      refine ⟨ru_p u acc' (3 * acc'.length) (pa_fm acc').length, uk, ⟨M3, ⟨fun t ht => ?_, ?_⟩, ?_, OKu_new hO a1 a4⟩, k3, rs3⟩
      · rcases TR8_ru t ht with ⟨x1, x2, x3⟩ | ⟨x1, x2, x3, x4, x5⟩
        · rw [x1, x2, x3, ru_p_7, f3 8 (by decide) (by decide) (by decide) (by decide)]
          exact ev
        · rw [ru_p_lo x2 x3]
          have tm := TR8_in t (List.mem_append_left _ ht)
          have tc : ∀ o ∈ am_mc, o ≠ 40 ∧ o ≠ 41 ∧ o ≠ 42 ∧ o ≠ 66 ∧ o ≠ 73 ∧ o ≠ 74 := by decide
          obtain ⟨y1, y2, y3, y4, y5, y6⟩ := tc _ tm
          have t67 := TR8_cells t (List.mem_append_left _ ht)
          rw [f3 _ y4 t67 y5 y6]
          have e0 : am_put (am_cpy I1 42 0 17 0 200) 8 12 (I1 38 8) t.1 t.2.1 = I1 t.1 t.2.1 := by
            unfold am_put
            rw [if_neg x1, cpy_ne x4]
          rw [e0, f1 _ x5 y1 y2 y3]
          exact hR.1 t ht
      · show RuR (I3 17) _
        refine RuR_new a1 a2 a3 (fun k hk => ?_) a4
        rw [f3 17 (by decide) (by decide) (by decide) (by decide), am_put_o (by decide)]
        unfold am_cpy
        rw [if_pos ⟨rfl, by omega, by omega⟩, show 0 + (k - 0) = 0 + k by omega]
        exact c1 k hk
      · have e9 : I3 9 = I 9 := f13 9 (by decide) (by decide) (by decide) (by decide) (by decide) (by decide) (by decide) (by decide) (by decide) (by decide)
        exact (hC.kept e9).keptu (ru_p_lo (by decide) (by decide)) (ru_p_lo (by decide) (by decide)) (ru_p_lo (by decide) (by decide)) (ru_p_lo (by decide) (by decide)) (fun k hk => ⟨ru_p_lo (by omega) (by omega), ru_p_lo (by omega) (by omega)⟩)
  · have hpl := rt_P_le (b := b) (n := n) (pa_top (rt_C b n) 8 0 []).1
    refine br_f (by show ¬ nI (rt_P b n (pa_top (rt_C b n) 8 0 []).1) < 0; exact nI_pos (by omega)) ?_
    refine ⟨_, rfl, ?_⟩
    have M2 : MRep I1 67 u := hM.kept (f1 67 (by decide) (by decide) (by decide) (by decide))
    refine m_rules (d := 18) (b := b) (n := n) (u := u) hJ (hTm _ (fun o ho => f1 o (by omega) (by omega) (by omega) (by omega))) M2 (fun I3 acc' hs' _ _ _ _ _ _ _ _ => by rw [hN1] at hs'; cases hs') (fun I3 hN3 f3 f3' e3 => ?_)
    refine ⟨rfl, hQc _ ?_⟩
    have f13 : ∀ o, o ≠ 38 → o ≠ 40 → o ≠ 41 → o ≠ 42 → o ≠ 66 → o ≠ 73 → o ≠ 74 → I3 o = I o := fun o o3 o4 o5 o6 o7 o9 oa => by rw [f3 o o7 o9 oa, f1 o o3 o4 o5 o6]
    obtain ⟨k3, rs3⟩ := rest I3 (fun o ho o1 o2 o3 o4 o5 => by
      obtain ⟨x1, x2, x3, x4, x5⟩ := am_ac_ru o ho
      exact f13 o o3 x1 x2 x3 o4 x4 x5) (fun f hf => by rw [f3' f (f66 f hf), f1 66 (by decide) (by decide) (by decide) (by decide)]) (by rw [f3 38 (by decide) (by decide) (by decide)]; exact e1) e3
    refine ⟨u, uk, hMn.kept (fun o ho => ?_), k3, rs3⟩
    have tc : ∀ o ∈ am_mc, o ≠ 38 ∧ o ≠ 40 ∧ o ≠ 41 ∧ o ≠ 42 ∧ o ≠ 66 ∧ o ≠ 73 ∧ o ≠ 74 := by decide
    obtain ⟨y1, y2, y3, y4, y5, y6, y7⟩ := tc o ho
    exact f13 o y1 y2 y3 y4 y5 y6 y7
end
