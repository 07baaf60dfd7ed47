/-! RULES: the reference parses -/
def rt_mv (c : Nat) : Nat := if c < 10000 then 100 else if c < 20000 then rt_pm (c - 10000) else if c < 30000 then c - 20000 + 200 else 101
theorem rt_m_mv {c : Nat} (h : c ≠ 30001) (h2 : c ≤ 30001) : rt_m c = nI (rt_mv c) := by
  unfold rt_m rt_mv
  by_cases h1 : c < 10000
  · rw [if_pos h1, if_pos h1]; rfl
  · rw [if_neg h1, if_neg h1]
    by_cases h3 : c < 20000
    · rw [if_pos h3, if_pos h3]
    · rw [if_neg h3, if_neg h3]
      by_cases h4 : c < 30000
      · rw [if_pos h4, if_pos h4]
      · rw [if_neg h4, if_neg h4, if_pos (by omega)]; rfl
theorem rt_mv_lt {c : Nat} (hc : c < 10000 ∨ (10000 ≤ c ∧ c < 10018) ∨ (20000 ≤ c ∧ c < 20256) ∨ c = 30000) : rt_mv c < 500 := by
  unfold rt_mv
  rcases hc with h | h | h | h
  · rw [if_pos h]; decide
  · rw [if_neg (by omega), if_pos (by omega)]
    have := (rt_pm_lt (c - 10000) (by omega)).1
    omega
  · rw [if_neg (by omega), if_neg (by omega), if_pos (by omega)]; omega
  · subst h; decide
/-- names and signs are told apart -/
theorem rt_mv_inj {c e : Nat} (hc : c < 10000 ∨ (10000 ≤ c ∧ c < 10018) ∨ (20000 ≤ c ∧ c < 20256) ∨ c = 30000) (he : (10000 ≤ e ∧ e < 10018) ∨ (20000 ≤ e ∧ e < 20256)) (h : rt_mv c = rt_mv e) : c = e := by
  have he' : rt_mv e = (if e < 20000 then rt_pm (e - 10000) else e - 20000 + 200) := by
    unfold rt_mv
    rw [if_neg (by omega)]
    by_cases g : e < 20000
    · rw [if_pos g, if_pos g]
    · rw [if_neg g, if_neg g, if_pos (by omega)]
  have l1 : e < 20000 → rt_pm (e - 10000) < 18 := fun z => (rt_pm_lt (e - 10000) (by omega)).1
  rw [he'] at h
  unfold rt_mv at h
  rcases hc with g | g | g | g
  · rw [if_pos g] at h
    split at h
    · next z => have := l1 z; omega
    · omega
  · rw [if_neg (by omega), if_pos (by omega)] at h
    have l2 := rt_pm_lt (c - 10000) (by omega)
    split at h
    · next z =>
      have l3 := rt_pm_lt (e - 10000) (by omega)
      have : c - 10000 = e - 10000 := by rw [← l2.2, h, l3.2]
      omega
    · omega
  · rw [if_neg (by omega), if_neg (by omega), if_pos (by omega)] at h
    split at h
    · next z => have := l1 z; omega
    · omega
  · subst g
    rw [if_neg (by omega), if_neg (by omega), if_neg (by omega)] at h
    split at h
    · next z => have := l1 z; omega
    · omega
theorem rt_mC {b : Nat → Nat} {n i e : Nat} (hb : ∀ j, j < n → b j < 256) (he : (10000 ≤ e ∧ e < 10018) ∨ (20000 ≤ e ∧ e < 20256)) : rt_m (rt_C b n i) = nI (rt_mv e) ↔ rt_C b n i = e := by
  have hc := rt_C_c (i := i) hb
  have le := rt_mv_lt (c := e) (he.elim (fun z => Or.inr (Or.inl z)) (fun z => Or.inr (Or.inr (Or.inl z))))
  generalize rt_C b n i = c at *
  by_cases g : c = 30001
  · subst g
    constructor
    · intro z
      have := nI_pos (n := rt_mv e) (by omega)
      rw [← z] at this
      exact absurd (by decide) this
    · intro z; omega
  · have hc' : c < 10000 ∨ (10000 ≤ c ∧ c < 10018) ∨ (20000 ≤ c ∧ c < 20256) ∨ c = 30000 := by omega
    rw [rt_m_mv g (by omega), nI_eq (by have := rt_mv_lt hc'; omega) (by omega)]
    exact ⟨rt_mv_inj hc' he, fun z => by rw [z]⟩
theorem rt_m100 {b : Nat → Nat} {n i : Nat} (hb : ∀ j, j < n → b j < 256) : rt_m (rt_C b n i) = 100 ↔ rt_C b n i < 10000 := by
  have hc := rt_C_c (i := i) hb
  generalize rt_C b n i = c at *
  constructor
  · intro z
    refine Classical.byContradiction (fun y => ?_)
    by_cases g : c = 30001
    · subst g; exact absurd z (by decide)
    · rw [rt_m_mv g (by omega), show (100 : Int32) = nI 100 from rfl, nI_eq (by have := rt_mv_lt (c := c) (by omega); omega) (by omega)] at z
      unfold rt_mv at z
      rcases (show (10000 ≤ c ∧ c < 10018) ∨ (20000 ≤ c ∧ c < 20256) ∨ c = 30000 by omega) with h | h | h
      · rw [if_neg (by omega), if_pos (by omega)] at z
        have := (rt_pm_lt (c - 10000) (by omega)).1
        omega
      · rw [if_neg (by omega), if_neg (by omega), if_pos (by omega)] at z; omega
      · subst h; revert z; decide
  · intro z
    unfold rt_m
    rw [if_pos z]
/-- names from lo to hi, the three joins not among them -/
theorem rt_mIn {b : Nat → Nat} {n i lo hi : Nat} (hb : ∀ j, j < n → b j < 256) (hlo : lo < 18) (hl : hi < 18) (hj : hi < 10 ∨ 13 ≤ lo) : (nI lo ≤ rt_m (rt_C b n i) ∧ rt_m (rt_C b n i) ≤ nI hi) ↔ (10000 + lo ≤ rt_C b n i ∧ rt_C b n i ≤ 10000 + hi) := by
  have hc := rt_C_c (i := i) hb
  generalize rt_C b n i = c at *
  by_cases g : c = 30001
  · subst g
    constructor
    · intro z
      have := Int32.le_trans (nI_pos' (n := lo) (by omega)) z.1
      exact absurd this (by decide)
    · intro z; omega
  · rw [rt_m_mv g (by omega), nI_leI (by omega) (by have := rt_mv_lt (c := c) (by omega); omega), nI_leI (by have := rt_mv_lt (c := c) (by omega); omega) (by omega)]
    unfold rt_mv
    rcases (show c < 10000 ∨ (10000 ≤ c ∧ c < 10018) ∨ (20000 ≤ c ∧ c < 20256) ∨ c = 30000 by omega) with h | h | h | h
    · rw [if_pos h]; omega
    · rw [if_neg (by omega), if_pos (by omega)]
      unfold rt_pm
      repeat' split
      all_goals omega
    · rw [if_neg (by omega), if_neg (by omega), if_pos (by omega)]; omega
    · rw [if_neg (by omega), if_neg (by omega), if_neg (by omega)]; omega
def GFm (I I' : am_I) : Prop := (∀ o, o ≠ 66 → o ≠ 73 → I' o = I o) ∧ ∀ f, f < 8 ∨ 13 < f → I' 66 f = I 66 f
theorem GFm.refl (I : am_I) : GFm I I := ⟨fun _ _ _ => rfl, fun _ _ => rfl⟩
theorem GFm.trans {I I' I'' : am_I} (h : GFm I I') (g : GFm I' I'') : GFm I I'' := ⟨fun o a c => by rw [g.1 o a c, h.1 o a c], fun f a => by rw [g.2 f a, h.2 f a]⟩
theorem NF.gm {I I' : am_I} (h : NF I I') : GFm I I' := ⟨fun o a _ => h.1 o a, fun f hf => h.2 f (by omega)⟩
theorem GFm.mf {I I' : am_I} (h : GFm I I') : MF I I' := ⟨fun o a c _ => h.1 o a c, h.2⟩
theorem GFm.lay {I : am_I} {k : Nat} {v w : Int32} : GFm I (am_put (am_put I 73 k v) 66 13 w) := ⟨fun o a c => by rw [am_put_o a, am_put_o c], fun f hf => by rw [put_nk (by omega), am_put_o (by decide)]⟩
theorem GFm.op {I : am_I} {w : Int32} : GFm I (am_put I 66 12 w) := ⟨fun o a _ => am_put_o a, fun f hf => put_nk (by omega)⟩
def CM (I : am_I) (s : Nat) (l : List Nat) : Prop := ∀ k, k < l.length → I 73 (s + k) = nI (l.getD k 0)
theorem CM.nil {I : am_I} {s : Nat} : CM I s [] := fun k hk => absurd hk (Nat.not_lt_zero _)
theorem CM.app {I : am_I} {s : Nat} {l m : List Nat} (h : CM I s l) (g : CM I (s + l.length) m) : CM I s (l ++ m) := by
  intro k hk
  rw [List.length_append] at hk
  rw [List.getD_eq_getElem?_getD, List.getElem?_append]
  by_cases q : k < l.length
  · rw [if_pos q, ← List.getD_eq_getElem?_getD]
    exact h k q
  · rw [if_neg q, ← List.getD_eq_getElem?_getD]
    have := g (k - l.length) (by omega)
    rw [show s + l.length + (k - l.length) = s + k by omega] at this
    exact this
theorem CM.kept {I I' : am_I} {s : Nat} {l : List Nat} (h : CM I s l) (hk : ∀ k, k < s + l.length → I' 73 k = I 73 k) : CM I' s l := by
  intro k hl
  rw [hk _ (by omega)]
  exact h k hl
theorem CM.one {I : am_I} {s x : Nat} {v w : Int32} (hv : v = nI x) : CM (am_put (am_put I 73 s v) 66 13 w) s [x] := by
  intro k hk
  have hk : k < 1 := hk
  have : k = 0 := by omega
  subst this
  rw [am_put_o (by decide), Nat.add_zero, put_at, hv]
  rfl
theorem put73 {I : am_I} {s k : Nat} {v w : Int32} (h : k < s) : am_put (am_put I 73 s v) 66 13 w 73 k = I 73 k := by
  rw [am_put_o (by decide), put_nk (by omega)]
section
variable {L : Nat} {xs : Nat → Int32} {J : am_J} {b : Nat → Nat} {n T : Nat}
/-- the reference, parsing, at token i with st steps laid and op words open -/
def MP (I : am_I) (b : Nat → Nat) (n i op st : Nat) : Prop := Tm I b n ∧ MSt I b n i ∧ I 66 12 = nI op ∧ I 66 13 = nI st
theorem MP.lay {I : am_I} {b : Nat → Nat} {n i op st : Nat} {v : Int32} (h : MP I b n i op st) : MP (am_put (am_put I 73 st v) 66 13 (nI (st + 1))) b n i op (st + 1) := by
  obtain ⟨h1, h2, h3, h4⟩ := h
  refine ⟨h1.mf GFm.lay.mf, h2.kept (fun f f1 f2 => by rw [put_nk (by omega), am_put_o (by decide)]), ?_, put_at⟩
  rw [put_nk (by decide), am_put_o (by decide)]
  exact h3
theorem MP.nx {I I' : am_I} {b : Nat → Nat} {n i j op st : Nat} (h : MP I b n i op st) (g : NF I I') (m : MSt I' b n j) : MP I' b n j op st := ⟨h.1.mf g.mf, m, by rw [g.2 12 (by decide)]; exact h.2.2.1, by rw [g.2 13 (by decide)]; exact h.2.2.2⟩
/-- behind a parse -/
def MO (b : Nat → Nat) (n : Nat) (r : PR) (op st : Nat) (I I' : am_I) : Prop := GFm I I' ∧ MSt I' b n r.1 ∧ ∀ q, r.2 = some q → I' 66 13 = nI (st + q.2.length) ∧ I' 66 12 = nI op ∧ CM I' st q.2 ∧ ∀ k, k < st → I' 73 k = I 73 k
def MM (J : am_J) (b : Nat → Nat) (n T dd q op : Nat) (lv : List (Option Value)) (sub : Nat → PR) : Prop := ∀ (I : am_I) (Q : am_Q) (i st : Nat), MP I b n i op st → i ≤ T → st ≤ rt_P b n i → (∀ I', MO b n (sub i) op st I I' → Q (some (.int (pa_an (sub i)))) I') → J dd q 0 lv [] I Q
theorem m_takes (hJ : am_Cl am_meth L xs J) {d : Nat} {I : am_I} {Q : am_Q} {i op st e : Nat} {v : Int32} (hb : ∀ j, j < n → b j < 256) (hM : MP I b n i op st) (he : (10000 ≤ e ∧ e < 10018) ∨ (20000 ≤ e ∧ e < 20256)) (hv : v = nI (rt_mv e)) (h1 : rt_C b n i = e → ∀ I', NF I I' → MP I' b n (i + 1) op st → Q (some (.int 1)) I') (h0 : rt_C b n i ≠ e → Q (some (.int 0)) I) {z2 : Option Value} : J (d + 4) q_M_takes 0 [some (.ref 66), some (.int v), z2] [] I Q := by
  have ht := hM.2.1.2.1
  refine am_vc hJ 30 _ _ _ _ _ _ _ ?_
  by_cases g : rt_C b n i = e
  · have hi : rt_P b n i < n := by
      by_cases y : rt_P b n i < n
      · exact y
      · unfold rt_C at g
        rw [if_neg y] at g
        omega
    refine br_t (by show I 66 10 = v; rw [ht, hv, rt_mC hb he]; exact g) ?_
    refine br_f (by decide) ?_
    refine m_nextS hJ hM.1 hM.2.1 hi (fun I1 F1 M1 => ?_)
    exact ⟨Or.inr rfl, h1 g I1 F1 (hM.nx F1 M1)⟩
  · refine br_f (by show ¬ I 66 10 = v; rw [ht, hv, rt_mC hb he]; exact g) ?_
    refine br_t (by decide) ?_
    exact ⟨Or.inl rfl, h0 g⟩
theorem m_lays (hJ : am_Cl am_meth L xs J) {d : Nat} {I : am_I} {Q : am_Q} {st : Nat} {v : Int32} (h13 : I 66 13 = nI st) (h200 : st < 200) (h : Q none (am_put (am_put I 73 st v) 66 13 (nI (st + 1)))) : J d q_M_lays 0 [some (.ref 66), some (.int v)] [] I Q := by
  have e : am_put I 73 st v 66 13 = nI st := by rw [am_put_o (by decide)]; exact h13
  refine am_vc hJ 30 _ _ _ _ _ _ _ ?_
  refine ⟨by show vp_in (I 66 13) 200; rw [h13]; exact vp_in_nI h200 (by omega), ?_⟩
  show Q none (am_put (am_put I 73 (I 66 13).toNatClampNeg v) 66 13 (am_put I 73 (I 66 13).toNatClampNeg v 66 13 + 1))
  rw [h13, nI_clamp (by omega), e, nI_1]
  exact h
theorem m_value (hJ : am_Cl am_meth L xs J) {d : Nat} {I : am_I} {Q : am_Q} {i op st : Nat} (hb : ∀ j, j < n → b j < 256) (hM : MP I b n i op st) (hst : st < 200) (h1 : pa_val (rt_C b n i) → ∀ I' : am_I, GFm I I' → MP I' b n (i + 1) op (st + 1) → CM I' st [pa_mv (rt_C b n i)] → (∀ k, k < st → I' 73 k = I 73 k) → Q (some (.int 1)) I') (h0 : ¬ pa_val (rt_C b n i) → Q (some (.int 0)) I) {z1 : Option Value} : J (d + 4) q_M_readsValue 0 [some (.ref 66), z1] [] I Q := by
  obtain ⟨hT, hS, h12, h13⟩ := id hM
  have ht := hS.2.1
  have go : pa_val (rt_C b n i) → ∀ v : Int32, v = nI (pa_mv (rt_C b n i)) → J (d + 4) q_M_readsValue 61 [some (.ref 66), some (.int 1)] [.int v, .ref 66] I Q := by
    intro g v hv
    have hi : rt_P b n i < n := by
      by_cases y : rt_P b n i < n
      · exact y
      · unfold rt_C at g
        rw [if_neg y] at g
        unfold pa_val at g
        omega
    have M1 := hM.lay (v := v)
    refine am_vc hJ 20 _ _ _ _ _ _ _ ?_
    refine m_lays hJ h13 hst ?_
    refine m_nextS hJ M1.1 M1.2.1 hi (fun I2 F2 M2 => ?_)
    have f73 : I2 73 = am_put (am_put I 73 st v) 66 13 (nI (st + 1)) 73 := F2.1 73 (by decide)
    refine ⟨Or.inr rfl, h1 g I2 (GFm.lay.trans F2.gm) (M1.nx F2 M2) (CM.kept (CM.one hv) (fun k _ => by rw [f73])) (fun k hk => ?_)⟩
    rw [f73, put73 hk]
  refine am_vcc hJ [61] 200 _ _ _ _ _ _ _ ?_
  by_cases g : rt_C b n i < 10000
  · have gv : pa_val (rt_C b n i) := Or.inl g
    have e100 : I 66 10 = 100 := by rw [ht]; exact (rt_m100 hb).mpr g
    refine br_t e100 ?_
    refine br_f (by decide) ?_
    refine br_t e100 ?_
    have k9 := go gv (I 66 11) (by rw [hS.2.2.2 g]; unfold pa_mv; rw [if_pos g])
    exact k9
  · have e100 : ¬ I 66 10 = 100 := fun z => by rw [ht] at z; exact g ((rt_m100 hb).mp z)
    have hin := rt_mIn (i := i) (lo := 13) (hi := 17) hb (by decide) (by decide) (Or.inr (by decide))
    refine br_f e100 ?_
    refine m_in1 hJ (fun z => ?_) (fun z => ?_)
    · have z : nI 13 ≤ I 66 10 ∧ I 66 10 ≤ nI 17 := z
      rw [ht, hin] at z
      have gv : pa_val (rt_C b n i) := Or.inr (by omega)
      refine br_f (by decide) ?_
      refine br_f (by decide) ?_
      refine br_f e100 ?_
      refine go gv _ ?_
      show 10000 + I 66 10 - 13 = _
      rw [ht, rt_m_mv (by omega) (by omega)]
      unfold rt_mv pa_mv rt_pm
      rw [if_neg g, if_neg g, if_pos (by omega), if_neg (by omega), if_neg (by omega), show (10000 : Int32) = nI 10000 from rfl, nI_add, show (13 : Int32) = nI 13 from rfl, pk_sub (by omega), show 10000 + (rt_C b n i - 10000) - 13 = rt_C b n i - 13 by omega]
    · have z : ¬ (nI 13 ≤ I 66 10 ∧ I 66 10 ≤ nI 17) := z
      rw [ht, hin] at z
      refine br_t (by decide) ?_
      refine br_t (by decide) ?_
      exact ⟨Or.inl rfl, h0 (fun y => by unfold pa_val at y; omega)⟩
theorem m_value0 (hJ : am_Cl am_meth L xs J) {d : Nat} {I : am_I} {Q : am_Q} {i op st : Nat} (hb : ∀ j, j < n → b j < 256) (hM : MP I b n i op st) (g : ¬ pa_val (rt_C b n i)) (h0 : Q (some (.int 0)) I) {z1 : Option Value} : J (d + 4) q_M_readsValue 0 [some (.ref 66), z1] [] I Q := by
  obtain ⟨hT, hS, h12, h13⟩ := id hM
  have ht := hS.2.1
  have e100 : ¬ I 66 10 = 100 := fun z => by rw [ht] at z; exact g (Or.inl ((rt_m100 hb).mp z))
  have hin := rt_mIn (i := i) (lo := 13) (hi := 17) hb (by decide) (by decide) (Or.inr (by decide))
  refine am_vc hJ 40 _ _ _ _ _ _ _ ?_
  refine br_f e100 ?_
  refine m_in1 hJ (fun z => ?_) (fun z => ?_)
  · have z : nI 13 ≤ I 66 10 ∧ I 66 10 ≤ nI 17 := z
    rw [ht, hin] at z
    exact absurd (Or.inr (by omega)) g
  · refine br_t (by decide) ?_
    refine br_t (by decide) ?_
    exact ⟨Or.inl rfl, h0⟩
theorem m_cmp (hJ : am_Cl am_meth L xs J) {d op : Nat} (hb : ∀ j, j < n → b j < 256) (h200 : n ≤ 200) (hP : rt_P b n T = n) (hlt : ∀ k, k < T → rt_P b n k < n) {z1 : Option Value} : MM J b n T (d + 5) q_M_readsLike op [some (.ref 66), z1] (pa_cmp (rt_C b n)) := by
  intro I Q i st hM hi hst h
  have hTe := rt_C_end hP
  have hpi := rt_P_le (b := b) (n := n) i
  unfold pa_cmp at h
  refine am_vcc hJ [58] 200 _ _ _ _ _ _ _ ?_
  by_cases v1 : pa_val (rt_C b n i)
  · have l1 : i < T := pa_lt hTe (by unfold pa_val at v1; omega)
    have hp1 := hlt i l1
    rw [if_pos v1] at h
    refine m_value hJ hb hM (by omega) (fun _ I1 F1 M1 c1 p1 => ?_) (fun z => absurd v1 z)
    refine br_f (by decide) ?_
    have ht := M1.2.1.2.1
    have sgm : ∀ e, (20000 ≤ e ∧ e < 20256) → (I1 66 10 = nI (rt_mv e) ↔ rt_C b n (i + 1) = e) := fun e he => by rw [ht]; exact rt_mC hb (Or.inr he)
    have tail : pa_sg (rt_C b n (i + 1)) → ∀ (v : Int32), v = nI (rt_C b n (i + 1) - 10050) → J (d + 5) q_M_readsLike 58 [some (.ref 66), z1] [.int v] I1 Q := by
      intro g v hv
      rw [if_pos g] at h
      have l2 : i + 1 < T := pa_lt hTe (by unfold pa_sg at g; omega)
      have hp2 := hlt (i + 1) l2
      have hv0 : ¬ v = 0 := by
        rw [hv]
        exact nI_ne0 (by unfold pa_sg at g; omega) (by unfold pa_sg at g; omega)
      refine am_vc hJ 40 _ _ _ _ _ _ _ ?_
      refine br_f hv0 ?_
      refine m_nextS hJ M1.1 M1.2.1 hp2 (fun I2 F2 S2 => ?_)
      have M2 := M1.nx F2 S2
      have ps := rt_P_add (i := i) hlt 2 (by omega)
      have hpi2 := rt_P_le (b := b) (n := n) (i + 2)
      by_cases v3 : pa_val (rt_C b n (i + 2))
      · rw [if_pos v3] at h
        have l3 : i + 2 < T := pa_lt hTe (by unfold pa_val at v3; omega)
        have hp3 := hlt (i + 2) l3
        have ps3 := rt_P_add (i := i) hlt 3 (by omega)
        have hpi3 := rt_P_le (b := b) (n := n) (i + 3)
        refine m_value hJ hb M2 (by omega) (fun _ I3 F3 M3 c3 p3 => ?_) (fun z => absurd v3 z)
        refine br_f (by decide) ?_
        refine m_lays hJ M3.2.2.2 (by omega) ?_
        have M4 := M3.lay (v := v)
        refine ⟨Or.inr rfl, h _ ⟨F1.trans (F2.gm.trans (F3.trans GFm.lay)), M4.2.1, fun q hq => ?_⟩⟩
        injection hq with hq
        subst hq
        have f2 : I2 73 = I1 73 := F2.1 73 (by decide)
        refine ⟨M4.2.2.2, M4.2.2.1, ?_, fun k hk => ?_⟩
        · refine CM.app (l := [pa_mv (rt_C b n i), pa_mv (rt_C b n (i + 2))]) (m := [rt_C b n (i + 1) - 10050]) ?_ (CM.one hv)
          refine CM.kept (I := I3) ?_ (fun k hk => put73 hk)
          refine CM.app (l := [pa_mv (rt_C b n i)]) (m := [pa_mv (rt_C b n (i + 2))]) ?_ c3
          exact c1.kept (fun k hk => by rw [p3 k hk, f2])
        · rw [put73 (by omega), p3 k (by omega), f2, p1 k hk]
      · rw [if_neg v3] at h
        refine m_value hJ hb M2 (by omega) (fun z => absurd z v3) (fun _ => ?_)
        refine br_t (by decide) ?_
        exact ⟨Or.inl rfl, h I2 ⟨F1.trans F2.gm, S2, fun q hq => by cases hq⟩⟩
    refine ⟨fun g => ?_, fun g => ?_⟩
    · have g := (sgm 20060 (by omega)).mp g
      exact tail (Or.inl g) _ (by rw [g]; rfl)
    · refine ⟨fun g2 => ?_, fun g2 => ?_⟩
      · have g2 := (sgm 20061 (by omega)).mp g2
        exact tail (Or.inr (Or.inl g2)) _ (by rw [g2]; rfl)
      · refine ⟨fun g3 => ?_, fun g3 => ?_⟩
        · have g3 := (sgm 20062 (by omega)).mp g3
          exact tail (Or.inr (Or.inr g3)) _ (by rw [g3]; rfl)
        · rw [if_neg (fun z => z.elim (fun z => g ((sgm 20060 (by omega)).mpr z)) (fun z => z.elim (fun z => g2 ((sgm 20061 (by omega)).mpr z)) (fun z => g3 ((sgm 20062 (by omega)).mpr z))))] at h
          refine am_vc hJ 20 _ _ _ _ _ _ _ ?_
          refine br_t (by decide) ?_
          exact ⟨Or.inl rfl, h I1 ⟨F1, M1.2.1, fun q hq => by cases hq⟩⟩
  · rw [if_neg v1] at h
    have hM' := hM
    refine m_value0 hJ hb hM v1 ?_
    refine br_t (by decide) ?_
    exact ⟨Or.inl rfl, h I ⟨GFm.refl I, hM.2.1, fun q hq => by cases hq⟩⟩

theorem m_and_loop (hJ : am_Cl am_meth L xs J) {d op : Nat} {sub : Nat → PR} (hb : ∀ j, j < n → b j < 256) (h200 : n ≤ 200) (hP : rt_P b n T = n) (hlt : ∀ k, k < T → rt_P b n k < n) (hok : pa_ok (rt_C b n) T sub) (hsub : MM J b n T (d + 4) q_M_readsOne op (am_pad 4 [some (.ref 66)]) sub) {I0 : am_I} {Q : am_Q} {i st : Nat} (hT0 : Tm I0 b n) (hs : st ≤ rt_P b n i) : ∀ (f e : Nat) (q : List Nat × List Nat) (I : am_I), T < e + f → e ≤ T → q.2.length + i ≤ e → MO b n (e, some q) op st I0 I → (∀ I', MO b n (pa_lp (rt_C b n) sub 10011 10013 f (e, some q)) op st I0 I' → Q (some (.int (pa_an (pa_lp (rt_C b n) sub 10011 10013 f (e, some q))))) I') → J (d + 5) q_M_readsAll 5 [some (.ref 66), some (.int 1)] [] I Q
  | 0, e, q, I, hf, he, hq, hX, h => by omega
  | f + 1, e, q, I, hf, he, hq, hX, h => by
    obtain ⟨x1, x2, x3⟩ := id hX
    obtain ⟨x4, x5, x6, x7⟩ := x3 q rfl
    have x2 : MSt I b n e := x2
    have MI : MP I b n e op (st + q.2.length) := ⟨hT0.mf x1.mf, x2, x5, x4⟩
    have hTe := rt_C_end hP
    refine am_vcl hJ [5] 200 ?_
    refine br_f (by decide) ?_
    refine m_takes (e := 10011) hJ hb MI (by omega) (by rfl) (fun y I1 F1 M1 => ?_) (fun y => ?_)
    · have g : e < T := pa_lt hTe (by omega)
      have el : pa_lp (rt_C b n) sub 10011 10013 (f + 1) (e, some q) = pa_lp (rt_C b n) sub 10011 10013 f (pa_jn 10011 10013 q (sub (e + 1))) := by
        show (if rt_C b n e = 10011 then _ else _) = _
        rw [if_pos y]
      rw [el] at h
      have hp1 := rt_P_add (i := i) hlt (e - i) (by omega)
      rw [show i + (e - i) = e by omega] at hp1
      have hp2 := (rt_P_lt (hlt e g)).2
      obtain ⟨s1, s2, s3⟩ := hok (e + 1) g
      refine br_f (by decide) ?_
      refine hsub I1 _ (e + 1) (st + q.2.length) M1 g (by omega) (fun I2 X2 => ?_)
      obtain ⟨y1, y2, y3⟩ := X2
      have F2 : GFm I0 I2 := x1.trans (F1.gm.trans y1)
      have ih := m_and_loop (d := d) (op := op) hJ hb h200 hP hlt hok hsub (Q := Q) hT0 hs f
      generalize sub (e + 1) = r at s1 s2 s3 y2 y3 h
      obtain ⟨e1, o⟩ := r
      have s1 : e + 1 ≤ e1 := s1
      have s2 : e1 ≤ T := s2
      cases o with
      | none =>
        have en : pa_lp (rt_C b n) sub 10011 10013 f (pa_jn 10011 10013 q (e1, none)) = (e1, none) := by cases f <;> rfl
        rw [en] at h
        refine br_t pa_n0 ?_
        refine am_vcl hJ [5] 200 ?_
        refine br_t pa_n0 ?_
        exact ⟨Or.inl rfl, h I2 ⟨F2, y2, fun q hq => by cases hq⟩⟩
      | some q' =>
        obtain ⟨t1, t2, t3⟩ := s3 q' rfl
        have t2 : q'.2.length + (e + 1) ≤ e1 := t2
        obtain ⟨w1, w2, w3, w4⟩ := y3 q' rfl
        have hp3 := rt_P_add (i := e) hlt (e1 - e) (by omega)
        rw [show e + (e1 - e) = e1 by omega] at hp3
        have hpl := rt_P_le (b := b) (n := n) e1
        refine br_f pa_n1 ?_
        refine m_lays hJ w1 (by omega) ?_
        have X3 : MP I2 b n e1 op (st + q.2.length + q'.2.length) := ⟨hT0.mf F2.mf, y2, w2, w1⟩
        have X4 := X3.lay (v := 10013)
        have f1 : I1 73 = I 73 := F1.1 73 (by decide)
        have pre : ∀ k, k < st + q.2.length → I2 73 k = I 73 k := fun k hk => by rw [w4 k hk, f1]
        have c2 : CM I2 st (q.2 ++ q'.2) := (x6.kept pre).app w3
        refine ih e1 (q.1 ++ q'.1 ++ [10011], q.2 ++ q'.2 ++ [10013]) _ (by omega) s2 ?_ ⟨F2.trans GFm.lay, X4.2.1, fun p hp => ?_⟩ h
        · show (q.2 ++ q'.2 ++ [10013]).length + i ≤ e1
          rw [List.length_append, List.length_append, List.length_singleton]
          omega
        · injection hp with hp
          subst hp
          refine ⟨?_, X4.2.2.1, ?_, fun k hk => ?_⟩
          · show _ = nI (st + (q.2 ++ q'.2 ++ [10013]).length)
            rw [List.length_append, List.length_append, List.length_singleton]
            exact X4.2.2.2.trans (by congr 1; omega)
          · have c3 : CM (am_put (am_put I2 73 (st + q.2.length + q'.2.length) 10013) 66 13 (nI (st + q.2.length + q'.2.length + 1))) st (q.2 ++ q'.2) := c2.kept (fun k hk => put73 (by rw [List.length_append] at hk; omega))
            refine c3.app ?_
            rw [List.length_append, show st + (q.2.length + q'.2.length) = st + q.2.length + q'.2.length by omega]
            exact CM.one (x := 10013) rfl
          · rw [put73 (by omega), pre k (by omega)]
            exact x7 k hk
    · have el : pa_lp (rt_C b n) sub 10011 10013 (f + 1) (e, some q) = (e, some q) := by
        show (if rt_C b n e = 10011 then _ else _) = _
        rw [if_neg y]
      rw [el] at h
      refine br_t (by decide) ?_
      exact ⟨Or.inr rfl, h I hX⟩
theorem m_and (hJ : am_Cl am_meth L xs J) {d op : Nat} {sub : Nat → PR} (hb : ∀ j, j < n → b j < 256) (h200 : n ≤ 200) (hTn : T ≤ n) (hP : rt_P b n T = n) (hlt : ∀ k, k < T → rt_P b n k < n) (hok : pa_ok (rt_C b n) T sub) (hsub : MM J b n T (d + 4) q_M_readsOne op (am_pad 4 [some (.ref 66)]) sub) {z1 : Option Value} : MM J b n T (d + 5) q_M_readsAll op [some (.ref 66), z1] (pa_ch (rt_C b n) sub 10011 10013) := by
  intro I Q i st hM hi hs h
  have lo := m_and_loop (d := d) (op := op) hJ hb h200 hP hlt hok hsub (Q := Q) (I0 := I) hM.1 hs 201
  obtain ⟨s1, s2, s3⟩ := hok i hi
  unfold pa_ch at h
  refine am_vcc hJ [5] 200 _ _ _ _ _ _ _ ?_
  refine hsub I _ i st hM hi hs (fun I2 X2 => ?_)
  generalize sub i = r at s1 s2 s3 X2 h
  obtain ⟨e1, o⟩ := r
  cases o with
  | none =>
    refine am_vcl hJ [5] 200 ?_
    refine br_t pa_n0 ?_
    exact ⟨Or.inl rfl, h I2 X2⟩
  | some q =>
    obtain ⟨t1, t2, t3⟩ := s3 q rfl
    exact lo e1 q I2 (by have s2 : e1 ≤ T := s2; omega) s2 t2 X2 h

theorem m_or_loop (hJ : am_Cl am_meth L xs J) {d op : Nat} {sub : Nat → PR} (hb : ∀ j, j < n → b j < 256) (h200 : n ≤ 200) (hP : rt_P b n T = n) (hlt : ∀ k, k < T → rt_P b n k < n) (hok : pa_ok (rt_C b n) T sub) (hsub : MM J b n T (d + 4) q_M_readsAll op (am_pad 2 [some (.ref 66)]) sub) {I0 : am_I} {Q : am_Q} {i st : Nat} (hT0 : Tm I0 b n) (hs : st ≤ rt_P b n i) : ∀ (f e : Nat) (q : List Nat × List Nat) (I : am_I), T < e + f → e ≤ T → q.2.length + i ≤ e → MO b n (e, some q) op st I0 I → (∀ I', MO b n (pa_lp (rt_C b n) sub 10010 10014 f (e, some q)) op st I0 I' → Q (some (.int (pa_an (pa_lp (rt_C b n) sub 10010 10014 f (e, some q))))) I') → J (d + 5) q_M_readsCondition 5 [some (.ref 66), some (.int 1)] [] I Q
  | 0, e, q, I, hf, he, hq, hX, h => by omega
  | f + 1, e, q, I, hf, he, hq, hX, h => by
    obtain ⟨x1, x2, x3⟩ := id hX
    obtain ⟨x4, x5, x6, x7⟩ := x3 q rfl
    have x2 : MSt I b n e := x2
    have MI : MP I b n e op (st + q.2.length) := ⟨hT0.mf x1.mf, x2, x5, x4⟩
    have hTe := rt_C_end hP
    refine am_vcl hJ [5] 200 ?_
    refine br_f (by decide) ?_
    refine m_takes (e := 10010) hJ hb MI (by omega) (by rfl) (fun y I1 F1 M1 => ?_) (fun y => ?_)
    · have g : e < T := pa_lt hTe (by omega)
      have el : pa_lp (rt_C b n) sub 10010 10014 (f + 1) (e, some q) = pa_lp (rt_C b n) sub 10010 10014 f (pa_jn 10010 10014 q (sub (e + 1))) := by
        show (if rt_C b n e = 10010 then _ else _) = _
        rw [if_pos y]
      rw [el] at h
      have hp1 := rt_P_add (i := i) hlt (e - i) (by omega)
      rw [show i + (e - i) = e by omega] at hp1
      have hp2 := (rt_P_lt (hlt e g)).2
      obtain ⟨s1, s2, s3⟩ := hok (e + 1) g
      refine br_f (by decide) ?_
      refine hsub I1 _ (e + 1) (st + q.2.length) M1 g (by omega) (fun I2 X2 => ?_)
      obtain ⟨y1, y2, y3⟩ := X2
      have F2 : GFm I0 I2 := x1.trans (F1.gm.trans y1)
      have ih := m_or_loop (d := d) (op := op) hJ hb h200 hP hlt hok hsub (Q := Q) hT0 hs f
      generalize sub (e + 1) = r at s1 s2 s3 y2 y3 h
      obtain ⟨e1, o⟩ := r
      have s1 : e + 1 ≤ e1 := s1
      have s2 : e1 ≤ T := s2
      cases o with
      | none =>
        have en : pa_lp (rt_C b n) sub 10010 10014 f (pa_jn 10010 10014 q (e1, none)) = (e1, none) := by cases f <;> rfl
        rw [en] at h
        refine br_t pa_n0 ?_
        refine am_vcl hJ [5] 200 ?_
        refine br_t pa_n0 ?_
        exact ⟨Or.inl rfl, h I2 ⟨F2, y2, fun q hq => by cases hq⟩⟩
      | some q' =>
        obtain ⟨t1, t2, t3⟩ := s3 q' rfl
        have t2 : q'.2.length + (e + 1) ≤ e1 := t2
        obtain ⟨w1, w2, w3, w4⟩ := y3 q' rfl
        have hp3 := rt_P_add (i := e) hlt (e1 - e) (by omega)
        rw [show e + (e1 - e) = e1 by omega] at hp3
        have hpl := rt_P_le (b := b) (n := n) e1
        refine br_f pa_n1 ?_
        refine m_lays hJ w1 (by omega) ?_
        have X3 : MP I2 b n e1 op (st + q.2.length + q'.2.length) := ⟨hT0.mf F2.mf, y2, w2, w1⟩
        have X4 := X3.lay (v := 10014)
        have f1 : I1 73 = I 73 := F1.1 73 (by decide)
        have pre : ∀ k, k < st + q.2.length → I2 73 k = I 73 k := fun k hk => by rw [w4 k hk, f1]
        have c2 : CM I2 st (q.2 ++ q'.2) := (x6.kept pre).app w3
        refine ih e1 (q.1 ++ q'.1 ++ [10010], q.2 ++ q'.2 ++ [10014]) _ (by omega) s2 ?_ ⟨F2.trans GFm.lay, X4.2.1, fun p hp => ?_⟩ h
        · show (q.2 ++ q'.2 ++ [10014]).length + i ≤ e1
          rw [List.length_append, List.length_append, List.length_singleton]
          omega
        · injection hp with hp
          subst hp
          refine ⟨?_, X4.2.2.1, ?_, fun k hk => ?_⟩
          · show _ = nI (st + (q.2 ++ q'.2 ++ [10014]).length)
            rw [List.length_append, List.length_append, List.length_singleton]
            exact X4.2.2.2.trans (by congr 1; omega)
          · have c3 : CM (am_put (am_put I2 73 (st + q.2.length + q'.2.length) 10014) 66 13 (nI (st + q.2.length + q'.2.length + 1))) st (q.2 ++ q'.2) := c2.kept (fun k hk => put73 (by rw [List.length_append] at hk; omega))
            refine c3.app ?_
            rw [List.length_append, show st + (q.2.length + q'.2.length) = st + q.2.length + q'.2.length by omega]
            exact CM.one (x := 10014) rfl
          · rw [put73 (by omega), pre k (by omega)]
            exact x7 k hk
    · have el : pa_lp (rt_C b n) sub 10010 10014 (f + 1) (e, some q) = (e, some q) := by
        show (if rt_C b n e = 10010 then _ else _) = _
        rw [if_neg y]
      rw [el] at h
      refine br_t (by decide) ?_
      exact ⟨Or.inr rfl, h I hX⟩
theorem m_or (hJ : am_Cl am_meth L xs J) {d op : Nat} {sub : Nat → PR} (hb : ∀ j, j < n → b j < 256) (h200 : n ≤ 200) (hTn : T ≤ n) (hP : rt_P b n T = n) (hlt : ∀ k, k < T → rt_P b n k < n) (hok : pa_ok (rt_C b n) T sub) (hsub : MM J b n T (d + 4) q_M_readsAll op (am_pad 2 [some (.ref 66)]) sub) {z1 : Option Value} : MM J b n T (d + 5) q_M_readsCondition op [some (.ref 66), z1] (pa_ch (rt_C b n) sub 10010 10014) := by
  intro I Q i st hM hi hs h
  have lo := m_or_loop (d := d) (op := op) hJ hb h200 hP hlt hok hsub (Q := Q) (I0 := I) hM.1 hs 201
  obtain ⟨s1, s2, s3⟩ := hok i hi
  unfold pa_ch at h
  refine am_vcc hJ [5] 200 _ _ _ _ _ _ _ ?_
  refine hsub I _ i st hM hi hs (fun I2 X2 => ?_)
  generalize sub i = r at s1 s2 s3 X2 h
  obtain ⟨e1, o⟩ := r
  cases o with
  | none =>
    refine am_vcl hJ [5] 200 ?_
    refine br_t pa_n0 ?_
    exact ⟨Or.inl rfl, h I2 X2⟩
  | some q =>
    obtain ⟨t1, t2, t3⟩ := s3 q rfl
    exact lo e1 q I2 (by have s2 : e1 ≤ T := s2; omega) s2 t2 X2 h

def pa_in (C : Nat → Nat) (nx : Option (Nat → PR)) (j : Nat) : PR := match nx with
  | none => (j, none)
  | some f => pa_cls C (f (j + 1))
theorem pa_in_ok {nx : Option (Nat → PR)} {C : Nat → Nat} {j : Nat} (hT : ∀ j, T ≤ j → C j = 30001) (hn : ∀ f, nx = some f → pa_ok C T f) (hj : j < T) : j ≤ (pa_in C nx j).1 ∧ (pa_in C nx j).1 ≤ T ∧ ∀ q, (pa_in C nx j).2 = some q → q.2.length + j ≤ (pa_in C nx j).1 := by
  cases nx with
  | none => exact ⟨Nat.le_refl _, Nat.le_of_lt hj, fun q hq => by cases hq⟩
  | some f =>
    obtain ⟨a, c, e⟩ := hn f rfl (j + 1) hj
    show j ≤ (pa_cls C (f (j + 1))).1 ∧ (pa_cls C (f (j + 1))).1 ≤ T ∧ ∀ q, (pa_cls C (f (j + 1))).2 = some q → q.2.length + j ≤ (pa_cls C (f (j + 1))).1
    unfold pa_cls
    generalize f (j + 1) = r at a c e
    obtain ⟨e1, o⟩ := r
    have a : j + 1 ≤ e1 := a
    have c : e1 ≤ T := c
    cases o with
    | none => exact ⟨by show j ≤ e1; omega, c, fun q hq => by cases hq⟩
    | some p =>
      obtain ⟨g1, g2, g3⟩ := e p rfl
      have g2 : p.2.length + (j + 1) ≤ e1 := g2
      dsimp only
      by_cases y : C e1 = 20041
      · rw [if_pos y]
        have l2 : e1 < T := pa_lt hT (by omega)
        exact ⟨by show j ≤ e1 + 1; omega, l2, fun q hq => by injection hq with hq; subst hq; show p.2.length + j ≤ e1 + 1; omega⟩
      · rw [if_neg y]
        exact ⟨by show j ≤ e1; omega, c, fun q hq => by cases hq⟩
theorem m_within (hJ : am_Cl am_meth L xs J) {d op : Nat} (hb : ∀ j, j < n → b j < 256) (h200 : n ≤ 200) (hP : rt_P b n T = n) (hlt : ∀ k, k < T → rt_P b n k < n) {nx : Option (Nat → PR)} (h3 : op ≤ 3) (hn : nx = none → op = 3) (hs : ∀ f, nx = some f → op < 3 ∧ pa_ok (rt_C b n) T f ∧ MM J b n T (d + 4) q_M_readsCondition (op + 1) [some (.ref 66), none] f) {I : am_I} {Q : am_Q} {j st : Nat} (hM : MP I b n j op st) (hj : j < T) (hst : st ≤ rt_P b n j) (h : ∀ I', MO b n (pa_in (rt_C b n) nx j) op st I I' → Q (some (.int (pa_an (pa_in (rt_C b n) nx j)))) I') : J (d + 5) q_M_readsWithin 0 [some (.ref 66)] [] I Q := by
  have hTe := rt_C_end hP
  refine am_vc hJ 60 _ _ _ _ _ _ _ ?_
  cases nx with
  | none =>
    have e3 := hn rfl
    subst e3
    refine br_t hM.2.2.1 ?_
    exact ⟨Or.inl rfl, h I ⟨GFm.refl I, hM.2.1, fun q hq => by cases hq⟩⟩
  | some f =>
    obtain ⟨o3, okf, mf⟩ := hs f rfl
    obtain ⟨s1, s2, s3⟩ := okf (j + 1) hj
    have hp2 := (rt_P_lt (hlt j hj)).2
    have h : ∀ I', MO b n (pa_cls (rt_C b n) (f (j + 1))) op st I I' → Q (some (.int (pa_an (pa_cls (rt_C b n) (f (j + 1)))))) I' := h
    have M1 : MP (am_put I 66 12 (I 66 12 + 1)) b n j (op + 1) st := ⟨hM.1.mf GFm.op.mf, hM.2.1.kept (fun f _ f2 => put_nk (by omega)), by rw [put_at, hM.2.2.1, nI_1], by rw [put_nk (by decide)]; exact hM.2.2.2⟩
    refine br_f (by show ¬ I 66 12 = nI 3; rw [hM.2.2.1, nI_eq (by omega) (by omega)]; omega) ?_
    refine m_nextS hJ M1.1 M1.2.1 (hlt j hj) (fun I2 F2 S2 => ?_)
    have M2 := M1.nx F2 S2
    refine mf I2 _ (j + 1) st M2 hj (by omega) (fun I3 X3 => ?_)
    generalize f (j + 1) = r at s1 s2 s3 X3 h
    obtain ⟨e, o⟩ := r
    obtain ⟨y1, y2, y3⟩ := X3
    have F3 : GFm I I3 := GFm.op.trans (F2.gm.trans y1)
    cases o with
    | none =>
      refine br_t pa_n0 ?_
      exact ⟨Or.inl rfl, h I3 ⟨F3, y2, fun q hq => by cases hq⟩⟩
    | some q =>
      obtain ⟨w1, w2, w3, w4⟩ := y3 q rfl
      have M3 : MP I3 b n e (op + 1) (st + q.2.length) := ⟨hM.1.mf F3.mf, y2, w2, w1⟩
      have f2 : I2 73 = I 73 := by rw [F2.1 73 (by decide), am_put_o (by decide)]
      refine br_f pa_n1 ?_
      refine m_takes (e := 20041) hJ hb M3 (by omega) (by rfl) (fun y I4 F4 M4 => ?_) (fun y => ?_)
      · have ec : pa_cls (rt_C b n) (e, some q) = (e + 1, some q) := by
          show (if rt_C b n e = 20041 then _ else _) = _
          rw [if_pos y]
        rw [ec] at h
        refine br_f (by decide) ?_
        have f4 : I4 73 = I3 73 := F4.1 73 (by decide)
        refine ⟨Or.inr rfl, h (am_put I4 66 12 (I4 66 12 - 1)) ⟨F3.trans (F4.gm.trans GFm.op), M4.2.1.kept (fun f _ f2 => put_nk (by omega)), fun p hp => ?_⟩⟩
        injection hp with hp
        subst hp
        refine ⟨by rw [put_nk (by decide)]; exact M4.2.2.2, ?_, w3.kept (fun k _ => by rw [am_put_o (by decide), f4]), fun k hk => ?_⟩
        · rw [put_at, M4.2.2.1]
          exact nI_pred op
        · rw [am_put_o (by decide), f4, w4 k hk, f2]
      · have ec : pa_cls (rt_C b n) (e, some q) = (e, none) := by
          show (if rt_C b n e = 20041 then _ else _) = _
          rw [if_neg y]
        rw [ec] at h
        refine br_t (by decide) ?_
        exact ⟨Or.inl rfl, h I3 ⟨F3, y2, fun q hq => by cases hq⟩⟩
theorem m_nots (hJ : am_Cl am_meth L xs J) {d : Nat} {Q : am_Q} {I0 : am_I} {i op st : Nat} {z2 z3 : Option Value} (hb : ∀ j, j < n → b j < 256) (h200 : n ≤ 200) (hP : rt_P b n T = n) (R : Nat) (hM0 : Tm I0 b n) (h : ∀ I, NF I0 I → MP I b n (i + R) op st → J (d + 5) q_M_readsOne 17 [some (.ref 66), some (.int (nI R)), z2, z3] [] I Q) : ∀ (f k : Nat) (I : am_I), T < i + k + f → i + k ≤ T → NF I0 I → MP I b n (i + k) op st → R = k + pa_nt (rt_C b n) f (i + k) → J (d + 5) q_M_readsOne 2 [some (.ref 66), some (.int (nI k)), z2, z3] [] I Q
  | 0, k, I, hf, hk, hF, hM, hR => by omega
  | f + 1, k, I, hf, hk, hF, hM, hR => by
    have hTe := rt_C_end hP
    have e0 : pa_nt (rt_C b n) (f + 1) (i + k) = if rt_C b n (i + k) = 10012 then pa_nt (rt_C b n) f (i + k + 1) + 1 else 0 := rfl
    rw [e0] at hR
    refine am_vcl hJ [2, 17] 200 ?_
    refine m_takes (e := 10012) hJ hb hM (by omega) (by rfl) (fun y I1 F1 M1 => ?_) (fun y => ?_)
    · have g : i + k < T := pa_lt hTe (by omega)
      rw [if_pos y] at hR
      have k9 := m_nots (d := d) (z2 := z2) (z3 := z3) hJ hb h200 hP R hM0 h f (k + 1) I1 (by omega) (by omega) (hF.trans F1) M1 (by rw [hR, show i + k + 1 = i + (k + 1) by omega]; omega)
      rw [← nI_1] at k9
      refine br_f (by decide) ?_
      exact k9
    · rw [if_neg y] at hR
      have : R = k := by omega
      subst this
      refine br_t (by decide) ?_
      exact h I hF hM
theorem m_laynots (hJ : am_Cl am_meth L xs J) {d : Nat} {Q : am_Q} {I0 : am_I} {R op st e : Nat} (h200 : st + R ≤ 200) (hM0 : MP I0 b n e op st) (h : ∀ I, GFm I0 I → MP I b n e op (st + R) → CM I st (List.replicate R 10015) → (∀ k, k < st → I 73 k = I0 73 k) → Q (some (.int 1)) I) : ∀ (f k : Nat) (I : am_I), k + f = R → GFm I0 I → MP I b n e op (st + k) → CM I st (List.replicate k 10015) → (∀ j, j < st → I 73 j = I0 73 j) → J (d + 1) q_M_readsOne 41 [some (.ref 66), some (.int (nI R)), some (.int 1), some (.int (nI k))] [] I Q
  | 0, k, I, hn, hF, hM, hC, hp => by
    have ek : k = R := by omega
    subst ek
    refine am_vcl hJ [41] 200 ?_
    refine br_t (by show nI k ≤ nI k; exact Int32.le_refl _) ?_
    exact ⟨Or.inr rfl, h I hF hM hC hp⟩
  | f + 1, k, I, hn, hF, hM, hC, hp => by
    have M1 := hM.lay (v := 10015)
    have k9 := m_laynots (d := d) hJ h200 hM0 h f (k + 1) _ (by omega) (hF.trans GFm.lay) M1 (by
      rw [List.replicate_succ']
      refine (hC.kept (fun j hj => put73 (by rw [List.length_replicate] at hj; exact hj))).app ?_
      rw [List.length_replicate]
      exact CM.one rfl) (fun j hj => by rw [put73 (by omega)]; exact hp j hj)
    rw [← nI_1] at k9
    refine am_vcl hJ [41] 200 ?_
    refine br_f (by show ¬ nI R ≤ nI k; exact nI_ge (by omega) (by omega)) ?_
    refine br_f (by decide) ?_
    refine m_lays hJ hM.2.2.2 (by omega) ?_
    exact k9
theorem m_one (hJ : am_Cl am_meth L xs J) {d op : Nat} (hb : ∀ j, j < n → b j < 256) (h200 : n ≤ 200) (hTn : T ≤ n) (hP : rt_P b n T = n) (hlt : ∀ k, k < T → rt_P b n k < n) {nx : Option (Nat → PR)} (h3 : op ≤ 3) (hn : nx = none → op = 3) (hs : ∀ f, nx = some f → op < 3 ∧ pa_ok (rt_C b n) T f ∧ MM J b n T (d + 4) q_M_readsCondition (op + 1) [some (.ref 66), none] f) {z1 z2 z3 : Option Value} : MM J b n T (d + 6) q_M_readsOne op [some (.ref 66), z1, z2, z3] (pa_one (rt_C b n) nx) := by
  intro I Q i st hM hi hst h
  have hTe := rt_C_end hP
  have hkl := pa_nt_le hTe 201 i hi
  unfold pa_one at h
  have lo := fun hh => m_nots (d := d + 1) (z2 := z2) (z3 := z3) (I0 := I) (Q := Q) hJ hb h200 hP (pa_nt (rt_C b n) 201 i) hM.1 hh 201 0 I (by omega) (by omega) (NF.refl I) hM (by rw [Nat.add_zero, Nat.zero_add])
  generalize pa_nt (rt_C b n) 201 i = R at hkl h lo
  have hpR := rt_P_add (i := i) hlt R (by omega)
  refine am_vcc hJ [2] 200 _ _ _ _ _ _ _ ?_
  refine lo (fun I1 F1 M1 => ?_)
  have f1 : I1 73 = I 73 := F1.1 73 (by decide)
  have fin : ∀ (r : PR) (I2 : am_I), i + R ≤ r.1 → r.1 ≤ T → (∀ q, r.2 = some q → q.2.length + (i + R) ≤ r.1) → MO b n r op st I1 I2 → (∀ I', MO b n (pa_not R r) op st I I' → Q (some (.int (pa_an (pa_not R r)))) I') → J (d + 6) q_M_readsOne 41 [some (.ref 66), some (.int (nI R)), some (.int (pa_an r)), some (.int 0)] [] I2 Q := by
    rintro ⟨e, o⟩ I2 r1 r2 r3 ⟨y1, y2, y3⟩ hh
    cases o with
    | none =>
      have k0 : ∀ v : Int32, v = 0 → J (d + 6) q_M_readsOne 41 [some (.ref 66), some (.int (nI R)), some (.int v), some (.int 0)] [] I2 Q := by
        intro v hv
        subst hv
        have fin0 : Q (some (.int 0)) I2 := hh I2 ⟨F1.gm.trans y1, y2, fun q hq => by cases hq⟩
        refine am_vcl hJ [41] 200 ?_
        refine ⟨fun _ => ⟨Or.inl rfl, fin0⟩, fun _ => ?_⟩
        refine br_t (by decide) ?_
        exact ⟨Or.inl rfl, fin0⟩
      exact k0 _ rfl
    | some q =>
      obtain ⟨w1, w2, w3, w4⟩ := y3 q rfl
      have r1 : i + R ≤ e := r1
      have r2 : e ≤ T := r2
      have r3 : q.2.length + (i + R) ≤ e := r3 q rfl
      have hp1 := rt_P_add (i := i) hlt (e - i) (by omega)
      rw [show i + (e - i) = e by omega] at hp1
      have hpl := rt_P_le (b := b) (n := n) e
      have X3 : MP I2 b n e op (st + q.2.length) := ⟨hM.1.mf (F1.gm.trans y1).mf, y2, w2, w1⟩
      refine m_laynots (d := d + 5) hJ (by omega) X3 (fun I3 F3 M3 C3 p3 => ?_) R 0 I2 (Nat.zero_add _) (GFm.refl _) X3 CM.nil (fun _ _ => rfl)
      refine hh I3 ⟨(F1.gm.trans y1).trans F3, M3.2.1, fun p hp => ?_⟩
      injection hp with hp
      subst hp
      refine ⟨?_, M3.2.2.1, ?_, fun k hk => ?_⟩
      · show I3 66 13 = nI (st + (q.2 ++ List.replicate R 10015).length)
        rw [M3.2.2.2, List.length_append, List.length_replicate]
        congr 1
        omega
      · exact (w3.kept (fun k hk => p3 k hk)).app C3
      · rw [p3 k (by omega), w4 k hk, f1]
  have ht := M1.2.1.2.1
  refine am_vcc hJ [41] 200 _ _ _ _ _ _ _ ?_
  by_cases g : rt_C b n (i + R) = 20040
  · rw [if_pos g] at h
    have l1 : i + R < T := pa_lt hTe (by omega)
    refine br_t (by show I1 66 10 = nI (rt_mv 20040); rw [ht, rt_mC hb (by omega)]; exact g) ?_
    refine m_within (d := d) hJ hb h200 hP hlt h3 hn hs M1 l1 (by omega) (fun I2 X2 => ?_)
    obtain ⟨a1, a2, a3⟩ := pa_in_ok hTe (fun f hf => (hs f hf).2.1) l1
    have h : ∀ I', MO b n (pa_not R (pa_in (rt_C b n) nx (i + R))) op st I I' → Q (some (.int (pa_an (pa_not R (pa_in (rt_C b n) nx (i + R)))))) I' := by cases nx <;> exact h
    exact fin _ I2 a1 a2 a3 X2 h
  · rw [if_neg g] at h
    refine br_f (by show ¬ I1 66 10 = nI (rt_mv 20040); rw [ht, rt_mC hb (by omega)]; exact g) ?_
    obtain ⟨s1, s2, s3⟩ := pa_cmp_ok hTe (i + R) hkl
    refine m_cmp (d := d) hJ hb h200 hP hlt I1 _ (i + R) st M1 hkl (by omega) (fun I3 X3 => ?_)
    exact fin _ I3 s1 s2 (fun p hp => (s3 p hp).2.1) X3 h
theorem m_any (hJ : am_Cl am_meth L xs J) (hb : ∀ j, j < n → b j < 256) (h200 : n ≤ 200) (hTn : T ≤ n) (hP : rt_P b n T = n) (hlt : ∀ k, k < T → rt_P b n k < n) : ∀ (l d op : Nat), op + l = 3 → MM J b n T (d + 4 * l + 8) q_M_readsCondition op [some (.ref 66), none] (pa_any (rt_C b n) l)
  | 0, d, op, ho => by
    have hTe := rt_C_end hP
    have ok1 : pa_ok (rt_C b n) T (pa_one (rt_C b n) none) := pa_one_ok hTe (fun f hf => by cases hf)
    have ok2 := pa_ch_ok (tk := 10011) (jm := 10013) hTe (by decide) ok1
    exact m_or (d := d + 3) hJ hb h200 hTn hP hlt ok2 (m_and (d := d + 2) hJ hb h200 hTn hP hlt ok1 (m_one (d := d) (op := op) (nx := none) hJ hb h200 hTn hP hlt (by omega) (fun _ => by omega) (fun f hf => by cases hf)))
  | l + 1, d, op, ho => by
    have hTe := rt_C_end hP
    have ok0 := pa_any_ok (C := rt_C b n) hTe l
    have ok1 : pa_ok (rt_C b n) T (pa_one (rt_C b n) (some (pa_any (rt_C b n) l))) := pa_one_ok hTe (fun f hf => by injection hf with hf; subst hf; exact ok0)
    have ok2 := pa_ch_ok (tk := 10011) (jm := 10013) hTe (by decide) ok1
    have ih := m_any hJ hb h200 hTn hP hlt l d (op + 1) (by omega)
    exact m_or (d := d + 4 * l + 7) hJ hb h200 hTn hP hlt ok2 (m_and (d := d + 4 * l + 6) hJ hb h200 hTn hP hlt ok1 (m_one (d := d + 4 * l + 4) (op := op) hJ hb h200 hTn hP hlt (by omega) (fun z => by cases z) (fun f hf => by injection hf with hf; subst hf; exact ⟨by omega, ok0, ih⟩)))
end
