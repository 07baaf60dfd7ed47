/-! RULES: the text's tokens -/
def rt_rn (P : Nat → Bool) : Nat → Nat → Nat
  | 0, j => j
  | f + 1, j => if P j = true then rt_rn P f (j + 1) else j
theorem rt_rn_y {P : Nat → Bool} {f j : Nat} (h : P j = true) : rt_rn P (f + 1) j = rt_rn P f (j + 1) := by
  show (if P j = true then rt_rn P f (j + 1) else j) = _
  rw [if_pos h]
theorem rt_rn_n {P : Nat → Bool} {f j : Nat} (h : ¬ P j = true) : rt_rn P f j = j := by
  cases f with
  | zero => rfl
  | succ f =>
    show (if P j = true then rt_rn P f (j + 1) else j) = _
    rw [if_neg h]
theorem rt_rn_b (P : Nat → Bool) : ∀ f j, j ≤ rt_rn P f j ∧ rt_rn P f j ≤ j + f ∧ (∀ k, j ≤ k → k < rt_rn P f j → P k = true) ∧ (rt_rn P f j < j + f → ¬ P (rt_rn P f j) = true)
  | 0, j => ⟨Nat.le_refl _, Nat.le_refl _, fun k h1 h2 => absurd (Nat.lt_of_le_of_lt h1 h2) (Nat.lt_irrefl _), fun h => absurd h (Nat.lt_irrefl _)⟩
  | f + 1, j => by
    by_cases h : P j = true
    · rw [rt_rn_y h]
      obtain ⟨a, b, c, e⟩ := rt_rn_b P f (j + 1)
      refine ⟨by omega, by omega, fun k h1 h2 => ?_, fun z => e (by omega)⟩
      by_cases q : k = j
      · rw [q]; exact h
      · exact c k (by omega) h2
    · rw [rt_rn_n h]
      exact ⟨Nat.le_refl _, by omega, fun k h1 h2 => by omega, fun _ => h⟩
def rt_L (x : Nat) : Bool := decide (97 ≤ x ∧ x ≤ 122)
def rt_D (x : Nat) : Bool := decide (48 ≤ x ∧ x ≤ 57)
def rt_bl (b : Nat → Nat) : Nat → Bool := fun j => decide (b j = 32)
def rt_nb (b : Nat → Nat) (n q : Nat) : Nat := rt_rn (rt_bl b) (n - q) q
def rt_te (b : Nat → Nat) (n p : Nat) : Nat := if rt_L (b p) = true then rt_rn (fun j => rt_L (b j)) (n - (p + 1)) (p + 1) else if rt_D (b p) = true then rt_rn (fun j => rt_D (b j)) (n - (p + 1)) (p + 1) else p + 1
def rt_mt (b : Nat → Nat) (w p e : Nat) : Prop := am_txl w = e - p ∧ ∀ k, k < am_txl w → am_txc w k = nI (b (p + k))
noncomputable def rt_wd (b : Nat → Nat) (p e : Nat) : Nat → Nat → Nat
  | 0, _ => 30000
  | f + 1, w => @ite Nat (rt_mt b w p e) (Classical.propDecidable _) (10000 + w) (rt_wd b p e f (w + 1))
theorem rt_wd_y {b : Nat → Nat} {p e f w : Nat} (h : rt_mt b w p e) : rt_wd b p e (f + 1) w = 10000 + w := by
  show @ite Nat (rt_mt b w p e) (Classical.propDecidable _) (10000 + w) (rt_wd b p e f (w + 1)) = _
  rw [if_pos h]
theorem rt_wd_n {b : Nat → Nat} {p e f w : Nat} (h : ¬ rt_mt b w p e) : rt_wd b p e (f + 1) w = rt_wd b p e f (w + 1) := by
  show @ite Nat (rt_mt b w p e) (Classical.propDecidable _) (10000 + w) (rt_wd b p e f (w + 1)) = _
  rw [if_neg h]
theorem rt_wd_c {b : Nat → Nat} {p e : Nat} : ∀ f w, (rt_wd b p e f w = 30000 ∧ ∀ v, w ≤ v → v < w + f → ¬ rt_mt b v p e) ∨ ∃ v, w ≤ v ∧ v < w + f ∧ rt_mt b v p e ∧ rt_wd b p e f w = 10000 + v
  | 0, w => Or.inl ⟨rfl, fun v h1 h2 => by omega⟩
  | f + 1, w => by
    by_cases h : rt_mt b w p e
    · exact Or.inr ⟨w, Nat.le_refl _, by omega, h, rt_wd_y h⟩
    · rw [rt_wd_n h]
      rcases rt_wd_c (b := b) (p := p) (e := e) f (w + 1) with ⟨a, c⟩ | ⟨v, a, c, e2, g⟩
      · refine Or.inl ⟨a, fun v h1 h2 => ?_⟩
        by_cases q : v = w
        · rw [q]; exact h
        · exact c v (by omega) (by omega)
      · exact Or.inr ⟨v, by omega, by omega, e2, g⟩
def rt_nu (b : Nat → Nat) (p : Nat) : Nat → Nat
  | 0 => 0
  | k + 1 => 10 * rt_nu b p k + b (p + k) - 48
noncomputable def rt_co (b : Nat → Nat) (n p : Nat) : Nat := if rt_L (b p) = true then rt_wd b p (rt_te b n p) 18 0 else if rt_D (b p) = true then (if 4 < rt_te b n p - p then 30000 else rt_nu b p (rt_te b n p - p)) else 20000 + b p
noncomputable def rt_P (b : Nat → Nat) (n : Nat) : Nat → Nat
  | 0 => rt_nb b n 0
  | i + 1 => if rt_P b n i < n then rt_nb b n (rt_te b n (rt_P b n i)) else rt_P b n i
noncomputable def rt_C (b : Nat → Nat) (n i : Nat) : Nat := if rt_P b n i < n then rt_co b n (rt_P b n i) else 30001
/-- the class's token -/
def rt_x (c : Nat) : Int32 := if c = 30000 then -1 else if c = 30001 then -2 else nI c
/-- the reference's names, in the class's order -/
def rt_pm (w : Nat) : Nat := if w = 10 then 12 else if w = 12 then 10 else w
def rt_m (c : Nat) : Int32 := if c < 10000 then 100 else if c < 20000 then nI (rt_pm (c - 10000)) else if c < 30000 then nI (c - 20000 + 200) else if c = 30000 then 101 else -1
theorem rt_nb_le {b : Nat → Nat} {n q : Nat} (h : q ≤ n) : q ≤ rt_nb b n q ∧ rt_nb b n q ≤ n ∧ (rt_nb b n q < n → b (rt_nb b n q) ≠ 32) := by
  obtain ⟨a, c, _, e⟩ := rt_rn_b (rt_bl b) (n - q) q
  refine ⟨a, by unfold rt_nb; omega, fun z => ?_⟩
  have := e (by unfold rt_nb at z; omega)
  unfold rt_bl at this
  rw [decide_eq_true_eq] at this
  exact this
theorem rt_nb_y {b : Nat → Nat} {n q : Nat} (h : q < n) (hb : b q = 32) : rt_nb b n q = rt_nb b n (q + 1) := by
  unfold rt_nb
  rw [show n - q = n - (q + 1) + 1 by omega]
  exact rt_rn_y (by unfold rt_bl; rw [decide_eq_true_eq]; exact hb)
theorem rt_nb_n {b : Nat → Nat} {n q : Nat} (hb : ¬ b q = 32) : rt_nb b n q = q := rt_rn_n (by unfold rt_bl; rw [decide_eq_true_eq]; exact hb)
theorem rt_nb_e {b : Nat → Nat} {n : Nat} : rt_nb b n n = n := by
  unfold rt_nb
  rw [Nat.sub_self]
  rfl
theorem rt_te_le {b : Nat → Nat} {n p : Nat} (h : p < n) : p + 1 ≤ rt_te b n p ∧ rt_te b n p ≤ n := by
  obtain ⟨a, c, -, -⟩ := rt_rn_b (fun j => rt_L (b j)) (n - (p + 1)) (p + 1)
  obtain ⟨a', c', -, -⟩ := rt_rn_b (fun j => rt_D (b j)) (n - (p + 1)) (p + 1)
  unfold rt_te
  repeat' split
  all_goals omega
theorem rt_P_le {b : Nat → Nat} {n : Nat} : ∀ i, rt_P b n i ≤ n
  | 0 => (rt_nb_le (Nat.zero_le _)).2.1
  | i + 1 => by
    show (if rt_P b n i < n then rt_nb b n (rt_te b n (rt_P b n i)) else rt_P b n i) ≤ n
    split
    · next h => exact (rt_nb_le (rt_te_le h).2).2.1
    · exact rt_P_le i
theorem rt_P_s {b : Nat → Nat} {n i : Nat} (h : rt_P b n i < n) : rt_P b n (i + 1) = rt_nb b n (rt_te b n (rt_P b n i)) := by
  show (if rt_P b n i < n then rt_nb b n (rt_te b n (rt_P b n i)) else rt_P b n i) = _
  rw [if_pos h]
theorem rt_P_lt {b : Nat → Nat} {n i : Nat} (h : rt_P b n i < n) : rt_te b n (rt_P b n i) ≤ rt_P b n (i + 1) ∧ rt_P b n i + 1 ≤ rt_P b n (i + 1) := by
  rw [rt_P_s h]
  have h1 := rt_te_le (b := b) h
  have h2 := (rt_nb_le (b := b) h1.2).1
  omega
theorem rt_P_end {b : Nat → Nat} {n i : Nat} (h : rt_P b n i = n) : ∀ k, rt_P b n (i + k) = n
  | 0 => h
  | k + 1 => by
    show (if rt_P b n (i + k) < n then rt_nb b n (rt_te b n (rt_P b n (i + k))) else rt_P b n (i + k)) = n
    rw [rt_P_end h k, if_neg (Nat.lt_irrefl _)]
theorem rt_P_add {b : Nat → Nat} {n T i : Nat} (hT : ∀ k, k < T → rt_P b n k < n) : ∀ m, i + m ≤ T → rt_P b n i + m ≤ rt_P b n (i + m)
  | 0, _ => Nat.le_refl _
  | m + 1, h => by
    have h1 := rt_P_add (i := i) hT m (by omega)
    have h2 := (rt_P_lt (hT (i + m) (by omega))).2
    show rt_P b n i + (m + 1) ≤ rt_P b n (i + m + 1)
    omega
theorem rt_C_end {b : Nat → Nat} {n T : Nat} (h : rt_P b n T = n) (j : Nat) (hj : T ≤ j) : rt_C b n j = 30001 := by
  obtain ⟨k, rfl⟩ : ∃ k, j = T + k := ⟨j - T, by omega⟩
  unfold rt_C
  rw [rt_P_end h k, if_neg (Nat.lt_irrefl _)]
theorem rt_nu_lt {b : Nat → Nat} {p : Nat} : ∀ k, (∀ i, i < k → rt_D (b (p + i)) = true) → rt_nu b p k < 10 ^ k
  | 0, _ => by show (0 : Nat) < 1; decide
  | k + 1, h => by
    have h1 := rt_nu_lt k (fun i hi => h i (by omega))
    have h2 := h k (by omega)
    unfold rt_D at h2
    rw [decide_eq_true_eq] at h2
    show 10 * rt_nu b p k + b (p + k) - 48 < 10 ^ (k + 1)
    rw [Nat.pow_succ]
    omega
/-- what a token may be -/
theorem rt_co_c {b : Nat → Nat} {n p : Nat} (hp : p < n) (hb : ∀ j, j < n → b j < 256) : (rt_co b n p < 10000 ∧ rt_L (b p) = false ∧ rt_D (b p) = true) ∨ (10000 ≤ rt_co b n p ∧ rt_co b n p < 10018 ∧ rt_L (b p) = true ∧ rt_mt b (rt_co b n p - 10000) p (rt_te b n p)) ∨ (rt_co b n p = 20000 + b p ∧ rt_L (b p) = false ∧ rt_D (b p) = false) ∨ rt_co b n p = 30000 := by
  unfold rt_co
  cases h1 : rt_L (b p) with
  | true =>
    rw [if_pos rfl]
    rcases rt_wd_c (b := b) (p := p) (e := rt_te b n p) 18 0 with ⟨a, -⟩ | ⟨v, -, a, c, e⟩
    · exact Or.inr (Or.inr (Or.inr a))
    · refine Or.inr (Or.inl ⟨by omega, by omega, rfl, ?_⟩)
      rw [e, show 10000 + v - 10000 = v by omega]
      exact c
  | false =>
    rw [if_neg (by decide)]
    cases h2 : rt_D (b p) with
    | true =>
      rw [if_pos rfl]
      by_cases g : 4 < rt_te b n p - p
      · rw [if_pos g]
        exact Or.inr (Or.inr (Or.inr rfl))
      · rw [if_neg g]
        refine Or.inl ⟨?_, rfl, rfl⟩
        have et : rt_te b n p = rt_rn (fun j => rt_D (b j)) (n - (p + 1)) (p + 1) := by
          unfold rt_te
          rw [if_neg (by rw [h1]; decide), if_pos h2]
        obtain ⟨r1, r2, r3, -⟩ := rt_rn_b (fun j => rt_D (b j)) (n - (p + 1)) (p + 1)
        rw [← et] at r1 r2 r3
        have h3 := rt_nu_lt (b := b) (p := p) (rt_te b n p - p) (fun i hi => by
          by_cases q : i = 0
          · rw [q]; exact h2
          · exact r3 (p + i) (by omega) (by omega))
        exact Nat.lt_of_lt_of_le h3 (show 10 ^ (rt_te b n p - p) ≤ 10 ^ 4 from Nat.pow_le_pow_right (by decide) (by omega))
    | false =>
      rw [if_neg (by decide)]
      exact Or.inr (Or.inr (Or.inl ⟨rfl, rfl, rfl⟩))
theorem rt_C_c {b : Nat → Nat} {n i : Nat} (hb : ∀ j, j < n → b j < 256) : rt_C b n i < 10000 ∨ (10000 ≤ rt_C b n i ∧ rt_C b n i < 10018) ∨ (20000 ≤ rt_C b n i ∧ rt_C b n i < 20256) ∨ rt_C b n i = 30000 ∨ rt_C b n i = 30001 := by
  unfold rt_C
  split
  · next h =>
    have hb' := hb _ h
    rcases rt_co_c h hb with q | q | q | q <;> omega
  · omega
/-- a name of a kind has five letters at least -/
theorem tx_kind : ∀ w, w < 6 → 5 ≤ am_txl w := by decide +kernel
theorem rt_kind {b : Nat → Nat} {n i : Nat} (hb : ∀ j, j < n → b j < 256) (h1 : 10000 ≤ rt_C b n i) (h2 : rt_C b n i < 10006) : rt_P b n i + 5 ≤ rt_P b n (i + 1) := by
  unfold rt_C at h1 h2
  by_cases h : rt_P b n i < n
  · rw [if_pos h] at h1 h2
    rcases rt_co_c h hb with q | ⟨-, -, -, q⟩ | q | q
    · omega
    · have l1 := tx_kind (rt_co b n (rt_P b n i) - 10000) (by omega)
      have l2 := q.1
      have l3 := (rt_P_lt h).1
      omega
    · omega
    · omega
  · rw [if_neg h] at h2
    omega
/-! the parser -/
abbrev PR : Type := Nat × Option (List Nat × List Nat)
def pa_val (c : Nat) : Prop := c < 10000 ∨ (10013 ≤ c ∧ c < 10018)
def pa_sg (c : Nat) : Prop := c = 20060 ∨ c = 20061 ∨ c = 20062
def pa_mv (c : Nat) : Nat := if c < 10000 then c else c - 13
noncomputable def pa_cmp (C : Nat → Nat) (i : Nat) : PR := @ite PR (pa_val (C i)) (Classical.propDecidable _) (@ite PR (pa_sg (C (i + 1))) (Classical.propDecidable _) (@ite PR (pa_val (C (i + 2))) (Classical.propDecidable _) (i + 3, some ([C (i + 1), C i, C (i + 2)], [pa_mv (C i), pa_mv (C (i + 2)), C (i + 1) - 10050])) (i + 2, none)) (i + 1, none)) (i, none)
def pa_nt (C : Nat → Nat) : Nat → Nat → Nat
  | 0, _ => 0
  | f + 1, i => if C i = 10012 then pa_nt C f (i + 1) + 1 else 0
def pa_not (k : Nat) (r : PR) : PR := (r.1, match r.2 with
  | none => none
  | some q => some (q.1 ++ (if k % 2 = 1 then [10012] else []), q.2 ++ List.replicate k 10015))
def pa_cls (C : Nat → Nat) (r : PR) : PR := match r.2 with
  | none => r
  | some q => if C r.1 = 20041 then (r.1 + 1, some q) else (r.1, none)
noncomputable def pa_one (C : Nat → Nat) (nx : Option (Nat → PR)) (i : Nat) : PR := pa_not (pa_nt C 201 i) (if C (i + pa_nt C 201 i) = 20040 then (match nx with
  | none => (i + pa_nt C 201 i, none)
  | some f => pa_cls C (f (i + pa_nt C 201 i + 1))) else pa_cmp C (i + pa_nt C 201 i))
def pa_jn (jc jm : Nat) (q : List Nat × List Nat) (r : PR) : PR := (r.1, match r.2 with
  | none => none
  | some p => some (q.1 ++ p.1 ++ [jc], q.2 ++ p.2 ++ [jm]))
def pa_lp (C : Nat → Nat) (sub : Nat → PR) (tk jm : Nat) : Nat → PR → PR
  | 0, r => r
  | f + 1, r => match r.2 with
    | none => r
    | some q => if C r.1 = tk then pa_lp C sub tk jm f (pa_jn tk jm q (sub (r.1 + 1))) else r
def pa_ch (C : Nat → Nat) (sub : Nat → PR) (tk jm i : Nat) : PR := pa_lp C sub tk jm 201 (sub i)
noncomputable def pa_any (C : Nat → Nat) : Nat → Nat → PR
  | 0 => pa_ch C (pa_ch C (pa_one C none) 10011 10013) 10010 10014
  | l + 1 => pa_ch C (pa_ch C (pa_one C (some (pa_any C l))) 10011 10013) 10010 10014
/-- where a parse ends, how long its code is -/
def pa_ok (C : Nat → Nat) (T : Nat) (sub : Nat → PR) : Prop := ∀ i, i ≤ T → i ≤ (sub i).1 ∧ (sub i).1 ≤ T ∧ ∀ q, (sub i).2 = some q → q.1.length + i ≤ (sub i).1 ∧ q.2.length + i ≤ (sub i).1 ∧ ∀ x ∈ q.1, x < 30000
theorem pa_lt {C : Nat → Nat} {T j : Nat} (hT : ∀ j, T ≤ j → C j = 30001) (h : C j ≠ 30001) : j < T := by
  by_cases g : j < T
  · exact g
  · exact absurd (hT j (by omega)) h
theorem pa_nt_le {C : Nat → Nat} {T : Nat} (hT : ∀ j, T ≤ j → C j = 30001) : ∀ f i, i ≤ T → i + pa_nt C f i ≤ T
  | 0, i, h => h
  | f + 1, i, h => by
    show i + (if C i = 10012 then pa_nt C f (i + 1) + 1 else 0) ≤ T
    split
    · next g =>
      have := pa_nt_le hT f (i + 1) (pa_lt hT (by omega))
      omega
    · exact h
theorem pa_cmp_ok {C : Nat → Nat} {T : Nat} (hT : ∀ j, T ≤ j → C j = 30001) : pa_ok C T (pa_cmp C) := by
  intro i hi
  unfold pa_cmp
  by_cases h1 : pa_val (C i)
  · rw [if_pos h1]
    have l1 : i < T := pa_lt hT (by unfold pa_val at h1; omega)
    by_cases h2 : pa_sg (C (i + 1))
    · rw [if_pos h2]
      have l2 : i + 1 < T := pa_lt hT (by unfold pa_sg at h2; omega)
      by_cases h3 : pa_val (C (i + 2))
      · rw [if_pos h3]
        have l3 : i + 2 < T := pa_lt hT (by unfold pa_val at h3; omega)
        refine ⟨by show i ≤ i + 3; omega, l3, fun q hq => ?_⟩
        injection hq with hq
        subst hq
        refine ⟨by show 3 + i ≤ i + 3; omega, by show 3 + i ≤ i + 3; omega, fun x hx => ?_⟩
        unfold pa_val at h1 h3
        unfold pa_sg at h2
        simp only [List.mem_cons, List.not_mem_nil, or_false] at hx
        omega
      · rw [if_neg h3]
        exact ⟨by show i ≤ i + 2; omega, l2, fun q hq => by cases hq⟩
    · rw [if_neg h2]
      exact ⟨by show i ≤ i + 1; omega, l1, fun q hq => by cases hq⟩
  · rw [if_neg h1]
    exact ⟨Nat.le_refl _, hi, fun q hq => by cases hq⟩
theorem pa_one_ok {C : Nat → Nat} {T : Nat} (hT : ∀ j, T ≤ j → C j = 30001) {nx : Option (Nat → PR)} (hn : ∀ f, nx = some f → pa_ok C T f) : pa_ok C T (pa_one C nx) := by
  intro i hi
  have hk := pa_nt_le hT 201 i hi
  unfold pa_one
  generalize pa_nt C 201 i = k at hk
  have key : ∀ r : PR, (i + k ≤ r.1 ∧ r.1 ≤ T ∧ ∀ q, r.2 = some q → q.1.length + (i + k) ≤ r.1 ∧ q.2.length + (i + k) ≤ r.1 ∧ ∀ x ∈ q.1, x < 30000) → i ≤ (pa_not k r).1 ∧ (pa_not k r).1 ≤ T ∧ ∀ q, (pa_not k r).2 = some q → q.1.length + i ≤ (pa_not k r).1 ∧ q.2.length + i ≤ (pa_not k r).1 ∧ ∀ x ∈ q.1, x < 30000 := by
    rintro ⟨e, o⟩ ⟨a, c, g⟩
    refine ⟨by show i ≤ e; have a : i + k ≤ e := a; omega, c, fun q hq => ?_⟩
    cases o with
    | none => cases hq
    | some p =>
      obtain ⟨g1, g2, g3⟩ := g p rfl
      have g1 : p.1.length + (i + k) ≤ e := g1
      have g2 : p.2.length + (i + k) ≤ e := g2
      injection hq with hq
      subst hq
      refine ⟨?_, ?_, fun x hx => ?_⟩
      · show (p.1 ++ (if k % 2 = 1 then [10012] else [])).length + i ≤ e
        rw [List.length_append]
        split
        · rw [List.length_singleton]; omega
        · rw [List.length_nil]; omega
      · show (p.2 ++ List.replicate k 10015).length + i ≤ e
        rw [List.length_append, List.length_replicate]
        omega
      · have hx : x ∈ p.1 ++ (if k % 2 = 1 then [10012] else []) := hx
        rcases List.mem_append.mp hx with z | z
        · exact g3 x z
        · split at z
          · rw [List.mem_singleton] at z; omega
          · cases z
  apply key
  by_cases g : C (i + k) = 20040
  · rw [if_pos g]
    have l1 : i + k < T := pa_lt hT (by omega)
    cases nx with
    | none => exact ⟨Nat.le_refl _, hk, fun q hq => by cases hq⟩
    | some f =>
      obtain ⟨a, c, e⟩ := hn f rfl (i + k + 1) l1
      show i + k ≤ (pa_cls C (f (i + k + 1))).1 ∧ (pa_cls C (f (i + k + 1))).1 ≤ T ∧ ∀ q, (pa_cls C (f (i + k + 1))).2 = some q → q.1.length + (i + k) ≤ (pa_cls C (f (i + k + 1))).1 ∧ q.2.length + (i + k) ≤ (pa_cls C (f (i + k + 1))).1 ∧ ∀ x ∈ q.1, x < 30000
      unfold pa_cls
      generalize f (i + k + 1) = r at a c e
      obtain ⟨e1, o⟩ := r
      have a : i + k + 1 ≤ e1 := a
      have c : e1 ≤ T := c
      cases o with
      | none => exact ⟨by show i + k ≤ e1; omega, c, fun q hq => by cases hq⟩
      | some p =>
        obtain ⟨g1, g2, g3⟩ := e p rfl
        have g1 : p.1.length + (i + k + 1) ≤ e1 := g1
        have g2 : p.2.length + (i + k + 1) ≤ e1 := g2
        dsimp only
        by_cases y : C e1 = 20041
        · rw [if_pos y]
          have l2 : e1 < T := pa_lt hT (by omega)
          refine ⟨by show i + k ≤ e1 + 1; omega, l2, fun q hq => ?_⟩
          injection hq with hq
          subst hq
          exact ⟨by show p.1.length + (i + k) ≤ e1 + 1; omega, by show p.2.length + (i + k) ≤ e1 + 1; omega, g3⟩
        · rw [if_neg y]
          exact ⟨by show i + k ≤ e1; omega, c, fun q hq => by cases hq⟩
  · rw [if_neg g]
    exact pa_cmp_ok hT (i + k) hk
theorem pa_lp_ok {C : Nat → Nat} {T tk jm : Nat} {sub : Nat → PR} (hT : ∀ j, T ≤ j → C j = 30001) (htk : tk < 30000) (hs : pa_ok C T sub) (i : Nat) : ∀ f (r : PR), (i ≤ r.1 ∧ r.1 ≤ T ∧ ∀ q, r.2 = some q → q.1.length + i ≤ r.1 ∧ q.2.length + i ≤ r.1 ∧ ∀ x ∈ q.1, x < 30000) → (i ≤ (pa_lp C sub tk jm f r).1 ∧ (pa_lp C sub tk jm f r).1 ≤ T ∧ ∀ q, (pa_lp C sub tk jm f r).2 = some q → q.1.length + i ≤ (pa_lp C sub tk jm f r).1 ∧ q.2.length + i ≤ (pa_lp C sub tk jm f r).1 ∧ ∀ x ∈ q.1, x < 30000)
  | 0, r, h => h
  | f + 1, (e, none), h => h
  | f + 1, (e, some p), h => by
    obtain ⟨a, c, g⟩ := h
    have a : i ≤ e := a
    have c : e ≤ T := c
    obtain ⟨g1, g2, g3⟩ := g p rfl
    have g1 : p.1.length + i ≤ e := g1
    have g2 : p.2.length + i ≤ e := g2
    by_cases y : C e = tk
    · have el : pa_lp C sub tk jm (f + 1) (e, some p) = pa_lp C sub tk jm f (pa_jn tk jm p (sub (e + 1))) := by
        show (if C e = tk then _ else _) = _
        rw [if_pos y]
      rw [el]
      have l1 : e < T := pa_lt hT (by omega)
      obtain ⟨s1, s2, s3⟩ := hs (e + 1) l1
      refine pa_lp_ok hT htk hs i f _ ?_
      generalize sub (e + 1) = r at s1 s2 s3
      obtain ⟨e1, o⟩ := r
      have s1 : e + 1 ≤ e1 := s1
      refine ⟨by show i ≤ e1; omega, s2, fun q hq => ?_⟩
      cases o with
      | none => cases hq
      | some p' =>
        obtain ⟨t1, t2, t3⟩ := s3 p' rfl
        have t1 : p'.1.length + (e + 1) ≤ e1 := t1
        have t2 : p'.2.length + (e + 1) ≤ e1 := t2
        injection hq with hq
        subst hq
        refine ⟨?_, ?_, fun x hx => ?_⟩
        · show (p.1 ++ p'.1 ++ [tk]).length + i ≤ e1
          rw [List.length_append, List.length_append, List.length_singleton]
          omega
        · show (p.2 ++ p'.2 ++ [jm]).length + i ≤ e1
          rw [List.length_append, List.length_append, List.length_singleton]
          omega
        · have hx : x ∈ p.1 ++ p'.1 ++ [tk] := hx
          rcases List.mem_append.mp hx with z | z
          · rcases List.mem_append.mp z with z | z
            · exact g3 x z
            · exact t3 x z
          · rw [List.mem_singleton] at z; omega
    · have el : pa_lp C sub tk jm (f + 1) (e, some p) = (e, some p) := by
        show (if C e = tk then _ else _) = _
        rw [if_neg y]
      rw [el]
      exact ⟨a, c, fun q hq => by injection hq with hq; subst hq; exact ⟨g1, g2, g3⟩⟩
theorem pa_ch_ok {C : Nat → Nat} {T tk jm : Nat} {sub : Nat → PR} (hT : ∀ j, T ≤ j → C j = 30001) (htk : tk < 30000) (hs : pa_ok C T sub) : pa_ok C T (pa_ch C sub tk jm) := fun i hi => pa_lp_ok hT htk hs i 201 (sub i) (hs i hi)
theorem pa_any_ok {C : Nat → Nat} {T : Nat} (hT : ∀ j, T ≤ j → C j = 30001) : ∀ l, pa_ok C T (pa_any C l)
  | 0 => pa_ch_ok hT (by decide) (pa_ch_ok hT (by decide) (pa_one_ok hT (fun f hf => by cases hf)))
  | l + 1 => pa_ch_ok hT (by decide) (pa_ch_ok hT (by decide) (pa_one_ok hT (fun f hf => by injection hf with hf; subst hf; exact pa_any_ok hT l)))
/-! what both codes say -/
def pa_b (x : Bool) : Nat := if x = true then 1 else 0
def pa_se (D : Nat) (q : List Nat × List Nat) : Prop := ∀ (F : Nat → Nat) (pl : List Bool) (pm r1 r2 : List Nat), pl.length + D < 20 → ∃ x : Bool, sp_hc F (q.1 ++ r1) pl = sp_hc F r1 (x :: pl) ∧ sp_ev F (q.2 ++ r2) pm = sp_ev F r2 (pa_b x :: pm)
def pa_sem (D : Nat) (sub : Nat → PR) : Prop := ∀ i q, (sub i).2 = some q → pa_se D q
theorem hc_not (F : Nat → Nat) (l : List Nat) (a : Bool) (pl : List Bool) : sp_hc F (10012 :: l) (a :: pl) = sp_hc F l ((!a) :: pl) := by
  rw [sp_hc.eq_def]
  simp
theorem hc_and (F : Nat → Nat) (l : List Nat) (a b : Bool) (pl : List Bool) : sp_hc F (10011 :: l) (a :: b :: pl) = sp_hc F l ((b && a) :: pl) := by
  rw [sp_hc.eq_def]
  simp
theorem hc_or (F : Nat → Nat) (l : List Nat) (a b : Bool) (pl : List Bool) : sp_hc F (10010 :: l) (a :: b :: pl) = sp_hc F l ((b || a) :: pl) := by
  rw [sp_hc.eq_def]
  simp
theorem hc_cmp (F : Nat → Nat) (l : List Nat) (x a b : Nat) (pl : List Bool) (hx : 20000 ≤ x) (hp : pl.length < 20) : sp_hc F (x :: a :: b :: l) pl = sp_hc F l (sp_cmp F x a b :: pl) := by
  rw [sp_hc.eq_def]
  simp only [if_neg (show ¬ x = 10012 by omega), if_neg (show ¬ x = 10011 by omega), if_neg (show ¬ x = 10010 by omega), if_pos hp]
theorem ev_val (F : Nat → Nat) (l pm : List Nat) (x : Nat) (hx : x < 10010) : sp_ev F (x :: l) pm = sp_ev F l ((if x < 10000 then x else F (x - 10000)) :: pm) := by
  rw [sp_ev.eq_def]
  simp only [if_pos hx]
theorem ev_join (F : Nat → Nat) (l pm : List Nat) (x a b : Nat) (h1 : 10010 ≤ x) (h2 : x < 10015) : sp_ev F (x :: l) (a :: b :: pm) = sp_ev F l (sp_join x b a :: pm) := by
  rw [sp_ev.eq_def]
  simp only [if_neg (show ¬ x < 10010 by omega), if_neg (show ¬ 10015 < x by omega), if_neg (show ¬ x = 10015 by omega)]
theorem ev_not (F : Nat → Nat) (l pm : List Nat) (a : Bool) : sp_ev F (10015 :: l) (pa_b a :: pm) = sp_ev F l (pa_b (!a) :: pm) := by
  rw [sp_ev.eq_def]
  cases a <;> simp [pa_b]
theorem ev_nots (F : Nat → Nat) (l pm : List Nat) : ∀ (k : Nat) (a : Bool), sp_ev F (List.replicate k 10015 ++ l) (pa_b a :: pm) = sp_ev F l (pa_b (if k % 2 = 1 then !a else a) :: pm)
  | 0, a => by simp
  | k + 1, a => by
    rw [List.replicate_succ, List.cons_append, ev_not, ev_nots F l pm k (!a)]
    by_cases g : k % 2 = 1
    · rw [if_pos g, if_neg (by omega), Bool.not_not]
    · rw [if_neg g, if_pos (by omega)]
theorem pa_mv_val {F : Nat → Nat} {c : Nat} (h : pa_val c) : pa_mv c < 10010 ∧ (if pa_mv c < 10000 then pa_mv c else F (pa_mv c - 10000)) = sp_val F c := by
  unfold pa_mv sp_val
  unfold pa_val at h
  by_cases g : c < 10000
  · rw [if_pos g, if_pos g, if_neg (by omega)]
    exact ⟨by omega, rfl⟩
  · rw [if_neg g, if_neg (by omega), if_pos (by omega), show c - 13 - 10000 = c - 10013 by omega]
    exact ⟨by omega, rfl⟩
theorem sg_join {F : Nat → Nat} {s a b : Nat} (h : pa_sg s) : sp_join (s - 10050) (sp_val F a) (sp_val F b) = pa_b (sp_cmp F s a b) := by
  unfold pa_b
  rcases h with rfl | rfl | rfl
  · simp [sp_join, sp_cmp]
  · simp [sp_join, sp_cmp]
  · simp [sp_join, sp_cmp]
theorem pa_cmp_sem {C : Nat → Nat} : pa_sem 0 (pa_cmp C) := by
  intro i q hq F pl pm r1 r2 hp
  unfold pa_cmp at hq
  by_cases h1 : pa_val (C i)
  · rw [if_pos h1] at hq
    by_cases h2 : pa_sg (C (i + 1))
    · rw [if_pos h2] at hq
      by_cases h3 : pa_val (C (i + 2))
      · rw [if_pos h3] at hq
        injection hq with hq
        subst hq
        obtain ⟨m1, m2⟩ := pa_mv_val (F := F) h1
        obtain ⟨m3, m4⟩ := pa_mv_val (F := F) h3
        refine ⟨sp_cmp F (C (i + 1)) (C i) (C (i + 2)), ?_, ?_⟩
        · show sp_hc F (C (i + 1) :: C i :: C (i + 2) :: r1) pl = _
          exact hc_cmp F r1 _ _ _ pl (by unfold pa_sg at h2; omega) (by omega)
        · show sp_ev F (pa_mv (C i) :: pa_mv (C (i + 2)) :: (C (i + 1) - 10050) :: r2) pm = _
          rw [ev_val F _ _ _ m1, m2, ev_val F _ _ _ m3, m4, ev_join F _ _ _ _ _ (by unfold pa_sg at h2; omega) (by unfold pa_sg at h2; omega), sg_join h2]
      · rw [if_neg h3] at hq
        cases hq
    · rw [if_neg h2] at hq
      cases hq
  · rw [if_neg h1] at hq
    cases hq
theorem pa_not_sem {D k : Nat} {r : PR} (h : ∀ q, r.2 = some q → pa_se D q) : ∀ q, (pa_not k r).2 = some q → pa_se D q := by
  obtain ⟨e, o⟩ := r
  intro q hq F pl pm r1 r2 hp
  cases o with
  | none => cases hq
  | some p =>
    injection hq with hq
    subst hq
    obtain ⟨x, h1, h2⟩ := h p rfl F pl pm ((if k % 2 = 1 then [10012] else []) ++ r1) (List.replicate k 10015 ++ r2) hp
    refine ⟨if k % 2 = 1 then !x else x, ?_, ?_⟩
    · show sp_hc F (p.1 ++ (if k % 2 = 1 then [10012] else []) ++ r1) pl = _
      rw [List.append_assoc, h1]
      by_cases g : k % 2 = 1
      · rw [if_pos g, if_pos g]
        exact hc_not F r1 x pl
      · rw [if_neg g, if_neg g]
        rfl
    · show sp_ev F (p.2 ++ List.replicate k 10015 ++ r2) pm = _
      rw [List.append_assoc, h2, ev_nots]
theorem pa_se_mono {D E : Nat} {q : List Nat × List Nat} (h : pa_se D q) (hE : D ≤ E) : pa_se E q := fun F pl pm r1 r2 hp => h F pl pm r1 r2 (by omega)
theorem pa_one_sem {C : Nat → Nat} {D : Nat} {nx : Option (Nat → PR)} (hn : ∀ f, nx = some f → pa_sem D f) : pa_sem D (pa_one C nx) := by
  intro i
  unfold pa_one
  refine pa_not_sem (fun q hq => ?_)
  generalize pa_nt C 201 i = k at hq
  by_cases g : C (i + k) = 20040
  · rw [if_pos g] at hq
    cases nx with
    | none => cases hq
    | some f =>
      have hs := hn f rfl (i + k + 1)
      have hq : (pa_cls C (f (i + k + 1))).2 = some q := hq
      unfold pa_cls at hq
      generalize f (i + k + 1) = r at hs hq
      obtain ⟨e1, o⟩ := r
      cases o with
      | none => cases hq
      | some p =>
        dsimp only at hq
        by_cases y : C e1 = 20041
        · rw [if_pos y] at hq
          injection hq with hq
          subst hq
          exact hs p rfl
        · rw [if_neg y] at hq
          cases hq
  · rw [if_neg g] at hq
    exact pa_se_mono (pa_cmp_sem (i + k) q hq) (Nat.zero_le _)
theorem pa_jn_sem {D tk jm : Nat} (f : Bool → Bool → Bool) (hc : ∀ F l a b pl, sp_hc F (tk :: l) (a :: b :: pl) = sp_hc F l (f b a :: pl)) (hm : ∀ F l a b pm, sp_ev F (jm :: l) (pa_b a :: pa_b b :: pm) = sp_ev F l (pa_b (f b a) :: pm)) {q : List Nat × List Nat} {r : PR} (h1 : pa_se (D + 1) q) (h2 : ∀ p, r.2 = some p → pa_se D p) : ∀ p, (pa_jn tk jm q r).2 = some p → pa_se (D + 1) p := by
  obtain ⟨e, o⟩ := r
  intro p hp F pl pm r1 r2 hl
  cases o with
  | none => cases hp
  | some p' =>
    injection hp with hp
    subst hp
    obtain ⟨x, a1, a2⟩ := h1 F pl pm (p'.1 ++ ([tk] ++ r1)) (p'.2 ++ ([jm] ++ r2)) hl
    obtain ⟨y, b1, b2⟩ := h2 p' rfl F (x :: pl) (pa_b x :: pm) ([tk] ++ r1) ([jm] ++ r2) (by rw [List.length_cons]; omega)
    refine ⟨f x y, ?_, ?_⟩
    · show sp_hc F (q.1 ++ p'.1 ++ [tk] ++ r1) pl = _
      rw [List.append_assoc, List.append_assoc, a1, b1]
      exact hc F r1 y x pl
    · show sp_ev F (q.2 ++ p'.2 ++ [jm] ++ r2) pm = _
      rw [List.append_assoc, List.append_assoc, a2, b2]
      exact hm F r2 y x pm
theorem pa_lp_sem {C : Nat → Nat} {sub : Nat → PR} {D tk jm : Nat} (f : Bool → Bool → Bool) (hc : ∀ F l a b pl, sp_hc F (tk :: l) (a :: b :: pl) = sp_hc F l (f b a :: pl)) (hm : ∀ F l a b pm, sp_ev F (jm :: l) (pa_b a :: pa_b b :: pm) = sp_ev F l (pa_b (f b a) :: pm)) (hs : pa_sem D sub) : ∀ fu (r : PR), (∀ q, r.2 = some q → pa_se (D + 1) q) → ∀ q, (pa_lp C sub tk jm fu r).2 = some q → pa_se (D + 1) q
  | 0, r, h => h
  | fu + 1, (e, none), h => h
  | fu + 1, (e, some p), h => by
    by_cases y : C e = tk
    · have el : pa_lp C sub tk jm (fu + 1) (e, some p) = pa_lp C sub tk jm fu (pa_jn tk jm p (sub (e + 1))) := by
        show (if C e = tk then _ else _) = _
        rw [if_pos y]
      rw [el]
      exact pa_lp_sem f hc hm hs fu _ (pa_jn_sem f hc hm (h p rfl) (fun p' hp' => hs (e + 1) p' hp'))
    · have el : pa_lp C sub tk jm (fu + 1) (e, some p) = (e, some p) := by
        show (if C e = tk then _ else _) = _
        rw [if_neg y]
      rw [el]
      exact h
theorem ev_and (F : Nat → Nat) (l : List Nat) (a b : Bool) (pm : List Nat) : sp_ev F (10013 :: l) (pa_b a :: pa_b b :: pm) = sp_ev F l (pa_b (b && a) :: pm) := by
  rw [ev_join F l pm _ _ _ (by decide) (by decide)]
  congr 1
  cases a <;> cases b <;> rfl
theorem ev_or (F : Nat → Nat) (l : List Nat) (a b : Bool) (pm : List Nat) : sp_ev F (10014 :: l) (pa_b a :: pa_b b :: pm) = sp_ev F l (pa_b (b || a) :: pm) := by
  rw [ev_join F l pm _ _ _ (by decide) (by decide)]
  congr 1
  cases a <;> cases b <;> rfl
theorem pa_and_sem {C : Nat → Nat} {sub : Nat → PR} {D : Nat} (hs : pa_sem D sub) : pa_sem (D + 1) (pa_ch C sub 10011 10013) := fun i => pa_lp_sem (fun x y => x && y) (fun F l a b pl => hc_and F l a b pl) (fun F l a b pm => ev_and F l a b pm) hs 201 (sub i) (fun q hq => pa_se_mono (hs i q hq) (by omega))
theorem pa_or_sem {C : Nat → Nat} {sub : Nat → PR} {D : Nat} (hs : pa_sem D sub) : pa_sem (D + 1) (pa_ch C sub 10010 10014) := fun i => pa_lp_sem (fun x y => x || y) (fun F l a b pl => hc_or F l a b pl) (fun F l a b pm => ev_or F l a b pm) hs 201 (sub i) (fun q hq => pa_se_mono (hs i q hq) (by omega))
theorem pa_any_sem {C : Nat → Nat} : ∀ l, pa_sem (2 * l + 2) (pa_any C l)
  | 0 => pa_or_sem (D := 1) (pa_and_sem (D := 0) (pa_one_sem (fun f hf => by cases hf)))
  | l + 1 => pa_or_sem (D := 2 * l + 2 + 1) (pa_and_sem (D := 2 * l + 2) (pa_one_sem (fun f hf => by injection hf with hf; subst hf; exact pa_any_sem l)))
