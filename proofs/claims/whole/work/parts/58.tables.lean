/-! TABLES -/
def sp_it (f : Nat → Nat → Nat) : Nat → Nat → Nat
  | 0, T => T
  | a + 1, T => f a (sp_it f a T)
theorem sp_it_ind {f : Nat → Nat → Nat} (P : Nat → Nat → Prop) {T : Nat} : ∀ n, P 0 T → (∀ a S, a < n → P a S → P (a + 1) (f a S)) → P n (sp_it f n T)
  | 0, h, _ => h
  | n + 1, h, hf => hf n _ (by omega) (sp_it_ind P n h (fun a S ha => hf a S (by omega)))
/-- gates and needs are close -/
abbrev sp_gn (u : am_U) (a b : Nat) : Prop := u (41 + 6 * a) = u (41 + 6 * b) ∨ (u (39 + 6 * a) ≤ u (39 + 6 * b) + 2 ∧ u (39 + 6 * b) ≤ u (39 + 6 * a) + 2)
abbrev sp_clo (u : am_U) (a b : Nat) : Prop := u (43 + 6 * a) = 0 ∧ u (43 + 6 * b) = 0 ∧ sp_gn u a b
theorem sp_clo_sym {u : am_U} {a b : Nat} (h : sp_clo u a b) : sp_clo u b a := by
  obtain ⟨h1, h2, h3 | h3⟩ := h
  · exact ⟨h2, h1, Or.inl h3.symm⟩
  · exact ⟨h2, h1, Or.inr ⟨h3.2, h3.1⟩⟩
abbrev sp_near (u : am_U) (n i T : Nat) : Prop := u (43 + 6 * i) = 0 ∧ ∃ j, j < n ∧ T.testBit j = true ∧ sp_gn u i j
noncomputable def sp_xi (u : am_U) (n : Nat) : Nat → Nat → Nat := fun i T => @ite Nat (sp_near u n i T) (Classical.propDecidable _) (T ||| 2 ^ i) T
noncomputable def sp_xT (u : am_U) (n k : Nat) : Nat := sp_it (fun _ T => sp_it (sp_xi u n) n T) n (2 ^ k)
def sp_mb (u : am_U) (a : Nat) : Nat → Nat → Nat := fun b T => if T.testBit a = true ∧ sp_clo u a b then T ||| 2 ^ b else T
def sp_mT (u : am_U) (n k : Nat) : Nat := sp_it (fun _ T => sp_it (fun a T => sp_it (sp_mb u a) n T) n T) n (2 ^ k)
def sp_card (T : Nat) : Nat := (T.testBit 0).toNat + (T.testBit 1).toNat + (T.testBit 2).toNat + (T.testBit 3).toNat + (T.testBit 4).toNat + (T.testBit 5).toNat
theorem tb_or : ∀ T, T < 64 → ∀ i, i < 6 → T ||| 2 ^ i < 64 ∧ (T.testBit i = true → T ||| 2 ^ i = T) ∧ (T.testBit i = false → sp_card (T ||| 2 ^ i) = sp_card T + 1) := by decide +kernel
theorem tb_orb {T i j : Nat} : (T ||| 2 ^ i).testBit j = true ↔ (T.testBit j = true ∨ j = i) := by
  rw [Nat.testBit_or, Nat.testBit_two_pow, Bool.or_eq_true, decide_eq_true_eq]
  exact ⟨fun h => h.imp id Eq.symm, fun h => h.imp id Eq.symm⟩
theorem tb_card : ∀ n, n < 7 → ∀ T, T < 64 → 2 ^ n ≤ T ∨ sp_card T ≤ n := by decide +kernel
theorem tb_ext {T S : Nat} (hT : T < 64) (hS : S < 64) (h : ∀ j, T.testBit j = true ↔ S.testBit j = true) : T = S := Nat.eq_of_testBit_eq (fun j => by rw [Bool.eq_iff_iff]; exact h j)
theorem tb_lt {n T : Nat} (h : ∀ j, T.testBit j = true → j < n) : T < 2 ^ n := by
  refine Nat.lt_pow_two_of_testBit T (fun j hj => ?_)
  cases e : T.testBit j with
  | false => rfl
  | true => exact absurd (h j e) (by omega)
theorem tb_one {k : Nat} (hk : k < 6) : 2 ^ k < 64 ∧ sp_card (2 ^ k) = 1 := by
  have : ∀ k, k < 6 → 2 ^ k < 64 ∧ sp_card (2 ^ k) = 1 := by decide +kernel
  exact this k hk
/-- a set that holds k, of hungry ones, in every closed set that holds k -/
def sp_gd (u : am_U) (n k T : Nat) : Prop := T < 64 ∧ T.testBit k = true ∧ (∀ j, T.testBit j = true → j < n ∧ u (43 + 6 * j) = 0) ∧ ∀ C : Nat → Prop, C k → (∀ a b, a < n → b < n → C a → sp_clo u a b → C b) → ∀ j, T.testBit j = true → C j
def sp_cd (u : am_U) (n T : Nat) : Prop := ∀ a b, a < n → b < n → T.testBit a = true → sp_clo u a b → T.testBit b = true
theorem sp_gd_add {u : am_U} {n k T a b : Nat} (hn : n ≤ 6) (h : sp_gd u n k T) (ha : a < n) (hb : b < n) (hT : T.testBit a = true) (hc : sp_clo u a b) : sp_gd u n k (T ||| 2 ^ b) := by
  obtain ⟨h1, h2, h3, h4⟩ := h
  refine ⟨(tb_or T h1 b (by omega)).1, tb_orb.mpr (Or.inl h2), fun j hj => ?_, fun C hk hC j hj => ?_⟩
  · rcases tb_orb.mp hj with q | q
    · exact h3 j q
    · subst q
      exact ⟨hb, hc.2.1⟩
  · rcases tb_orb.mp hj with q | q
    · exact h4 C hk hC j q
    · subst q
      exact hC a j ha hb (h4 C hk hC a hT) hc
theorem sp_near_clo {u : am_U} {n k i T : Nat} (h : sp_gd u n k T) : sp_near u n i T ↔ ∃ j, j < n ∧ T.testBit j = true ∧ sp_clo u j i := by
  constructor
  · rintro ⟨h1, j, h2, h3, h4⟩
    exact ⟨j, h2, h3, sp_clo_sym ⟨h1, (h.2.2.1 j h3).2, h4⟩⟩
  · rintro ⟨j, h2, h3, h4⟩
    exact ⟨h4.2.1, j, h2, h3, (sp_clo_sym h4).2.2⟩
/-- a pass of either -/
def sp_ps (u : am_U) (n k : Nat) (f : Nat → Nat) : Prop := ∀ T, sp_gd u n k T → sp_gd u n k (f T) ∧ sp_card T ≤ sp_card (f T) ∧ (sp_card (f T) = sp_card T → sp_cd u n T) ∧ (sp_cd u n T → f T = T)
theorem sp_ps_x {u : am_U} {n k : Nat} (hn : n ≤ 6) : sp_ps u n k (fun T => sp_it (sp_xi u n) n T) := by
  intro T hT
  have A := sp_it_ind (f := sp_xi u n) (T := T) (fun i S => sp_gd u n k S ∧ sp_card T ≤ sp_card S ∧ (sp_card S = sp_card T → S = T ∧ ∀ i', i' < i → ∀ j, j < n → T.testBit j = true → sp_clo u j i' → T.testBit i' = true)) n ⟨hT, Nat.le_refl _, fun _ => ⟨rfl, fun i' hi => by omega⟩⟩ (by
    rintro i S hi ⟨g1, g2, g3⟩
    unfold sp_xi
    by_cases h : sp_near u n i S
    · rw [if_pos h]
      obtain ⟨j, j1, j2, j3⟩ := (sp_near_clo g1).mp h
      obtain ⟨o1, o2, o3⟩ := tb_or S g1.1 i (by omega)
      refine ⟨sp_gd_add hn g1 j1 hi j2 j3, ?_⟩
      cases e : S.testBit i with
      | true =>
        rw [o2 e]
        refine ⟨g2, fun z => ?_⟩
        obtain ⟨q1, q2⟩ := g3 z
        refine ⟨q1, fun i' hi' j hj t1 t2 => ?_⟩
        by_cases y : i' = i
        · subst y
          rw [← q1]
          exact e
        · exact q2 i' (by omega) j hj t1 t2
      | false =>
        rw [o3 e]
        exact ⟨by omega, fun z => by omega⟩
    · rw [if_neg h]
      refine ⟨g1, g2, fun z => ?_⟩
      obtain ⟨q1, q2⟩ := g3 z
      refine ⟨q1, fun i' hi' j hj t1 t2 => ?_⟩
      by_cases y : i' = i
      · subst y
        exact absurd ((sp_near_clo g1).mpr ⟨j, hj, by rw [q1]; exact t1, t2⟩) h
      · exact q2 i' (by omega) j hj t1 t2)
  obtain ⟨a1, a2, a3⟩ := A
  refine ⟨a1, a2, fun z a b ha hb t1 t2 => (a3 z).2 b hb a ha t1 t2, fun hc => ?_⟩
  exact sp_it_ind (f := sp_xi u n) (T := T) (fun _ S => S = T) n rfl (by
    rintro i S hi rfl
    unfold sp_xi
    by_cases h : sp_near u n i S
    · rw [if_pos h]
      obtain ⟨j, j1, j2, j3⟩ := (sp_near_clo hT).mp h
      exact (tb_or S hT.1 i (by omega)).2.1 (hc j i j1 hi j2 j3)
    · rw [if_neg h])
theorem sp_ps_m {u : am_U} {n k : Nat} (hn : n ≤ 6) : sp_ps u n k (fun T => sp_it (fun a T => sp_it (sp_mb u a) n T) n T) := by
  intro T hT
  have A := sp_it_ind (f := fun a T => sp_it (sp_mb u a) n T) (T := T) (fun a S => sp_gd u n k S ∧ sp_card T ≤ sp_card S ∧ (sp_card S = sp_card T → S = T ∧ ∀ a', a' < a → ∀ b, b < n → T.testBit a' = true → sp_clo u a' b → T.testBit b = true)) n ⟨hT, Nat.le_refl _, fun _ => ⟨rfl, fun i' hi => by omega⟩⟩ (by
    rintro a S0 ha ⟨f1, f2, f3⟩
    have B := sp_it_ind (f := sp_mb u a) (T := S0) (fun b S => sp_gd u n k S ∧ sp_card S0 ≤ sp_card S ∧ (sp_card S = sp_card S0 → S = S0 ∧ ∀ b', b' < b → S0.testBit a = true → sp_clo u a b' → S0.testBit b' = true)) n ⟨f1, Nat.le_refl _, fun _ => ⟨rfl, fun i' hi => by omega⟩⟩ (by
      rintro b S hb ⟨g1, g2, g3⟩
      unfold sp_mb
      by_cases h : S.testBit a = true ∧ sp_clo u a b
      · rw [if_pos h]
        obtain ⟨o1, o2, o3⟩ := tb_or S g1.1 b (by omega)
        refine ⟨sp_gd_add hn g1 ha hb h.1 h.2, ?_⟩
        cases e : S.testBit b with
        | true =>
          rw [o2 e]
          refine ⟨g2, fun z => ?_⟩
          obtain ⟨q1, q2⟩ := g3 z
          refine ⟨q1, fun b' hb' t1 t2 => ?_⟩
          by_cases y : b' = b
          · subst y
            rw [← q1]
            exact e
          · exact q2 b' (by omega) t1 t2
        | false =>
          rw [o3 e]
          exact ⟨by omega, fun z => by omega⟩
      · rw [if_neg h]
        refine ⟨g1, g2, fun z => ?_⟩
        obtain ⟨q1, q2⟩ := g3 z
        refine ⟨q1, fun b' hb' t1 t2 => ?_⟩
        by_cases y : b' = b
        · subst y
          exact absurd ⟨by rw [q1]; exact t1, t2⟩ h
        · exact q2 b' (by omega) t1 t2)
    obtain ⟨b1, b2, b3⟩ := B
    refine ⟨b1, by omega, fun z => ?_⟩
    obtain ⟨q1, q2⟩ := b3 (by omega)
    obtain ⟨p1, p2⟩ := f3 (by omega)
    refine ⟨q1.trans p1, fun a' ha' b hb t1 t2 => ?_⟩
    by_cases y : a' = a
    · subst y
      rw [← p1] at t1 ⊢
      exact q2 b hb t1 t2
    · exact p2 a' (by omega) b hb t1 t2)
  obtain ⟨a1, a2, a3⟩ := A
  refine ⟨a1, a2, fun z a b ha hb t1 t2 => (a3 z).2 a ha b hb t1 t2, fun hc => ?_⟩
  exact sp_it_ind (f := fun a T => sp_it (sp_mb u a) n T) (T := T) (fun _ S => S = T) n rfl (by
    rintro a S ha rfl
    exact sp_it_ind (f := sp_mb u a) (T := S) (fun _ S' => S' = S) n rfl (by
      rintro b S' hb rfl
      unfold sp_mb
      by_cases h : S'.testBit a = true ∧ sp_clo u a b
      · rw [if_pos h]
        exact (tb_or S' hT.1 b (by omega)).2.1 (hc a b ha hb h.1 h.2)
      · rw [if_neg h]))
theorem sp_gd_one {u : am_U} {n k : Nat} (hn : n ≤ 6) (hk : k < n) (hf : u (43 + 6 * k) = 0) : sp_gd u n k (2 ^ k) := by
  have e : ∀ j, (2 ^ k).testBit j = true → j = k := fun j h => by rw [Nat.testBit_two_pow, decide_eq_true_eq] at h; exact h.symm
  refine ⟨(tb_one (by omega)).1, by rw [Nat.testBit_two_pow]; simp, fun j hj => ?_, fun C hC _ j hj => ?_⟩
  · rw [e j hj]
    exact ⟨hk, hf⟩
  · rw [e j hj]
    exact hC
theorem sp_ps_end {u : am_U} {n k : Nat} {f : Nat → Nat} (hn : n ≤ 6) (hk : k < n) (hf : u (43 + 6 * k) = 0) (h : sp_ps u n k f) : sp_gd u n k (sp_it (fun _ T => f T) n (2 ^ k)) ∧ sp_cd u n (sp_it (fun _ T => f T) n (2 ^ k)) := by
  have A := sp_it_ind (f := fun _ T => f T) (T := 2 ^ k) (fun p S => sp_gd u n k S ∧ (sp_cd u n S ∨ p + 1 ≤ sp_card S)) n ⟨sp_gd_one hn hk hf, Or.inr (by rw [(tb_one (k := k) (by omega)).2]; omega)⟩ (by
    rintro p S hp ⟨g1, g2⟩
    obtain ⟨a1, a2, a3, a4⟩ := h S g1
    refine ⟨a1, ?_⟩
    rcases g2 with g2 | g2
    · left
      rw [a4 g2]
      exact g2
    · by_cases z : sp_card (f S) = sp_card S
      · left
        have c := a3 z
        rw [a4 c]
        exact c
      · right
        omega)
  obtain ⟨a1, a2⟩ := A
  refine ⟨a1, ?_⟩
  rcases a2 with a2 | a2
  · exact a2
  · rcases tb_card n (by omega) _ a1.1 with q | q
    · have := tb_lt (n := n) (fun j hj => (a1.2.2.1 j hj).1)
      omega
    · omega
/-- the least closed set that holds k -/
def sp_LC (u : am_U) (n k T : Nat) : Prop := sp_gd u n k T ∧ sp_cd u n T
theorem sp_LC_eq {u : am_U} {n k j T S : Nat} (h : sp_LC u n k T) (g : sp_LC u n j S) (hj : T.testBit j = true) : S = T := by
  obtain ⟨⟨h1, h2, h3, h4⟩, h5⟩ := h
  obtain ⟨⟨g1, g2, g3, g4⟩, g5⟩ := g
  have ST : ∀ i, S.testBit i = true → T.testBit i = true := g4 (fun i => T.testBit i = true) hj h5
  have kS : S.testBit k = true := by
    cases e : S.testBit k with
    | true => rfl
    | false =>
      exfalso
      have := h4 (fun i => S.testBit i = false) e (fun a b ha hb q1 q2 => by
        cases e2 : S.testBit b with
        | false => rfl
        | true =>
          rw [g5 b a hb ha e2 (sp_clo_sym q2)] at q1
          cases q1) j hj
      rw [g2] at this
      cases this
  have TS : ∀ i, T.testBit i = true → S.testBit i = true := h4 (fun i => S.testBit i = true) kS g5
  exact tb_ext g1 h1 (fun i => ⟨ST i, TS i⟩)
/-- the table of k: 0 if fed -/
noncomputable def sp_tab (u : am_U) (k : Nat) : Nat := if u (43 + 6 * k) = 0 then sp_xT u (u 6) k else 0
theorem sp_tab_LC {u : am_U} {k : Nat} (hn : u 6 ≤ 6) (hk : k < u 6) (hf : u (43 + 6 * k) = 0) : sp_LC u (u 6) k (sp_tab u k) := by
  unfold sp_tab
  rw [if_pos hf]
  exact sp_ps_end hn hk hf (sp_ps_x hn)
theorem sp_tab_m {u : am_U} {k : Nat} (hn : u 6 ≤ 6) (hk : k < u 6) (hf : u (43 + 6 * k) = 0) : sp_mT u (u 6) k = sp_tab u k := by
  have h := sp_tab_LC hn hk hf
  have g : sp_LC u (u 6) k (sp_mT u (u 6) k) := sp_ps_end hn hk hf (sp_ps_m hn)
  exact sp_LC_eq h g h.1.2.1
theorem sp_tab_lt {u : am_U} {k : Nat} (hn : u 6 ≤ 6) (hk : k < u 6) : sp_tab u k < 64 := by
  by_cases hf : u (43 + 6 * k) = 0
  · exact (sp_tab_LC hn hk hf).1.1
  · unfold sp_tab
    rw [if_neg hf]
    decide
/-- which k is counted -/
theorem sp_cnt_iff {u : am_U} {k : Nat} (hn : u 6 ≤ 6) (hk : k < u 6) : (∃ j, (sp_tab u k).testBit j = true ∧ ¬ ∃ i, i < k ∧ (sp_tab u i).testBit j = true) ↔ (sp_tab u k ≠ 0 ∧ ∀ j, j < k → (sp_tab u k).testBit j = false) := by
  by_cases hf : u (43 + 6 * k) = 0
  · have hL := sp_tab_LC hn hk hf
    constructor
    · rintro ⟨j, h1, h2⟩
      refine ⟨fun z => (by rw [z, Nat.zero_testBit] at h1; cases h1), fun i hi => ?_⟩
      cases e : (sp_tab u k).testBit i with
      | false => rfl
      | true =>
        exfalso
        have hi' := hL.1.2.2.1 i e
        have := sp_LC_eq hL (sp_tab_LC hn hi'.1 hi'.2) e
        exact h2 ⟨i, hi, by rw [this]; exact h1⟩
    · rintro ⟨-, h2⟩
      refine ⟨k, hL.1.2.1, ?_⟩
      rintro ⟨i, hi, h3⟩
      by_cases hfi : u (43 + 6 * i) = 0
      · have hLi := sp_tab_LC hn (by omega : i < u 6) hfi
        have := sp_LC_eq hLi hL h3
        have q := h2 i hi
        rw [this, hLi.1.2.1] at q
        cases q
      · unfold sp_tab at h3
        rw [if_neg hfi, Nat.zero_testBit] at h3
        cases h3
  · have e : sp_tab u k = 0 := by unfold sp_tab; rw [if_neg hf]
    rw [e]
    simp
theorem tb_mod : ∀ T, T < 64 → ∀ k, k < 6 → (T % 2 ^ k = 0 ↔ ∀ j, j < 6 → j < k → T.testBit j = false) := by decide +kernel
theorem tb_nseen : ∀ T, T < 64 → ∀ S, S < 64 → (T &&& (63 - S) = 0 ↔ ∀ j, j < 6 → T.testBit j = true → S.testBit j = true) := by decide +kernel
theorem tb_hi {T j : Nat} (hT : T < 64) (hj : T.testBit j = true) : j < 6 := by
  by_cases h : j < 6
  · exact h
  · exfalso
    have : T < 2 ^ j := Nat.lt_of_lt_of_le hT (show 2 ^ 6 ≤ 2 ^ j from Nat.pow_le_pow_right (by decide) (by omega))
    rw [Nat.testBit_lt_two_pow this] at hj
    cases hj
theorem sp_cnt_eq {u : am_U} {k S : Nat} (hn : u 6 ≤ 6) (hk : k < u 6) (hS : S < 64) (hs : ∀ j, S.testBit j = true ↔ ∃ i, i < k ∧ (sp_tab u i).testBit j = true) : ¬ (sp_tab u k &&& (63 - S) = 0) ↔ (sp_tab u k ≠ 0 ∧ sp_tab u k % 2 ^ k = 0) := by
  have hl := sp_tab_lt hn hk
  rw [tb_nseen _ hl S hS, tb_mod _ hl k (by omega)]
  have A := sp_cnt_iff hn hk
  constructor
  · intro h
    have : ∃ j, (sp_tab u k).testBit j = true ∧ ¬ ∃ i, i < k ∧ (sp_tab u i).testBit j = true := by
      refine Classical.byContradiction (fun z => h (fun j _ h1 => ?_))
      rw [hs]
      exact Classical.byContradiction (fun y => z ⟨j, h1, y⟩)
    obtain ⟨a, b⟩ := A.mp this
    exact ⟨a, fun j _ hj => b j hj⟩
  · rintro ⟨a, b⟩ h
    obtain ⟨j, h1, h2⟩ := A.mpr ⟨a, fun j hj => b j (by omega) hj⟩
    exact h2 ((hs j).mp (h j (tb_hi hl h1) h1))
noncomputable def sp_cnt (u : am_U) : Nat → Nat
  | 0 => 0
  | k + 1 => sp_cnt u k + (if sp_tab u k ≠ 0 ∧ sp_tab u k % 2 ^ k = 0 then 1 else 0)
theorem sp_cnt_le {u : am_U} : ∀ k, sp_cnt u k ≤ k
  | 0 => Nat.le_refl _
  | k + 1 => by
    have := sp_cnt_le (u := u) k
    show sp_cnt u k + (if sp_tab u k ≠ 0 ∧ sp_tab u k % 2 ^ k = 0 then 1 else 0) ≤ k + 1
    split <;> omega
/-! bits as the machine has them -/
theorem mb_and : ∀ T, T < 64 → ∀ k, k < 6 → ((nI T &&& ((1 : Int32) <<< (nI k &&& 31))) = 0 ↔ T.testBit k = false) := by decide +kernel
theorem mb_shr : ∀ T, T < 64 → ∀ k, k < 6 → ((nI T >>> (nI k &&& 31)) &&& 1 = 1 ↔ T.testBit k = true) := by decide +kernel
theorem mb_shl : ∀ k, k < 6 → (1 : Int32) <<< (nI k &&& 31) = nI (2 ^ k) := by decide +kernel
theorem mb_or {T k : Nat} (hT : T < 64) (hk : k < 6) : nI T ||| ((1 : Int32) <<< (nI k &&& 31)) = nI (T ||| 2 ^ k) := by
  rw [mb_shl k hk]
  exact (or64 T hT _ (tb_one hk).1).1
theorem mb_abs : ∀ a, a < 61 → ∀ b, b < 61 → (2 < am_ab (nI a - nI b) ↔ ¬ (a ≤ b + 2 ∧ b ≤ a + 2)) := by decide +kernel
theorem mb_in : ∀ a, a < 61 → ∀ b, b < 61 → (((-2) ≤ nI a - nI b ∧ nI a - nI b ≤ 2) ↔ (a ≤ b + 2 ∧ b ≤ a + 2)) := by decide +kernel
theorem TR8_gn : ∀ j, j < 6 → (13, j, 41 + 6 * j) ∈ TR 8 ∧ (11, j, 39 + 6 * j) ∈ TR 8 := by decide +kernel
