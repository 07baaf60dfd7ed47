/-! ROUNDS -/
def sp_di (a b : Nat) : Nat := (a - b) + (b - a)
def rd_lo (N : Nat → Nat) (S : Nat) : Nat → Nat
  | 0 => 60
  | k + 1 => if S.testBit k = true then (if N k < rd_lo N S k then N k else rd_lo N S k) else rd_lo N S k
def rd_hi (N : Nat → Nat) (S : Nat) : Nat → Nat
  | 0 => 0
  | k + 1 => if S.testBit k = true then (if rd_hi N S k < N k then N k else rd_hi N S k) else rd_hi N S k
theorem rd_lo_succ (N : Nat → Nat) (S k : Nat) : rd_lo N S (k + 1) = if S.testBit k = true then (if N k < rd_lo N S k then N k else rd_lo N S k) else rd_lo N S k := rfl
theorem rd_hi_succ (N : Nat → Nat) (S k : Nat) : rd_hi N S (k + 1) = if S.testBit k = true then (if rd_hi N S k < N k then N k else rd_hi N S k) else rd_hi N S k := rfl
theorem rd_lo_ch {N : Nat → Nat} {S : Nat} (hN : ∀ k, N k ≤ 60) : ∀ n, (∀ k, k < n → S.testBit k = true → rd_lo N S n ≤ N k) ∧ rd_lo N S n ≤ 60 ∧ (rd_lo N S n = 60 ∨ ∃ k, k < n ∧ S.testBit k = true ∧ rd_lo N S n = N k)
  | 0 => ⟨fun k hk => by omega, Nat.le_refl _, Or.inl rfl⟩
  | n + 1 => by
    obtain ⟨a, b, c⟩ := rd_lo_ch (S := S) hN n
    have hn := hN n
    rw [rd_lo_succ]
    by_cases e : S.testBit n = true
    · rw [if_pos e]
      by_cases g : N n < rd_lo N S n
      · rw [if_pos g]
        refine ⟨fun k hk hs => ?_, by omega, Or.inr ⟨n, by omega, e, rfl⟩⟩
        by_cases y : k = n
        · rw [y]; exact Nat.le_refl _
        · have := a k (by omega) hs
          omega
      · rw [if_neg g]
        refine ⟨fun k hk hs => ?_, b, c.imp id (fun ⟨k, q⟩ => ⟨k, by omega, q.2⟩)⟩
        by_cases y : k = n
        · subst y; omega
        · exact a k (by omega) hs
    · rw [if_neg e]
      refine ⟨fun k hk hs => ?_, b, c.imp id (fun ⟨k, q⟩ => ⟨k, by omega, q.2⟩)⟩
      by_cases y : k = n
      · subst y; exact absurd hs e
      · exact a k (by omega) hs
theorem rd_hi_ch {N : Nat → Nat} {S : Nat} (hN : ∀ k, N k ≤ 60) : ∀ n, (∀ k, k < n → S.testBit k = true → N k ≤ rd_hi N S n) ∧ rd_hi N S n ≤ 60 ∧ (rd_hi N S n = 0 ∨ ∃ k, k < n ∧ S.testBit k = true ∧ rd_hi N S n = N k)
  | 0 => ⟨fun k hk => by omega, Nat.zero_le _, Or.inl rfl⟩
  | n + 1 => by
    obtain ⟨a, b, c⟩ := rd_hi_ch (S := S) hN n
    have hn := hN n
    rw [rd_hi_succ]
    by_cases e : S.testBit n = true
    · rw [if_pos e]
      by_cases g : rd_hi N S n < N n
      · rw [if_pos g]
        refine ⟨fun k hk hs => ?_, by omega, Or.inr ⟨n, by omega, e, rfl⟩⟩
        by_cases y : k = n
        · rw [y]; exact Nat.le_refl _
        · have := a k (by omega) hs
          omega
      · rw [if_neg g]
        refine ⟨fun k hk hs => ?_, b, c.imp id (fun ⟨k, q⟩ => ⟨k, by omega, q.2⟩)⟩
        by_cases y : k = n
        · subst y; omega
        · exact a k (by omega) hs
    · rw [if_neg e]
      refine ⟨fun k hk hs => ?_, b, c.imp id (fun ⟨k, q⟩ => ⟨k, by omega, q.2⟩)⟩
      by_cases y : k = n
      · subst y; exact absurd hs e
      · exact a k (by omega) hs
theorem tb_ne0 : ∀ S, S < 64 → S ≠ 0 → ∃ k, k < 6 ∧ S.testBit k = true := by decide +kernel
theorem tb_n {n S k : Nat} (hS : S < 2 ^ n) (h : S.testBit k = true) : k < n := by
  by_cases g : k < n
  · exact g
  · rw [Nat.testBit_lt_two_pow (Nat.lt_of_lt_of_le hS (Nat.pow_le_pow_right (by decide) (by omega)))] at h
    cases h
/-- the ends of a set's needs -/
theorem sp_ends {N : Nat → Nat} {n S : Nat} (hN : ∀ k, N k ≤ 60) (hn : n ≤ 6) (hS : S < 2 ^ n) (h0 : S ≠ 0) : (∀ k, S.testBit k = true → rd_lo N S n ≤ N k ∧ N k ≤ rd_hi N S n) ∧ (∃ k, S.testBit k = true ∧ rd_lo N S n = N k) ∧ ∃ k, S.testBit k = true ∧ rd_hi N S n = N k := by
  have h64 : 2 ^ n ≤ 64 := Nat.pow_le_pow_right (by decide) hn
  obtain ⟨j, -, hj⟩ := tb_ne0 S (by omega) h0
  have hjn := tb_n hS hj
  obtain ⟨a, b, c⟩ := rd_lo_ch (S := S) hN n
  obtain ⟨a', b', c'⟩ := rd_hi_ch (S := S) hN n
  have l1 := a j hjn hj
  have l2 := a' j hjn hj
  have l3 := hN j
  refine ⟨fun k hk => ⟨a k (tb_n hS hk) hk, a' k (tb_n hS hk) hk⟩, ?_, ?_⟩
  · rcases c with c | ⟨k, -, c2, c3⟩
    · exact ⟨j, hj, by omega⟩
    · exact ⟨k, c2, c3⟩
  · rcases c' with c | ⟨k, -, c2, c3⟩
    · exact ⟨j, hj, by omega⟩
    · exact ⟨k, c2, c3⟩
def sp_fm (N : Nat → Nat) (n f S : Nat) : Nat := if S = 0 then 0 else rd_hi N S n - rd_lo N S n + (if sp_di f (rd_hi N S n) < sp_di f (rd_lo N S n) then sp_di f (rd_hi N S n) else sp_di f (rd_lo N S n))
def sp_rm (S k : Nat) : Nat := S &&& (63 - 2 ^ k)
theorem rm_bit : ∀ S, S < 64 → ∀ k, k < 6 → ∀ j, j < 6 → ((sp_rm S k).testBit j = true ↔ (S.testBit j = true ∧ j ≠ k)) := by decide +kernel
theorem rm_card : ∀ S, S < 64 → ∀ k, k < 6 → (S.testBit k = true → sp_card (sp_rm S k) + 1 = sp_card S) := by decide +kernel
theorem card_0 : ∀ S, S < 64 → (sp_card S = 0 ↔ S = 0) := by decide +kernel
theorem rm_le {S k : Nat} : sp_rm S k ≤ S := Nat.and_le_left
theorem rm_iff {S k j : Nat} (hS : S < 64) (hk : k < 6) : (sp_rm S k).testBit j = true ↔ (S.testBit j = true ∧ j ≠ k) := by
  by_cases g : j < 6
  · exact rm_bit S hS k hk j g
  · have h1 := rm_le (S := S) (k := k)
    constructor
    · intro z
      exact absurd (tb_hi (by omega) z) g
    · rintro ⟨z, -⟩
      exact absurd (tb_hi hS z) g
/-- what going to k first costs -/
def sp_cf (N : Nat → Nat) (n f S k : Nat) : Nat := sp_di f (N k) + sp_fm N n (N k) (sp_rm S k)
theorem sp_fm_A {N : Nat → Nat} {n f S k : Nat} (hN : ∀ k, N k ≤ 60) (hn : n ≤ 6) (hS : S < 2 ^ n) (hk : S.testBit k = true) : sp_fm N n f S ≤ sp_cf N n f S k := by
  have h64 : 2 ^ n ≤ 64 := Nat.pow_le_pow_right (by decide) hn
  have h0 : S ≠ 0 := fun z => by rw [z, Nat.zero_testBit] at hk; cases hk
  have hk6 := tb_n hS hk
  obtain ⟨a, ⟨i, b1, b2⟩, ⟨j, c1, c2⟩⟩ := sp_ends hN hn hS h0
  have ak := a k hk
  unfold sp_cf sp_fm
  rw [if_neg h0]
  have hr := fun j => rm_iff (S := S) (k := k) (j := j) (by omega) (by omega)
  by_cases g : sp_rm S k = 0
  · rw [if_pos g]
    have only : ∀ j, S.testBit j = true → j = k := fun j hj => Classical.byContradiction (fun z => by
      have := (hr j).mpr ⟨hj, z⟩
      rw [g, Nat.zero_testBit] at this
      cases this)
    have e1 := only i b1
    have e2 := only j c1
    subst e1
    rw [e2] at c2
    unfold sp_di
    split <;> omega
  · rw [if_neg g]
    have hrl : sp_rm S k < 2 ^ n := Nat.lt_of_le_of_lt rm_le hS
    obtain ⟨a', ⟨i', b1', b2'⟩, ⟨j', c1', c2'⟩⟩ := sp_ends hN hn hrl g
    have li := a i' ((hr i').mp b1').1
    have lj := a j' ((hr j').mp c1').1
    have l2 := a' i' b1'
    have l3 := a' j' c1'
    have hl : rd_lo N S n = N k ∨ rd_lo N S n = rd_lo N (sp_rm S k) n := by
      by_cases y : i = k
      · left; rw [b2, y]
      · right
        have := a' i ((hr i).mpr ⟨b1, y⟩)
        omega
    have hh : rd_hi N S n = N k ∨ rd_hi N S n = rd_hi N (sp_rm S k) n := by
      by_cases y : j = k
      · left; rw [c2, y]
      · right
        have := a' j ((hr j).mpr ⟨c1, y⟩)
        omega
    generalize rd_lo N S n = l at *
    generalize rd_hi N S n = h at *
    generalize rd_lo N (sp_rm S k) n = l' at *
    generalize rd_hi N (sp_rm S k) n = h' at *
    generalize N k = x at *
    clear hr a a' b2 c2
    unfold sp_di
    repeat' split
    all_goals omega
theorem sp_fm_B {N : Nat → Nat} {n f S : Nat} (hN : ∀ k, N k ≤ 60) (hn : n ≤ 6) (hS : S < 2 ^ n) (h0 : S ≠ 0) : ∃ k, S.testBit k = true ∧ sp_fm N n f S = sp_cf N n f S k := by
  have h64 : 2 ^ n ≤ 64 := Nat.pow_le_pow_right (by decide) hn
  obtain ⟨a, ⟨i, b1, b2⟩, ⟨j, c1, c2⟩⟩ := sp_ends hN hn hS h0
  have key : ∀ k, S.testBit k = true → (if sp_di f (rd_hi N S n) < sp_di f (rd_lo N S n) then N k = rd_hi N S n else N k = rd_lo N S n) → sp_cf N n f S k ≤ sp_fm N n f S := by
    intro k hk hx
    have ak := a k hk
    have hk6 := tb_n hS hk
    have hr := fun j => rm_iff (S := S) (k := k) (j := j) (by omega) (by omega)
    unfold sp_cf sp_fm
    rw [if_neg h0]
    by_cases g : sp_rm S k = 0
    · rw [if_pos g]
      generalize rd_lo N S n = l at *
      generalize rd_hi N S n = h at *
      generalize N k = x at *
      clear hr a b2 c2
      revert hx
      unfold sp_di
      split <;> intro hx <;> omega
    · rw [if_neg g]
      have hrl : sp_rm S k < 2 ^ n := Nat.lt_of_le_of_lt rm_le hS
      obtain ⟨a', ⟨i', b1', b2'⟩, ⟨j', c1', c2'⟩⟩ := sp_ends hN hn hrl g
      have li := a i' ((hr i').mp b1').1
      have lj := a j' ((hr j').mp c1').1
      have l2 := a' i' b1'
      have l3 := a' j' c1'
      generalize rd_lo N S n = l at *
      generalize rd_hi N S n = h at *
      generalize rd_lo N (sp_rm S k) n = l' at *
      generalize rd_hi N (sp_rm S k) n = h' at *
      generalize N k = x at *
      generalize N i' = y1 at *
      generalize N j' = y2 at *
      clear hr a a' b2 c2
      revert hx
      unfold sp_di
      split <;> intro hx <;> split <;> omega
  by_cases g : sp_di f (rd_hi N S n) < sp_di f (rd_lo N S n)
  · have q := key j c1 (by rw [if_pos g]; exact c2.symm)
    exact ⟨j, c1, Nat.le_antisymm (sp_fm_A hN hn hS c1) q⟩
  · have q := key i b1 (by rw [if_neg g]; exact b2.symm)
    exact ⟨i, b1, Nat.le_antisymm (sp_fm_A hN hn hS b1) q⟩
theorem sp_fm_le {N : Nat → Nat} {n f S : Nat} (hN : ∀ k, N k ≤ 60) (hf : f ≤ 999) : sp_fm N n f S ≤ 1059 := by
  have h1 := (rd_lo_ch (S := S) hN n).2.1
  have h2 := (rd_hi_ch (S := S) hN n).2.1
  unfold sp_fm sp_di
  repeat' split
  all_goals omega
/-! absolute differences -/
theorem ab_N {a b : Nat} (ha : a < 2 ^ 30) (hb : b < 2 ^ 30) : am_ab (nI a - nI b) = nI (sp_di a b) := by
  unfold am_ab sp_di
  by_cases h : b ≤ a
  · rw [pk_sub h, if_pos (nI_pos' (by omega)), show a - b + (b - a) = a - b by omega]
  · have h1 := pk_sneg hb (by omega : a < b)
    rw [if_neg (fun q => absurd h1 (Int32.not_lt.mpr q)), Int32.zero_sub, Int32.neg_sub, pk_sub (by omega), show a - b + (b - a) = b - a by omega]
def sp_N (u : am_U) : Nat → Nat := fun k => if k < 6 then u (39 + 6 * k) else 0
theorem sp_N_le {u : am_U} (hO : OKu u) (k : Nat) : sp_N u k ≤ 60 := by
  unfold sp_N
  by_cases h : k < 6
  · rw [if_pos h]
    exact (hO.P h).2.1
  · rw [if_neg h]
    exact Nat.zero_le _
theorem sp_N_at {u : am_U} {k : Nat} (h : k < 6) : sp_N u k = u (39 + 6 * k) := by unfold sp_N; rw [if_pos h]
def sp_H (u : am_U) : Nat := (2 ^ (u 6) - 1) &&& (63 - fedN u)
theorem sp_H_lt {u : am_U} : sp_H u < 2 ^ (u 6) := Nat.lt_of_le_of_lt Nat.and_le_left (by have := Nat.pow_pos (n := u 6) (show 0 < 2 by decide); omega)
/-- the first that comes to the fewest -/
def sp_ff (c : Nat → Nat) (S m : Nat) : Nat → Nat → Nat
  | 0, k => k
  | n + 1, k => if S.testBit k = true ∧ c k = m then k else sp_ff c S m n (k + 1)
theorem sp_ff_succ (c : Nat → Nat) (S m n k : Nat) : sp_ff c S m (n + 1) k = if S.testBit k = true ∧ c k = m then k else sp_ff c S m n (k + 1) := rfl
theorem sp_ff_eq {c : Nat → Nat} {S m j : Nat} (hj : S.testBit j = true ∧ c j = m) : ∀ n k, k ≤ j → j < k + n → (∀ i, k ≤ i → i < j → ¬ (S.testBit i = true ∧ c i = m)) → sp_ff c S m n k = j
  | 0, k, h1, h2, _ => by omega
  | n + 1, k, h1, h2, h3 => by
    rw [sp_ff_succ]
    by_cases e : k = j
    · subst e
      rw [if_pos hj]
    · rw [if_neg (h3 k (Nat.le_refl _) (by omega))]
      exact sp_ff_eq hj n (k + 1) (by omega) (by omega) (fun i h4 h5 => h3 i (by omega) h5)
/-- what is least so far; 99999: nothing yet -/
def LPr (v : Int32) (x : Nat) : Prop := (x = 99999 ∧ v = -1) ∨ (x < 99999 ∧ v = nI x)
