/-! NUMBERS, AND THE SMALLEST METHODS -/
def am_mem : List Nat → Nat → Bool
  | [], _ => false
  | a :: l, k => match Nat.beq a k with
    | true => true
    | false => am_mem l k
/-- instructions on, up to one of the places of cs -/
def am_C (mt : Nat → Option am_M) (L : Nat) (xs : Nat → Int32) (J : am_J) (cs : List Nat) : Nat → am_J
  | 0 => J
  | n + 1 => fun d mi pc lv st I Q => match am_mem cs pc with
    | true => J d mi pc lv st I Q
    | false => am_F mt L xs J (am_C mt L xs J cs n) d mi pc lv st I Q
theorem am_vcc {mt : Nat → Option am_M} {L : Nat} {xs : Nat → Int32} {J : am_J} (hJ : am_Cl mt L xs J) (cs : List Nat) : ∀ n : Nat, am_le (am_C mt L xs J cs n) J
  | 0 => fun _ _ _ _ _ _ _ h => h
  | n + 1 => fun d mi pc lv st I Q h => by
    unfold am_C at h
    split at h
    · exact h
    · exact hJ.1 _ _ _ _ _ _ _ (am_F_m hJ.2 (am_vcc hJ cs n) h)
theorem am_vcl {mt : Nat → Option am_M} {L : Nat} {xs : Nat → Int32} {J : am_J} (hJ : am_Cl mt L xs J) (cs : List Nat) (n : Nat) {d mi pc : Nat} {lv : List (Option Value)} {st : List Value} {I : am_I} {Q : am_Q} (h : am_F mt L xs J (am_C mt L xs J cs n) d mi pc lv st I Q) : J d mi pc lv st I Q := hJ.1 _ _ _ _ _ _ _ (am_F_m hJ.2 (am_vcc hJ cs n) h)
theorem am_vin {i : Int32} {n : Nat} (h : decide (¬ (i < 0 ∨ n ≤ i.toNatClampNeg)) = true) : vp_in i n := by unfold vp_in; exact of_decide_eq_true h
theorem am_vinN {i : Int32} {n k : Nat} (e : i = nI k) (h : k < n) (hn : n < 2 ^ 31) : vp_in i n := by rw [e]; exact vp_in_nI h hn
theorem am_clN {i : Int32} {k : Nat} (e : i = nI k) (h : k < 2 ^ 31) : i.toNatClampNeg = k := by rw [e]; exact nI_clamp h
theorem am_rng {v M : Int32} {N : Nat} (hM : M = nI N) (hN : N < 2 ^ 31) (h : 0 ≤ v ∧ v ≤ M) : ∃ n, n ≤ N ∧ v = nI n := by
  subst hM
  exact nI_of2 (nI_toInt hN) (Int32.not_lt.mpr h.1) h.2
theorem am_rngI {v : Int32} {n N : Nat} (hv : v = nI n) (hn : n ≤ N) (hN : N < 2 ^ 31) : 0 ≤ v ∧ v ≤ nI N := by
  subst hv
  exact ⟨nI_pos' (by omega), nI_le hn hN⟩
/-- an index below a count -/
theorem am_cnt {k : Int32} {n : Nat} (hn : n < 2 ^ 31) : (0 ≤ k ∧ k ≤ nI n - 1) ↔ ∃ j, j < n ∧ k = nI j := by
  cases n with
  | zero =>
    have e : nI 0 - 1 = -1 := by decide
    rw [e]
    constructor
    · intro ⟨h1, h2⟩
      exfalso
      rw [Int32.le_iff_toInt_le] at h1 h2
      have e0 : (0 : Int32).toInt = 0 := rfl
      have e1 : (-1 : Int32).toInt = -1 := by decide
      rw [e0] at h1
      rw [e1] at h2
      omega
    · intro ⟨j, hj, _⟩
      omega
  | succ n =>
    rw [nI_pred]
    constructor
    · intro h
      obtain ⟨j, h1, h2⟩ := am_rng rfl (by omega) h
      exact ⟨j, by omega, h2⟩
    · intro ⟨j, h1, h2⟩
      exact am_rngI h2 (by omega) (by omega)
section
variable {L : Nat} {xs : Nat → Int32} {J : am_J} {d : Nat} {I : am_I} {Q : am_Q}
theorem x_within (hJ : am_Cl am_meth L xs J) {v lo hi : Int32} (h1 : lo ≤ v ∧ v ≤ hi → Q (some (.int 1)) I) (h0 : ¬ (lo ≤ v ∧ v ≤ hi) → Q (some (.int 0)) I) : J d q_X_within 0 [some (.int v), some (.int lo), some (.int hi)] [] I Q := by
  refine am_vc hJ 12 _ _ _ _ _ _ _ ?_
  refine ⟨fun a => ?_, fun a => ⟨fun b => ?_, fun b => ?_⟩⟩
  · exact ⟨Or.inl rfl, h0 (fun q => absurd q.1 (Int32.not_le.mpr a))⟩
  · exact ⟨Or.inl rfl, h0 (fun q => absurd q.2 (Int32.not_le.mpr b))⟩
  · exact ⟨Or.inr rfl, h1 ⟨Int32.not_lt.mp a, Int32.not_lt.mp b⟩⟩
theorem m_in1 (hJ : am_Cl am_meth L xs J) {v lo hi : Int32} (h1 : lo ≤ v ∧ v ≤ hi → Q (some (.int 1)) I) (h0 : ¬ (lo ≤ v ∧ v ≤ hi) → Q (some (.int 0)) I) : J d q_M_in1 0 [some (.int v), some (.int lo), some (.int hi)] [] I Q := by
  refine am_vc hJ 12 _ _ _ _ _ _ _ ?_
  refine ⟨fun a => ?_, fun a => ⟨fun b => ?_, fun b => ?_⟩⟩
  · exact ⟨Or.inl rfl, h0 (fun q => absurd q.1 (Int32.not_le.mpr a))⟩
  · exact ⟨Or.inl rfl, h0 (fun q => absurd q.2 (Int32.not_le.mpr b))⟩
  · exact ⟨Or.inr rfl, h1 ⟨Int32.not_lt.mp a, Int32.not_lt.mp b⟩⟩
theorem m_isGate (hJ : am_Cl am_meth L xs J) {v : Int32} (h1 : 0 ≤ v ∧ v ≤ 5 → Q (some (.int 1)) I) (h0 : ¬ (0 ≤ v ∧ v ≤ 5) → Q (some (.int 0)) I) : J (d + 1) q_M_isGate 0 [some (.int v)] [] I Q := by
  refine am_vc hJ 8 _ _ _ _ _ _ _ ?_
  refine m_in1 hJ (fun h => ?_) (fun h => ?_)
  · exact ⟨Or.inr rfl, h1 h⟩
  · exact ⟨Or.inl rfl, h0 h⟩
theorem m_isDigit (hJ : am_Cl am_meth L xs J) {v : Int32} (h1 : 0 ≤ v ∧ v ≤ 9 → Q (some (.int 1)) I) (h0 : ¬ (0 ≤ v ∧ v ≤ 9) → Q (some (.int 0)) I) : J (d + 1) q_M_isDigit 0 [some (.int v)] [] I Q := by
  refine am_vc hJ 8 _ _ _ _ _ _ _ ?_
  refine m_in1 hJ (fun h => ?_) (fun h => ?_)
  · exact ⟨Or.inr rfl, h1 h⟩
  · exact ⟨Or.inl rfl, h0 h⟩
theorem m_isNeed (hJ : am_Cl am_meth L xs J) {v : Int32} (h1 : 0 ≤ v ∧ v ≤ 60 → Q (some (.int 1)) I) (h0 : ¬ (0 ≤ v ∧ v ≤ 60) → Q (some (.int 0)) I) : J (d + 1) q_M_isNeed 0 [some (.int v)] [] I Q := by
  refine am_vc hJ 8 _ _ _ _ _ _ _ ?_
  refine m_in1 hJ (fun h => ?_) (fun h => ?_)
  · exact ⟨Or.inr rfl, h1 h⟩
  · exact ⟨Or.inl rfl, h0 h⟩
theorem m_isPlan (hJ : am_Cl am_meth L xs J) {v : Int32} (h1 : 0 ≤ v ∧ v ≤ 4 → Q (some (.int 1)) I) (h0 : ¬ (0 ≤ v ∧ v ≤ 4) → Q (some (.int 0)) I) : J (d + 1) q_M_isPlan 0 [some (.int v)] [] I Q := by
  refine am_vc hJ 8 _ _ _ _ _ _ _ ?_
  refine m_in1 hJ (fun h => ?_) (fun h => ?_)
  · exact ⟨Or.inr rfl, h1 h⟩
  · exact ⟨Or.inl rfl, h0 h⟩
theorem m_isSheet (hJ : am_Cl am_meth L xs J) {v : Int32} (h1 : 0 ≤ v ∧ v ≤ 3 → Q (some (.int 1)) I) (h0 : ¬ (0 ≤ v ∧ v ≤ 3) → Q (some (.int 0)) I) : J (d + 1) q_M_isSheet 0 [some (.int v)] [] I Q := by
  refine am_vc hJ 8 _ _ _ _ _ _ _ ?_
  refine m_in1 hJ (fun h => ?_) (fun h => ?_)
  · exact ⟨Or.inr rfl, h1 h⟩
  · exact ⟨Or.inl rfl, h0 h⟩
theorem x_isSheet (hJ : am_Cl am_meth L xs J) {v : Int32} (h1 : 0 ≤ v ∧ v ≤ 3 → Q (some (.int 1)) I) (h0 : ¬ (0 ≤ v ∧ v ≤ 3) → Q (some (.int 0)) I) : J (d + 1) q_X_isSheet 0 [some (.int v)] [] I Q := by
  refine am_vc hJ 8 _ _ _ _ _ _ _ ?_
  refine x_within hJ (fun h => ?_) (fun h => ?_)
  · exact ⟨Or.inr rfl, h1 h⟩
  · exact ⟨Or.inl rfl, h0 h⟩
theorem x_isShelf (hJ : am_Cl am_meth L xs J) {v : Int32} (h1 : 0 ≤ v ∧ v ≤ 3 → Q (some (.int 1)) I) (h0 : ¬ (0 ≤ v ∧ v ≤ 3) → Q (some (.int 0)) I) : J (d + 1) q_X_isShelf 0 [some (.int v)] [] I Q := by
  refine am_vc hJ 8 _ _ _ _ _ _ _ ?_
  refine x_within hJ (fun h => ?_) (fun h => ?_)
  · exact ⟨Or.inr rfl, h1 h⟩
  · exact ⟨Or.inl rfl, h0 h⟩
/-- is there such a person -/
theorem x_has (hJ : am_Cl am_meth L xs J) {k : Int32} {n : Nat} (hn : I 8 2 = nI n) (h6 : n ≤ 6) (h1 : ∀ j, j < n → k = nI j → Q (some (.int 1)) I) (h0 : (¬ ∃ j, j < n ∧ k = nI j) → Q (some (.int 0)) I) : J (d + 1) q_Road_has 0 [some (.ref 8), some (.int k)] [] I Q := by
  refine am_vc hJ 10 _ _ _ _ _ _ _ ?_
  refine x_within hJ (fun h => ?_) (fun h => ?_)
  · rw [hn, am_cnt (by omega)] at h
    obtain ⟨j, h2, h3⟩ := h
    exact ⟨Or.inr rfl, h1 j h2 h3⟩
  · rw [hn, am_cnt (by omega)] at h
    exact ⟨Or.inl rfl, h0 h⟩
theorem m_isPerson (hJ : am_Cl am_meth L xs J) {k : Int32} {n : Nat} (hn : I 67 6 = nI n) (h6 : n ≤ 6) (h1 : ∀ j, j < n → k = nI j → Q (some (.int 1)) I) (h0 : (¬ ∃ j, j < n ∧ k = nI j) → Q (some (.int 0)) I) : J (d + 1) q_M_isPerson 0 [some (.ref 66), some (.int k)] [] I Q := by
  refine am_vc hJ 12 _ _ _ _ _ _ _ ?_
  refine ⟨am_vin (by decide), ?_⟩
  refine m_in1 hJ (fun h => ?_) (fun h => ?_)
  · have h : 0 ≤ k ∧ k ≤ I 67 6 - 1 := h
    rw [hn, am_cnt (by omega)] at h
    obtain ⟨j, h2, h3⟩ := h
    exact ⟨Or.inr rfl, h1 j h2 h3⟩
  · have h : ¬ (0 ≤ k ∧ k ≤ I 67 6 - 1) := h
    rw [hn, am_cnt (by omega)] at h
    exact ⟨Or.inl rfl, h0 h⟩
theorem am_pix {k f : Int32} {a b : Nat} (hk : k = nI a) (hf : f = nI b) : 38 + 6 * k + f = nI (38 + 6 * a + b) := by
  subst hk
  subst hf
  rw [show (38 : Int32) = nI 38 from rfl, show (6 : Int32) = nI 6 from rfl, pk_mul, nI_add, nI_add]
theorem m_get (hJ : am_Cl am_meth L xs J) {k f : Int32} {a b : Nat} (hk : k = nI a) (hf : f = nI b) (ha : a < 6) (hb : b < 6) (h : Q (some (.int (I 67 (38 + 6 * a + b)))) I) : J d q_M_get 0 [some (.ref 66), some (.int k), some (.int f)] [] I Q := by
  refine am_vc hJ 11 _ _ _ _ _ _ _ ?_
  have e := am_pix hk hf
  refine ⟨am_vinN e (by omega) (by omega), ?_⟩
  show Q (some (.int (I 67 (38 + 6 * k + f).toNatClampNeg))) I
  rw [am_clN e (by omega)]
  exact h
theorem m_puts (hJ : am_Cl am_meth L xs J) {k f v : Int32} {a b : Nat} (hk : k = nI a) (hf : f = nI b) (ha : a < 6) (hb : b < 6) (h : Q none (am_put I 67 (38 + 6 * a + b) v)) : J d q_M_puts 0 [some (.ref 66), some (.int k), some (.int f), some (.int v)] [] I Q := by
  refine am_vc hJ 12 _ _ _ _ _ _ _ ?_
  have e := am_pix hk hf
  refine ⟨am_vinN e (by omega) (by omega), ?_⟩
  show Q none (am_put I 67 (38 + 6 * k + f).toNatClampNeg v)
  rw [am_clN e (by omega)]
  exact h
theorem m_becomes (hJ : am_Cl am_meth L xs J) {i v : Int32} {p : Nat} (hi : i = nI p) (hp : p < 322) (h : Q (some (.int (I 67 p))) (am_put I 67 p v)) {z : Option Value} : J d q_M_becomes 0 [some (.ref 66), some (.int i), some (.int v), z] [] I Q := by
  refine am_vc hJ 12 _ _ _ _ _ _ _ ?_
  refine ⟨am_vinN hi hp (by omega), am_vinN hi hp (by omega), ?_⟩
  show Q (some (.int (I 67 i.toNatClampNeg))) (am_put I 67 i.toNatClampNeg v)
  rw [am_clN hi (by omega)]
  exact h
theorem m_isOver (hJ : am_Cl am_meth L xs J) {dy en : Nat} (h0 : I 67 0 = nI dy) (h1 : I 67 1 = nI en) (b0 : dy ≤ 16) (b1 : en ≤ 16) (hy : en ≤ dy → Q (some (.int 1)) I) (hn : dy < en → Q (some (.int 0)) I) : J d q_M_isOver 0 [some (.ref 66)] [] I Q := by
  refine am_vc hJ 14 _ _ _ _ _ _ _ ?_
  refine ⟨am_vin (by decide), ?_⟩
  refine ⟨am_vin (by decide), ?_⟩
  refine ⟨fun a => ?_, fun a => ?_⟩
  · have a : I 67 0 < I 67 1 := a
    rw [h0, h1, nI_ltI (by omega) (by omega)] at a
    exact ⟨Or.inl rfl, hn a⟩
  · have a : ¬ I 67 0 < I 67 1 := a
    rw [h0, h1, nI_ltI (by omega) (by omega)] at a
    exact ⟨Or.inr rfl, hy (by omega)⟩
theorem x_withinY (hJ : am_Cl am_meth L xs J) {v lo hi : Int32} (h : lo ≤ v ∧ v ≤ hi) (h1 : Q (some (.int 1)) I) : J d q_X_within 0 [some (.int v), some (.int lo), some (.int hi)] [] I Q := x_within hJ (fun _ => h1) (fun q => absurd h q)
theorem x_withinN (hJ : am_Cl am_meth L xs J) {v lo hi : Int32} (h : ¬ (lo ≤ v ∧ v ≤ hi)) (h1 : Q (some (.int 0)) I) : J d q_X_within 0 [some (.int v), some (.int lo), some (.int hi)] [] I Q := x_within hJ (fun q => absurd q h) (fun _ => h1)
theorem m_in1Y (hJ : am_Cl am_meth L xs J) {v lo hi : Int32} (h : lo ≤ v ∧ v ≤ hi) (h1 : Q (some (.int 1)) I) : J d q_M_in1 0 [some (.int v), some (.int lo), some (.int hi)] [] I Q := m_in1 hJ (fun _ => h1) (fun q => absurd h q)
theorem m_in1N (hJ : am_Cl am_meth L xs J) {v lo hi : Int32} (h : ¬ (lo ≤ v ∧ v ≤ hi)) (h1 : Q (some (.int 0)) I) : J d q_M_in1 0 [some (.int v), some (.int lo), some (.int hi)] [] I Q := m_in1 hJ (fun q => absurd q h) (fun _ => h1)
theorem m_isGateY (hJ : am_Cl am_meth L xs J) {v : Int32} (h : 0 ≤ v ∧ v ≤ 5) (h1 : Q (some (.int 1)) I) : J (d + 1) q_M_isGate 0 [some (.int v)] [] I Q := m_isGate hJ (fun _ => h1) (fun q => absurd h q)
theorem m_isGateN (hJ : am_Cl am_meth L xs J) {v : Int32} (h : ¬ (0 ≤ v ∧ v ≤ 5)) (h1 : Q (some (.int 0)) I) : J (d + 1) q_M_isGate 0 [some (.int v)] [] I Q := m_isGate hJ (fun q => absurd q h) (fun _ => h1)
theorem m_isDigitY (hJ : am_Cl am_meth L xs J) {v : Int32} (h : 0 ≤ v ∧ v ≤ 9) (h1 : Q (some (.int 1)) I) : J (d + 1) q_M_isDigit 0 [some (.int v)] [] I Q := m_isDigit hJ (fun _ => h1) (fun q => absurd h q)
theorem m_isDigitN (hJ : am_Cl am_meth L xs J) {v : Int32} (h : ¬ (0 ≤ v ∧ v ≤ 9)) (h1 : Q (some (.int 0)) I) : J (d + 1) q_M_isDigit 0 [some (.int v)] [] I Q := m_isDigit hJ (fun q => absurd q h) (fun _ => h1)
theorem m_isNeedY (hJ : am_Cl am_meth L xs J) {v : Int32} (h : 0 ≤ v ∧ v ≤ 60) (h1 : Q (some (.int 1)) I) : J (d + 1) q_M_isNeed 0 [some (.int v)] [] I Q := m_isNeed hJ (fun _ => h1) (fun q => absurd h q)
theorem m_isNeedN (hJ : am_Cl am_meth L xs J) {v : Int32} (h : ¬ (0 ≤ v ∧ v ≤ 60)) (h1 : Q (some (.int 0)) I) : J (d + 1) q_M_isNeed 0 [some (.int v)] [] I Q := m_isNeed hJ (fun q => absurd q h) (fun _ => h1)
theorem m_isPlanY (hJ : am_Cl am_meth L xs J) {v : Int32} (h : 0 ≤ v ∧ v ≤ 4) (h1 : Q (some (.int 1)) I) : J (d + 1) q_M_isPlan 0 [some (.int v)] [] I Q := m_isPlan hJ (fun _ => h1) (fun q => absurd h q)
theorem m_isPlanN (hJ : am_Cl am_meth L xs J) {v : Int32} (h : ¬ (0 ≤ v ∧ v ≤ 4)) (h1 : Q (some (.int 0)) I) : J (d + 1) q_M_isPlan 0 [some (.int v)] [] I Q := m_isPlan hJ (fun q => absurd q h) (fun _ => h1)
theorem m_isSheetY (hJ : am_Cl am_meth L xs J) {v : Int32} (h : 0 ≤ v ∧ v ≤ 3) (h1 : Q (some (.int 1)) I) : J (d + 1) q_M_isSheet 0 [some (.int v)] [] I Q := m_isSheet hJ (fun _ => h1) (fun q => absurd h q)
theorem m_isSheetN (hJ : am_Cl am_meth L xs J) {v : Int32} (h : ¬ (0 ≤ v ∧ v ≤ 3)) (h1 : Q (some (.int 0)) I) : J (d + 1) q_M_isSheet 0 [some (.int v)] [] I Q := m_isSheet hJ (fun q => absurd q h) (fun _ => h1)
theorem x_isSheetY (hJ : am_Cl am_meth L xs J) {v : Int32} (h : 0 ≤ v ∧ v ≤ 3) (h1 : Q (some (.int 1)) I) : J (d + 1) q_X_isSheet 0 [some (.int v)] [] I Q := x_isSheet hJ (fun _ => h1) (fun q => absurd h q)
theorem x_isSheetN (hJ : am_Cl am_meth L xs J) {v : Int32} (h : ¬ (0 ≤ v ∧ v ≤ 3)) (h1 : Q (some (.int 0)) I) : J (d + 1) q_X_isSheet 0 [some (.int v)] [] I Q := x_isSheet hJ (fun q => absurd q h) (fun _ => h1)
theorem x_isShelfY (hJ : am_Cl am_meth L xs J) {v : Int32} (h : 0 ≤ v ∧ v ≤ 3) (h1 : Q (some (.int 1)) I) : J (d + 1) q_X_isShelf 0 [some (.int v)] [] I Q := x_isShelf hJ (fun _ => h1) (fun q => absurd h q)
theorem x_isShelfN (hJ : am_Cl am_meth L xs J) {v : Int32} (h : ¬ (0 ≤ v ∧ v ≤ 3)) (h1 : Q (some (.int 0)) I) : J (d + 1) q_X_isShelf 0 [some (.int v)] [] I Q := x_isShelf hJ (fun q => absurd q h) (fun _ => h1)
theorem x_hasY (hJ : am_Cl am_meth L xs J) {k : Int32} {n : Nat} (hn : I 8 2 = nI n) (h6 : n ≤ 6) (h : ∃ j, j < n ∧ k = nI j) (h1 : Q (some (.int 1)) I) : J (d + 1) q_Road_has 0 [some (.ref 8), some (.int k)] [] I Q := x_has hJ hn h6 (fun _ _ _ => h1) (fun q => absurd h q)
theorem x_hasN (hJ : am_Cl am_meth L xs J) {k : Int32} {n : Nat} (hn : I 8 2 = nI n) (h6 : n ≤ 6) (h : ¬ ∃ j, j < n ∧ k = nI j) (h1 : Q (some (.int 0)) I) : J (d + 1) q_Road_has 0 [some (.ref 8), some (.int k)] [] I Q := x_has hJ hn h6 (fun j a b => absurd (Exists.intro j ⟨a, b⟩) h) (fun _ => h1)
theorem m_isPersonY (hJ : am_Cl am_meth L xs J) {k : Int32} {n : Nat} (hn : I 67 6 = nI n) (h6 : n ≤ 6) (h : ∃ j, j < n ∧ k = nI j) (h1 : Q (some (.int 1)) I) : J (d + 1) q_M_isPerson 0 [some (.ref 66), some (.int k)] [] I Q := m_isPerson hJ hn h6 (fun _ _ _ => h1) (fun q => absurd h q)
theorem m_isPersonN (hJ : am_Cl am_meth L xs J) {k : Int32} {n : Nat} (hn : I 67 6 = nI n) (h6 : n ≤ 6) (h : ¬ ∃ j, j < n ∧ k = nI j) (h1 : Q (some (.int 0)) I) : J (d + 1) q_M_isPerson 0 [some (.ref 66), some (.int k)] [] I Q := m_isPerson hJ hn h6 (fun j a b => absurd (Exists.intro j ⟨a, b⟩) h) (fun _ => h1)
end
