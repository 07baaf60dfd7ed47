/-! BITS: a family of the kit, pasted -/
def bt (x : Int32) (i : Nat) : Bool := x.toBitVec.getLsbD i
theorem b_ext {x y : Int32} (h : ∀ i, i < 32 → bt x i = bt y i) : x = y := Int32.toBitVec_inj.mp (BitVec.eq_of_getLsbD_eq (fun i hi => h i hi))
theorem b_or (x y : Int32) (i : Nat) : bt (x ||| y) i = (bt x i || bt y i) := by unfold bt; rw [Int32.toBitVec_or, BitVec.getLsbD_or]
theorem b_and (x y : Int32) (i : Nat) : bt (x &&& y) i = (bt x i && bt y i) := by unfold bt; rw [Int32.toBitVec_and, BitVec.getLsbD_and]
theorem b_xor (x y : Int32) (i : Nat) : bt (x ^^^ y) i = (bt x i ^^ bt y i) := by unfold bt; rw [Int32.toBitVec_xor, BitVec.getLsbD_xor]
theorem b_big {x : Int32} {i : Nat} (h : 32 ≤ i) : bt x i = false := BitVec.getLsbD_of_ge _ _ h
theorem b_255 (i : Nat) : bt 255 i = decide (i < 8) := by
  rcases Nat.lt_or_ge i 32 with h | h
  · exact (by decide +kernel : ∀ i, i < 32 → bt 255 i = decide (i < 8)) i h
  · rw [b_big h, decide_eq_false (by omega)]
theorem b_65535 (i : Nat) : bt 65535 i = decide (i < 16) := by
  rcases Nat.lt_or_ge i 32 with h | h
  · exact (by decide +kernel : ∀ i, i < 32 → bt 65535 i = decide (i < 16)) i h
  · rw [b_big h, decide_eq_false (by omega)]
theorem b_m1 : ∀ i, i < 32 → bt (-1) i = true := by decide +kernel
theorem b_0 (i : Nat) : bt 0 i = false := BitVec.getLsbD_zero
theorem s_l : ∀ n, n < 32 → ((nI n &&& 31).toBitVec.smod 32).toNat = n := by decide +kernel
theorem s_u : ∀ n, n < 32 → (((nI n).toUInt32 &&& Int32.toUInt32 31).toBitVec % 32).toNat = n := by decide +kernel
theorem b_shl (n : Nat) (hn : n < 32) (x : Int32) {i : Nat} (hi : i < 32) : bt (x <<< (nI n &&& 31)) i = (decide (n ≤ i) && bt x (i - n)) := by
  unfold bt
  rw [Int32.toBitVec_shiftLeft]
  show (x.toBitVec <<< ((nI n &&& 31).toBitVec.smod 32).toNat).getLsbD i = _
  rw [s_l n hn, BitVec.getLsbD_shiftLeft]
  rcases Nat.lt_or_ge i n with h | h
  · simp [h, Nat.not_le.mpr h]
  · simp [hi, h, Nat.not_lt.mpr h]
theorem b_ushr (n : Nat) (hn : n < 32) (x : Int32) (i : Nat) : bt ((x.toUInt32 >>> ((nI n).toUInt32 &&& Int32.toUInt32 31)).toInt32) i = bt x (n + i) := by
  show (x.toUInt32 >>> ((nI n).toUInt32 &&& Int32.toUInt32 31)).toBitVec.getLsbD i = x.toUInt32.toBitVec.getLsbD (n + i)
  rw [UInt32.toBitVec_shiftRight]
  show (x.toUInt32.toBitVec >>> (((nI n).toUInt32 &&& Int32.toUInt32 31).toBitVec % 32).toNat).getLsbD i = _
  rw [s_u n hn, BitVec.getLsbD_ushiftRight]
theorem b_sshr (n : Nat) (hn : n < 32) (x : Int32) {i : Nat} (hi : i < 32) : bt (x >>> (nI n &&& 31)) i = if n + i < 32 then bt x (n + i) else bt x 31 := by
  unfold bt
  rw [Int32.toBitVec_shiftRight]
  show (x.toBitVec.sshiftRight ((nI n &&& 31).toBitVec.smod 32).toNat).getLsbD i = _
  rw [s_l n hn, BitVec.getLsbD_sshiftRight, BitVec.msb_eq_getLsbD_last]
  simp [hi]
theorem b_shl8 (x : Int32) {i : Nat} (hi : i < 32) : bt (x <<< ((8 : Int32) &&& 31)) i = (decide (8 ≤ i) && bt x (i - 8)) := b_shl 8 (by omega) x hi
theorem b_shl16 (x : Int32) {i : Nat} (hi : i < 32) : bt (x <<< ((16 : Int32) &&& 31)) i = (decide (16 ≤ i) && bt x (i - 16)) := b_shl 16 (by omega) x hi
theorem b_shl24 (x : Int32) {i : Nat} (hi : i < 32) : bt (x <<< ((24 : Int32) &&& 31)) i = (decide (24 ≤ i) && bt x (i - 24)) := b_shl 24 (by omega) x hi
/-! WHO WAS MET, WHO IS FED -/
theorem b_15 (i : Nat) : bt 15 i = decide (i < 4) := by
  rcases Nat.lt_or_ge i 32 with h | h
  · exact (by decide +kernel : ∀ i, i < 32 → bt 15 i = decide (i < 4)) i h
  · rw [b_big h, decide_eq_false (by omega)]
theorem b_16 : ∀ v, v < 16 → ∀ i, i < 32 → 4 ≤ i → bt (nI v) i = false := by decide +kernel
theorem am_4k (k : Nat) : 4 * nI k = nI (4 * k) := pk_mul 4 k
theorem b_nib (x : Int32) {j : Nat} (hj : j < 6) (i : Nat) : bt (am_nib x (nI j)) i = (bt x (4 * j + i) && decide (i < 4)) := by
  unfold am_nib
  rw [am_4k, b_and, b_ushr (4 * j) (by omega), b_15]
theorem nib_set {x : Int32} {k v j : Nat} (hk : k < 6) (hv : v < 16) (hj : j < 6) : am_nib ((x &&& (((15 : Int32) <<< ((4 * nI k) &&& 31)) ^^^ (-1))) ||| (nI v <<< ((4 * nI k) &&& 31))) (nI j) = if j = k then nI v else am_nib x (nI j) := by
  apply b_ext
  intro i hi
  rw [b_nib _ hj]
  by_cases h4 : i < 4
  · have h32 : 4 * j + i < 32 := by omega
    rw [am_4k, b_or, b_and, b_xor, b_m1 _ h32, b_shl (4 * k) (by omega) _ h32, b_shl (4 * k) (by omega) _ h32, b_15]
    by_cases e : j = k
    · subst e
      rw [if_pos rfl]
      simp only [show 4 * j + i - 4 * j = i by omega, show 4 * j ≤ 4 * j + i by omega, decide_true, h4, Bool.true_and, Bool.and_true]
      simp
    · rw [if_neg e, b_nib _ hj]
      by_cases hlt : 4 * k ≤ 4 * j + i
      · have h9 : ¬ (4 * j + i - 4 * k < 4) := by omega
        rw [b_16 v hv (4 * j + i - 4 * k) (by omega) (by omega)]
        simp [h9]
      · simp [hlt]
  · by_cases e : j = k
    · rw [if_pos e, b_16 v hv i hi (by omega)]
      simp [h4]
    · rw [if_neg e, b_nib _ hj]
      simp [h4]
theorem MetR.set {x : Int32} {u : am_U} {k v : Nat} (h : MetR x u) (hk : k < 6) (hv : v < 16) : MetR ((x &&& (((15 : Int32) <<< ((4 * nI k) &&& 31)) ^^^ (-1))) ||| (nI v <<< ((4 * nI k) &&& 31))) (upN u (42 + 6 * k) v) := by
  intro j hj
  rw [nib_set hk hv hj]
  by_cases e : j = k
  · subst e
    rw [if_pos rfl, upN_s]
  · rw [if_neg e, upN_n (by omega)]
    exact h j hj
theorem MetR.upF {x : Int32} {u : am_U} {k v : Nat} (h : MetR x u) : MetR x (upN u (43 + 6 * k) v) := by
  intro j hj
  rw [upN_n (by omega)]
  exact h j hj
theorem fed_bit : ∀ F, F < 64 → ∀ k, k < 6 → ((nI F &&& ((1 : Int32) <<< (nI k &&& 31))) = 0 ↔ F / 2 ^ k % 2 = 0) := by decide +kernel
theorem fed_set : ∀ F, F < 64 → ∀ k, k < 6 → ∀ v, v < 2 → (nI F &&& (((1 : Int32) <<< (nI k &&& 31)) ^^^ (-1))) ||| (nI v <<< (nI k &&& 31)) = nI (F - F / 2 ^ k % 2 * 2 ^ k + v * 2 ^ k) := by decide +kernel
theorem fedN_lt {u : am_U} (h : ∀ k, k < 6 → u (43 + 6 * k) ≤ 1) : fedN u < 64 := by
  have h0 := h 0 (by decide)
  have h1 := h 1 (by decide)
  have h2 := h 2 (by decide)
  have h3 := h 3 (by decide)
  have h4 := h 4 (by decide)
  have h5 := h 5 (by decide)
  unfold fedN
  simp only [Nat.mul_zero, Nat.add_zero, Nat.mul_one, Nat.reduceMul, Nat.reduceAdd] at h0 h1 h2 h3 h4 h5
  omega
theorem fedN_bit {u : am_U} (h : ∀ k, k < 6 → u (43 + 6 * k) ≤ 1) {k : Nat} (hk : k < 6) : fedN u / 2 ^ k % 2 = u (43 + 6 * k) := by
  have h0 := h 0 (by decide)
  have h1 := h 1 (by decide)
  have h2 := h 2 (by decide)
  have h3 := h 3 (by decide)
  have h4 := h 4 (by decide)
  have h5 := h 5 (by decide)
  unfold fedN
  rcases (show k = 0 ∨ k = 1 ∨ k = 2 ∨ k = 3 ∨ k = 4 ∨ k = 5 by omega) with rfl | rfl | rfl | rfl | rfl | rfl
  all_goals
    simp only [Nat.mul_zero, Nat.add_zero, Nat.mul_one, Nat.reduceMul, Nat.reduceAdd, Nat.reducePow] at *
    omega
theorem fedN_set {u : am_U} (h : ∀ k, k < 6 → u (43 + 6 * k) ≤ 1) {k v : Nat} (hk : k < 6) : fedN (upN u (43 + 6 * k) v) = fedN u - fedN u / 2 ^ k % 2 * 2 ^ k + v * 2 ^ k := by
  rw [fedN_bit h hk]
  unfold fedN
  rcases (show k = 0 ∨ k = 1 ∨ k = 2 ∨ k = 3 ∨ k = 4 ∨ k = 5 by omega) with rfl | rfl | rfl | rfl | rfl | rfl
  all_goals
    simp only [upN, Nat.mul_zero, Nat.add_zero, Nat.mul_one, Nat.reduceMul, Nat.reduceAdd, Nat.reducePow, if_pos, Nat.reduceEqDiff, if_false]
    omega
theorem fedN_upM {u : am_U} {k v : Nat} (hk : k < 6) : fedN (upN u (42 + 6 * k) v) = fedN u := by
  unfold fedN
  rw [upN_n (by omega), upN_n (by omega), upN_n (by omega), upN_n (by omega), upN_n (by omega), upN_n (by omega)]
theorem OKu.fed {u : am_U} (h : OKu u) : ∀ k, k < 6 → u (43 + 6 * k) ≤ 1 := by
  intro k hk
  have : ∀ k, k < 6 → (43 + 6 * k, 1) ∈ OKb := by decide +kernel
  exact h.1 _ (this k hk)
/-- the courses -/
def am_cl : List Nat := [9, 52, 47, 48, 49, 50, 51]
section
variable {L : Nat} {xs : Nat → Int32} {J : am_J} {d : Nat} {I : am_I} {Q : am_Q}
theorem x_metOf (hJ : am_Cl am_meth L xs J) {c k : Nat} {u : am_U} (hc : c ∈ am_cl) (hm : MetR (I c 4) u) (hk : k < 6) (h : Q (some (.int (nI (u (42 + 6 * k))))) I) : J d q_Course_metOf 0 [some (.ref c), some (.int (nI k))] [] I Q := by
  have e := hm k hk
  rw [← e] at h
  simp only [am_cl, List.mem_cons, List.not_mem_nil, or_false] at hc
  rcases hc with rfl | rfl | rfl | rfl | rfl | rfl | rfl
  all_goals
    refine am_vc hJ 10 _ _ _ _ _ _ _ ?_
    exact h
theorem x_setMet (hJ : am_Cl am_meth L xs J) {c k v : Nat} {u : am_U} (hc : c ∈ am_cl) (hm : MetR (I c 4) u) (hk : k < 6) (hv : v < 16) (h : ∀ x, MetR x (upN u (42 + 6 * k) v) → Q none (am_put I c 4 x)) : J d q_Course_setMet 0 [some (.ref c), some (.int (nI k)), some (.int (nI v))] [] I Q := by
  have h1 := h _ (hm.set hk hv)
  simp only [am_cl, List.mem_cons, List.not_mem_nil, or_false] at hc
  rcases hc with rfl | rfl | rfl | rfl | rfl | rfl | rfl
  all_goals
    refine am_vc hJ 20 _ _ _ _ _ _ _ ?_
    exact h1
theorem x_isFed (hJ : am_Cl am_meth L xs J) {c k : Nat} {u : am_U} (hc : c ∈ am_cl) (hf : I c 5 = nI (fedN u)) (hu : ∀ k, k < 6 → u (43 + 6 * k) ≤ 1) (hk : k < 6) (h1 : u (43 + 6 * k) = 1 → Q (some (.int 1)) I) (h0 : u (43 + 6 * k) = 0 → Q (some (.int 0)) I) : J d q_Course_isFed 0 [some (.ref c), some (.int (nI k))] [] I Q := by
  have hb := fed_bit (fedN u) (fedN_lt hu) k hk
  rw [fedN_bit hu hk, ← hf] at hb
  have hle := hu k hk
  simp only [am_cl, List.mem_cons, List.not_mem_nil, or_false] at hc
  rcases hc with rfl | rfl | rfl | rfl | rfl | rfl | rfl
  all_goals
    refine am_vc hJ 12 _ _ _ _ _ _ _ ?_
    refine ⟨fun g => ⟨Or.inl rfl, h0 (hb.mp g)⟩, fun g => ⟨Or.inr rfl, h1 ?_⟩⟩
    have : ¬ u (43 + 6 * k) = 0 := fun z => g (hb.mpr z)
    omega
theorem x_setFed (hJ : am_Cl am_meth L xs J) {c k v : Nat} {u : am_U} (hc : c ∈ am_cl) (hf : I c 5 = nI (fedN u)) (hu : ∀ k, k < 6 → u (43 + 6 * k) ≤ 1) (hk : k < 6) (hv : v < 2) (h : Q none (am_put I c 5 (nI (fedN (upN u (43 + 6 * k) v))))) : J d q_Course_setFed 0 [some (.ref c), some (.int (nI k)), some (.int (nI v))] [] I Q := by
  have hb := fed_set (fedN u) (fedN_lt hu) k hk v hv
  rw [← fedN_set hu hk, ← hf] at hb
  rw [← hb] at h
  simp only [am_cl, List.mem_cons, List.not_mem_nil, or_false] at hc
  rcases hc with rfl | rfl | rfl | rfl | rfl | rfl | rfl
  all_goals
    refine am_vc hJ 18 _ _ _ _ _ _ _ ?_
    exact h
end
