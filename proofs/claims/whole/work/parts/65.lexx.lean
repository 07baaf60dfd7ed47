/-! RULES: the class splits its tape -/
def Tx (I : am_I) (b : Nat → Nat) (n : Nat) : Prop := n ≤ 200 ∧ I 38 1 = nI n ∧ ∀ j, j < n → b j < 256 ∧ I 39 j = (nI (b j)).toInt8.toInt32
theorem Tx.kept {I I' : am_I} {b : Nat → Nat} {n : Nat} (h : Tx I b n) (h1 : I' 38 1 = I 38 1) (h2 : I' 39 = I 39) : Tx I' b n := by
  unfold Tx
  rw [h1, h2]
  exact h
theorem by_L : ∀ x, x < 256 → (((97 : Int32) ≤ (nI x).toInt8.toInt32 ∧ (nI x).toInt8.toInt32 ≤ 122) ↔ rt_L x = true) := by decide +kernel
theorem by_D : ∀ x, x < 256 → (((48 : Int32) ≤ (nI x).toInt8.toInt32 ∧ (nI x).toInt8.toInt32 ≤ 57) ↔ rt_D x = true) := by decide +kernel
theorem by_Ln : ∀ x, x < 256 → (((97 : Int32) ≤ nI x ∧ nI x ≤ 122) ↔ rt_L x = true) := by decide +kernel
theorem by_Dn : ∀ x, x < 256 → (((48 : Int32) ≤ nI x ∧ nI x ≤ 57) ↔ rt_D x = true) := by decide +kernel
theorem by_eq : ∀ x, x < 256 → (rt_L x = true ∨ rt_D x = true) → (nI x).toInt8.toInt32 = nI x := by decide +kernel
theorem by_ff : ∀ x, x < 256 → (nI x).toInt8.toInt32 &&& 255 = nI x := by decide +kernel
theorem rt_x_n {c : Nat} (h : c < 30000) : rt_x c = nI c := by
  unfold rt_x
  rw [if_neg (by omega), if_neg (by omega)]
section
variable {L : Nat} {xs : Nat → Int32} {J : am_J} {d : Nat} {Q : am_Q}
theorem x_isLetter (hJ : am_Cl am_meth L xs J) {I : am_I} {v : Int32} {x : Nat} (hx : ((97 : Int32) ≤ v ∧ v ≤ 122) ↔ rt_L x = true) (h1 : rt_L x = true → Q (some (.int 1)) I) (h0 : ¬ rt_L x = true → Q (some (.int 0)) I) : J (d + 1) q_RuleText_isLetter 0 [some (.int v)] [] I Q := by
  refine am_vc hJ 10 _ _ _ _ _ _ _ ?_
  refine x_within hJ (fun z => ?_) (fun z => ?_)
  · exact ⟨Or.inr rfl, h1 (hx.mp z)⟩
  · exact ⟨Or.inl rfl, h0 (fun y => z (hx.mpr y))⟩
theorem x_isDigit (hJ : am_Cl am_meth L xs J) {I : am_I} {v : Int32} {x : Nat} (hx : ((48 : Int32) ≤ v ∧ v ≤ 57) ↔ rt_D x = true) (h1 : rt_D x = true → Q (some (.int 1)) I) (h0 : ¬ rt_D x = true → Q (some (.int 0)) I) : J (d + 1) q_RuleText_isDigit 0 [some (.int v)] [] I Q := by
  refine am_vc hJ 10 _ _ _ _ _ _ _ ?_
  refine x_within hJ (fun z => ?_) (fun z => ?_)
  · exact ⟨Or.inr rfl, h1 (hx.mp z)⟩
  · exact ⟨Or.inl rfl, h0 (fun y => z (hx.mpr y))⟩
theorem x_runL (hJ : am_Cl am_meth L xs J) {I : am_I} {b : Nat → Nat} {n R : Nat} {z2 z3 : Option Value} (hT : Tx I b n) (h : J (d + 2) q_RuleText_splitTape 64 [some (.ref 38), some (.int (nI R)), z2, z3] [] I Q) : ∀ (f j : Nat), j + f = n → R = rt_rn (fun j => rt_L (b j)) f j → J (d + 2) q_RuleText_splitTape 38 [some (.ref 38), some (.int (nI j)), z2, z3] [] I Q
  | 0, j, hn, hR => by
    obtain ⟨h200, t1, t2⟩ := hT
    have eR : R = j := hR
    refine am_vcl hJ [38, 64] 200 ?_
    refine br_t (by show I 38 1 ≤ nI j; rw [t1]; exact nI_le (by omega) (by omega)) ?_
    rw [← eR]
    exact h
  | f + 1, j, hn, hR => by
    have hT' := hT
    obtain ⟨h200, t1, t2⟩ := hT
    obtain ⟨b1, b2⟩ := t2 j (by omega)
    have ih := x_runL (z2 := z2) (z3 := z3) hJ hT' h f (j + 1) (by omega)
    refine am_vcl hJ [38, 64] 200 ?_
    refine br_f (by show ¬ I 38 1 ≤ nI j; rw [t1]; exact nI_ge (by omega) (by omega)) ?_
    refine ⟨vp_in_nI (by omega) (by omega), ?_⟩
    rw [nI_clamp (by omega), b2]
    refine x_isLetter hJ (by_L (b j) b1) (fun g => ?_) (fun g => ?_)
    · have k9 := ih (hR.trans (rt_rn_y (P := fun j => rt_L (b j)) g))
      rw [← nI_1] at k9
      refine br_f (by decide) ?_
      exact k9
    · have e2 : R = j := hR.trans (rt_rn_n (P := fun j => rt_L (b j)) g)
      refine br_t (by decide) ?_
      rw [← e2]
      exact h
theorem x_runD (hJ : am_Cl am_meth L xs J) {I : am_I} {b : Nat → Nat} {n R : Nat} {z2 z3 : Option Value} (hT : Tx I b n) (h : J (d + 2) q_RuleText_splitTape 111 [some (.ref 38), some (.int (nI R)), z2, z3] [] I Q) : ∀ (f j : Nat), j + f = n → R = rt_rn (fun j => rt_D (b j)) f j → J (d + 2) q_RuleText_splitTape 85 [some (.ref 38), some (.int (nI j)), z2, z3] [] I Q
  | 0, j, hn, hR => by
    obtain ⟨h200, t1, t2⟩ := hT
    have eR : R = j := hR
    refine am_vcl hJ [85, 111] 200 ?_
    refine br_t (by show I 38 1 ≤ nI j; rw [t1]; exact nI_le (by omega) (by omega)) ?_
    rw [← eR]
    exact h
  | f + 1, j, hn, hR => by
    have hT' := hT
    obtain ⟨h200, t1, t2⟩ := hT
    obtain ⟨b1, b2⟩ := t2 j (by omega)
    have ih := x_runD (z2 := z2) (z3 := z3) hJ hT' h f (j + 1) (by omega)
    refine am_vcl hJ [85, 111] 200 ?_
    refine br_f (by show ¬ I 38 1 ≤ nI j; rw [t1]; exact nI_ge (by omega) (by omega)) ?_
    refine ⟨vp_in_nI (by omega) (by omega), ?_⟩
    rw [nI_clamp (by omega), b2]
    refine x_isDigit hJ (by_D (b j) b1) (fun g => ?_) (fun g => ?_)
    · have k9 := ih (hR.trans (rt_rn_y (P := fun j => rt_D (b j)) g))
      rw [← nI_1] at k9
      refine br_f (by decide) ?_
      exact k9
    · have e2 : R = j := hR.trans (rt_rn_n (P := fun j => rt_D (b j)) g)
      refine br_t (by decide) ?_
      rw [← e2]
      exact h
theorem x_word (hJ : am_Cl am_meth L xs J) {I : am_I} {w : Nat} (hw : w < 18) (h : Q (some (.ref (1000 + w))) I) : J d q_RuleText_word 0 [some (.int (nI w))] [] I Q := by
  rcases (show w = 0 ∨ w = 1 ∨ w = 2 ∨ w = 3 ∨ w = 4 ∨ w = 5 ∨ w = 6 ∨ w = 7 ∨ w = 8 ∨ w = 9 ∨ w = 10 ∨ w = 11 ∨ w = 12 ∨ w = 13 ∨ w = 14 ∨ w = 15 ∨ w = 16 ∨ w = 17 by omega) with rfl | rfl | rfl | rfl | rfl | rfl | rfl | rfl | rfl | rfl | rfl | rfl | rfl | rfl | rfl | rfl | rfl | rfl
  all_goals
    refine am_vc hJ 10 _ _ _ _ _ _ _ ?_
    repeat (first | refine br_f (by decide) ?_ | refine br_t (by decide) ?_)
    exact h
theorem tx_len : ∀ w, w < 18 → am_txl w ≤ 7 := by decide +kernel
theorem x_isw_loop (hJ : am_Cl am_meth L xs J) {I : am_I} {b : Nat → Nat} {n w p e : Nat} (hT : Tx I b n) (hw : w < 18) (hp : p ≤ e) (he : e ≤ n) (hL : ∀ k, p ≤ k → k < e → rt_L (b k) = true) (hl : am_txl w = e - p) (h1 : rt_mt b w p e → Q (some (.int 1)) I) (h0 : ¬ rt_mt b w p e → Q (some (.int 0)) I) : ∀ (f k : Nat), k + f = am_txl w → (∀ i, i < k → am_txc w i = nI (b (p + i))) → J (d + 4) q_RuleText_isWordAt 15 [some (.ref 38), some (.ref (1000 + w)), some (.int (nI p)), some (.int (nI e)), some (.int (nI k))] [] I Q
  | 0, k, hn, hk => by
    have hl7 := tx_len w hw
    refine am_vcl hJ [15] 200 ?_
    refine ⟨⟨show 1000 ≤ 1000 + w by omega, show 1000 + w < 1018 by omega⟩, ?_⟩
    rw [show 1000 + w - 1000 = w by omega]
    refine br_t (by show nI (am_txl w) ≤ nI k; exact nI_le (by omega) (by omega)) ?_
    exact ⟨Or.inr rfl, h1 ⟨hl, fun i hi => hk i (by omega)⟩⟩
  | f + 1, k, hn, hk => by
    obtain ⟨h200, t1, t2⟩ := id hT
    have hl7 := tx_len w hw
    obtain ⟨b1, b2⟩ := t2 (p + k) (by omega)
    have b3 : I 39 (p + k) = nI (b (p + k)) := by rw [b2]; exact by_eq _ b1 (Or.inl (hL _ (by omega) (by omega)))
    have ei : nI p + nI k = nI (p + k) := nI_add p k
    refine am_vcl hJ [15] 200 ?_
    refine ⟨⟨show 1000 ≤ 1000 + w by omega, show 1000 + w < 1018 by omega⟩, ?_⟩
    rw [show 1000 + w - 1000 = w by omega]
    refine br_f (by show ¬ nI (am_txl w) ≤ nI k; exact nI_ge (by omega) (by omega)) ?_
    refine ⟨⟨show 1000 ≤ 1000 + w by omega, show 1000 + w < 1018 by omega, by rw [show 1000 + w - 1000 = w by omega]; exact vp_in_nI (by omega) (by omega)⟩, ?_⟩
    rw [show 1000 + w - 1000 = w by omega]
    refine ⟨am_vinN ei (by omega) (by omega), ?_⟩
    rw [am_clN ei (by omega), nI_clamp (by omega), b3]
    by_cases g : am_txc w k = nI (b (p + k))
    · refine br_t g ?_
      have k9 := x_isw_loop hJ hT hw hp he hL hl h1 h0 f (k + 1) (by omega) (fun i hi => by
        by_cases q : i = k
        · rw [q]; exact g
        · exact hk i (by omega))
      rw [← nI_1] at k9
      exact k9
    · refine br_f g ?_
      exact ⟨Or.inl rfl, h0 (fun z => g (z.2 k (by omega)))⟩
theorem x_isWordAt (hJ : am_Cl am_meth L xs J) {I : am_I} {b : Nat → Nat} {n w p e : Nat} (hT : Tx I b n) (hw : w < 18) (hp : p ≤ e) (he : e ≤ n) (hL : ∀ k, p ≤ k → k < e → rt_L (b k) = true) (h1 : rt_mt b w p e → Q (some (.int 1)) I) (h0 : ¬ rt_mt b w p e → Q (some (.int 0)) I) {z4 : Option Value} : J (d + 4) q_RuleText_isWordAt 0 [some (.ref 38), some (.ref (1000 + w)), some (.int (nI p)), some (.int (nI e)), z4] [] I Q := by
  have hl7 := tx_len w hw
  have h200 := hT.1
  have es : nI e - nI p = nI (e - p) := pk_sub hp
  refine am_vcc hJ [15] 200 _ _ _ _ _ _ _ ?_
  refine ⟨⟨show 1000 ≤ 1000 + w by omega, show 1000 + w < 1018 by omega⟩, ?_⟩
  rw [show 1000 + w - 1000 = w by omega]
  by_cases g : am_txl w = e - p
  · refine br_t (by show nI (am_txl w) = nI e - nI p; rw [es, g]) ?_
    exact x_isw_loop hJ hT hw hp he hL g h1 h0 (am_txl w) 0 (Nat.zero_add _) (fun i hi => by omega)
  · refine br_f (by show ¬ nI (am_txl w) = nI e - nI p; rw [es, nI_eq (by omega) (by omega)]; exact g) ?_
    exact ⟨Or.inl rfl, h0 (fun z => g z.1)⟩
theorem x_word_loop (hJ : am_Cl am_meth L xs J) {I : am_I} {b : Nat → Nat} {n p e c : Nat} (hT : Tx I b n) (hp : p ≤ e) (he : e ≤ n) (hL : ∀ k, p ≤ k → k < e → rt_L (b k) = true) (h : Q (some (.int (rt_x c))) I) : ∀ (f w : Nat), w + f = 18 → c = rt_wd b p e f w → J (d + 5) q_RuleText_wordAt 2 [some (.ref 38), some (.int (nI p)), some (.int (nI e)), some (.int (nI w))] [] I Q
  | 0, w, hn, hc => by
    have hc : c = 30000 := hc
    subst hc
    refine am_vcl hJ [2] 200 ?_
    refine br_t (by show nI 18 ≤ nI w; exact nI_le (by omega) (by omega)) ?_
    exact h
  | f + 1, w, hn, hc => by
    refine am_vcl hJ [2] 200 ?_
    refine br_f (by show ¬ nI 18 ≤ nI w; exact nI_ge (by omega) (by omega)) ?_
    refine x_word hJ (by omega) ?_
    refine x_isWordAt hJ hT (by omega) hp he hL (fun g => ?_) (fun g => ?_)
    · rw [rt_wd_y g] at hc
      refine br_f (by decide) ?_
      refine am_qe ?_ h
      rw [hc, rt_x_n (by omega)]
      exact nI_add 10000 w
    · rw [rt_wd_n g] at hc
      have k9 := x_word_loop hJ hT hp he hL h f (w + 1) (by omega) hc
      rw [← nI_1] at k9
      refine br_t (by decide) ?_
      exact k9
theorem x_wordAt (hJ : am_Cl am_meth L xs J) {I : am_I} {b : Nat → Nat} {n p e : Nat} (hT : Tx I b n) (hp : p ≤ e) (he : e ≤ n) (hL : ∀ k, p ≤ k → k < e → rt_L (b k) = true) (h : Q (some (.int (rt_x (rt_wd b p e 18 0)))) I) {z3 : Option Value} : J (d + 5) q_RuleText_wordAt 0 [some (.ref 38), some (.int (nI p)), some (.int (nI e)), z3] [] I Q := by
  have k9 := x_word_loop (d := d) hJ hT hp he hL h 18 0 (by decide) rfl
  refine am_vcc hJ [2] 200 _ _ _ _ _ _ _ ?_
  exact k9
theorem x_num_loop (hJ : am_Cl am_meth L xs J) {I : am_I} {b : Nat → Nat} {n p e : Nat} (hT : Tx I b n) (hp : p ≤ e) (he : e ≤ n) (h4 : e - p ≤ 4) (hL : ∀ k, p ≤ k → k < e → rt_D (b k) = true) (h : Q (some (.int (nI (rt_nu b p (e - p))))) I) : ∀ (f k : Nat), k + f = e - p → J d q_RuleText_numberAt 14 [some (.ref 38), some (.int (nI p)), some (.int (nI e)), some (.int (nI (rt_nu b p k))), some (.int (nI (p + k)))] [] I Q
  | 0, k, hn => by
    have h200 := hT.1
    have ek : k = e - p := by omega
    refine am_vcl hJ [14] 200 ?_
    refine br_t (by show nI e ≤ nI (p + k); exact nI_le (by omega) (by omega)) ?_
    rw [ek]
    exact h
  | f + 1, k, hn => by
    obtain ⟨h200, t1, t2⟩ := id hT
    obtain ⟨b1, b2⟩ := t2 (p + k) (by omega)
    have hd := hL (p + k) (by omega) (by omega)
    have b3 : I 39 (p + k) = nI (b (p + k)) := by rw [b2]; exact by_eq _ b1 (Or.inr hd)
    unfold rt_D at hd
    rw [decide_eq_true_eq] at hd
    have k9 := x_num_loop hJ hT hp he h4 hL h f (k + 1) (by omega)
    have en : 10 * nI (rt_nu b p k) + nI (b (p + k)) - 48 = nI (rt_nu b p (k + 1)) := by
      rw [show (10 : Int32) = nI 10 from rfl, pk_mul, nI_add, show (48 : Int32) = nI 48 from rfl, pk_sub (by omega)]
      rfl
    rw [← en, show p + (k + 1) = p + k + 1 by omega, ← nI_1] at k9
    refine am_vcl hJ [14] 200 ?_
    refine br_f (by show ¬ nI e ≤ nI (p + k); exact nI_ge (by omega) (by omega)) ?_
    refine ⟨vp_in_nI (by omega) (by omega), ?_⟩
    rw [nI_clamp (by omega), b3]
    exact k9
theorem x_numberAt (hJ : am_Cl am_meth L xs J) {I : am_I} {b : Nat → Nat} {n p e : Nat} (hT : Tx I b n) (hp : p ≤ e) (he : e ≤ n) (hL : ∀ k, p ≤ k → k < e → rt_D (b k) = true) (h : Q (some (.int (rt_x (if 4 < e - p then 30000 else rt_nu b p (e - p))))) I) {z3 z4 : Option Value} : J d q_RuleText_numberAt 0 [some (.ref 38), some (.int (nI p)), some (.int (nI e)), z3, z4] [] I Q := by
  have h200 := hT.1
  have es : nI e - nI p = nI (e - p) := pk_sub hp
  refine am_vcc hJ [14] 200 _ _ _ _ _ _ _ ?_
  by_cases g : 4 < e - p
  · rw [if_pos g] at h
    refine br_f (by show ¬ nI e - nI p ≤ nI 4; rw [es]; exact nI_ge g (by omega)) ?_
    exact h
  · rw [if_neg g] at h
    refine br_t (by show nI e - nI p ≤ nI 4; rw [es]; exact nI_le (by omega) (by omega)) ?_
    have hnl := rt_nu_lt (b := b) (p := p) (e - p) (fun i hi => hL (p + i) (by omega) (by omega))
    have hp4 : 10 ^ (e - p) ≤ 10 ^ 4 := Nat.pow_le_pow_right (by decide) (by omega)
    rw [rt_x_n (by omega)] at h
    exact x_num_loop (d := d) hJ hT hp he (by omega) hL h (e - p) 0 (Nat.zero_add _)
theorem x_addToken (hJ : am_Cl am_meth L xs J) {I : am_I} {i : Nat} {v w : Int32} (hi : I 38 4 = nI i) (h200 : i < 200) (h : Q none (am_put (am_put (am_put I 40 i v) 41 i w) 38 4 (nI (i + 1)))) : J d q_RuleText_addToken 0 [some (.ref 38), some (.int v), some (.int w)] [] I Q := by
  have e2 : am_put I 40 i v 38 4 = nI i := by rw [am_put_o (by decide)]; exact hi
  have e3 : am_put (am_put I 40 i v) 41 i w 38 4 = nI i := by rw [am_put_o (by decide)]; exact e2
  refine am_vc hJ 40 _ _ _ _ _ _ _ ?_
  refine br_f (by show ¬ nI 200 ≤ I 38 4; rw [hi]; exact nI_ge h200 (by omega)) ?_
  refine ⟨by show vp_in (I 38 4) 200; rw [hi]; exact vp_in_nI h200 (by omega), ?_⟩
  rw [hi, nI_clamp (by omega)]
  refine ⟨by show vp_in (am_put I 40 i v 38 4) 200; rw [e2]; exact vp_in_nI h200 (by omega), ?_⟩
  rw [e2, nI_clamp (by omega)]
  show Q none (am_put (am_put (am_put I 40 i v) 41 i w) 38 4 (am_put (am_put I 40 i v) 41 i w 38 4 + 1))
  rw [e3, nI_1]
  exact h
/-- the first i tokens -/
def TkR (I : am_I) (b : Nat → Nat) (n T : Nat) : Prop := I 38 4 = nI T ∧ ∀ i, i < T → I 40 i = rt_x (rt_C b n i) ∧ I 41 i = nI (rt_P b n i) ∧ rt_P b n i < n
theorem TkR.add {I : am_I} {b : Nat → Nat} {n i : Nat} (h : TkR I b n i) (hp : rt_P b n i < n) : TkR (am_put (am_put (am_put I 40 i (rt_x (rt_C b n i))) 41 i (nI (rt_P b n i))) 38 4 (nI (i + 1))) b n (i + 1) := by
  refine ⟨put_at, fun k hk => ?_⟩
  by_cases q : k = i
  · subst q
    refine ⟨?_, ?_, hp⟩
    · rw [am_put_o (by decide), am_put_o (by decide), put_at]
    · rw [am_put_o (by decide), put_at]
  · obtain ⟨a, c, e⟩ := h.2 k (by omega)
    refine ⟨?_, ?_, e⟩
    · rw [am_put_o (by decide), am_put_o (by decide), put_nk q]; exact a
    · rw [am_put_o (by decide), put_nk q, am_put_o (by decide)]; exact c
theorem x_split_loop (hJ : am_Cl am_meth L xs J) {I0 : am_I} {b : Nat → Nat} {n : Nat} (hT0 : Tx I0 b n) (h : ∀ (I : am_I) (T : Nat), T ≤ n → (∀ o, o ≠ 38 → o ≠ 40 → o ≠ 41 → I o = I0 o) → (∀ f, f ≠ 4 → I 38 f = I0 38 f) → TkR I b n T → rt_P b n T = n → Q none I) : ∀ (N q i : Nat) (I : am_I) (z2 z3 : Option Value), n - q < N → q ≤ n → i ≤ q → rt_nb b n q = rt_P b n i → (∀ o, o ≠ 38 → o ≠ 40 → o ≠ 41 → I o = I0 o) → (∀ f, f ≠ 4 → I 38 f = I0 38 f) → TkR I b n i → J (d + 6) q_RuleText_splitTape 7 [some (.ref 38), some (.int (nI q)), z2, z3] [] I Q
  | 0, q, i, I, z2, z3, hN, hq, hi, hnb, hF, h38, hk => by omega
  | N + 1, q, i, I, z2, z3, hN, hq, hi, hnb, hF, h38, hk => by
    have hT : Tx I b n := hT0.kept (h38 1 (by decide)) (hF 39 (by decide) (by decide) (by decide))
    obtain ⟨h200, t1, t2⟩ := id hT
    by_cases hqn : q = n
    · subst hqn
      rw [rt_nb_e] at hnb
      refine am_vcl hJ [7] 200 ?_
      refine br_t (by show I 38 1 ≤ nI q; rw [t1]; exact nI_le (by omega) (by omega)) ?_
      exact h I i (by omega) hF h38 hk hnb.symm
    · obtain ⟨b1, b2⟩ := t2 q (by omega)
      have ih := x_split_loop hJ hT0 h N
      have tok : b q ≠ 32 → ∀ (e : Nat) (c : Nat) (v : Int32) (z3 : Option Value) (Q' : am_Q), e = rt_te b n q → c = rt_co b n q → v = rt_x c → (∀ I', J (d + 6) q_RuleText_splitTape 7 [some (.ref 38), some (.int (nI e)), some (.int (nI q)), z3] [] I' Q → Q' none I') → J (d + 5) q_RuleText_addToken 0 [some (.ref 38), some (.int v), some (.int (nI q))] [] I Q' := by
        intro hne e c v z3 Q' he hc hv hQ'
        subst hv
        have eP : rt_P b n i = q := by rw [← hnb]; exact rt_nb_n hne
        have hPn : rt_P b n i < n := by rw [eP]; omega
        have eC : rt_C b n i = c := by unfold rt_C; rw [if_pos hPn, eP, hc]
        have hte := rt_te_le (b := b) (n := n) (p := q) (by omega)
        have a9 := hk.add hPn
        rw [eC, eP] at a9
        refine x_addToken hJ hk.1 (by omega) (hQ' _ ?_)
        refine ih e (i + 1) _ _ _ (by omega) (by omega) (by omega) ?_ (fun o o1 o2 o3 => by rw [am_put_o o1, am_put_o o3, am_put_o o2]; exact hF o o1 o2 o3) (fun f hf => by rw [put_nk hf, am_put_o (by decide), am_put_o (by decide)]; exact h38 f hf) a9
        rw [rt_P_s hPn, eP, he]
      have e255 := by_ff (b q) b1
      refine am_vcl hJ [7, 38, 85] 200 ?_
      refine br_f (by show ¬ I 38 1 ≤ nI q; rw [t1]; exact nI_ge (by omega) (by omega)) ?_
      refine ⟨vp_in_nI (by omega) (by omega), ?_⟩
      rw [nI_clamp (by omega), b2]
      conv => whnf
      rw [show (fun (x y : Int32) => x &&& y) (nI (b q)).toInt8.toInt32 255 = nI (b q) from e255, show nI q + 1 = nI (q + 1) from nI_1 q]
      have h32 : rt_L 32 = false ∧ rt_D 32 = false := by decide
      refine x_isLetter hJ (by_Ln (b q) b1) (fun g => ?_) (fun g => ?_)
      · refine br_f (by decide) ?_
        have hne : b q ≠ 32 := fun z => by rw [z, h32.1] at g; cases g
        have et : rt_te b n q = rt_rn (fun j => rt_L (b j)) (n - (q + 1)) (q + 1) := by unfold rt_te; rw [if_pos g]
        have hte := rt_te_le (b := b) (n := n) (p := q) (by omega)
        refine x_runL (d := d + 4) (R := rt_te b n q) hJ hT ?_ (n - (q + 1)) (q + 1) (by omega) et
        refine am_vcc hJ [7] 200 _ _ _ _ _ _ _ ?_
        refine x_wordAt hJ hT (by omega) hte.2 (fun k k1 k2 => ?_) ?_
        · by_cases y : k = q
          · rw [y]; exact g
          · rw [et] at k2
            exact (rt_rn_b (fun j => rt_L (b j)) (n - (q + 1)) (q + 1)).2.2.1 k (by omega) k2
        · exact tok hne _ _ _ _ _ rfl rfl (by unfold rt_co; rw [if_pos g]) (fun I' z => z)
      · refine br_t (by decide) ?_
        refine x_isDigit hJ (by_Dn (b q) b1) (fun g2 => ?_) (fun g2 => ?_)
        · refine br_f (by decide) ?_
          have hne : b q ≠ 32 := fun z => by rw [z, h32.2] at g2; cases g2
          have et : rt_te b n q = rt_rn (fun j => rt_D (b j)) (n - (q + 1)) (q + 1) := by unfold rt_te; rw [if_neg g, if_pos g2]
          have hte := rt_te_le (b := b) (n := n) (p := q) (by omega)
          refine x_runD (d := d + 4) (R := rt_te b n q) hJ hT ?_ (n - (q + 1)) (q + 1) (by omega) et
          refine am_vcc hJ [7] 200 _ _ _ _ _ _ _ ?_
          refine x_numberAt hJ hT (by omega) hte.2 (fun k k1 k2 => ?_) ?_
          · by_cases y : k = q
            · rw [y]; exact g2
            · rw [et] at k2
              exact (rt_rn_b (fun j => rt_D (b j)) (n - (q + 1)) (q + 1)).2.2.1 k (by omega) k2
          · exact tok hne _ _ _ _ _ rfl rfl (by unfold rt_co; rw [if_neg g, if_pos g2]) (fun I' z => z)
        · refine br_t (by decide) ?_
          by_cases g3 : b q = 32
          · refine br_t (by show nI (b q) = 32; rw [g3]; rfl) ?_
            exact ih (q + 1) i I _ _ (by omega) (by omega) (by omega) (by rw [← rt_nb_y (by omega) g3]; exact hnb) hF h38 hk
          · refine br_f (by show ¬ nI (b q) = nI 32; rw [nI_eq (by omega) (by omega)]; exact g3) ?_
            exact tok g3 _ _ _ _ _ (by unfold rt_te; rw [if_neg g, if_neg g2]) rfl (by unfold rt_co; rw [if_neg g, if_neg g2, rt_x_n (by omega)]; exact nI_add 20000 _) (fun I' z => z)
theorem x_splitTape (hJ : am_Cl am_meth L xs J) {I : am_I} {b : Nat → Nat} {n : Nat} (hT : Tx I b n) (h : ∀ (I' : am_I) (T : Nat), T ≤ n → (∀ o, o ≠ 38 → o ≠ 40 → o ≠ 41 → I' o = I o) → (∀ f, f ≠ 4 → I' 38 f = I 38 f) → TkR I' b n T → rt_P b n T = n → Q none I') {z1 z2 z3 : Option Value} : J (d + 6) q_RuleText_splitTape 0 [some (.ref 38), z1, z2, z3] [] I Q := by
  have k9 := x_split_loop (d := d) (I0 := I) hJ hT h (n + 1) 0 0 (am_put I 38 4 0) z2 z3 (by omega) (Nat.zero_le _) (Nat.le_refl _) rfl (fun o o1 _ _ => am_put_o o1) (fun f hf => put_nk hf) ⟨put_at, fun i hi => by omega⟩
  refine am_vcc hJ [7] 200 _ _ _ _ _ _ _ ?_
  exact k9
end
