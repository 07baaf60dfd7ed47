/-! RULES: the reference reads a token -/
def Tm (I : am_I) (b : Nat → Nat) (n : Nat) : Prop := n ≤ 200 ∧ I 66 6 = nI n ∧ (∀ j, j < n → b j < 256 ∧ I 71 j = nI (b j)) ∧ LetR I
/-- all that reading changes: five numbers, the steps, the rules read -/
def MF (I I' : am_I) : Prop := (∀ o, o ≠ 66 → o ≠ 73 → o ≠ 74 → I' o = I o) ∧ ∀ f, f < 8 ∨ 13 < f → I' 66 f = I 66 f
theorem MF.refl (I : am_I) : MF I I := ⟨fun _ _ _ _ => rfl, fun _ _ => rfl⟩
theorem MF.trans {I I' I'' : am_I} (h : MF I I') (g : MF I' I'') : MF I I'' := ⟨fun o a c e => by rw [g.1 o a c e, h.1 o a c e], fun f a => by rw [g.2 f a, h.2 f a]⟩
theorem MF.put {I : am_I} {f : Nat} {w : Int32} (h : 8 ≤ f ∧ f ≤ 13) : MF I (am_put I 66 f w) := ⟨fun o a _ _ => am_put_o a, fun g hg => put_nk (by omega)⟩
theorem Tm.mf {I I' : am_I} {b : Nat → Nat} {n : Nat} (h : Tm I b n) (g : MF I I') : Tm I' b n := by
  unfold Tm LetR
  rw [g.2 6 (by decide), g.1 71 (by decide) (by decide) (by decide), g.1 72 (by decide) (by decide) (by decide)]
  exact h
/-- the letters of both -/
theorem tx_ml : ∀ w, w < 18 → ∀ k, k < 8 → (k < am_txl (rt_pm w) → nI ((am_ml.getD w []).getD k 0) = am_txc (rt_pm w) k ∧ (am_ml.getD w []).getD k 0 ≠ 32) ∧ (am_txl (rt_pm w) ≤ k → (am_ml.getD w []).getD k 0 = 32) := by decide +kernel
theorem tx_lt : ∀ w, w < 18 → ∀ k, k < 8 → (am_ml.getD w []).getD k 0 < 256 := by decide +kernel
theorem rt_pm_lt : ∀ w, w < 18 → rt_pm w < 18 ∧ rt_pm (rt_pm w) = w := by decide +kernel
/-- the reference's comparison is the class's -/
theorem rt_mm {b : Nat → Nat} {w p e : Nat} (hw : w < 18) (hp : p ≤ e) (hL : ∀ k, p ≤ k → k < e → b k < 256 ∧ rt_L (b k) = true) : (e - p ≤ 8 ∧ ∀ k, k < 8 → (am_ml.getD w []).getD k 0 = (if p + k < e then b (p + k) else 32)) ↔ rt_mt b (rt_pm w) p e := by
  have hw2 := (rt_pm_lt w hw).1
  have hl7 := tx_len _ hw2
  have t := fun k hk => tx_ml w hw k hk
  have n32 : ∀ k, p + k < e → b (p + k) ≠ 32 := fun k hk z => by
    have := (hL (p + k) (by omega) hk).2
    rw [z] at this
    cases this
  constructor
  · rintro ⟨h8, hk⟩
    have hlen : am_txl (rt_pm w) = e - p := by
      by_cases g : am_txl (rt_pm w) < e - p
      · have a := (t (am_txl (rt_pm w)) (by omega)).2 (Nat.le_refl _)
        have c := hk (am_txl (rt_pm w)) (by omega)
        rw [if_pos (by omega), a] at c
        exact absurd c.symm (n32 _ (by omega))
      · by_cases g2 : e - p < am_txl (rt_pm w)
        · have a := ((t (e - p) (by omega)).1 g2).2
          have c := hk (e - p) (by omega)
          rw [if_neg (by omega)] at c
          exact absurd c a
        · omega
    refine ⟨hlen, fun k hk2 => ?_⟩
    have a := ((t k (by omega)).1 hk2).1
    have c := hk k (by omega)
    rw [if_pos (by omega)] at c
    rw [← a, c]
  · rintro ⟨h1, h2⟩
    refine ⟨by omega, fun k hk => ?_⟩
    by_cases g : p + k < e
    · rw [if_pos g]
      have a := ((t k hk).1 (by omega)).1
      have c := h2 k (by omega)
      rw [← a, nI_eq (by have := tx_lt w hw k hk; omega) (by have := (hL (p + k) (by omega) g).1; omega)] at c
      exact c
    · rw [if_neg g]
      exact (t k hk).2 (by omega)
section
variable {L : Nat} {xs : Nat → Int32} {J : am_J} {b : Nat → Nat} {n d : Nat} {Q : am_Q}
theorem m_byteAt (hJ : am_Cl am_meth L xs J) {I : am_I} {k : Nat} (hT : Tm I b n) (hk : k ≤ 200) (h : Q (some (.int (if k < n then nI (b k) else -1))) I) : J d q_M_byteAt 0 [some (.ref 66), some (.int (nI k))] [] I Q := by
  obtain ⟨h200, t1, t2, -⟩ := hT
  refine am_vc hJ 20 _ _ _ _ _ _ _ ?_
  by_cases g : k < n
  · rw [if_pos g, ← (t2 k g).2] at h
    refine br_f (by show ¬ I 66 6 ≤ nI k; rw [t1]; exact nI_ge g (by omega)) ?_
    refine ⟨vp_in_nI (by omega) (by omega), ?_⟩
    rw [nI_clamp (by omega)]
    exact h
  · rw [if_neg g] at h
    refine br_t (by show I 66 6 ≤ nI k; rw [t1]; exact nI_le (by omega) (by omega)) ?_
    exact h
theorem ml_ix (w k : Nat) : 8 * nI w + nI k = nI (8 * w + k) := by
  rw [show (8 : Int32) = nI 8 from rfl, pk_mul, nI_add]
theorem m_name_loop (hJ : am_Cl am_meth L xs J) {I : am_I} {w p e : Nat} (hT : Tm I b n) (hw : w < 18) (hp : p ≤ e) (he : e ≤ n) (h8 : I 66 8 = nI e) (h9 : I 66 9 = nI p) (R : Prop) (hR : R ↔ (e - p ≤ 8 ∧ ∀ k, k < 8 → (am_ml.getD w []).getD k 0 = (if p + k < e then b (p + k) else 32))) (h1 : R → Q (some (.int 1)) I) (h0 : ¬ R → Q (some (.int 0)) I) : ∀ (f k : Nat) (v : Int32), k + f = 8 → ((v = 1 ∧ e - p ≤ 8 ∧ ∀ i, i < k → (am_ml.getD w []).getD i 0 = (if p + i < e then b (p + i) else 32)) ∨ (v = 0 ∧ ¬ R)) → J (d + 1) q_M_isNameOf 22 [some (.ref 66), some (.int (nI w)), some (.int v), some (.int (nI k))] [] I Q
  | 0, k, v, hn, hv => by
    refine am_vcl hJ [22] 200 ?_
    refine br_t (by show nI 8 ≤ nI k; exact nI_le (by omega) (by omega)) ?_
    rcases hv with ⟨rfl, a, c⟩ | ⟨rfl, a⟩
    · exact ⟨Or.inr rfl, h1 (hR.mpr ⟨a, fun i hi => c i (by omega)⟩)⟩
    · exact ⟨Or.inl rfl, h0 a⟩
  | f + 1, k, v, hn, hv => by
    obtain ⟨h200, t1, t2, tl⟩ := id hT
    have ih := fun v hv => m_name_loop hJ hT hw hp he h8 h9 R hR h1 h0 f (k + 1) v (by omega) hv
    have ei := ml_ix w k
    have el : I 72 (8 * w + k) = nI ((am_ml.getD w []).getD k 0) := tl w k hw (by omega)
    have lt := tx_lt w hw k (by omega)
    have ep : nI p + nI k = nI (p + k) := nI_add p k
    refine am_vcl hJ [22] 200 ?_
    refine br_f (by show ¬ nI 8 ≤ nI k; exact nI_ge (by omega) (by omega)) ?_
    rcases hv with ⟨rfl, a, c⟩ | ⟨rfl, a⟩
    · refine br_f (by decide) ?_
      refine ⟨am_vinN ei (by omega) (by omega), ?_⟩
      rw [am_clN ei (by omega), el]
      have yes : (am_ml.getD w []).getD k 0 = (if p + k < e then b (p + k) else 32) → J (d + 1) q_M_isNameOf 22 [some (.ref 66), some (.int (nI w)), some (.int 1), some (.int (nI k + 1))] [] I Q := by
        intro z
        rw [nI_1]
        refine ih 1 (Or.inl ⟨rfl, a, fun i hi => ?_⟩)
        by_cases q : i = k
        · rw [q]; exact z
        · exact c i (by omega)
      have no : ¬ (am_ml.getD w []).getD k 0 = (if p + k < e then b (p + k) else 32) → J (d + 1) q_M_isNameOf 22 [some (.ref 66), some (.int (nI w)), some (.int 0), some (.int (nI k + 1))] [] I Q := by
        intro z
        rw [nI_1]
        exact ih 0 (Or.inr ⟨rfl, fun y => z ((hR.mp y).2 k (by omega))⟩)
      by_cases g : p + k < e
      · obtain ⟨b1, b2⟩ := t2 (p + k) (by omega)
        refine br_f (by show ¬ I 66 8 ≤ I 66 9 + nI k; rw [h8, h9, ep]; exact nI_ge g (by omega)) ?_
        conv => whnf
        rw [h9, show (fun (x y : Int32) => x + y) (nI p) (nI k) = nI (p + k) from ep]
        refine m_byteAt hJ hT (by omega) ?_
        rw [if_pos (by omega : p + k < n)]
        rw [if_pos g] at yes no
        by_cases y : (am_ml.getD w []).getD k 0 = b (p + k)
        · refine br_t (by show nI ((am_ml.getD w []).getD k 0) = nI (b (p + k)); rw [y]) ?_
          exact yes y
        · refine br_f (by show ¬ nI ((am_ml.getD w []).getD k 0) = nI (b (p + k)); rw [nI_eq (by omega) (by omega)]; exact y) ?_
          exact no y
      · refine br_t (by show I 66 8 ≤ I 66 9 + nI k; rw [h8, h9, ep]; exact nI_le (by omega) (by omega)) ?_
        rw [if_neg g] at yes no
        by_cases y : (am_ml.getD w []).getD k 0 = 32
        · refine br_t (by show nI ((am_ml.getD w []).getD k 0) = nI 32; rw [y]) ?_
          exact yes y
        · refine br_f (by show ¬ nI ((am_ml.getD w []).getD k 0) = nI 32; rw [nI_eq (by omega) (by omega)]; exact y) ?_
          exact no y
    · refine br_t (by decide) ?_
      exact ⟨Or.inl rfl, h0 a⟩
theorem m_isNameOf (hJ : am_Cl am_meth L xs J) {I : am_I} {w p e : Nat} (hT : Tm I b n) (hw : w < 18) (hp : p ≤ e) (he : e ≤ n) (hL : ∀ k, p ≤ k → k < e → b k < 256 ∧ rt_L (b k) = true) (h8 : I 66 8 = nI e) (h9 : I 66 9 = nI p) (h1 : rt_mt b (rt_pm w) p e → Q (some (.int 1)) I) (h0 : ¬ rt_mt b (rt_pm w) p e → Q (some (.int 0)) I) {z2 z3 : Option Value} : J (d + 1) q_M_isNameOf 0 [some (.ref 66), some (.int (nI w)), z2, z3] [] I Q := by
  have h200 := hT.1
  have hR := (rt_mm hw hp hL).symm
  have es : I 66 8 - I 66 9 = nI (e - p) := by rw [h8, h9, pk_sub hp]
  have lo := m_name_loop (d := d) (Q := Q) hJ hT hw hp he h8 h9 (rt_mt b (rt_pm w) p e) hR h1 h0 8 0
  refine am_vcc hJ [22] 200 _ _ _ _ _ _ _ ?_
  by_cases g : e - p ≤ 8
  · refine br_f (by show ¬ nI 8 < I 66 8 - I 66 9; rw [es, nI_ltI (by omega) (by omega)]; omega) ?_
    exact lo 1 (by decide) (Or.inl ⟨rfl, g, fun i hi => by omega⟩)
  · refine br_t (by show nI 8 < I 66 8 - I 66 9; rw [es]; exact nI_lt (by omega) (by omega)) ?_
    exact lo 0 (by decide) (Or.inr ⟨rfl, fun z => g (hR.mp z).1⟩)
/-- which name it is: the last that fits; there is one at most -/
theorem rt_mt_1 {w v p e : Nat} (hw : w < 18) (hv : v < 18) (h : rt_mt b w p e) (g : rt_mt b v p e) : w = v := by
  have key : ∀ w, w < 18 → ∀ v, v < 18 → am_txl w = am_txl v → (∀ k, k < 8 → k < am_txl w → am_txc w k = am_txc v k) → w = v := by decide +kernel
  refine key w hw v hv (by rw [h.1, g.1]) (fun k _ hk => ?_)
  rw [h.2 k hk, g.2 k (by rw [g.1, ← h.1]; exact hk)]
end
