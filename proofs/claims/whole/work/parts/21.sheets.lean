/-! SHEETS -/
section
variable {L : Nat} {xs : Nat → Int32} {J : am_J} {d : Nat} {Q : am_Q}
theorem x_fill_loop (hJ : am_Cl am_meth L xs J) {c : Nat} (hc : c = 57 ∨ c = 58 ∨ c = 59 ∨ c = 60) {v : Int32} {I0 : am_I} (hQ : ∀ I', (∀ o, o ≠ c → I' o = I0 o) → (∀ j, j < 40 → I' c j = v) → Q none I') : ∀ (n i : Nat) (I : am_I), i + n = 40 → (∀ o, o ≠ c → I o = I0 o) → (∀ j, j < i → I c j = v) → J d q_Arrays_fill 5 [some (.ref c), some (.int v), some (.int (nI i)), some (.int (nI 40))] [] I Q
  | 0, i, I, hi, h1, h2 => by
    refine am_vc hJ 6 _ _ _ _ _ _ _ ?_
    refine br_t (nI_le (by omega) (by omega)) ?_
    exact hQ I h1 (fun j hj => h2 j (by omega))
  | n + 1, i, I, hi, h1, h2 => by
    have ih := x_fill_loop hJ hc hQ n (i + 1) (am_put I c i v) (by omega) (fun o ho => by rw [am_put_o ho]; exact h1 o ho) (fun j hj => by
      rw [put_if]
      split
      · rfl
      · exact h2 j (by omega))
    rcases hc with rfl | rfl | rfl | rfl
    all_goals
      refine am_vc hJ 9 _ _ _ _ _ _ _ ?_
      refine br_f (nI_ge (by omega) (by omega)) ?_
      refine ⟨vp_in_nI (by omega) (by omega), ?_⟩
      show J d q_Arrays_fill 5 [some (.ref _), some (.int v), some (.int (nI i + 1)), some (.int (nI 40))] [] (am_put I _ (nI i).toNatClampNeg v) Q
      rw [nI_1, nI_clamp (by omega)]
      exact ih
theorem x_fill (hJ : am_Cl am_meth L xs J) {c : Nat} (hc : c = 57 ∨ c = 58 ∨ c = 59 ∨ c = 60) {v : Int32} {I : am_I} (hQ : ∀ I', (∀ o, o ≠ c → I' o = I o) → (∀ j, j < 40 → I' c j = v) → Q none I') : J d q_Arrays_fill 0 [some (.ref c), some (.int v), none, none] [] I Q := by
  have h := x_fill_loop (d := d) hJ hc (v := v) hQ 40 0 I (by omega) (fun _ _ => rfl) (fun j hj => by omega)
  rcases hc with rfl | rfl | rfl | rfl
  all_goals
    refine am_vc hJ 5 _ _ _ _ _ _ _ ?_
    exact h
/-- the reference's loop that empties a sheet -/
theorem m_zero_loop (hJ : am_Cl am_meth L xs J) {h : Nat} (hh : h < 4) {so n' : Int32} {I0 : am_I} (hQ : ∀ I', (∀ o, o ≠ 83 → I' o = I0 o) → (∀ j, I' 83 j = if 40 * h ≤ j ∧ j < 40 * h + 40 then 0 else I0 83 j) → Q (some (.int 1)) I') : ∀ (n i : Nat) (I : am_I), i + n = 40 → (∀ o, o ≠ 83 → I o = I0 o) → (∀ j, I 83 j = if 40 * h ≤ j ∧ j < 40 * h + i then 0 else I0 83 j) → J d q_M_sheet 64 [some (.ref 66), some (.int (nI h)), some (.int so), some (.int n'), some (.int (nI i))] [] I Q
  | 0, i, I, hi, h1, h2 => by
    refine am_vc hJ 6 _ _ _ _ _ _ _ ?_
    refine br_t (nI_le (b := i) (a := 40) (by omega) (by omega)) ?_
    exact hQ I h1 (fun j => by rw [h2 j, show i = 40 by omega])
  | n + 1, i, I, hi, h1, h2 => by
    have e : 40 * nI h + nI i = nI (40 * h + i) := by rw [show (40 : Int32) = nI 40 from rfl, pk_mul, nI_add]
    have ih := m_zero_loop hJ hh (so := so) (n' := n') hQ n (i + 1) (am_put I 83 (40 * h + i) 0) (by omega) (fun o ho => by rw [am_put_o ho]; exact h1 o ho) (fun j => by
      rw [put_if]
      by_cases z : j = 40 * h + i
      · rw [if_pos z, if_pos (by omega)]
      · rw [if_neg z, h2 j]
        by_cases z2 : 40 * h ≤ j ∧ j < 40 * h + i
        · rw [if_pos z2, if_pos (by omega)]
        · rw [if_neg z2, if_neg (by omega)])
    refine am_vc hJ 14 _ _ _ _ _ _ _ ?_
    refine br_f (nI_ge (b := 40) (a := i) (by omega) (by omega)) ?_
    refine ⟨am_vinN e (by omega) (by omega), ?_⟩
    show J d q_M_sheet 64 [some (.ref 66), some (.int (nI h)), some (.int so), some (.int n'), some (.int (nI i + 1))] [] (am_put I 83 (40 * nI h + nI i).toNatClampNeg 0) Q
    rw [nI_1, am_clN e (by omega)]
    exact ih
theorem x_hasItem (hJ : am_Cl am_meth L xs J) {h : Nat} {i : Int32} {n : Nat} {I : am_I} (hh : h < 4) (hn : I 55 h = nI n) (h40 : n ≤ 40) (h1 : (∃ j, j < n ∧ i = nI j) → Q (some (.int 1)) I) (h0 : (¬ ∃ j, j < n ∧ i = nI j) → Q (some (.int 0)) I) : J (d + 1) q_X_hasItem 0 [some (.ref 0), some (.int (nI h)), some (.int i)] [] I Q := by
  refine am_vc hJ 12 _ _ _ _ _ _ _ ?_
  refine ⟨vp_in_nI (by omega) (by omega), ?_⟩
  refine x_within hJ (fun g => ?_) (fun g => ?_)
  · have g : 0 ≤ i ∧ i ≤ I 55 (nI h).toNatClampNeg - 1 := g
    rw [nI_clamp (by omega), hn, am_cnt (by omega)] at g
    exact ⟨Or.inr rfl, h1 g⟩
  · have g : ¬ (0 ≤ i ∧ i ≤ I 55 (nI h).toNatClampNeg - 1) := g
    rw [nI_clamp (by omega), hn, am_cnt (by omega)] at g
    exact ⟨Or.inl rfl, h0 g⟩
theorem x_refusalAs (hJ : am_Cl am_meth L xs J) {h : Nat} {so : Int32} {I : am_I} (hh : h < 4) (h1 : I 54 h = -1 → Q (some (.int (-11))) I) (h2 : ¬ I 54 h = -1 → I 54 h = so → Q (some (.int 0)) I) (h3 : ¬ I 54 h = -1 → ¬ I 54 h = so → Q (some (.int (-13))) I) : J d q_X_refusalAs 0 [some (.ref 0), some (.int (nI h)), some (.int so)] [] I Q := by
  have e : (nI h).toNatClampNeg = h := nI_clamp (by omega)
  refine am_vc hJ 18 _ _ _ _ _ _ _ ?_
  refine ⟨vp_in_nI (by omega) (by omega), ?_⟩
  refine ⟨fun g => ?_, fun g => ?_⟩
  · have g : I 54 (nI h).toNatClampNeg = -1 := g
    rw [e] at g
    exact h1 g
  · have g : ¬ I 54 (nI h).toNatClampNeg = -1 := g
    rw [e] at g
    refine ⟨vp_in_nI (by omega) (by omega), ?_⟩
    refine ⟨fun g2 => ?_, fun g2 => ?_⟩
    · have g2 : I 54 (nI h).toNatClampNeg = so := g2
      rw [e] at g2
      exact h2 g g2
    · have g2 : ¬ I 54 (nI h).toNatClampNeg = so := g2
      rw [e] at g2
      exact h3 g g2
theorem m_lacks (hJ : am_Cl am_meth L xs J) {h : Nat} {so : Int32} {I : am_I} (hh : h < 4) (h1 : I 81 h < 0 → Q (some (.int (-11))) I) (h2 : 0 ≤ I 81 h → I 81 h = so → Q (some (.int 0)) I) (h3 : 0 ≤ I 81 h → ¬ I 81 h = so → Q (some (.int (-13))) I) : J d q_M_lacks 0 [some (.ref 66), some (.int (nI h)), some (.int so)] [] I Q := by
  have e : (nI h).toNatClampNeg = h := nI_clamp (by omega)
  refine am_vc hJ 18 _ _ _ _ _ _ _ ?_
  refine ⟨vp_in_nI (by omega) (by omega), ?_⟩
  refine ⟨fun g => ?_, fun g => ?_⟩
  · have g : 0 ≤ I 81 (nI h).toNatClampNeg := g
    rw [e] at g
    refine ⟨vp_in_nI (by omega) (by omega), ?_⟩
    refine ⟨fun g2 => ?_, fun g2 => ?_⟩
    · have g2 : I 81 (nI h).toNatClampNeg = so := g2
      rw [e] at g2
      exact h2 g g2
    · have g2 : ¬ I 81 (nI h).toNatClampNeg = so := g2
      rw [e] at g2
      exact h3 g g2
  · have g : ¬ 0 ≤ I 81 (nI h).toNatClampNeg := g
    rw [e] at g
    exact h1 (Int32.not_le.mp g)
/-- what a sort keeps of an int -/
def sp_nar (so v : Int32) : Int32 := if so = 0 then v.toInt8.toInt32 else if so = 1 then v.toInt16.toInt32 else if so = 4 then (if v = 0 then 0 else 1) else v
theorem x_narrowed (hJ : am_Cl am_meth L xs J) {so : Nat} {v : Int32} {I : am_I} (hs : so < 5) (h : Q (some (.int (sp_nar (nI so) v))) I) : J d q_X_narrowed 0 [some (.int (nI so)), some (.int v)] [] I Q := by
  rcases (show so = 0 ∨ so = 1 ∨ so = 2 ∨ so = 3 ∨ so = 4 by omega) with rfl | rfl | rfl | rfl | rfl
  · refine am_vc hJ 8 _ _ _ _ _ _ _ ?_
    refine br_t (by decide) ?_
    exact h
  · refine am_vc hJ 8 _ _ _ _ _ _ _ ?_
    refine br_f (by decide) ?_
    refine br_t (by decide) ?_
    exact h
  · refine am_vc hJ 8 _ _ _ _ _ _ _ ?_
    refine br_f (by decide) ?_
    refine br_f (by decide) ?_
    refine br_t (by decide) ?_
    exact h
  · refine am_vc hJ 8 _ _ _ _ _ _ _ ?_
    refine br_f (by decide) ?_
    refine br_f (by decide) ?_
    refine br_f (by decide) ?_
    refine br_t (by decide) ?_
    exact h
  · refine am_vc hJ 8 _ _ _ _ _ _ _ ?_
    refine br_f (by decide) ?_
    refine br_f (by decide) ?_
    refine br_f (by decide) ?_
    refine br_f (by decide) ?_
    refine br_t (by decide) ?_
    refine ⟨fun g => ?_, fun g => ?_⟩
    · have e : sp_nar (nI 4) v = 0 := by unfold sp_nar; rw [if_neg (by decide), if_neg (by decide), if_pos (by decide), if_pos g]
      rw [e] at h
      exact h
    · have e : sp_nar (nI 4) v = 1 := by unfold sp_nar; rw [if_neg (by decide), if_neg (by decide), if_pos (by decide), if_neg g]
      rw [e] at h
      exact h
theorem m_narrowed (hJ : am_Cl am_meth L xs J) {so : Nat} {v : Int32} {I : am_I} (hs : so < 5) (h : Q (some (.int (sp_nar (nI so) v))) I) : J d q_M_narrowed 0 [some (.int v), some (.int (nI so))] [] I Q := by
  rcases (show so = 0 ∨ so = 1 ∨ so = 2 ∨ so = 3 ∨ so = 4 by omega) with rfl | rfl | rfl | rfl | rfl
  · refine am_vc hJ 14 _ _ _ _ _ _ _ ?_
    refine br_t (by decide) ?_
    exact h
  · refine am_vc hJ 14 _ _ _ _ _ _ _ ?_
    refine br_f (by decide) ?_
    refine br_t (by decide) ?_
    exact h
  · refine am_vc hJ 14 _ _ _ _ _ _ _ ?_
    refine br_f (by decide) ?_
    refine br_f (by decide) ?_
    refine br_f (by decide) ?_
    exact h
  · refine am_vc hJ 14 _ _ _ _ _ _ _ ?_
    refine br_f (by decide) ?_
    refine br_f (by decide) ?_
    refine br_f (by decide) ?_
    exact h
  · refine am_vc hJ 14 _ _ _ _ _ _ _ ?_
    refine br_f (by decide) ?_
    refine br_f (by decide) ?_
    refine br_t (by decide) ?_
    refine ⟨fun g => ?_, fun g => ?_⟩
    · have e : sp_nar (nI 4) v = 0 := by unfold sp_nar; rw [if_neg (by decide), if_neg (by decide), if_pos (by decide), if_pos g]
      rw [e] at h
      exact h
    · have e : sp_nar (nI 4) v = 1 := by unfold sp_nar; rw [if_neg (by decide), if_neg (by decide), if_pos (by decide), if_neg g]
      rw [e] at h
      exact h
end
