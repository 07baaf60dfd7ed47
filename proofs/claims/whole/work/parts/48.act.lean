/-! ACT -/
def tp (pt : Bool) (tr : List Int32) (b : Int32) : List Int32 := if pt then tr else if tr.length < 30 then tr ++ [b] else tr
theorem tp_len {pt : Bool} {tr : List Int32} {b : Int32} (h : tr.length ≤ 30) : (tp pt tr b).length ≤ 30 := by
  unfold tp
  split
  · exact h
  · split
    · simp; omega
    · exact h
def bI (b : Bool) : Int32 := if b then 1 else 0
theorem bI_or (b : Bool) : bI b = 0 ∨ bI b = 1 := by cases b <;> simp [bI]
/-- the deed in the class -/
def DS (I0 I : am_I) (k g : Nat) (tr : List Int32) (pt : Bool) : Prop := (∀ o, o ≠ 64 → o ≠ 65 → I o = I0 o) ∧ I 64 0 = nI k ∧ I 64 1 = nI g ∧ I 64 2 = bI pt ∧ I 64 4 = nI tr.length ∧ tr.length ≤ 30 ∧ ∀ j, j < tr.length → I 65 j = tr.getD j 0
/-- the deed in the reference -/
def MS (I0 I : am_I) (k : Nat) (tr : List Int32) (pt : Bool) : Prop := (∀ o, o ≠ 66 → o ≠ 86 → I o = I0 o) ∧ (∀ j, j ∈ [3, 6, 29] → I 66 j = I0 66 j) ∧ I 66 37 = nI k ∧ I 66 38 = bI pt ∧ I 66 36 = nI tr.length ∧ tr.length ≤ 30 ∧ ∀ j, j < tr.length → I 86 j = tr.getD j 0
def wR (x y : Int32) : Int32 := x - x / y * y
def hT (kd : Nat) (pt : Bool) (tr : List Int32) : List Int32 := if kd = 1 then tp pt (tp pt tr 20) 10 else if kd = 3 then tp pt (tp pt tr 50) 10 else tp pt tr 10
def hV (kd : Nat) (k x : Int32) : Int32 := if kd = 1 then (x + 2) ^^^ k else if kd = 3 then (x ^^^ k) - 7 else x ^^^ k
def sT (kd : Nat) (pt : Bool) (tr : List Int32) : List Int32 := if kd = 2 ∨ kd = 3 then hT kd pt (tp pt (tp pt tr 30) 11) else if kd = 5 then hT kd pt (tp pt (tp pt tr 60) 11) else hT kd pt (tp pt tr 11)
def sV (kd : Nat) (k g x : Int32) : Int32 := if kd = 2 ∨ kd = 3 then hV kd k x * 3 + g else if kd = 5 then -(hV kd k x * 3) else hV kd k x * 3
def wP (k g : Int32) : Bool := decide (g + 1 - k = 0)
def wT (kd : Nat) (p : Bool) (tr : List Int32) : List Int32 := if kd = 4 then tp false (tp false tr 40) 12 else if kd = 5 then tp p (tp false (tp false (tp false tr 61) 40) 12) 10 else tp false tr 12
def wV (kd : Nat) (k g x : Int32) : Int32 := if kd = 4 then wR x (g + 1 - k) * 2 else if kd = 5 then wR x (g + 1 - k) * 2 + (g ^^^ k) else wR x (g + 1 - k)
def eT (kd : Nat) (p : Bool) (tr : List Int32) : List Int32 := wT kd p (sT kd false (tp false tr 13))
def eV (kd : Nat) (k g x : Int32) : Int32 := sV kd k g x - wV kd k g x
def lT (kd : Nat) (p : Bool) (tr : List Int32) : List Int32 := if kd = 3 then sT 3 p (eT 3 p (tp false tr 51)) else eT kd p tr
def lV (kd : Nat) (k g x : Int32) : Int32 := if kd = 3 then eV 3 k g x ^^^ sV 3 k g 1 else eV kd k g x
section
variable {L : Nat} {xs : Nat → Int32} {J : am_J} {d : Nat} {Q : am_Q} {I0 I : am_I} {k g : Nat} {tr : List Int32} {pt : Bool}
theorem x_began (hJ : am_Cl am_meth L xs J) {b : Int32} (hD : DS I0 I k g tr pt) (h : ∀ I' : am_I, DS I0 I' k g (tp pt tr b) pt → Q none I') : J d q_Deed_began 0 [some (.ref 64), some (.int b)] [] I Q := by
  obtain ⟨h1, h2, h3, h4, h5, h6, h7⟩ := id hD
  refine am_vc hJ 30 _ _ _ _ _ _ _ ?_
  cases pt with
  | true =>
    refine br_f (by show ¬ I 64 2 = 0; rw [h4]; decide) ?_
    exact h I hD
  | false =>
    refine br_t (by show I 64 2 = 0; rw [h4]; rfl) ?_
    by_cases gl : tr.length < 30
    · refine br_f (by show ¬ nI 30 ≤ I 64 4; rw [h5]; exact nI_ge gl (by omega)) ?_
      refine ⟨am_vinN h5 gl (by omega), ?_⟩
      have e : am_put I 65 (I 64 4).toNatClampNeg b 64 4 + 1 = nI (tr.length + 1) := by rw [am_put_o (by decide), h5]; exact nI_1 _
      show Q none (am_put (am_put I 65 (I 64 4).toNatClampNeg b) 64 4 (am_put I 65 (I 64 4).toNatClampNeg b 64 4 + 1))
      rw [e, am_clN h5 (by omega)]
      have et : tp false tr b = tr ++ [b] := by simp [tp, gl]
      rw [et] at h
      refine h _ ⟨fun o o1 o2 => by rw [am_put_o o1, am_put_o o2]; exact h1 o o1 o2, ?_, ?_, ?_, ?_, ?_, fun j hj => ?_⟩
      · rw [put_nk (by decide), am_put_o (by decide)]; exact h2
      · rw [put_nk (by decide), am_put_o (by decide)]; exact h3
      · rw [put_nk (by decide), am_put_o (by decide)]; exact h4
      · rw [put_at]; simp
      · simp; omega
      · rw [am_put_o (by decide)]
        by_cases z : j = tr.length
        · subst z
          rw [put_at]
          simp
        · have hj' : j < tr.length := by simp at hj; omega
          rw [put_nk z, h7 j hj']
          simp [List.getD, List.getElem?_append_left hj']
    · refine br_t (by show nI 30 ≤ I 64 4; rw [h5]; exact nI_le (by omega) (by omega)) ?_
      have et : tp false tr b = tr := by simp [tp, gl]
      rw [et] at h
      exact h I hD
theorem m_starts (hJ : am_Cl am_meth L xs J) {b : Int32} (hD : MS I0 I k tr pt) (h : ∀ I' : am_I, MS I0 I' k (tp false tr b) pt → Q none I') : J d q_M_starts 0 [some (.ref 66), some (.int b)] [] I Q := by
  obtain ⟨h1, h2, h3, h4, h5, h6, h7⟩ := id hD
  refine am_vc hJ 30 _ _ _ _ _ _ _ ?_
  by_cases gl : tr.length < 30
  · refine br_f (by show ¬ nI 30 ≤ I 66 36; rw [h5]; exact nI_ge gl (by omega)) ?_
    refine ⟨am_vinN h5 gl (by omega), ?_⟩
    have e : am_put I 86 (I 66 36).toNatClampNeg b 66 36 + 1 = nI (tr.length + 1) := by rw [am_put_o (by decide), h5]; exact nI_1 _
    show Q none (am_put (am_put I 86 (I 66 36).toNatClampNeg b) 66 36 (am_put I 86 (I 66 36).toNatClampNeg b 66 36 + 1))
    rw [e, am_clN h5 (by omega)]
    have et : tp false tr b = tr ++ [b] := by simp [tp, gl]
    rw [et] at h
    refine h _ ⟨fun o o1 o2 => by rw [am_put_o o1, am_put_o o2]; exact h1 o o1 o2, fun j hj => ?_, ?_, ?_, ?_, ?_, fun j hj => ?_⟩
    · have : j ≠ 36 := by rintro rfl; revert hj; decide
      rw [put_nk this, am_put_o (by decide)]; exact h2 j hj
    · rw [put_nk (by decide), am_put_o (by decide)]; exact h3
    · rw [put_nk (by decide), am_put_o (by decide)]; exact h4
    · rw [put_at]; simp
    · simp; omega
    · rw [am_put_o (by decide)]
      by_cases z : j = tr.length
      · subst z
        rw [put_at]
        simp
      · have hj' : j < tr.length := by simp at hj; omega
        rw [put_nk z, h7 j hj']
        simp [List.getD, List.getElem?_append_left hj']
  · refine br_t (by show nI 30 ≤ I 66 36; rw [h5]; exact nI_le (by omega) (by omega)) ?_
    have et : tp false tr b = tr := by simp [tp, gl]
    rw [et] at h
    exact h I hD
theorem x_P_hails (hJ : am_Cl am_meth L xs J) {o : Nat} {x : Int32} (hD : DS I0 I k g tr pt) (h : ∀ I' : am_I, DS I0 I' k g (tp pt tr 10) pt → Q (some (.int (x ^^^ nI k))) I') : J (d + 1) q_Person_hails 0 [some (.ref o), some (.int x), some (.ref 64)] [] I Q := by
  refine am_vc hJ 12 _ _ _ _ _ _ _ ?_
  refine x_began hJ hD (fun I1 D1 => ?_)
  show Q (some (.int (x ^^^ I1 64 0))) I1
  rw [D1.2.1]
  exact h I1 D1
theorem x_T_hails (hJ : am_Cl am_meth L xs J) {x : Int32} (hD : DS I0 I k g tr pt) (h : ∀ I' : am_I, DS I0 I' k g (hT 1 pt tr) pt → Q (some (.int (hV 1 (nI k) x))) I') : J (d + 2) q_Tramp_hails 0 [some (.ref 3), some (.int x), some (.ref 64)] [] I Q := by
  refine am_vc hJ 12 _ _ _ _ _ _ _ ?_
  refine x_began hJ hD (fun I1 D1 => ?_)
  refine x_P_hails hJ D1 (fun I2 D2 => ?_)
  exact h I2 D2
theorem x_B_hails (hJ : am_Cl am_meth L xs J) {x : Int32} (hD : DS I0 I k g tr pt) (h : ∀ I' : am_I, DS I0 I' k g (hT 3 pt tr) pt → Q (some (.int (hV 3 (nI k) x))) I') : J (d + 2) q_Bishop_hails 0 [some (.ref 5), some (.int x), some (.ref 64)] [] I Q := by
  refine am_vc hJ 12 _ _ _ _ _ _ _ ?_
  refine x_began hJ hD (fun I1 D1 => ?_)
  refine x_P_hails hJ D1 (fun I2 D2 => ?_)
  exact h I2 D2
theorem x_P_shares (hJ : am_Cl am_meth L xs J) {kd : Nat} {x : Int32} (hk : kd ≤ 5) (hD : DS I0 I k g tr pt) (h : ∀ I' : am_I, DS I0 I' k g (hT kd pt (tp pt tr 11)) pt → Q (some (.int (hV kd (nI k) x * 3))) I') : J (d + 3) q_Person_shares 0 [some (.ref (2 + kd)), some (.int x), some (.ref 64)] [] I Q := by
  refine am_vc hJ 12 _ _ _ _ _ _ _ ?_
  refine x_began hJ hD (fun I1 D1 => ?_)
  rcases (show kd = 0 ∨ kd = 1 ∨ kd = 2 ∨ kd = 3 ∨ kd = 4 ∨ kd = 5 by omega) with rfl | rfl | rfl | rfl | rfl | rfl
  · refine x_P_hails hJ D1 (fun I2 D2 => ?_)
    exact h I2 D2
  · refine x_T_hails hJ D1 (fun I2 D2 => ?_)
    exact h I2 D2
  · refine x_P_hails hJ D1 (fun I2 D2 => ?_)
    exact h I2 D2
  · refine x_B_hails hJ D1 (fun I2 D2 => ?_)
    exact h I2 D2
  · refine x_P_hails hJ D1 (fun I2 D2 => ?_)
    exact h I2 D2
  · refine x_P_hails hJ D1 (fun I2 D2 => ?_)
    exact h I2 D2
theorem x_Pil_shares (hJ : am_Cl am_meth L xs J) {kd : Nat} {x : Int32} (hk : kd = 2 ∨ kd = 3) (hD : DS I0 I k g tr pt) (h : ∀ I' : am_I, DS I0 I' k g (sT kd pt tr) pt → Q (some (.int (sV kd (nI k) (nI g) x))) I') : J (d + 4) q_Pilgrim_shares 0 [some (.ref (2 + kd)), some (.int x), some (.ref 64)] [] I Q := by
  unfold sT sV at h
  rw [if_pos hk, if_pos hk] at h
  refine am_vc hJ 20 _ _ _ _ _ _ _ ?_
  refine x_began hJ hD (fun I1 D1 => ?_)
  have s := fun Q h => x_P_shares (d := d) (x := x) (Q := Q) hJ (kd := kd) (by omega) D1 h
  rcases hk with rfl | rfl
  all_goals
    refine s _ (fun I2 D2 => ?_)
    conv => whnf
    rw [D2.2.2.1]
    exact h I2 D2
theorem x_Tw_shares (hJ : am_Cl am_meth L xs J) {x : Int32} (hD : DS I0 I k g tr pt) (h : ∀ I' : am_I, DS I0 I' k g (sT 5 pt tr) pt → Q (some (.int (sV 5 (nI k) (nI g) x))) I') : J (d + 4) q_Twin_shares 0 [some (.ref 7), some (.int x), some (.ref 64)] [] I Q := by
  refine am_vc hJ 20 _ _ _ _ _ _ _ ?_
  refine x_began hJ hD (fun I1 D1 => ?_)
  refine x_P_shares (kd := 5) hJ (by decide) D1 (fun I2 D2 => ?_)
  have k9 := h I2 D2
  have e : sV 5 (nI k) (nI g) x = 0 - hV 5 (nI k) x * 3 := by
    unfold sV
    rw [if_neg (by decide), if_pos rfl, Int32.zero_sub]
  rw [e] at k9
  exact k9
theorem x_P_weighs (hJ : am_Cl am_meth L xs J) {o : Nat} {x : Int32} (hD : DS I0 I k g tr false) (h : ∀ (I' : am_I) (v : Int32), DS I0 I' k g (tp false tr 12) (wP (nI k) (nI g)) → (wP (nI k) (nI g) = false → v = wR x (nI g + 1 - nI k)) → Q (some (.int v)) I') {z : Option Value} : J (d + 1) q_Person_weighs 0 [some (.ref o), some (.int x), some (.ref 64), z] [] I Q := by
  refine am_vc hJ 30 _ _ _ _ _ _ _ ?_
  refine x_began hJ hD (fun I1 D1 => ?_)
  conv => whnf
  rw [D1.2.2.1, D1.2.1]
  by_cases gg : nI g + 1 - nI k = 0
  · have ep : wP (nI k) (nI g) = true := decide_eq_true gg
    rw [ep] at h
    refine br_t gg ?_
    refine ⟨Or.inr rfl, ?_⟩
    obtain ⟨h1, h2, h3, h4, h5, h6, h7⟩ := D1
    refine h _ _ ⟨fun o o1 o2 => by rw [am_put_o o1]; exact h1 o o1 o2, ?_, ?_, ?_, ?_, h6, fun j hj => ?_⟩ (fun z => by cases z)
    · rw [put_nk (by decide)]; exact h2
    · rw [put_nk (by decide)]; exact h3
    · rw [put_at]; rfl
    · rw [put_nk (by decide)]; exact h5
    · rw [am_put_o (by decide)]; exact h7 j hj
  · have ep : wP (nI k) (nI g) = false := decide_eq_false gg
    rw [ep] at h
    refine br_f gg ?_
    refine ⟨gg, ?_⟩
    exact h I1 _ D1 (fun _ => rfl)
theorem x_F_weighs (hJ : am_Cl am_meth L xs J) {o : Nat} {x : Int32} (ho : o = 6 ∨ o = 7) (hD : DS I0 I k g tr false) (h : ∀ (I' : am_I) (v : Int32), DS I0 I' k g (wT 4 (wP (nI k) (nI g)) tr) (wP (nI k) (nI g)) → (wP (nI k) (nI g) = false → v = wV 4 (nI k) (nI g) x) → Q (some (.int v)) I') : J (d + 2) q_Friend_weighs 0 [some (.ref o), some (.int x), some (.ref 64)] [] I Q := by
  rcases ho with rfl | rfl
  all_goals
    refine am_vc hJ 20 _ _ _ _ _ _ _ ?_
    refine x_began hJ hD (fun I1 D1 => ?_)
    refine x_P_weighs hJ D1 (fun I2 v D2 hv => ?_)
    exact h I2 _ D2 (fun z => by rw [← show v * 2 = wV 4 (nI k) (nI g) x by rw [hv z]; rfl])
theorem x_Tw_weighs (hJ : am_Cl am_meth L xs J) {x : Int32} (hD : DS I0 I k g tr false) (h : ∀ (I' : am_I) (v : Int32), DS I0 I' k g (wT 5 (wP (nI k) (nI g)) tr) (wP (nI k) (nI g)) → (wP (nI k) (nI g) = false → v = wV 5 (nI k) (nI g) x) → Q (some (.int v)) I') : J (d + 3) q_Twin_weighs 0 [some (.ref 7), some (.int x), some (.ref 64)] [] I Q := by
  refine am_vc hJ 20 _ _ _ _ _ _ _ ?_
  refine x_began hJ hD (fun I1 D1 => ?_)
  refine x_F_weighs hJ (Or.inr rfl) D1 (fun I2 v D2 hv => ?_)
  conv => whnf
  rw [D2.2.2.1]
  refine x_P_hails hJ D2 (fun I3 D3 => ?_)
  refine h I3 _ D3 (fun z => ?_)
  show v + (nI g ^^^ nI k) = _
  rw [hv z]
  rfl
end
