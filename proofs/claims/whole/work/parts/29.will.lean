/-! WHAT THE RULES WILL -/
/-- the bits of a row of truths, the latest lowest -/
def Tr (x : Int32) (pl : List Bool) : Prop := (∀ i, i < pl.length → bt x i = pl.getD i false) ∧ (pl = [] → bt x 0 = true)
theorem b_1 (i : Nat) : bt 1 i = decide (i = 0) := by
  rcases Nat.lt_or_ge i 32 with h | h
  · exact (by decide +kernel : ∀ i, i < 32 → bt 1 i = decide (i = 0)) i h
  · rw [b_big h, decide_eq_false (by omega)]
theorem b_m2 : ∀ i, i < 32 → bt (-2) i = decide (i ≠ 0) := by decide +kernel
theorem b_shl1 (x : Int32) {i : Nat} (hi : i < 32) : bt (x <<< ((1 : Int32) &&& 31)) i = (decide (1 ≤ i) && bt x (i - 1)) := b_shl 1 (by omega) x hi
theorem b_ushr1 (x : Int32) (i : Nat) : bt ((x.toUInt32 >>> ((1 : Int32).toUInt32 &&& Int32.toUInt32 31)).toInt32) i = bt x (1 + i) := b_ushr 1 (by omega) x i
theorem Tr.push {x : Int32} {pl : List Bool} (h : Tr x pl) (hl : pl.length < 30) (b : Bool) : Tr ((x <<< ((1 : Int32) &&& 31)) ||| (if b then 1 else 0)) (b :: pl) := by
  refine ⟨fun i hi => ?_, fun z => by cases z⟩
  simp only [List.length_cons] at hi
  have hb : ∀ i, bt (if b then (1 : Int32) else 0) i = (b && decide (i = 0)) := by
    intro i
    cases b
    · simp [b_0]
    · simp [b_1]
  rw [b_or, b_shl1 x (by omega), hb]
  cases i with
  | zero => simp
  | succ i =>
    simp only [Nat.add_sub_cancel, List.getD_cons_succ]
    rw [h.1 i (by omega)]
    simp
theorem Tr.not {x : Int32} {a : Bool} {pl : List Bool} (h : Tr x (a :: pl)) (hl : pl.length < 30) : Tr (x ^^^ 1) ((!a) :: pl) := by
  refine ⟨fun i hi => ?_, fun z => by cases z⟩
  simp only [List.length_cons] at hi
  rw [b_xor, b_1, h.1 i (by simpa using hi)]
  cases i with
  | zero => simp
  | succ i => simp
theorem Tr.and {x : Int32} {a b : Bool} {pl : List Bool} (h : Tr x (a :: b :: pl)) (hl : pl.length < 28) : Tr ((x.toUInt32 >>> ((1 : Int32).toUInt32 &&& Int32.toUInt32 31)).toInt32 &&& ((x &&& 1) ||| (-2))) ((b && a) :: pl) := by
  refine ⟨fun i hi => ?_, fun z => by cases z⟩
  simp only [List.length_cons] at hi
  rw [b_and, b_ushr1, b_or, b_and, b_1, b_m2 i (by omega)]
  cases i with
  | zero =>
    have h0 := h.1 0 (by simp)
    have h1 := h.1 1 (by simp)
    rw [h0, show 1 + 0 = 1 from rfl, h1]
    simp
  | succ i =>
    have h1 := h.1 (1 + (i + 1)) (by simp only [List.length_cons]; omega)
    rw [h1, show 1 + (i + 1) = i + 2 by omega]
    simp
theorem Tr.or {x : Int32} {a b : Bool} {pl : List Bool} (h : Tr x (a :: b :: pl)) (hl : pl.length < 28) : Tr ((x.toUInt32 >>> ((1 : Int32).toUInt32 &&& Int32.toUInt32 31)).toInt32 ||| (x &&& 1)) ((b || a) :: pl) := by
  refine ⟨fun i hi => ?_, fun z => by cases z⟩
  simp only [List.length_cons] at hi
  rw [b_or, b_ushr1, b_and, b_1]
  cases i with
  | zero =>
    have h0 := h.1 0 (by simp)
    have h1 := h.1 1 (by simp)
    rw [h0, show 1 + 0 = 1 from rfl, h1]
    simp
  | succ i =>
    have h1 := h.1 (1 + (i + 1)) (by simp only [List.length_cons]; omega)
    rw [h1, show 1 + (i + 1) = i + 2 by omega]
    simp
theorem Tr.last {x : Int32} : (x &&& 1) = 0 ↔ bt x 0 = false := by
  constructor
  · intro e
    have : bt (x &&& 1) 0 = false := by rw [e, b_0]
    rw [b_and, b_1] at this
    simpa using this
  · intro e
    apply b_ext
    intro i hi
    rw [b_and, b_1, b_0]
    by_cases z : i = 0
    · subst z
      simp [e]
    · simp [z]
def FactsR (I : am_I) (F : Nat → Nat) : Prop := ∀ j, j < 5 → I 18 j = nI (F j) ∧ F j < 2 ^ 20
section
variable {L : Nat} {xs : Nat → Int32} {J : am_J} {d : Nat} {I : am_I} {Q : am_Q}
theorem x_valueOf (hJ : am_Cl am_meth L xs J) {F : Nat → Nat} {v : Nat} (hF : FactsR I F) (hv : v < 30000) (h : Q (some (.int (nI (sp_val F v)))) I) {z : Option Value} : J d q_Road_valueOf 0 [some (.ref 8), some (.int (nI v)), z] [] I Q := by
  unfold sp_val at h
  refine am_vc hJ 20 _ _ _ _ _ _ _ ?_
  by_cases g : 10013 ≤ v
  · have e : nI v - 10013 = nI (v - 10013) := pk_sub (a := v) (b := 10013) g
    refine br_f (by show ¬ nI v - 10013 < 0; rw [e]; exact nI_pos (by omega)) ?_
    by_cases g2 : v < 10018
    · refine br_f (by show ¬ nI 5 ≤ nI v - 10013; rw [e]; exact nI_ge (by omega) (by omega)) ?_
      refine ⟨am_vinN e (by omega) (by omega), ?_⟩
      rw [if_pos ⟨g, g2⟩] at h
      show Q (some (.int (I 18 (nI v - 10013).toNatClampNeg))) I
      rw [am_clN e (by omega), (hF _ (by omega)).1]
      exact h
    · refine br_t (by show nI 5 ≤ nI v - 10013; rw [e]; exact nI_le (by omega) (by omega)) ?_
      rw [if_neg (by omega)] at h
      exact h
  · refine br_t (by show nI v - 10013 < 0; exact pk_sneg (a := v) (b := 10013) (by omega) (by omega)) ?_
    rw [if_neg (by omega)] at h
    exact h
theorem sp_val_lt {F : Nat → Nat} (hF : ∀ j, j < 5 → F j < 2 ^ 20) {v : Nat} (hv : v < 30000) : sp_val F v < 2 ^ 20 := by
  unfold sp_val
  split
  · exact hF _ (by omega)
  · omega
theorem x_compared (hJ : am_Cl am_meth L xs J) {F : Nat → Nat} {sg a b : Nat} (hF : FactsR I F) (hs : sg < 30000) (ha : a < 30000) (hb : b < 30000) (h : Q (some (.int (if sp_cmp F sg a b then 1 else 0))) I) {z1 z2 z3 : Option Value} : J (d + 1) q_Road_compared 0 [some (.ref 8), some (.int (nI sg)), some (.int (nI a)), some (.int (nI b)), z1, z2, z3] [] I Q := by
  have la := sp_val_lt (fun j hj => (hF j hj).2) ha
  have lb := sp_val_lt (fun j hj => (hF j hj).2) hb
  have e1 : nI sg = 20060 ↔ sg = 20060 := by rw [show (20060 : Int32) = nI 20060 from rfl, nI_eq (by omega) (by omega)]
  have e2 : nI sg = 20062 ↔ sg = 20062 := by rw [show (20062 : Int32) = nI 20062 from rfl, nI_eq (by omega) (by omega)]
  unfold sp_cmp at h
  refine am_vc hJ 60 _ _ _ _ _ _ _ ?_
  refine x_valueOf hJ hF ha ?_
  refine x_valueOf hJ hF hb ?_
  refine ⟨fun g => ?_, fun g => ⟨fun g2 => ?_, fun g2 => ?_⟩⟩
  · rw [if_pos (e1.mp g)] at h
    refine ⟨fun g3 => ?_, fun g3 => ?_⟩
    · have g3 : nI (sp_val F b) ≤ nI (sp_val F a) := g3
      rw [nI_leI (by omega) (by omega)] at g3
      refine br_t (by decide) ?_
      rw [decide_eq_false (by omega)] at h
      exact h
    · have g3 : ¬ nI (sp_val F b) ≤ nI (sp_val F a) := g3
      rw [nI_leI (by omega) (by omega)] at g3
      refine br_f (by decide) ?_
      rw [decide_eq_true (by omega)] at h
      exact h
  · rw [if_neg (fun z => g (e1.mpr z)), if_pos (e2.mp g2)] at h
    refine ⟨fun g3 => ?_, fun g3 => ?_⟩
    · have g3 : nI (sp_val F a) ≤ nI (sp_val F b) := g3
      rw [nI_leI (by omega) (by omega)] at g3
      refine br_t (by decide) ?_
      rw [decide_eq_false (by omega)] at h
      exact h
    · have g3 : ¬ nI (sp_val F a) ≤ nI (sp_val F b) := g3
      rw [nI_leI (by omega) (by omega)] at g3
      refine br_f (by decide) ?_
      rw [decide_eq_true (by omega)] at h
      exact h
  · rw [if_neg (fun z => g (e1.mpr z)), if_neg (fun z => g2 (e2.mpr z))] at h
    refine ⟨fun g3 => ?_, fun g3 => ?_⟩
    · have g3 : nI (sp_val F a) = nI (sp_val F b) := g3
      rw [nI_eq (by omega) (by omega)] at g3
      refine br_f (by decide) ?_
      rw [decide_eq_true g3] at h
      exact h
    · have g3 : ¬ nI (sp_val F a) = nI (sp_val F b) := g3
      rw [nI_eq (by omega) (by omega)] at g3
      refine br_t (by decide) ?_
      rw [decide_eq_false g3] at h
      exact h
end
