/-! THE REAL MACHINE HOLDS AN ABSTRACT STATE: addresses of the cells by 'ad', array classes by 'cA' -/
def am_up (ad : Nat → Nat) : Value → Value
  | .ref o => .ref (ad o)
  | v => v
theorem am_up_cat (ad : Nat → Nat) (v : Value) : (am_up ad v).category = v.category := by cases v <;> rfl
def am_cn (ci : Nat) : Nat := match am_nth [0, 6, 5, 0, 0, 0, 11, 20, 9, 0, 0, 15, 39] ci with
  | some n => n
  | none => 0
def am_fv (ad : Nat → Nat) (I : am_I) (o ci k : Nat) : Value := match am_ft ci k with
  | 1 => va_rf ((am_R o k).map ad)
  | _ => .int (I o k)
def am_fs (ad : Nat → Nat) (I : am_I) (o ci : Nat) : List Value := (List.range (am_cn ci)).map (am_fv ad I o ci)
def am_isR : FieldType → Bool
  | .object _ => true
  | .array _ => true
  | _ => false
def am_ar (ad : Nat → Nat) (I : am_I) (o : Nat) (ty : FieldType) : (Nat → Int32) ⊕ (Nat → Int64) ⊕ (Nat → UInt32) ⊕ (Nat → UInt64) ⊕ (Nat → Option Nat) := match am_isR ty with
  | true => .inr (.inr (.inr (.inr (fun j => (am_R o j).map ad))))
  | false => .inl (I o)
def am_cell (cA : FieldType → ClassId) (ad : Nat → Nat) (I : am_I) (o : Nat) : va_E := match am_G o with
  | some (.inl ci) => .inr (ci, am_fs ad I o ci)
  | some (.inr (ty, n)) => .inl (cA ty, n, am_ar ad I o ty)
  | none => .inl (cA .int, 0, .inl (I o))
def am_ws (cA : FieldType → ClassId) (ad : Nat → Nat) (I : am_I) : va_W := (List.range am_n).map (fun o => (ad o, am_cell cA ad I o))
def am_A (ad : Nat → Nat) : Nat → Prop := fun q => ∃ o, o < am_n ∧ q = ad o
def am_inj (ad : Nat → Nat) : Prop := ∀ i j, i < am_n → j < am_n → ad i = ad j → i = j
def am_tl : List FieldType := [.int, .byte, .char, .object "BrokenLoaves$Person", .object "BrokenLoaves$Course", .array .int]
def am_tys (cA : FieldType → ClassId) : List (ClassId × FieldType) := am_tl.map (fun t => (cA t, t))
theorem am_nth_lt {α : Type} : ∀ (l : List α) (k : Nat) {x : α}, am_nth l k = some x → k < l.length
  | [], _, _, h => by simp [am_nth] at h
  | _ :: l, 0, _, _ => by simp
  | _ :: l, n + 1, _, h => by have := am_nth_lt l n h; simp; omega
theorem am_nth_get {α : Type} : ∀ (l : List α) (k : Nat), am_nth l k = l[k]?
  | [], _ => by simp [am_nth]
  | _ :: l, 0 => by simp [am_nth]
  | _ :: l, n + 1 => by simp [am_nth, am_nth_get l n]
theorem am_G_lt {o : Nat} {x : am_S} (h : am_G o = some x) : o < am_n := am_nth_lt am_Gl o h
theorem am_ws_at (cA : FieldType → ClassId) (ad : Nat → Nat) (I : am_I) {o : Nat} (h : o < am_n) : (am_ws cA ad I)[o]? = some (ad o, am_cell cA ad I o) := by
  unfold am_ws
  rw [List.getElem?_map, List.getElem?_range h]
  rfl
theorem am_ws_none (cA : FieldType → ClassId) (ad : Nat → Nat) (I : am_I) {o : Nat} (h : ¬ o < am_n) : (am_ws cA ad I)[o]? = none := by
  unfold am_ws
  rw [List.getElem?_map, List.getElem?_eq_none (by simp; omega)]
  rfl
theorem am_ws_D {ad : Nat → Nat} (hi : am_inj ad) (cA : FieldType → ClassId) (I : am_I) : va_D (am_A ad) (am_ws cA ad I) := by
  refine ⟨fun i j x y h1 h2 e => ?_, fun k q h => ?_⟩
  · by_cases hi1 : i < am_n
    · by_cases hj : j < am_n
      · rw [am_ws_at cA ad I hi1] at h1
        rw [am_ws_at cA ad I hj] at h2
        cases h1
        cases h2
        exact hi i j hi1 hj e
      · rw [am_ws_none cA ad I hj] at h2
        cases h2
    · rw [am_ws_none cA ad I hi1] at h1
      cases h1
  · by_cases hk : k < am_n
    · rw [am_ws_at cA ad I hk] at h
      cases h
      exact ⟨k, hk, rfl⟩
    · rw [am_ws_none cA ad I hk] at h
      cases h
theorem am_put_o {I : am_I} {o k o' : Nat} {v : Int32} (h : o' ≠ o) : am_put I o k v o' = I o' := by
  funext j
  simp [am_put, h]
theorem am_put_s {I : am_I} {o k : Nat} {v : Int32} : am_put I o k v o = upd (I o) k v := by
  funext j
  simp [am_put, upd]
theorem am_cell_o (cA : FieldType → ClassId) (ad : Nat → Nat) {I I' : am_I} {o : Nat} (h : I' o = I o) : am_cell cA ad I' o = am_cell cA ad I o := by
  unfold am_cell am_ar am_fs am_fv
  rw [h]
theorem am_ws_set (cA : FieldType → ClassId) (ad : Nat → Nat) {I I' : am_I} {o : Nat} {e : va_E} (ho : o < am_n) (he : e = am_cell cA ad I' o) (h : ∀ o', o' ≠ o → I' o' = I o') : (am_ws cA ad I).set o (ad o, e) = am_ws cA ad I' := by
  subst he
  refine List.ext_getElem? fun j => ?_
  by_cases hj : j = o
  · subst hj
    rw [am_ws_at cA ad I' ho, List.getElem?_set_self (by simp [am_ws]; exact ho)]
  · rw [List.getElem?_set_ne (Ne.symm hj)]
    by_cases hn : j < am_n
    · rw [am_ws_at cA ad I hn, am_ws_at cA ad I' hn, am_cell_o cA ad (h j hj)]
    · rw [am_ws_none cA ad I hn, am_ws_none cA ad I' hn]
theorem am_fs_at {ad : Nat → Nat} {I : am_I} {o ci k : Nat} (h : k < am_cn ci) : (am_fs ad I o ci)[k]? = some (am_fv ad I o ci k) := by
  unfold am_fs
  rw [List.getElem?_map, List.getElem?_range h]
  rfl
theorem am_fs_put {ad : Nat → Nat} {I : am_I} {o ci k : Nat} {v : Int32} (h : k < am_cn ci) (ht : am_ft ci k ≠ 1) : (am_fs ad I o ci).set k (.int v) = am_fs ad (am_put I o k v) o ci := by
  refine List.ext_getElem? fun j => ?_
  by_cases hj : j = k
  · subst hj
    rw [List.getElem?_set_self (by simp [am_fs]; exact h), am_fs_at h]
    unfold am_fv
    split
    · next e => exact absurd e ht
    · simp [am_put]
  · rw [List.getElem?_set_ne (Ne.symm hj)]
    by_cases hn : j < am_cn ci
    · rw [am_fs_at hn, am_fs_at hn]
      unfold am_fv
      split
      · rfl
      · simp [am_put, hj]
    · unfold am_fs
      rw [List.getElem?_eq_none (by simp; omega), List.getElem?_eq_none (by simp; omega)]
/-- the texts: their addresses, pool places -/
def am_sx : List Nat := [90, 92, 94, 96, 98, 100, 102, 104, 106, 108, 110, 112, 114, 116, 118, 120, 122, 124]
def am_st : List String := ["person", "tramp", "pilgrim", "bishop", "friend", "double", "break", "pass", "shut", "if", "or", "and", "not", "day", "tale", "strange", "snow", "number"]
def am_slen : List Nat := am_txt.map List.length
/-- the words that stay true whatever is linked, and the two links of nest mates -/
def am_tb : List Cond := lw_tbl.filter goodWord
def am_nest : List (String × Nat × MethodName × String) := [("BrokenLoaves$Road", 109, ⟨"BrokenLoaves", "within", "(III)Z"⟩, "BrokenLoaves"), ("BrokenLoaves$RuleText", 70, ⟨"BrokenLoaves", "within", "(III)Z"⟩, "BrokenLoaves")]
def am_X (ad : Nat → Nat) (L : Nat) (xs : Nat → Int32) (U : State) : Prop :=
  (va_X (ad am_scr) L xs U U.heap ∧ ¬ am_A ad (ad am_scr)) ∧ (vk_S 18 am_slen am_txt (fun w => ad (1000 + w)) (fun w => ad (2000 + w)) (am_A ad) U U.heap ∧ va_Z "java/lang/String" "COMPACT_STRINGS" "Z" (.int 1) (am_A ad) U U.heap ∧ va_Zq "jdk/internal/util/Preconditions" "SIOOBE_FORMATTER" "Ljava/util/function/BiFunction;" (am_A ad) U U.heap) ∧ (∀ w, w < 18 → vk_R "BrokenLoaves$RuleText" (am_sx.getD w 0) (am_st.getD w "") (ad (1000 + w)) U) ∧ ∀ q ∈ am_nest, va_Nw (.methodLinkNest q.1 q.2.1 q.2.2.1 q.2.2.2) U
/-- the world at a method's entry -/
def am_Wd (D : va_G) (cA : FieldType → ClassId) (ad : Nat → Nat) (L : Nat) (xs : Nat → Int32) (I : am_I) (U : State) : Prop :=
  va_P D vwCl (am_ws cA ad I) U.heap ∧ va_K D vwCl (am_tys cA) U ∧ am_X ad L xs U
def am_Qc (D : va_G) (cA : FieldType → ClassId) (ad : Nat → Nat) (Q : am_Q) : Array Value → State → Outcome → State → Prop := fun _ st oc t =>
  (∃ (r : Option Value) (I' : am_I), oc = .returned (r.map (am_up ad)) ∧ Q r I' ∧ va_P D vwCl (am_ws cA ad I') t.heap) ∧ va_F (am_A ad) st t
def am_rm (d : Nat) : Room := { frames := d, cells := 0, slots := 0, locals := 64 * d }
def am_wd (M : am_M) : List Cond := Cond.code M.1 M.2.1 M.2.2.1 M.2.2.2.1 :: am_tb
/-- what stands about a method that runs -/
def am_Cx (D : va_G) (cA : FieldType → ClassId) (ad : Nat → Nat) (L : Nat) (xs : Nat → Int32) (M : am_M) (d : Nat) (p : Program) (R : Room) (s : State) (m : MethodId) (args : Array Value) (c : Code) (cells slots : Nat) : Prop :=
  p.tables.exec = Jvm.exec ∧ c.code = M.2.1 ∧ c.maxLocals = M.2.2.1 ∧ s.vm.findClass M.1.cls = some m.cls ∧ (∀ w ∈ am_tb, w.before args s = true) ∧ va_K D vwCl (am_tys cA) s ∧ (d ≤ R.frames ∧ 64 * d ≤ R.locals) ∧ (cells ≤ R.cells ∧ slots ≤ R.slots) ∧ am_X ad L xs s
def am_ls (ad : Nat → Nat) (M : am_M) (mi : Nat) (ls : Array Slot) (lv : List (Option Value)) : Prop :=
  ls.size = M.2.2.1 ∧ lv_wf ls ∧ (∀ i v, am_nth lv i = some (some v) → ls[i]? = some (.val (am_up ad v))) ∧ ∀ i v, am_nth lv i = some (some v) → v.category = 2 → i = 1 ∧ am_lg mi = true
def am_rt (M : am_M) (pc : Nat) (r : Option Value) : Prop := match r with
  | none => decode M.2.1 pc = .ok (.return_, 1) ∧ M.2.2.2.1 = none
  | some (.int v) => decode M.2.1 pc = .ok (.ireturn, 1) ∧ ((M.2.2.2.1 = some .int) ∨ (M.2.2.2.1 = some .boolean ∧ (v = 0 ∨ v = 1)))
  | some (.ref _) => decode M.2.1 pc = .ok (.areturn, 1) ∧ ((∃ n, M.2.2.2.1 = some (.object n)) ∨ ∃ t, M.2.2.2.1 = some (.array t))
  | _ => False
/-- THE JUDGEMENT ABOUT THE REAL MACHINE: from every state that holds the abstract one the method comes to an end with Q (or to whatever Z its ends lead to) -/
def am_Jm (l : Launch) (D : va_G) (cA : FieldType → ClassId) (ad : Nat → Nat) (L : Nat) (xs : Nat → Int32) : am_J := fun d mi pc lv st I Q =>
  ∀ (M : am_M), am_meth mi = some M → ∀ (p : Program) (e : Env) (R : Room) (s : State) (m : MethodId) (args : Array Value) (below : List Frame) (meth : Method) (c : Code) (H : Heap) (locs : List Loc) (cells slots : Nat) (ls : Array Slot) (Z : State → Prop),
    am_Cx D cA ad L xs M d p R s m args c cells slots → va_P D vwCl (am_ws cA ad I) H → va_S (am_A ad) s.heap H locs → am_ls ad M mi ls lv →
    (∀ (r : Option Value) (I' : am_I) (H' : Heap) (locs' : List Loc) (ls' : Array Slot) (pc' : Nat), Q r I' → va_P D vwCl (am_ws cA ad I') H' → va_S (am_A ad) s.heap H' locs' → am_rt M pc' r → W p l e R s m args below meth c H' locs' cells slots Z (F0 m pc' ls' (r.map (am_up ad)).toList)) →
    W p l e R s m args below meth c H locs cells slots Z (F0 m pc ls (st.map (am_up ad)))
theorem am_Jm_mo (l : Launch) (D : va_G) (cA : FieldType → ClassId) (ad : Nat → Nat) (L : Nat) (xs : Nat → Int32) : am_mo (am_Jm l D cA ad L xs) := by
  intro d mi pc lv st I Q Q' hQ h M hM p e R s m args below meth c H locs cells slots ls Z hC hP hS hl hr
  exact h M hM p e R s m args below meth c H locs cells slots ls Z hC hP hS hl (fun r I' H' locs' ls' pc' q => hr r I' H' locs' ls' pc' (hQ r I' q))
