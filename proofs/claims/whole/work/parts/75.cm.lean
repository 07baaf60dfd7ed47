/-! CONSTRUCTORS: a small machine that makes cells, and that the real one follows it -/
abbrev cm_E : Type := (FieldType × Nat × List Value) ⊕ (Nat × List Value)
abbrev cm_C : Type := List (Nat × cm_E)
abbrev cm_L : Type := List (Nat × Value)
/-- pc, locals, stack, cells, next cell, cells and slots used -/
abbrev cm_S : Type := Nat × cm_L × List Value × cm_C × Nat × Nat × Nat
/-- a method: class, code, locals; its links of fields and of classes -/
abbrev cm_T : Type := String × ByteArray × Nat × List (Nat × Nat × Nat) × List (Nat × Nat)
def cm_ri : Value → Int32
  | .int x => x
  | _ => 0
def cm_rr (ad : Nat → Nat) : Value → Option Nat
  | .ref o => some (ad o)
  | _ => none
def cm_ar (ad : Nat → Nat) (ty : FieldType) (l : List Value) : (Nat → Int32) ⊕ (Nat → Int64) ⊕ (Nat → UInt32) ⊕ (Nat → UInt64) ⊕ (Nat → Option Nat) := match am_isR ty with
  | true => .inr (.inr (.inr (.inr (fun j => cm_rr ad (l.getD j .null)))))
  | false => .inl (fun j => cm_ri (l.getD j .null))
def cm_e (cA : FieldType → ClassId) (ad : Nat → Nat) : cm_E → va_E
  | .inl (ty, n, l) => .inl (cA ty, n, cm_ar ad ty l)
  | .inr (ci, fs) => .inr (ci, fs.map (am_up ad))
def cm_w (cA : FieldType → ClassId) (ad : Nat → Nat) (C : cm_C) : va_W := C.map fun x => (ad x.1, cm_e cA ad x.2)
def cm_ul (ad : Nat → Nat) (l : cm_L) : cm_L := l.map fun q => (q.1, am_up ad q.2)
def cm_get : cm_L → Nat → Option Value
  | [], _ => none
  | (j, v) :: l, i => match Nat.beq j i with
    | true => some v
    | false => cm_get l i
theorem cm_get_mem : ∀ (l : cm_L) (i : Nat) (v : Value), cm_get l i = some v → (i, v) ∈ l
  | [], _, _, h => by cases h
  | (j, w) :: l, i, v, h => by
    unfold cm_get at h
    split at h
    · next e =>
      cases h
      rw [Nat.eq_of_beq_eq_true e]
      exact List.mem_cons_self
    · exact List.mem_cons_of_mem _ (cm_get_mem l i v h)
def cm_put (l : cm_L) (i : Nat) (v : Value) : cm_L := (i, v) :: l.filter (fun q => !(q.1 == i) && !(q.1 + 1 == i && q.2.category == 2))
theorem cm_put_up (ad : Nat → Nat) (l : cm_L) (i : Nat) (v : Value) : (i, am_up ad v) :: (cm_ul ad l).filter (fun q => !(q.1 == i) && !(q.1 + 1 == i && q.2.category == 2)) = cm_ul ad (cm_put l i v) := by
  unfold cm_ul cm_put
  rw [List.filter_map]
  simp only [List.map_cons, Function.comp_def, am_up_cat]
theorem cm_get_at {ad : Nat → Nat} {ls : Array Slot} {nL i : Nat} {l : cm_L} {v : Value} (h : lv_has ls nL (cm_ul ad l)) (hg : cm_get l i = some v) : ls[i]? = some (.val (am_up ad v)) :=
  h.2.2 (i, am_up ad v) (List.mem_map.mpr ⟨(i, v), cm_get_mem l i v hg, rfl⟩)
def cm_fd : cm_C → Nat → Option (Nat × cm_E)
  | [], _ => none
  | (j, e) :: C, o => match Nat.beq j o with
    | true => some (0, e)
    | false => match cm_fd C o with
      | some (i, e) => some (i + 1, e)
      | none => none
theorem cm_fd_at : ∀ (C : cm_C) (o i : Nat) (e : cm_E), cm_fd C o = some (i, e) → C[i]? = some (o, e)
  | [], _, _, _, h => by cases h
  | (j, w) :: C, o, i, e, h => by
    unfold cm_fd at h
    split at h
    · next q =>
      cases h
      rw [Nat.eq_of_beq_eq_true q]
      rfl
    · split at h
      · next i' e' q =>
        cases h
        exact cm_fd_at C o i' _ q
      · cases h
theorem cm_w_at {cA : FieldType → ClassId} {ad : Nat → Nat} {wr : va_W} {C : cm_C} {o i : Nat} {e : cm_E} (h : cm_fd C o = some (i, e)) : (wr ++ cm_w cA ad C)[wr.length + i]? = some (ad o, cm_e cA ad e) := by
  rw [List.getElem?_append_right (by omega), Nat.add_sub_cancel_left]
  unfold cm_w
  rw [List.getElem?_map, cm_fd_at C o i e h]
  rfl
theorem cm_w_set {cA : FieldType → ClassId} {ad : Nat → Nat} {wr : va_W} {C : cm_C} {o i : Nat} {e : cm_E} {x : va_E} (hx : x = cm_e cA ad e) : (wr ++ cm_w cA ad C).set (wr.length + i) (ad o, x) = wr ++ cm_w cA ad (C.set i (o, e)) := by
  subst hx
  rw [List.set_append_right _ _ (by omega), Nat.add_sub_cancel_left]
  unfold cm_w
  rw [List.map_set]
theorem cm_w_app {cA : FieldType → ClassId} {ad : Nat → Nat} {wr : va_W} {C : cm_C} {o : Nat} {e : cm_E} {q : Nat} {x : va_E} (hq : q = ad o) (hx : x = cm_e cA ad e) : (wr ++ cm_w cA ad C) ++ [(q, x)] = wr ++ cm_w cA ad (C ++ [(o, e)]) := by
  subst hq; subst hx
  unfold cm_w
  rw [List.map_append, List.append_assoc]
  rfl
/-! all addresses below the next one -/
def cm_nv (n : Nat) : Value → Bool
  | .ref o => Nat.blt o n
  | _ => true
def cm_ne (n : Nat) : cm_E → Bool
  | .inl (_, _, l) => l.all (cm_nv n)
  | .inr (_, l) => l.all (cm_nv n)
def cm_nc (n : Nat) (C : cm_C) : Bool := C.all fun x => Nat.blt x.1 n && cm_ne n x.2
def cm_nl (n : Nat) (l : cm_L) : Bool := l.all fun x => cm_nv n x.2
def cm_ag (n : Nat) (ad ad' : Nat → Nat) : Prop := ∀ i, i < n → ad' i = ad i
theorem cm_ag_v {n : Nat} {ad ad' : Nat → Nat} (h : cm_ag n ad ad') {v : Value} (hv : cm_nv n v = true) : am_up ad' v = am_up ad v ∧ cm_rr ad' v = cm_rr ad v := by
  cases v with
  | ref o =>
    have ho : o < n := Nat.le_of_ble_eq_true hv
    simp only [am_up, cm_rr, h o ho, and_self]
  | _ => exact ⟨rfl, rfl⟩
theorem cm_ag_l {n : Nat} {ad ad' : Nat → Nat} (h : cm_ag n ad ad') {l : List Value} (hl : l.all (cm_nv n) = true) : l.map (am_up ad') = l.map (am_up ad) ∧ (fun j => cm_rr ad' (l.getD j .null)) = (fun j => cm_rr ad (l.getD j .null)) := by
  rw [List.all_eq_true] at hl
  refine ⟨List.map_congr_left fun v hv => (cm_ag_v h (hl v hv)).1, ?_⟩
  funext j
  by_cases hj : j < l.length
  · rw [List.getD_eq_getElem?_getD, List.getElem?_eq_getElem hj, Option.getD_some]
    exact (cm_ag_v h (hl _ (List.getElem_mem hj))).2
  · rw [List.getD_eq_getElem?_getD, List.getElem?_eq_none (by omega), Option.getD_none]
    rfl
theorem cm_ag_e {n : Nat} {cA : FieldType → ClassId} {ad ad' : Nat → Nat} (h : cm_ag n ad ad') {e : cm_E} (he : cm_ne n e = true) : cm_e cA ad' e = cm_e cA ad e := by
  cases e with
  | inl x =>
    obtain ⟨ty, k, l⟩ := x
    unfold cm_e cm_ar
    dsimp only
    rw [(cm_ag_l h he).2]
  | inr x =>
    obtain ⟨ci, fs⟩ := x
    unfold cm_e
    dsimp only
    rw [(cm_ag_l h he).1]
theorem cm_ag_c {n : Nat} {cA : FieldType → ClassId} {ad ad' : Nat → Nat} (h : cm_ag n ad ad') {C : cm_C} (hc : cm_nc n C = true) : cm_w cA ad' C = cm_w cA ad C := by
  unfold cm_nc at hc
  rw [List.all_eq_true] at hc
  unfold cm_w
  refine List.map_congr_left fun x hx => ?_
  have := hc x hx
  rw [Bool.and_eq_true] at this
  rw [h x.1 (Nat.le_of_ble_eq_true this.1), cm_ag_e h this.2]
theorem cm_ag_u {n : Nat} {ad ad' : Nat → Nat} (h : cm_ag n ad ad') {l : cm_L} (hl : cm_nl n l = true) : cm_ul ad' l = cm_ul ad l := by
  unfold cm_nl at hl
  rw [List.all_eq_true] at hl
  unfold cm_ul
  exact List.map_congr_left fun x hx => by rw [(cm_ag_v h (hl x hx)).1]
/-! the machine -/
def cm_lf : List (Nat × Nat × Nat) → Nat → Option (Nat × Nat)
  | [], _ => none
  | x :: l, i => match Nat.beq x.1 i with
    | true => some x.2
    | false => cm_lf l i
theorem cm_lf_mem : ∀ (l : List (Nat × Nat × Nat)) (i : Nat) (x : Nat × Nat), cm_lf l i = some x → (i, x) ∈ l
  | [], _, _, h => by cases h
  | y :: l, i, x, h => by
    unfold cm_lf at h
    split at h
    · next q =>
      cases h
      rw [← Nat.eq_of_beq_eq_true q]
      exact List.mem_cons_self
    · exact List.mem_cons_of_mem _ (cm_lf_mem l i x h)
def cm_lc : List (Nat × Nat) → Nat → Option Nat
  | [], _ => none
  | x :: l, i => match Nat.beq x.1 i with
    | true => some x.2
    | false => cm_lc l i
theorem cm_lc_mem : ∀ (l : List (Nat × Nat)) (i : Nat) (x : Nat), cm_lc l i = some x → (i, x) ∈ l
  | [], _, _, h => by cases h
  | y :: l, i, x, h => by
    unfold cm_lc at h
    split at h
    · next q =>
      cases h
      rw [← Nat.eq_of_beq_eq_true q]
      exact List.mem_cons_self
    · exact List.mem_cons_of_mem _ (cm_lc_mem l i x h)
def cm_inb (w : Cond) : Bool := decide (w ∈ lw_tbl) && goodWord w
/-- the links of a method are known -/
def cm_okT (T : cm_T) : Bool :=
  T.2.2.2.1.all (fun x => match vwCl[x.2.1]? with
    | some q => decide (x.2.2 < q.2.2) && (decide ((q.2.1 x.2.2).1 = T.1) && cm_inb (.fieldLink T.1 x.1 T.1 (q.2.1 x.2.2).2.1 (q.2.1 x.2.2).2.2.1))
    | none => false) &&
  T.2.2.2.2.all (fun x => match vwCl[x.2]? with
    | some q => cm_inb (.classLink T.1 x.1 q.1) && (cm_inb (.instantiable q.1 q.2.2) && cm_inb (.initialized q.1))
    | none => false)
def cm_dv (t : Nat) : Value := match t with
  | 1 => .null
  | _ => .int 0
def cm_df (ci : Nat) : List Value := (List.range (am_cn ci)).map fun k => cm_dv (am_ft ci k)
def cm_okF (ci : Nat) (q : vw_C) : Bool := (List.range q.2.2).all fun k => match parseFieldDescriptor (q.2.1 k).2.2.1 with
  | some ty => decide (defaultValue ty = vp_V (cm_df ci) k) && (decide (am_ft ci k = 0 → ty = .int) && decide (am_ft ci k = 1 → am_isR ty = true))
  | none => false
theorem cm_okF_all : ∀ (ci : Nat) (q : vw_C), vwCl[ci]? = some q → cm_okF ci q = true := by
  intro ci q h
  match ci, h with
  | 0, h => cases h; decide +kernel
  | 1, h => cases h; decide +kernel
  | 2, h => cases h; decide +kernel
  | 3, h => cases h; decide +kernel
  | 4, h => cases h; decide +kernel
  | 5, h => cases h; decide +kernel
  | 6, h => cases h; decide +kernel
  | 7, h => cases h; decide +kernel
  | 8, h => cases h; decide +kernel
  | 9, h => cases h; decide +kernel
  | 10, h => cases h; decide +kernel
  | 11, h => cases h; decide +kernel
  | 12, h => cases h; decide +kernel
  | n + 13, h => simp [vwCl] at h
theorem cm_fty {ci k : Nat} {q : vw_C} (h : vwCl[ci]? = some q) (hk : k < q.2.2) : ∃ ty, parseFieldDescriptor (q.2.1 k).2.2.1 = some ty ∧ defaultValue ty = vp_V (cm_df ci) k ∧ (am_ft ci k = 0 → ty = .int) ∧ (am_ft ci k = 1 → am_isR ty = true) := by
  have h1 := cm_okF_all ci q h
  unfold cm_okF at h1
  rw [List.all_eq_true] at h1
  have h2 := h1 k (List.mem_range.mpr hk)
  split at h2
  · next ty e =>
    simp only [Bool.and_eq_true, decide_eq_true_eq] at h2
    exact ⟨ty, e, h2.1, h2.2.1, h2.2.2⟩
  · cases h2
def cm_vok (ci f : Nat) : Value → Bool
  | .int _ => Nat.beq (am_ft ci f) 0
  | .ref _ => Nat.beq (am_ft ci f) 1
  | _ => false
