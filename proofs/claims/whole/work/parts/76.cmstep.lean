/-! evaluation in steps: a list is built before it is used -/
def cm_sp {α β : Type} : List α → (List α → β) → β
  | [], k => k []
  | x :: l, k => cm_sp l fun l' => k (x :: l')
theorem cm_sp_eq {α β : Type} : ∀ (l : List α) (k : List α → β), cm_sp l k = k l
  | [], _ => rfl
  | x :: l, k => by unfold cm_sp; rw [cm_sp_eq l]
def cm_fl {β : Type} : List Value → (List Value → β) → β
  | [], k => k []
  | v :: l, k => match v with
    | .int x => cm_fl l fun l' => k (.int x :: l')
    | .ref o => cm_fl l fun l' => k (.ref o :: l')
    | .null => cm_fl l fun l' => k (.null :: l')
    | w => cm_fl l fun l' => k (w :: l')
theorem cm_fl_eq {β : Type} : ∀ (l : List Value) (k : List Value → β), cm_fl l k = k l
  | [], _ => rfl
  | v :: l, k => by unfold cm_fl; cases v <;> dsimp only <;> rw [cm_fl_eq l]
def cm_c {α : Type} (b : Bool) (x : α) : Option α := match b with
  | true => some x
  | false => none
theorem cm_c_eq {α : Type} {b : Bool} {x y : α} (h : cm_c b x = some y) : b = true ∧ y = x := by
  unfold cm_c at h
  split at h
  · cases h; exact ⟨rfl, rfl⟩
  · cases h
def cm_cs : List Nat := [4, 0, 3, 5, 9, 10]
def cm_fresh (nx : Nat) (lv : cm_L) (st : List Value) (C : cm_C) : Bool := cm_nl nx lv && (st.all (cm_nv nx) && cm_nc nx C)
def cm_pos (z : Int32) (N : Nat) : Bool := decide (¬ z < 0) && Nat.blt z.toNatClampNeg N
def cm_tt (ty : FieldType) : Bool := decide (ty = .int ∨ ty = .byte ∨ ty = .char)
def cm_jmp (pc : Nat) (z : Int) : Bool := decide ((pc : Int) + z = (((pc : Int) + z).toNat : Int))
def cm_ex (T : cm_T) (Kc Ks : Nat) (i : Instr) (w : Nat) : cm_S → Option cm_S
  | (pc, lv, st, C, nx, k, n) => match i with
    | .iconst z => cm_c (Nat.beq w 1) (pc + 1, lv, .int (Int32.ofInt z) :: st, C, nx, k, n)
    | .bipush z => cm_c (Nat.beq w 2) (pc + 2, lv, .int ((Int8.ofInt z).toInt32) :: st, C, nx, k, n)
    | .sipush z => cm_c (Nat.beq w 3) (pc + 3, lv, .int ((Int16.ofInt z).toInt32) :: st, C, nx, k, n)
    | .dup => match st with
      | v :: st' => cm_c (Nat.beq w 1 && Nat.beq v.category 1) (pc + 1, lv, v :: v :: st', C, nx, k, n)
      | _ => none
    | .aload_n q => match cm_get lv q.val with
      | some (.ref o) => cm_c (Nat.beq w 1) (pc + 1, lv, .ref o :: st, C, nx, k, n)
      | _ => none
    | .iload_n q => match cm_get lv q.val with
      | some (.int o) => cm_c (Nat.beq w 1) (pc + 1, lv, .int o :: st, C, nx, k, n)
      | _ => none
    | .istore_n q => match st with
      | .int x :: st' => cm_sp (cm_put lv q.val (.int x)) fun lv' => cm_c (Nat.beq w 1 && Nat.blt q.val T.2.2.1) (pc + 1, lv', st', C, nx, k, n)
      | _ => none
    | .astore_n q => match st with
      | .ref x :: st' => cm_sp (cm_put lv q.val (.ref x)) fun lv' => cm_c (Nat.beq w 1 && Nat.blt q.val T.2.2.1) (pc + 1, lv', st', C, nx, k, n)
      | _ => none
    | .iinc j z => match cm_get lv j with
      | some (.int x) => cm_sp (cm_put lv j (.int (x + Int32.ofInt z))) fun lv' => cm_c (Nat.beq w 3 && Nat.blt j T.2.2.1) (pc + 3, lv', st, C, nx, k, n)
      | _ => none
    | .goto z => cm_c (Nat.beq w 3 && cm_jmp pc z) (((pc : Int) + z).toNat, lv, st, C, nx, k, n)
    | .if_icmp .ge z => match st with
      | .int y :: .int x :: st' => match decide (y ≤ x) with
        | true => cm_c (Nat.beq w 3 && cm_jmp pc z) (((pc : Int) + z).toNat, lv, st', C, nx, k, n)
        | false => cm_c (Nat.beq w 3 && cm_jmp pc z) (pc + 3, lv, st', C, nx, k, n)
      | _ => none
    | .iadd => match st with
      | .int y :: .int x :: st' => cm_c (Nat.beq w 1) (pc + 1, lv, .int (x + y) :: st', C, nx, k, n)
      | _ => none
    | .arraylength => match st with
      | .ref o :: st' => match cm_fd C o with
        | some (_, .inl (ty, N, _)) => cm_c (Nat.beq w 1 && decide (ty ∈ am_tl)) (pc + 1, lv, .int (Int32.ofNat N) :: st', C, nx, k, n)
        | _ => none
      | _ => none
    | .getfield j => match st with
      | .ref o :: st' => match cm_lf T.2.2.2.1 j, cm_fd C o with
        | some (ci, f), some (_, .inr (ci', fs)) => match fs[f]? with
          | some v => cm_c (Nat.beq w 3 && Nat.beq ci ci') (pc + 3, lv, v :: st', C, nx, k, n)
          | none => none
        | _, _ => none
      | _ => none
    | .putfield j => match st with
      | v :: .ref o :: st' => match cm_lf T.2.2.2.1 j, cm_fd C o with
        | some (ci, f), some (q, .inr (ci', fs)) => cm_fl (fs.set f v) fun fs' => cm_sp (C.set q (o, .inr (ci', fs'))) fun C' => cm_c (Nat.beq w 3 && (Nat.beq ci ci' && (cm_vok ci f v && Nat.blt f fs.length))) (pc + 3, lv, st', C', nx, k, n)
        | _, _ => none
      | _ => none
    | .iastore => match st with
      | .int x :: .int z :: .ref o :: st' => match cm_fd C o with
        | some (q, .inl (ty, N, l)) => cm_fl (l.set z.toNatClampNeg (.int x)) fun l2 => cm_sp (C.set q (o, .inl (ty, N, l2))) fun C' => cm_c (Nat.beq w 1 && (decide (ty = .int) && (cm_pos z N && Nat.beq N l.length))) (pc + 1, lv, st', C', nx, k, n)
        | _ => none
      | _ => none
    | .castore => match st with
      | .int x :: .int z :: .ref o :: st' => match cm_fd C o with
        | some (q, .inl (ty, N, l)) => cm_fl (l.set z.toNatClampNeg (.int (vp_nar .char x))) fun l2 => cm_sp (C.set q (o, .inl (ty, N, l2))) fun C' => cm_c (Nat.beq w 1 && (decide (ty = .char) && (cm_pos z N && Nat.beq N l.length))) (pc + 1, lv, st', C', nx, k, n)
        | _ => none
      | _ => none
    | .aastore => match st with
      | .ref v :: .int z :: .ref o :: st' => match cm_fd C o, cm_fd C v with
        | some (q, .inl (ty, N, l)), some (_, .inr (ci, _)) => cm_fl (l.set z.toNatClampNeg (.ref v)) fun l2 => cm_sp (C.set q (o, .inl (ty, N, l2))) fun C' => cm_c (Nat.beq w 1 && ((decide (ty = .object RX4 ∧ ci ∈ cm_cs) || decide (ty = .object RX1 ∧ ci = 1)) && (cm_pos z N && Nat.beq N l.length))) (pc + 1, lv, st', C', nx, k, n)
        | _, _ => none
      | _ => none
    | .newarray t => match st with
      | .int z :: st' => cm_fl (List.replicate z.toNatClampNeg (.int 0)) fun l2 => cm_sp (C ++ [(nx, .inl (newarray.typeOf t, z.toNatClampNeg, l2))]) fun C' => cm_c (Nat.beq w 2 && (cm_pos z 1000 && (Nat.ble (k + 1) Kc && (Nat.ble (n + z.toNatClampNeg) Ks && (cm_tt (newarray.typeOf t) && cm_fresh nx lv st' C))))) (pc + 2, lv, .ref nx :: st', C', nx + 1, k + 1, n + z.toNatClampNeg)
      | _ => none
    | .anewarray j => match st with
      | .int z :: st' => match cm_lc T.2.2.2.2 j with
        | some ci => match vwCl[ci]? with
          | some q => cm_fl (List.replicate z.toNatClampNeg .null) fun l2 => cm_sp (C ++ [(nx, .inl (.object q.1, z.toNatClampNeg, l2))]) fun C' => cm_c (Nat.beq w 3 && (cm_pos z 1000 && (Nat.ble (k + 1) Kc && (Nat.ble (n + z.toNatClampNeg) Ks && (decide (ci = 4 ∨ ci = 1) && cm_fresh nx lv st' C))))) (pc + 3, lv, .ref nx :: st', C', nx + 1, k + 1, n + z.toNatClampNeg)
          | none => none
        | none => none
      | _ => none
    | .new j => match cm_lc T.2.2.2.2 j with
      | some ci => cm_fl (cm_df ci) fun l2 => cm_sp (C ++ [(nx, .inr (ci, l2))]) fun C' => cm_c (Nat.beq w 3 && (Nat.ble (k + 1) Kc && (Nat.ble (n + am_cn ci) Ks && cm_fresh nx lv st C))) (pc + 3, lv, .ref nx :: st, C', nx + 1, k + 1, n + am_cn ci)
      | none => none
    | _ => none
def cm_step (T : cm_T) (Kc Ks : Nat) (S : cm_S) : Option cm_S := match decode T.2.1 S.1 with
  | .ok (i, w) => cm_ex T Kc Ks i w S
  | _ => none
def cm_run (T : cm_T) (Kc Ks n0 : Nat) : Nat → cm_S → Option cm_S
  | 0, S => some S
  | f + 1, S => match Nat.ble n0 S.2.2.2.2.1 with
    | true => match cm_step T Kc Ks S with
      | some S' => cm_run T Kc Ks n0 f S'
      | none => none
    | false => none
/-- the class of int[][] -/
def cm_AA (U : State) : Prop := ∃ (c2 comp : ClassId) (k2 : Class), U.vm.findClass "[[I" = some c2 ∧ U.vm.classes[c2]? = some k2 ∧ k2.kind = .array comp (.array .int) ∧ U.vm.findClass "[I" = some comp
theorem cm_AA.moved {u U : State} (hvm : u.vm.Alike U.vm) (h : cm_AA u) : cm_AA U := by
  obtain ⟨c2, comp, k2, h1, h2, h3, h4⟩ := h
  obtain ⟨k', hk', he⟩ := hvm.2.2 _ _ h2
  exact ⟨c2, comp, k', by rw [hvm.findClass]; exact h1, hk', by rw [he]; exact h3, by rw [hvm.findClass]; exact h4⟩
/-- what else is known of the classes -/
def cm_X (U : State) : Prop := va_AO RX4 U ∧ va_AO RX1 U ∧ (∀ ci ∈ [0, 3, 5, 9, 10], ∀ q : vw_C, vwCl[ci]? = some q → va_Nw (.castable q.1 RX4) U) ∧ cm_AA U
def cm_Cx (D : va_G) (cA : FieldType → ClassId) (A : Nat → Prop) (T : cm_T) (Kc Ks : Nat) (p : Program) (R : Room) (s : State) (m : MethodId) (args : Array Value) (meth : Method) (c : Code) : Prop :=
  p.tables.exec = Jvm.exec ∧ c.code = T.2.1 ∧ c.maxLocals = T.2.2.1 ∧ s.vm.findClass T.1 = some m.cls ∧ (∀ w ∈ am_tb, w.before args s = true) ∧ va_K D vwCl (am_tys cA) s ∧ (∀ q, s.heap.size ≤ q → A q) ∧ (T.2.2.2.1 ≠ [] → meth.name = "<init>") ∧ cm_X s ∧ (Kc ≤ R.cells ∧ Ks ≤ R.slots)
def cm_In (D : va_G) (cA : FieldType → ClassId) (wr : va_W) (A : Nat → Prop) (T : cm_T) (s : State) (ad : Nat → Nat) (S : cm_S) (H : Heap) (locs : List Loc) (ls : Array Slot) : Prop :=
  va_P D vwCl (wr ++ cm_w cA ad S.2.2.2.1) H ∧ va_D A (wr ++ cm_w cA ad S.2.2.2.1) ∧ va_S A s.heap H locs ∧ lv_has ls T.2.2.1 (cm_ul ad S.2.1)
def cm_G (D : va_G) (cA : FieldType → ClassId) (wr : va_W) (A : Nat → Prop) (T : cm_T) (p : Program) (l : Launch) (e : Env) (R : Room) (s : State) (m : MethodId) (args : Array Value) (below : List Frame) (meth : Method) (c : Code) (Z : State → Prop) (n0 : Nat) (ad0 : Nat → Nat) (S : cm_S) : Prop :=
  ∀ (ad : Nat → Nat) (H : Heap) (locs : List Loc) (ls : Array Slot), cm_ag n0 ad0 ad → cm_In D cA wr A T s ad S H locs ls → W p l e R s m args below meth c H locs S.2.2.2.2.2.1 S.2.2.2.2.2.2 Z (F0 m S.1 ls (S.2.2.1.map (am_up ad)))
theorem cm_inb_tb {w : Cond} (h : cm_inb w = true) : w ∈ am_tb := tb_in h
theorem cm_okT_f {T : cm_T} (h : cm_okT T = true) {j ci f : Nat} (hj : (j, ci, f) ∈ T.2.2.2.1) : ∃ q : vw_C, vwCl[ci]? = some q ∧ f < q.2.2 ∧ (q.2.1 f).1 = T.1 ∧ Cond.fieldLink T.1 j T.1 (q.2.1 f).2.1 (q.2.1 f).2.2.1 ∈ am_tb := by
  unfold cm_okT at h
  rw [Bool.and_eq_true, List.all_eq_true] at h
  have h1 := h.1 _ hj
  dsimp only at h1
  split at h1
  · next q e =>
    simp only [Bool.and_eq_true, decide_eq_true_eq] at h1
    exact ⟨q, e, h1.1, h1.2.1, cm_inb_tb h1.2.2⟩
  · cases h1
theorem cm_okT_c {T : cm_T} (h : cm_okT T = true) {j ci : Nat} (hj : (j, ci) ∈ T.2.2.2.2) : ∃ q : vw_C, vwCl[ci]? = some q ∧ Cond.classLink T.1 j q.1 ∈ am_tb ∧ Cond.instantiable q.1 q.2.2 ∈ am_tb ∧ Cond.initialized q.1 ∈ am_tb := by
  unfold cm_okT at h
  rw [Bool.and_eq_true, List.all_eq_true, List.all_eq_true] at h
  have h1 := h.2 _ hj
  dsimp only at h1
  split at h1
  · next q e =>
    simp only [Bool.and_eq_true] at h1
    exact ⟨q, e, cm_inb_tb h1.1, cm_inb_tb h1.2.1, cm_inb_tb h1.2.2⟩
  · cases h1
theorem cm_arr {ty : FieldType} (h : cm_tt ty = true) : Cond.arrayClass ty ∈ am_tb ∧ ty ∈ am_tl ∧ am_isR ty = false ∧ defaultValue ty = .int 0 ∧ componentBytes ty ≤ 4 := by
  unfold cm_tt at h
  rw [decide_eq_true_eq] at h
  rcases h with rfl | rfl | rfl
  · exact ⟨tb_in (by decide +kernel), by decide, rfl, rfl, by decide⟩
  · exact ⟨tb_in (by decide +kernel), by decide, rfl, rfl, by decide⟩
  · exact ⟨tb_in (by decide +kernel), by decide, rfl, rfl, by decide⟩
theorem cm_tl_at {cA : FieldType → ClassId} {ty : FieldType} (h : ty ∈ am_tl) : ∃ t0 : Nat, (am_tys cA)[t0]? = some (cA ty, ty) := by
  obtain ⟨t0, h0⟩ := List.mem_iff_getElem?.mp h
  exact ⟨t0, am_tys_at h0⟩
theorem cm_ri_rep (N : Nat) (j : Nat) : cm_ri ((List.replicate N (Value.int 0)).getD j .null) = 0 := by
  rw [List.getD_eq_getElem?_getD, List.getElem?_replicate]
  split <;> rfl
theorem cm_rr_rep (ad : Nat → Nat) (N : Nat) (j : Nat) : cm_rr ad ((List.replicate N Value.null).getD j .null) = none := by
  rw [List.getD_eq_getElem?_getD, List.getElem?_replicate]
  split <;> rfl
theorem cm_set_i {l : List Value} {i : Nat} {x : Int32} (h : i < l.length) : upd (fun j => cm_ri (l.getD j .null)) i x = fun j => cm_ri ((l.set i (.int x)).getD j .null) := by
  funext j
  unfold upd
  dsimp only
  rw [List.getD_eq_getElem?_getD, List.getD_eq_getElem?_getD, List.getElem?_set]
  by_cases hj : j = i
  · subst hj
    simp [h, cm_ri]
  · simp [hj, Ne.symm hj]
theorem cm_set_r {ad : Nat → Nat} {l : List Value} {i v : Nat} (h : i < l.length) : va_up (fun j => cm_rr ad (l.getD j .null)) i (some (ad v)) = fun j => cm_rr ad ((l.set i (.ref v)).getD j .null) := by
  funext j
  unfold va_up
  dsimp only
  rw [List.getD_eq_getElem?_getD, List.getD_eq_getElem?_getD, List.getElem?_set]
  by_cases hj : j = i
  · subst hj
    simp [h, cm_rr]
  · simp [hj, Ne.symm hj]
theorem cm_pos_use {z : Int32} {N : Nat} (h : cm_pos z N = true) : ¬ z < 0 ∧ z.toNatClampNeg < N ∧ vp_in z N := by
  unfold cm_pos at h
  rw [Bool.and_eq_true, decide_eq_true_eq] at h
  have h2 : z.toNatClampNeg < N := Nat.le_of_ble_eq_true h.2
  exact ⟨h.1, h2, fun q => q.elim h.1 (fun q => absurd q (by omega))⟩
theorem cm_vok_use {ad : Nat → Nat} {ci f : Nat} {v : Value} {ty : FieldType} (h : cm_vok ci f v = true) (h0 : am_ft ci f = 0 → ty = .int) (h1 : am_ft ci f = 1 → am_isR ty = true) : narrow ty (am_up ad v) = am_up ad v ∧ fits ty (am_up ad v) = true := by
  cases v with
  | int x =>
    have := h0 (Nat.eq_of_beq_eq_true h)
    subst this
    exact ⟨rfl, rfl⟩
  | ref o =>
    have := h1 (Nat.eq_of_beq_eq_true h)
    cases ty <;> first | exact ⟨rfl, rfl⟩ | cases this
  | _ => cases h
theorem cm_RA {s : State} {c1 c2 : ClassId} {ty : FieldType} (h1 : va_RA s c1 ty) (h2 : va_RA s c2 ty) : c1 = c2 := by
  cases ty with
  | object C =>
    obtain ⟨_, _, _, _, _, a⟩ := h1
    obtain ⟨_, _, _, _, _, b⟩ := h2
    exact Option.some.inj (a.symm.trans b)
  | _ =>
    have a : s.vm.findClass _ = some c1 := h1
    have b : s.vm.findClass _ = some c2 := h2
    exact Option.some.inj (a.symm.trans b)
