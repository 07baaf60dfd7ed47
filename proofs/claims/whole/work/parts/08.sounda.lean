/-! SOUNDNESS: the judgement about the real machine is closed under what an instruction asks -/
theorem am_good : ∀ w ∈ am_tb, (w.onTables && w.keeps) = true ∨ ∃ ty, w = .arrayClass ty := fun w hw => good_of_word (List.mem_filter.mp hw).2
theorem inW0 : ∀ w ∈ u_ws RX0 TX0 0, w ∈ am_tb := by
  have h : u_ws RX0 TX0 0 = ([] : List Nat).filterMap (fun i => lw_tbl[i]?) ∧ (u_ws RX0 TX0 0).all goodWord = true := by decide +kernel
  intro w hw
  have h2 := List.all_eq_true.mp h.2 w hw
  rw [h.1] at hw
  obtain ⟨i, -, hi⟩ := List.mem_filterMap.mp hw
  exact List.mem_filter.mpr ⟨List.mem_of_getElem? hi, h2⟩
theorem inW1 : ∀ w ∈ u_ws RX1 TX1 6, w ∈ am_tb := by
  have h : u_ws RX1 TX1 6 = ([198, 200, 202, 204, 206, 208] : List Nat).filterMap (fun i => lw_tbl[i]?) ∧ (u_ws RX1 TX1 6).all goodWord = true := by decide +kernel
  intro w hw
  have h2 := List.all_eq_true.mp h.2 w hw
  rw [h.1] at hw
  obtain ⟨i, -, hi⟩ := List.mem_filterMap.mp hw
  exact List.mem_filter.mpr ⟨List.mem_of_getElem? hi, h2⟩
theorem inW2 : ∀ w ∈ u_ws RX2 TX2 5, w ∈ am_tb := by
  have h : u_ws RX2 TX2 5 = ([407, 409, 411, 413, 415] : List Nat).filterMap (fun i => lw_tbl[i]?) ∧ (u_ws RX2 TX2 5).all goodWord = true := by decide +kernel
  intro w hw
  have h2 := List.all_eq_true.mp h.2 w hw
  rw [h.1] at hw
  obtain ⟨i, -, hi⟩ := List.mem_filterMap.mp hw
  exact List.mem_filter.mpr ⟨List.mem_of_getElem? hi, h2⟩
theorem inW3 : ∀ w ∈ u_ws RX3 TX3 0, w ∈ am_tb := by
  have h : u_ws RX3 TX3 0 = ([] : List Nat).filterMap (fun i => lw_tbl[i]?) ∧ (u_ws RX3 TX3 0).all goodWord = true := by decide +kernel
  intro w hw
  have h2 := List.all_eq_true.mp h.2 w hw
  rw [h.1] at hw
  obtain ⟨i, -, hi⟩ := List.mem_filterMap.mp hw
  exact List.mem_filter.mpr ⟨List.mem_of_getElem? hi, h2⟩
theorem inW4 : ∀ w ∈ u_ws RX4 TX4 0, w ∈ am_tb := by
  have h : u_ws RX4 TX4 0 = ([] : List Nat).filterMap (fun i => lw_tbl[i]?) ∧ (u_ws RX4 TX4 0).all goodWord = true := by decide +kernel
  intro w hw
  have h2 := List.all_eq_true.mp h.2 w hw
  rw [h.1] at hw
  obtain ⟨i, -, hi⟩ := List.mem_filterMap.mp hw
  exact List.mem_filter.mpr ⟨List.mem_of_getElem? hi, h2⟩
theorem inW5 : ∀ w ∈ u_ws RX5 TX5 0, w ∈ am_tb := by
  have h : u_ws RX5 TX5 0 = ([] : List Nat).filterMap (fun i => lw_tbl[i]?) ∧ (u_ws RX5 TX5 0).all goodWord = true := by decide +kernel
  intro w hw
  have h2 := List.all_eq_true.mp h.2 w hw
  rw [h.1] at hw
  obtain ⟨i, -, hi⟩ := List.mem_filterMap.mp hw
  exact List.mem_filter.mpr ⟨List.mem_of_getElem? hi, h2⟩
theorem inW6 : ∀ w ∈ u_ws RX6 TX6 11, w ∈ am_tb := by
  have h : u_ws RX6 TX6 11 = ([360, 362, 364, 366, 368, 370, 372, 374, 376, 378, 380] : List Nat).filterMap (fun i => lw_tbl[i]?) ∧ (u_ws RX6 TX6 11).all goodWord = true := by decide +kernel
  intro w hw
  have h2 := List.all_eq_true.mp h.2 w hw
  rw [h.1] at hw
  obtain ⟨i, -, hi⟩ := List.mem_filterMap.mp hw
  exact List.mem_filter.mpr ⟨List.mem_of_getElem? hi, h2⟩
theorem inW7 : ∀ w ∈ u_ws RX7 TX7 20, w ∈ am_tb := by
  have h : u_ws RX7 TX7 20 = ([253, 255, 257, 259, 261, 263, 265, 267, 269, 271, 273, 275, 277, 279, 281, 283, 285, 287, 289, 291] : List Nat).filterMap (fun i => lw_tbl[i]?) ∧ (u_ws RX7 TX7 20).all goodWord = true := by decide +kernel
  intro w hw
  have h2 := List.all_eq_true.mp h.2 w hw
  rw [h.1] at hw
  obtain ⟨i, -, hi⟩ := List.mem_filterMap.mp hw
  exact List.mem_filter.mpr ⟨List.mem_of_getElem? hi, h2⟩
theorem inW8 : ∀ w ∈ u_ws RX8 TX8 9, w ∈ am_tb := by
  have h : u_ws RX8 TX8 9 = ([313, 315, 317, 319, 321, 323, 325, 327, 329] : List Nat).filterMap (fun i => lw_tbl[i]?) ∧ (u_ws RX8 TX8 9).all goodWord = true := by decide +kernel
  intro w hw
  have h2 := List.all_eq_true.mp h.2 w hw
  rw [h.1] at hw
  obtain ⟨i, -, hi⟩ := List.mem_filterMap.mp hw
  exact List.mem_filter.mpr ⟨List.mem_of_getElem? hi, h2⟩
theorem inW9 : ∀ w ∈ u_ws RX9 TX9 0, w ∈ am_tb := by
  have h : u_ws RX9 TX9 0 = ([] : List Nat).filterMap (fun i => lw_tbl[i]?) ∧ (u_ws RX9 TX9 0).all goodWord = true := by decide +kernel
  intro w hw
  have h2 := List.all_eq_true.mp h.2 w hw
  rw [h.1] at hw
  obtain ⟨i, -, hi⟩ := List.mem_filterMap.mp hw
  exact List.mem_filter.mpr ⟨List.mem_of_getElem? hi, h2⟩
theorem inW10 : ∀ w ∈ u_ws RX10 TX10 0, w ∈ am_tb := by
  have h : u_ws RX10 TX10 0 = ([] : List Nat).filterMap (fun i => lw_tbl[i]?) ∧ (u_ws RX10 TX10 0).all goodWord = true := by decide +kernel
  intro w hw
  have h2 := List.all_eq_true.mp h.2 w hw
  rw [h.1] at hw
  obtain ⟨i, -, hi⟩ := List.mem_filterMap.mp hw
  exact List.mem_filter.mpr ⟨List.mem_of_getElem? hi, h2⟩
theorem inW11 : ∀ w ∈ u_ws RX11 TX11 15, w ∈ am_tb := by
  have h : u_ws RX11 TX11 15 = ([433, 435, 437, 439, 441, 443, 445, 447, 449, 451, 453, 455, 457, 459, 461] : List Nat).filterMap (fun i => lw_tbl[i]?) ∧ (u_ws RX11 TX11 15).all goodWord = true := by decide +kernel
  intro w hw
  have h2 := List.all_eq_true.mp h.2 w hw
  rw [h.1] at hw
  obtain ⟨i, -, hi⟩ := List.mem_filterMap.mp hw
  exact List.mem_filter.mpr ⟨List.mem_of_getElem? hi, h2⟩
theorem inW12 : ∀ w ∈ u_ws RX12 TX12 39, w ∈ am_tb := by
  have h : u_ws RX12 TX12 39 = ([1287, 1289, 1291, 1293, 1295, 1297, 1299, 1301, 1303, 1305, 1307, 1309, 1311, 1313, 1315, 1317, 1319, 1321, 1323, 1325, 1327, 1329, 1331, 1333, 1335, 1337, 1339, 1341, 1343, 1345, 1347, 1349, 1351, 1353, 1355, 1357, 1359, 1361, 1363] : List Nat).filterMap (fun i => lw_tbl[i]?) ∧ (u_ws RX12 TX12 39).all goodWord = true := by decide +kernel
  intro w hw
  have h2 := List.all_eq_true.mp h.2 w hw
  rw [h.1] at hw
  obtain ⟨i, -, hi⟩ := List.mem_filterMap.mp hw
  exact List.mem_filter.mpr ⟨List.mem_of_getElem? hi, h2⟩
theorem am_cls : ∀ (ci : Nat) (q : vw_C), vwCl[ci]? = some q → (∀ w ∈ u_ws q.1 q.2.1 q.2.2, w ∈ am_tb) ∧ am_cn ci = q.2.2 ∧ ∃ ty0 : Nat → FieldType, (∀ k, k < q.2.2 → parseFieldDescriptor (q.2.1 k).2.2.1 = some (ty0 k)) ∧ (∀ a, a < q.2.2 → ∀ b, b < q.2.2 → a ≠ b → (q.2.1 a).2.1 ≠ (q.2.1 b).2.1) ∧ ∀ k, k < q.2.2 → (am_ft ci k = 0 → ty0 k = .int) ∧ (am_ft ci k = 2 → ty0 k = .boolean) := by
  intro ci q h
  match ci, h with
  | 0, h => cases h; exact ⟨inW0, rfl, tyX0, tyX0_ok, nmX0, by decide +kernel⟩
  | 1, h => cases h; exact ⟨inW1, rfl, tyX1, tyX1_ok, nmX1, by decide +kernel⟩
  | 2, h => cases h; exact ⟨inW2, rfl, tyX2, tyX2_ok, nmX2, by decide +kernel⟩
  | 3, h => cases h; exact ⟨inW3, rfl, tyX3, tyX3_ok, nmX3, by decide +kernel⟩
  | 4, h => cases h; exact ⟨inW4, rfl, tyX4, tyX4_ok, nmX4, by decide +kernel⟩
  | 5, h => cases h; exact ⟨inW5, rfl, tyX5, tyX5_ok, nmX5, by decide +kernel⟩
  | 6, h => cases h; exact ⟨inW6, rfl, tyX6, tyX6_ok, nmX6, by decide +kernel⟩
  | 7, h => cases h; exact ⟨inW7, rfl, tyX7, tyX7_ok, nmX7, by decide +kernel⟩
  | 8, h => cases h; exact ⟨inW8, rfl, tyX8, tyX8_ok, nmX8, by decide +kernel⟩
  | 9, h => cases h; exact ⟨inW9, rfl, tyX9, tyX9_ok, nmX9, by decide +kernel⟩
  | 10, h => cases h; exact ⟨inW10, rfl, tyX10, tyX10_ok, nmX10, by decide +kernel⟩
  | 11, h => cases h; exact ⟨inW11, rfl, tyX11, tyX11_ok, nmX11, by decide +kernel⟩
  | 12, h => cases h; exact ⟨inW12, rfl, tyX12, tyX12_ok, nmX12, by decide +kernel⟩
  | n + 13, h => simp [vwCl] at h
def am_as (ad : Nat → Nat) : Nat → List (Option Value) → List (Nat × Value)
  | _, [] => []
  | k, none :: l => am_as ad (k + 1) l
  | k, some v :: l => (k, am_up ad v) :: am_as ad (k + 1) l
theorem am_as_mem (ad : Nat → Nat) : ∀ (l : List (Option Value)) (k i : Nat) (w : Value), (i, w) ∈ am_as ad k l → ∃ v j, i = k + j ∧ am_nth l j = some (some v) ∧ w = am_up ad v
  | [], _, _, _, h => by simp [am_as] at h
  | none :: l, k, i, w, h => by
    obtain ⟨v, j, h1, h2, h3⟩ := am_as_mem ad l (k + 1) i w h
    exact ⟨v, j + 1, by omega, h2, h3⟩
  | some v :: l, k, i, w, h => by
    simp only [am_as, List.mem_cons, Prod.mk.injEq] at h
    rcases h with ⟨h1, h2⟩ | h
    · exact ⟨v, 0, by omega, rfl, h2⟩
    · obtain ⟨v, j, h1, h2, h3⟩ := am_as_mem ad l (k + 1) i w h
      exact ⟨v, j + 1, by omega, h2, h3⟩
theorem am_as_of (ad : Nat → Nat) : ∀ (l : List (Option Value)) (k j : Nat) (v : Value), am_nth l j = some (some v) → (k + j, am_up ad v) ∈ am_as ad k l
  | [], _, _, _, h => by simp [am_nth] at h
  | none :: l, k, 0, v, h => by simp [am_nth] at h
  | none :: l, k, j + 1, v, h => by
    have := am_as_of ad l (k + 1) j v h
    rw [show k + (j + 1) = k + 1 + j by omega]
    exact this
  | some x :: l, k, 0, v, h => by
    simp only [am_nth, Option.some.injEq] at h
    subst h
    exact List.mem_cons_self
  | some x :: l, k, j + 1, v, h => by
    have := am_as_of ad l (k + 1) j v h
    rw [show k + (j + 1) = k + 1 + j by omega]
    exact List.mem_cons_of_mem _ this
theorem am_nth_set : ∀ (l : List (Option Value)) (a i : Nat) (v w : Value), am_nth (am_set l a v) i = some (some w) → (i = a ∧ w = v) ∨ (i ≠ a ∧ am_nth l i = some (some w))
  | [], _, _, _, _, h => by simp [am_set, am_nth] at h
  | x :: l, 0, 0, v, w, h => by
    simp only [am_set, am_nth, Option.some.injEq] at h
    exact Or.inl ⟨rfl, h.symm⟩
  | x :: l, 0, i + 1, v, w, h => Or.inr ⟨by omega, h⟩
  | x :: l, a + 1, 0, v, w, h => Or.inr ⟨by omega, h⟩
  | x :: l, a + 1, i + 1, v, w, h => by
    rcases am_nth_set l a i v w h with ⟨h1, h2⟩ | ⟨h1, h2⟩
    · exact Or.inl ⟨by omega, h2⟩
    · exact Or.inr ⟨by omega, h2⟩
theorem am_ls_has {ad : Nat → Nat} {M : am_M} {mi : Nat} {ls : Array Slot} {lv : List (Option Value)} (h : am_ls ad M mi ls lv) : lv_has ls M.2.2.1 (am_as ad 0 lv) := by
  refine ⟨h.1, h.2.1, fun q hq => ?_⟩
  obtain ⟨i, w⟩ := q
  obtain ⟨v, j, h1, h2, h3⟩ := am_as_mem ad lv 0 i w hq
  have : i = j := by omega
  subst this
  rw [h3]
  exact h.2.2.1 i v h2
theorem am_ls_set {ad : Nat → Nat} {M : am_M} {mi a : Nat} {ls ls' : Array Slot} {lv : List (Option Value)} {v : Value} (h : am_ls ad M mi ls lv) (hok : am_okst M mi a = true) (hc : v.category = 1)
    (h' : lv_has ls' M.2.2.1 ((a, am_up ad v) :: (am_as ad 0 lv).filter (fun q => !(q.1 == a) && !(q.1 + 1 == a && q.2.category == 2)))) : am_ls ad M mi ls' (am_set lv a v) := by
  simp only [am_okst, Bool.and_eq_true, decide_eq_true_eq, Bool.or_eq_true, Bool.not_eq_true'] at hok
  refine ⟨h'.1, h'.2.1, fun i w hw => ?_, fun i w hw hcat => ?_⟩
  · rcases am_nth_set lv a i v w hw with ⟨h1, h2⟩ | ⟨h1, h2⟩
    · subst h1
      subst h2
      exact h'.2.2 (i, am_up ad w) List.mem_cons_self
    · refine h'.2.2 (i, am_up ad w) (List.mem_cons_of_mem _ (List.mem_filter.mpr ⟨?_, ?_⟩))
      · have := am_as_of ad lv 0 i w h2
        rw [Nat.zero_add] at this
        exact this
      · by_cases hl : w.category = 2
        · obtain ⟨e1, e2⟩ := h.2.2.2 i w h2 hl
          rcases hok.2 with q | q
          · rw [q] at e2; cases e2
          · subst e1
            simp [h1, Ne.symm q]
        · simp [h1, am_up_cat, hl]
  · rcases am_nth_set lv a i v w hw with ⟨h1, h2⟩ | ⟨h1, h2⟩
    · subst h2
      omega
    · exact h.2.2.2 i w h2 hcat
theorem am_cell_obj {cA : FieldType → ClassId} {ad : Nat → Nat} {I : am_I} {o ci : Nat} (h : am_G o = some (.inl ci)) : (am_ws cA ad I)[o]? = some (ad o, .inr (ci, am_fs ad I o ci)) := by
  rw [am_ws_at cA ad I (am_G_lt h)]
  unfold am_cell
  rw [h]
theorem am_cell_arr {cA : FieldType → ClassId} {ad : Nat → Nat} {I : am_I} {o n : Nat} {ty : FieldType} (h : am_G o = some (.inr (ty, n))) : (am_ws cA ad I)[o]? = some (ad o, .inl (cA ty, n, am_ar ad I o ty)) := by
  rw [am_ws_at cA ad I (am_G_lt h)]
  unfold am_cell
  rw [h]
theorem am_G_ty {o n : Nat} {ty : FieldType} (h : am_G o = some (.inr (ty, n))) : ∃ t0 : Nat, am_tl[t0]? = some ty := by
  have hall : am_Gl.all (fun x => match x with
    | .inl _ => true
    | .inr q => decide (q.1 ∈ am_tl)) = true := by decide +kernel
  have hm : (Sum.inr (ty, n) : am_S) ∈ am_Gl := by
    unfold am_G at h
    rw [am_nth_get] at h
    exact List.mem_of_getElem? h
  have h2 := List.all_eq_true.mp hall _ hm
  simp only [decide_eq_true_eq] at h2
  exact List.getElem?_of_mem h2
theorem am_G_ci {o ci : Nat} (h : am_G o = some (.inl ci)) : ci < 13 := by
  have hall : am_Gl.all (fun x => match x with
    | .inl c => decide (c < 13)
    | .inr _ => true) = true := by decide +kernel
  have hm : (Sum.inl ci : am_S) ∈ am_Gl := by
    unfold am_G at h
    rw [am_nth_get] at h
    exact List.mem_of_getElem? h
  have h2 := List.all_eq_true.mp hall _ hm
  simpa using h2
theorem am_tys_at {cA : FieldType → ClassId} {t0 : Nat} {ty : FieldType} (h : am_tl[t0]? = some ty) : (am_tys cA)[t0]? = some (cA ty, ty) := by
  unfold am_tys
  rw [List.getElem?_map, h]
  rfl
theorem am_put_arr {cA : FieldType → ClassId} {ad : Nat → Nat} {I : am_I} {o n k : Nat} {ty : FieldType} {v : Int32} (h : am_G o = some (.inr (ty, n))) (ht : am_isR ty = false) : (am_ws cA ad I).set o (ad o, .inl (cA ty, n, .inl (upd (I o) k v))) = am_ws cA ad (am_put I o k v) := by
  refine am_ws_set cA ad (am_G_lt h) ?_ (fun o' ho => am_put_o ho)
  unfold am_cell am_ar
  rw [h]
  dsimp only
  rw [ht, am_put_s]
theorem am_put_obj {cA : FieldType → ClassId} {ad : Nat → Nat} {I : am_I} {o ci k : Nat} {v : Int32} (h : am_G o = some (.inl ci)) (hk : k < am_cn ci) (ht : am_ft ci k ≠ 1) : (am_ws cA ad I).set o (ad o, .inr (ci, (am_fs ad I o ci).set k (.int v))) = am_ws cA ad (am_put I o k v) := by
  refine am_ws_set cA ad (am_G_lt h) ?_ (fun o' ho => am_put_o ho)
  unfold am_cell
  rw [h, am_fs_put hk ht]
theorem am_sw_use {X : am_J} {x : Int32} {df d mi : Nat} {lv : List (Option Value)} {st : List Value} {I : am_I} {Q : am_Q} : ∀ (ts : List Nat) (v : Int32) (lo : Int), am_sw X ts v x df d mi lv st I Q → v.toInt = lo → 0 ≤ lo → lo + ts.length < 100000 →
    (∃ (j t : Nat), ts[j]? = some t ∧ x.toInt = lo + j ∧ X d mi t lv st I Q) ∨ ((x.toInt < lo ∨ lo + ts.length - 1 < x.toInt) ∧ X d mi df lv st I Q)
  | [], v, lo, h, _, _, _ => Or.inr ⟨by simp; omega, h⟩
  | t :: ts, v, lo, h, hv, h0, hl => by
    by_cases e : x = v
    · exact Or.inl ⟨0, t, rfl, by rw [e, hv]; simp, h.1 e⟩
    · have hv1 : (v + 1).toInt = lo + 1 := by
        rw [Int32.toInt_add, hv]
        simp only [List.length_cons] at hl
        have : (1 : Int32).toInt = 1 := rfl
        rw [this]
        exact Int.bmod_eq_of_le (by omega) (by omega)
      rcases am_sw_use ts (v + 1) (lo + 1) (h.2 e) hv1 (by omega) (by simp only [List.length_cons] at hl; omega) with ⟨j, t', h1, h2, h3⟩ | ⟨h1, h2⟩
      · exact Or.inl ⟨j + 1, t', h1, by omega, h3⟩
      · refine Or.inr ⟨?_, h2⟩
        have hne : x.toInt ≠ lo := fun q => e (Int32.toInt_inj.mp (by rw [q, hv]))
        simp only [List.length_cons]
        omega
