/-! from the made cells to am_ws -/
def st_cells : cm_C := cm_B ++ cm_Q14.2.2.2.1
def st_c (o : Nat) : cm_E := match am_nth st_cells o with
  | some x => x.2
  | none => .inr (0, [])
def st_l (e : cm_E) : List Value := match e with
  | .inl (_, _, l) => l
  | .inr (_, fs) => fs
def st_I : am_I := fun o j => cm_ri ((st_l (st_c o)).getD j .null)
def st_r (v : Value) : Option Nat := match v with
  | .ref r => some (r - 1)
  | _ => none
def st_vr (v : Value) : Bool := match v with
  | .ref r => Nat.ble 1 r && Nat.ble r 87
  | .null => true
  | _ => false
def st_vi (v : Value) : Bool := match v with
  | .int _ => true
  | _ => false
def st_ok (o : Nat) : Bool := match am_G o with
  | some (.inl ci) => match st_c o with
    | .inr (ci', fs) => Nat.beq ci ci' && (Nat.beq fs.length (am_cn ci) && (List.range (am_cn ci)).all fun k => match am_ft ci k with
      | 1 => decide (am_R o k = st_r (fs.getD k .null)) && st_vr (fs.getD k .null)
      | _ => st_vi (fs.getD k .null))
    | .inl _ => false
  | some (.inr (ty, n)) => match st_c o with
    | .inl (ty', n', l) => decide (ty = ty') && (Nat.beq n n' && (match am_isR ty with
      | true => decide (am_nth am_Rl o = some (l.map st_r)) && l.all st_vr
      | false => true))
    | .inr _ => false
  | none => false
set_option maxRecDepth 100000 in
theorem st_ok_all : (List.range 87).all st_ok = true := by decide +kernel
set_option maxRecDepth 100000 in
theorem st_ids : st_cells.map (fun x => x.1) = (List.range 87).map (fun o => o + 1) := by decide +kernel
def st_ad (ad' : Nat → Nat) (b : Nat) (adK adV : Nat → Nat) (o : Nat) : Nat := if o < 87 then ad' (o + 1) else if o = 200 then b else if o < 2000 then adK (o - 1000) else adV (o - 2000)
theorem st_ref1 {ad' : Nat → Nat} {b : Nat} {adK adV : Nat → Nat} {v : Value} (h : st_vr v = true) : (st_r v).map (st_ad ad' b adK adV) = cm_rr ad' v ∧ va_rf ((st_r v).map (st_ad ad' b adK adV)) = am_up ad' v := by
  cases v with
  | ref r =>
    simp only [st_vr, Bool.and_eq_true] at h
    have h1 := Nat.le_of_ble_eq_true h.1
    have h2 := Nat.le_of_ble_eq_true h.2
    have e : st_ad ad' b adK adV (r - 1) = ad' r := by
      unfold st_ad
      rw [if_pos (by omega), Nat.sub_add_cancel h1]
    simp [st_r, cm_rr, am_up, va_rf, e]
  | null => exact ⟨rfl, rfl⟩
  | _ => cases h
theorem st_cell {cA : FieldType → ClassId} {ad' : Nat → Nat} {b : Nat} {adK adV : Nat → Nat} {o : Nat} (h : st_ok o = true) : am_cell cA (st_ad ad' b adK adV) st_I o = cm_e cA ad' (st_c o) := by
  unfold st_ok at h
  unfold am_cell
  split at h
  · next ci hg =>
    rw [hg]
    split at h
    · next ci' fs hc =>
      simp only [Bool.and_eq_true, List.all_eq_true] at h
      obtain ⟨h1, h2, h3⟩ := h
      have h1 := Nat.eq_of_beq_eq_true h1
      have h2 := Nat.eq_of_beq_eq_true h2
      subst h1
      rw [hc]
      show Sum.inr (ci, am_fs _ st_I o ci) = Sum.inr (ci, fs.map (am_up ad'))
      congr 2
      refine List.ext_getElem? fun j => ?_
      by_cases hj : j < am_cn ci
      · rw [am_fs_at hj, List.getElem?_map, List.getElem?_eq_getElem (by omega)]
        have h4 := h3 j (List.mem_range.mpr hj)
        have e1 : fs.getD j .null = fs[j]'(by omega) := by rw [List.getD_eq_getElem?_getD, List.getElem?_eq_getElem (by omega), Option.getD_some]
        rw [e1] at h4
        show some (am_fv _ st_I o ci j) = some (am_up ad' _)
        congr 1
        unfold am_fv
        split at h4
        · next e =>
          rw [e]
          simp only [Bool.and_eq_true, decide_eq_true_eq] at h4
          rw [h4.1]
          exact (st_ref1 h4.2).2
        · next hne =>
          split
          · next e => exact absurd e hne
          · have e2 : st_I o j = cm_ri (fs[j]'(by omega)) := by
              unfold st_I
              rw [hc]
              show cm_ri (fs.getD j .null) = _
              rw [e1]
            rw [e2]
            revert h4
            cases fs[j]'(by omega) <;> intro h4 <;> first | rfl | cases h4
      · unfold am_fs
        rw [List.getElem?_eq_none (by simp; omega), List.getElem?_eq_none (by simp; omega)]
    · cases h
  · next ty n hg =>
    rw [hg]
    split at h
    · next ty' n' l hc =>
      simp only [Bool.and_eq_true, decide_eq_true_eq] at h
      obtain ⟨rfl, h2, h3⟩ := h
      have h2 := Nat.eq_of_beq_eq_true h2
      subst h2
      rw [hc]
      show Sum.inl (cA ty, n, am_ar _ st_I o ty) = Sum.inl (cA ty, n, cm_ar ad' ty l)
      congr 3
      unfold am_ar cm_ar
      split at h3
      · next e =>
        rw [e]
        simp only [Bool.and_eq_true, decide_eq_true_eq] at h3
        show Sum.inr _ = Sum.inr _
        congr 4
        funext j
        rw [List.all_eq_true] at h3
        unfold am_R
        rw [h3.1]
        dsimp only
        rw [am_nth_get, List.getElem?_map]
        by_cases hj : j < l.length
        · rw [List.getElem?_eq_getElem hj, List.getD_eq_getElem?_getD, List.getElem?_eq_getElem hj]
          exact (st_ref1 (h3.2 _ (List.getElem_mem hj))).1
        · rw [List.getElem?_eq_none (by omega), List.getD_eq_getElem?_getD, List.getElem?_eq_none (by omega)]
          rfl
      · next e =>
        rw [e]
        show Sum.inl _ = Sum.inl _
        congr 1
        funext j
        unfold st_I
        rw [hc]
        rfl
    · cases h
  · cases h
theorem st_ws {cA : FieldType → ClassId} {ad' : Nat → Nat} {b : Nat} {adK adV : Nat → Nat} : cm_w cA ad' st_cells = am_ws cA (st_ad ad' b adK adV) st_I := by
  have hlen : st_cells.length = 87 := by
    have := congrArg List.length st_ids
    simpa using this
  refine List.ext_getElem? fun o => ?_
  by_cases ho : o < 87
  · rw [am_ws_at cA _ st_I ho]
    unfold cm_w
    rw [List.getElem?_map]
    have hx : st_cells[o]? = some (st_cells[o]'(by omega)) := List.getElem?_eq_getElem (by omega)
    have hid : (st_cells[o]'(by omega)).1 = o + 1 := by
      have h1 : (st_cells.map (fun x => x.1))[o]? = some (o + 1) := by
        rw [st_ids, List.getElem?_map, List.getElem?_range ho]
        rfl
      rw [List.getElem?_map, hx] at h1
      exact Option.some.inj h1
    have hc : st_c o = (st_cells[o]'(by omega)).2 := by
      unfold st_c
      rw [am_nth_get, hx]
    rw [hx]
    show some (ad' _, cm_e cA ad' _) = _
    rw [hid, ← hc, st_cell (List.all_eq_true.mp st_ok_all o (List.mem_range.mpr ho))]
    show _ = some (st_ad ad' b adK adV o, _)
    unfold st_ad
    rw [if_pos ho]
  · rw [am_ws_none cA _ st_I ho]
    unfold cm_w
    rw [List.getElem?_eq_none (by rw [List.length_map]; omega)]
