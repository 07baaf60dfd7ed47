/-! the texts at the law's entry -/
def st_tm (i : Nat) : Term := .string "BrokenLoaves$RuleText" (am_sx.getD i 0)
def st_vf (i : Nat) : Term := .field (st_tm i) "java/lang/String" "value" "[B"
def st_el (i : Nat) : List Cond := (List.range (am_slen.getD i 0)).map fun j => .eq (.elem (st_vf i) (.int (Int32.ofNat j))) (.int ((am_txt.getD i []).getD j 0))
def st_nq (i : Nat) : List Cond := (List.range i).map fun j => .not (.eq (st_tm j) (st_tm i))
def st_w1 (i : Nat) : List Cond := [.exactly (st_tm i) "java/lang/String", .eq (.field (st_tm i) "java/lang/String" "coder" "B") (.int 0), .arrayOf (st_vf i) .byte, .eq (.length (st_vf i)) (.int (Int32.ofNat (am_slen.getD i 0)))] ++ (st_el i ++ st_nq i)
def st_sub : List Cond → List Cond → Bool
  | [], _ => true
  | _ :: _, [] => false
  | a :: l, b :: k => match decide (a = b) with
    | true => st_sub l k
    | false => st_sub (a :: l) k
theorem st_sub_mem : ∀ (k l : List Cond), st_sub l k = true → ∀ w ∈ l, w ∈ k
  | [], [], _, w, hw => by cases hw
  | [], _ :: _, h, _, _ => by cases h
  | b :: k, [], _, w, hw => by cases hw
  | b :: k, a :: l, h, w, hw => by
    unfold st_sub at h
    split at h
    · next e =>
      have e := of_decide_eq_true e
      subst e
      rcases List.mem_cons.mp hw with rfl | hw
      · exact List.mem_cons_self
      · exact List.mem_cons_of_mem _ (st_sub_mem k l h w hw)
    · exact List.mem_cons_of_mem _ (st_sub_mem k (a :: l) h w hw)
set_option maxRecDepth 1000000 in
theorem st_w_ok : st_sub ((List.range 18).flatMap st_w1) (flatC (Jvm.Cond.and given_1 narrow_1)) = true := by decide +kernel
theorem st_w_use {args : Array Value} {s : State} (hg : (Jvm.Cond.and given_1 narrow_1).before args s = true) {i : Nat} (hi : i < 18) {w : Cond} (hw : w ∈ st_w1 i) : w.before args s = true :=
  flat_of_before _ hg w (st_sub_mem _ _ st_w_ok w (List.mem_flatMap.mpr ⟨i, List.mem_range.mpr hi, hw⟩))
theorem st_S {args : Array Value} {s : State} {A : Nat → Prop} (hg : (Jvm.Cond.and given_1 narrow_1).before args s = true) (hA : ∀ a : Nat, a < s.heap.size → ¬ A a) : ∃ adK adV : Nat → Nat, vk_S 18 am_slen am_txt adK adV A s s.heap ∧ ∀ i : Nat, i < 18 → (st_tm i).eval args s none [] s = some (.ref (adK i)) := by
  refine vk_Sof (tm := st_tm) ?_ ?_ ?_ ?_ ?_ ?_ ?_ hA
  · intro i hi
    have : ∀ i : Fin 18, am_slen.getD i 0 < 2 ^ 31 := by decide +kernel
    exact this ⟨i, hi⟩
  · exact fun i hi => st_w_use hg hi (by simp [st_w1])
  · exact fun i hi => st_w_use hg hi (by simp [st_w1])
  · exact fun i hi => st_w_use hg hi (by simp [st_w1, st_vf])
  · exact fun i hi => st_w_use hg hi (by simp [st_w1, st_vf])
  · exact fun i hi j hj => st_w_use hg hi (List.mem_append_right _ (List.mem_append_left _ (List.mem_map.mpr ⟨j, List.mem_range.mpr hj, rfl⟩)))
  · intro i j hi hj hij
    rcases Nat.lt_or_gt_of_ne hij with h | h
    · exact Or.inl (st_w_use hg hj (List.mem_append_right _ (List.mem_append_right _ (List.mem_map.mpr ⟨i, List.mem_range.mpr h, rfl⟩))))
    · exact Or.inr (st_w_use hg hi (List.mem_append_right _ (List.mem_append_right _ (List.mem_map.mpr ⟨j, List.mem_range.mpr h, rfl⟩))))
theorem st_ref : (List.range 18).all (fun i => decide (Cond.stringRef "BrokenLoaves$RuleText" (am_sx.getD i 0) (am_st.getD i "") ∈ lw_tbl)) = true := by decide +kernel
theorem st_R {args : Array Value} {s : State} (h : ∀ w ∈ lw_tbl, w.before args s = true) {adK : Nat → Nat} (he : ∀ i : Nat, i < 18 → (st_tm i).eval args s none [] s = some (.ref (adK i))) : ∀ w, w < 18 → vk_R "BrokenLoaves$RuleText" (am_sx.getD w 0) (am_st.getD w "") (adK w) s := by
  intro w hw
  have h1 := List.all_eq_true.mp st_ref w (List.mem_range.mpr hw)
  rw [decide_eq_true_eq] at h1
  exact vk_R.of (A := args) (h _ h1) (he w hw)
