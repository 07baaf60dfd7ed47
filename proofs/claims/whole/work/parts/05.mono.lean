def am_le (X X' : am_J) : Prop := ∀ d mi pc lv st I Q, X d mi pc lv st I Q → X' d mi pc lv st I Q
def am_mo (Y : am_J) : Prop := ∀ d mi pc lv st I (Q Q' : am_Q), (∀ r I', Q r I' → Q' r I') → Y d mi pc lv st I Q → Y d mi pc lv st I Q'
section
variable {mt : Nat → Option am_M} {L : Nat} {xs : Nat → Int32} {Y X X' : am_J} {d mi n a b : Nat} {lv : List (Option Value)} {st : List Value} {I : am_I} {Q : am_Q}
theorem am_call_m (hY : am_mo Y) (hX : am_le X X') {args rest : List Value} (h : am_call mt Y X b args rest d mi n lv I Q) : am_call mt Y X' b args rest d mi n lv I Q := by
  unfold am_call at h ⊢
  cases d with
  | zero => exact h
  | succ d =>
    dsimp only at h ⊢
    cases hm : mt b with
    | none => rw [hm] at h; exact h
    | some M =>
      rw [hm] at h
      dsimp only at h ⊢
      cases hb : (Nat.ble (am_cs rest) 8 && (Nat.ble (am_cs args) M.2.2.1 && am_argok b args)) with
      | false => rw [hb] at h; exact h
      | true =>
        rw [hb] at h
        exact hY _ _ _ _ _ _ _ _ (fun r I' q => hX _ _ _ _ _ _ _ q) h
theorem am_sw_m (hX : am_le X X') : ∀ (ts : List Nat) (v : Int32) {x : Int32} {df : Nat}, am_sw X ts v x df d mi lv st I Q → am_sw X' ts v x df d mi lv st I Q
  | [], _, _, _, h => hX _ _ _ _ _ _ _ h
  | _ :: ts, v, _, _, h => ⟨fun c => hX _ _ _ _ _ _ _ (h.1 c), fun c => am_sw_m hX ts (v + 1) (h.2 c)⟩
theorem am_bin_m (hX : am_le X X') {f : Int32 → Int32 → Int32} (h : am_bin X f d mi n lv st I Q) : am_bin X' f d mi n lv st I Q := by
  unfold am_bin at h ⊢
  split at h
  · exact hX _ _ _ _ _ _ _ h
  · exact h.elim
theorem am_div_m (hX : am_le X X') {f : Int32 → Int32 → Int32} (h : am_div X f d mi n lv st I Q) : am_div X' f d mi n lv st I Q := by
  unfold am_div at h ⊢
  split at h
  · exact ⟨h.1, hX _ _ _ _ _ _ _ h.2⟩
  · exact h.elim
theorem am_br2_m (hX : am_le X X') {f : Int32 → Int32 → Prop} (h : am_br2 X f a d mi n lv st I Q) : am_br2 X' f a d mi n lv st I Q := by
  unfold am_br2 at h ⊢
  split at h
  · exact ⟨fun c => hX _ _ _ _ _ _ _ (h.1 c), fun c => hX _ _ _ _ _ _ _ (h.2 c)⟩
  · exact h.elim
theorem am_br1_m (hX : am_le X X') {f : Int32 → Prop} (h : am_br1 X f a d mi n lv st I Q) : am_br1 X' f a d mi n lv st I Q := by
  unfold am_br1 at h ⊢
  split at h
  · exact ⟨fun c => hX _ _ _ _ _ _ _ (h.1 c), fun c => hX _ _ _ _ _ _ _ (h.2 c)⟩
  · exact h.elim
theorem am_una_m (hX : am_le X X') {f : Int32 → Int32} (h : am_una X f d mi n lv st I Q) : am_una X' f d mi n lv st I Q := by
  unfold am_una at h ⊢
  split at h
  · exact hX _ _ _ _ _ _ _ h
  · exact h.elim
theorem am_lbin_m (hX : am_le X X') {f : Int64 → Int64 → Int64} (h : am_lbin X f d mi n lv st I Q) : am_lbin X' f d mi n lv st I Q := by
  unfold am_lbin at h ⊢
  split at h
  · exact hX _ _ _ _ _ _ _ h
  · exact h.elim
theorem am_lsh_m (hX : am_le X X') {f : Int64 → Int32 → Int64} (h : am_lsh X f d mi n lv st I Q) : am_lsh X' f d mi n lv st I Q := by
  unfold am_lsh at h ⊢
  split at h
  · exact hX _ _ _ _ _ _ _ h
  · exact h.elim
theorem am_ild_m (hX : am_le X X') (h : am_ild X a d mi n lv st I Q) : am_ild X' a d mi n lv st I Q := by
  unfold am_ild at h ⊢
  split at h
  · exact hX _ _ _ _ _ _ _ h
  · exact h.elim
theorem am_lld_m (hX : am_le X X') (h : am_lld X a d mi n lv st I Q) : am_lld X' a d mi n lv st I Q := by
  unfold am_lld at h ⊢
  split at h
  · exact hX _ _ _ _ _ _ _ h
  · exact h.elim
theorem am_ald_m (hX : am_le X X') (h : am_ald X a d mi n lv st I Q) : am_ald X' a d mi n lv st I Q := by
  unfold am_ald at h ⊢
  split at h
  · exact hX _ _ _ _ _ _ _ h
  · exact h.elim
theorem am_ist_m (hX : am_le X X') (h : am_ist X a d mi n lv st I Q) : am_ist X' a d mi n lv st I Q := by
  unfold am_ist at h ⊢
  split at h
  · exact hX _ _ _ _ _ _ _ h
  · exact h.elim
theorem am_ast_m (hX : am_le X X') (h : am_ast X a d mi n lv st I Q) : am_ast X' a d mi n lv st I Q := by
  unfold am_ast at h ⊢
  split at h
  · exact hX _ _ _ _ _ _ _ h
  · exact h.elim
theorem am_inc_m (hX : am_le X X') {v : Int32} (h : am_inc X a v d mi n lv st I Q) : am_inc X' a v d mi n lv st I Q := by
  unfold am_inc at h ⊢
  split at h
  · exact hX _ _ _ _ _ _ _ h
  · exact h.elim
theorem am_getf_m (hX : am_le X X') {ci k : Nat} (h : am_getf X ci k d mi n lv st I Q) : am_getf X' ci k d mi n lv st I Q := by
  unfold am_getf at h ⊢
  repeat' split at h
  all_goals first
    | exact h.elim
    | exact hX _ _ _ _ _ _ _ h
theorem am_putf_m (hX : am_le X X') {ci k : Nat} (h : am_putf X ci k d mi n lv st I Q) : am_putf X' ci k d mi n lv st I Q := by
  unfold am_putf at h ⊢
  repeat' split at h
  all_goals first
    | exact h.elim
    | exact hX _ _ _ _ _ _ _ h
    | exact ⟨h.1, hX _ _ _ _ _ _ _ h.2⟩
theorem am_ald1_m (hX : am_le X X') {t : Nat} (h : am_ald1 L xs X t d mi n lv st I Q) : am_ald1 L xs X' t d mi n lv st I Q := by
  unfold am_ald1 at h ⊢
  repeat' split at h
  all_goals first
    | exact h.elim
    | exact ⟨h.1, hX _ _ _ _ _ _ _ h.2⟩
theorem am_ast1_m (hX : am_le X X') {t : Nat} (h : am_ast1 X t d mi n lv st I Q) : am_ast1 X' t d mi n lv st I Q := by
  unfold am_ast1 at h ⊢
  repeat' split at h
  all_goals first
    | exact h.elim
    | exact ⟨h.1, hX _ _ _ _ _ _ _ h.2⟩
theorem am_aald_m (hX : am_le X X') (h : am_aald X d mi n lv st I Q) : am_aald X' d mi n lv st I Q := by
  unfold am_aald at h ⊢
  repeat' split at h
  all_goals first
    | exact h.elim
    | exact ⟨h.1, hX _ _ _ _ _ _ _ h.2⟩
    | exact h.2.elim
theorem am_alen_m (hX : am_le X X') (h : am_alen L X d mi n lv st I Q) : am_alen L X' d mi n lv st I Q := by
  unfold am_alen at h ⊢
  repeat' split at h
  all_goals first
    | exact h.elim
    | exact hX _ _ _ _ _ _ _ h
theorem am_inv_m (hY : am_mo Y) (hX : am_le X X') {ts : List Nat} (h : am_inv mt Y X a b ts d mi n lv st I Q) : am_inv mt Y X' a b ts d mi n lv st I Q := by
  unfold am_inv at h ⊢
  repeat' split at h
  all_goals first
    | exact h.elim
    | exact am_call_m hY hX h
    | exact hX _ _ _ _ _ _ _ h
    | exact ⟨h.1, hX _ _ _ _ _ _ _ h.2⟩
theorem am_step_m (hY : am_mo Y) (hX : am_le X X') {i : Instr} {ts : List Nat} {v : Int32} (h : am_step mt L xs Y X i n a b ts v d mi lv st I Q) : am_step mt L xs Y X' i n a b ts v d mi lv st I Q := by
  unfold am_step at h ⊢
  split at h
  all_goals first
    | exact h.elim
    | exact hX _ _ _ _ _ _ _ h
    | exact am_bin_m hX h
    | exact am_div_m hX h
    | exact am_br2_m hX h
    | exact am_br1_m hX h
    | exact am_una_m hX h
    | exact am_lbin_m hX h
    | exact am_lsh_m hX h
    | exact am_ild_m hX h
    | exact am_lld_m hX h
    | exact am_ald_m hX h
    | exact am_ist_m hX h
    | exact am_ast_m hX h
    | exact am_inc_m hX h
    | exact am_getf_m hX h
    | exact am_putf_m hX h
    | exact am_ald1_m hX h
    | exact am_ast1_m hX h
    | exact am_aald_m hX h
    | exact am_alen_m hX h
    | exact am_inv_m hY hX h
    | exact h
    | (split at h
       all_goals first
         | exact h.elim
         | exact hX _ _ _ _ _ _ _ h
         | exact am_sw_m hX _ _ h)
theorem am_F_m (hY : am_mo Y) (hX : am_le X X') {pc : Nat} (h : am_F mt L xs Y X d mi pc lv st I Q) : am_F mt L xs Y X' d mi pc lv st I Q := by
  unfold am_F at h ⊢
  split at h
  · exact h
  · split at h
    · exact h
    · exact am_step_m hY hX h
end
/-- n instructions on, for a closed judgement -/
theorem am_vc {mt : Nat → Option am_M} {L : Nat} {xs : Nat → Int32} {J : am_J} (hJ : am_Cl mt L xs J) : ∀ n : Nat, am_le (am_N mt L xs J n) J
  | 0 => fun _ _ _ _ _ _ _ h => h
  | n + 1 => fun _ _ _ _ _ _ _ h => hJ.1 _ _ _ _ _ _ _ (am_F_m hJ.2 (am_vc hJ n) h)
