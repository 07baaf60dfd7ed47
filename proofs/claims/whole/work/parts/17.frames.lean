def am_mc : List Nat := [8, 9, 10, 11, 12, 13, 14, 15, 16, 17, 19, 20, 21, 22, 67]
theorem TR8_in : ∀ t ∈ TR 8 ++ TC 9, t.1 ∈ am_mc := by decide +kernel
theorem Main.kept {I I' : am_I} {u : am_U} (h : Main I 8 9 67 u) (k : ∀ o ∈ am_mc, I' o = I o) : Main I' 8 9 67 u := by
  obtain ⟨h1, ⟨h2, h3⟩, ⟨h4, h5, h6⟩, h7⟩ := h
  refine ⟨?_, ⟨h2.kept (fun t ht => k _ (TR8_in t (List.mem_append_left _ ht))), ?_⟩, ⟨h4.kept (fun t ht => k _ (TR8_in t (List.mem_append_right _ ht))), ?_, ?_⟩, h7⟩
  · unfold MRep at h1 ⊢
    rw [k 67 (by decide)]
    exact h1
  · show RuR (I' 17) u
    rw [k 17 (by decide)]
    exact h3
  · rw [k 9 (by decide)]
    exact h5
  · rw [k 9 (by decide)]
    exact h6
def am_kd : List Nat := [23, 24, 25, 26, 27, 28, 29, 30, 31, 32, 34, 35, 36, 37, 68]
theorem TR23_in : ∀ t ∈ TR 23 ++ TC 24, t.1 ∈ am_kd := by decide +kernel
theorem Main.keptK {I I' : am_I} {u : am_U} (h : Main I 23 24 68 u) (k : ∀ o ∈ am_kd, I' o = I o) : Main I' 23 24 68 u := by
  obtain ⟨h1, ⟨h2, h3⟩, ⟨h4, h5, h6⟩, h7⟩ := h
  refine ⟨?_, ⟨h2.kept (fun t ht => k _ (TR23_in t (List.mem_append_left _ ht))), ?_⟩, ⟨h4.kept (fun t ht => k _ (TR23_in t (List.mem_append_right _ ht))), ?_, ?_⟩, h7⟩
  · unfold MRep at h1 ⊢
    rw [k 68 (by decide)]
    exact h1
  · show RuR (I' 32) u
    rw [k 32 (by decide)]
    exact h3
  · rw [k 24 (by decide)]
    exact h5
  · rw [k 24 (by decide)]
    exact h6
theorem KeptR.kept2 {I I' : am_I} {uk : am_U} (h : KeptR I uk) (h0 : I' 0 2 = I 0 2) (h6 : I' 66 3 = I 66 3) (k : ∀ o ∈ am_kd, I' o = I o) : KeptR I' uk := by
  unfold KeptR at h ⊢
  rw [h0, h6]
  exact ⟨h.1, h.2.imp id (fun q => ⟨q.1, q.2.keptK k⟩)⟩
theorem TapeR.kept {I I' : am_I} (h : TapeR I) (h1 : I' 38 1 = I 38 1) (h2 : I' 66 6 = I 66 6) (h3 : I' 71 = I 71) (h4 : I' 39 = I 39) : TapeR I' := by
  unfold TapeR at h ⊢
  rw [h1, h2, h3, h4]
  exact h
theorem RowsR.kept {I I' : am_I} (h : RowsR I) (h1 : I' 0 7 = I 0 7) (h2 : I' 66 29 = I 66 29) (h3 : I' 53 = I 53) (h4 : I' 80 = I 80) : RowsR I' := by
  unfold RowsR at h ⊢
  rw [h1, h2, h3, h4]
  exact h
theorem SheetR.kept {I I' : am_I} (h : SheetR I) (k : ∀ o ∈ [54, 55, 57, 58, 59, 60, 81, 82, 83], I' o = I o) : SheetR I' := by
  unfold SheetR at h ⊢
  rw [k 54 (by decide), k 81 (by decide), k 55 (by decide), k 82 (by decide), k 83 (by decide)]
  intro i hh
  have e : I' (57 + i) = I (57 + i) := by
    rcases (show i = 0 ∨ i = 1 ∨ i = 2 ∨ i = 3 by omega) with rfl | rfl | rfl | rfl <;> exact k _ (by decide)
  rw [e]
  exact h i hh
theorem ShelfR.kept {I I' : am_I} (h : ShelfR I) (k : ∀ o ∈ [61, 62, 63, 84, 85], I' o = I o) : ShelfR I' := by
  unfold ShelfR at h ⊢
  rw [k 61 (by decide), k 84 (by decide), k 62 (by decide), k 85 (by decide), k 63 (by decide)]
  exact h
theorem TraceR.kept {I I' : am_I} (h : TraceR I) (h1 : I' 64 4 = I 64 4) (h2 : I' 66 36 = I 66 36) (h3 : I' 65 = I 65) (h4 : I' 86 = I 86) : TraceR I' := by
  unfold TraceR at h ⊢
  rw [h1, h2, h3, h4]
  exact h
theorem LetR.kept {I I' : am_I} (h : LetR I) (h1 : I' 72 = I 72) : LetR I' := by
  unfold LetR at h ⊢
  rw [h1]
  exact h
theorem put_ne {I : am_I} {o k o' : Nat} {v : Int32} (h : o' ≠ o) : am_put I o k v o' = I o' := am_put_o h
theorem put2_ne {I : am_I} {o k p j o' : Nat} {v w : Int32} (h : o' ≠ o) (h2 : o' ≠ p) : am_put (am_put I o k v) p j w o' = I o' := by rw [am_put_o h2, am_put_o h]
theorem put_at {I : am_I} {o k : Nat} {v : Int32} : am_put I o k v o k = v := by unfold am_put; rw [if_pos ⟨rfl, rfl⟩]
theorem put_nk {I : am_I} {o k j : Nat} {v : Int32} (h : j ≠ k) : am_put I o k v o j = I o j := by unfold am_put; rw [if_neg (fun q => h q.2)]
theorem put_if {I : am_I} {o k j : Nat} {v : Int32} : am_put I o k v o j = if j = k then v else I o j := by unfold am_put; simp
