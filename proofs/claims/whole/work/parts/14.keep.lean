/-! WHAT A WRITE LEAVES AS IT WAS -/
def am_rc : List Nat := [0, 38, 39, 66, 71, 53, 80, 54, 55, 57, 58, 59, 60, 81, 82, 83, 61, 62, 63, 84, 85, 64, 65, 86, 72]
theorem Rest.kept {I I' : am_I} (h : Rest I) (hk : ∀ o ∈ am_rc, I' o = I o) : Rest I' := by
  have k : ∀ o, o ∈ am_rc → I' o = I o := hk
  obtain ⟨h1, h2, h3, h4, h5, h6⟩ := h
  refine ⟨?_, ?_, ?_, ?_, ?_, ?_⟩
  · unfold TapeR at h1 ⊢
    rw [k 38 (by decide), k 66 (by decide), k 71 (by decide), k 39 (by decide)]
    exact h1
  · unfold RowsR at h2 ⊢
    rw [k 0 (by decide), k 66 (by decide), k 53 (by decide), k 80 (by decide)]
    exact h2
  · unfold SheetR at h3 ⊢
    rw [k 54 (by decide), k 81 (by decide), k 55 (by decide), k 82 (by decide), k 83 (by decide)]
    intro h hh
    have e : I' (57 + h) = I (57 + h) := by
      rcases (show h = 0 ∨ h = 1 ∨ h = 2 ∨ h = 3 by omega) with rfl | rfl | rfl | rfl <;> exact k _ (by decide)
    rw [e]
    exact h3 h hh
  · unfold ShelfR at h4 ⊢
    rw [k 61 (by decide), k 84 (by decide), k 62 (by decide), k 85 (by decide), k 63 (by decide)]
    exact h4
  · unfold TraceR at h5 ⊢
    rw [k 64 (by decide), k 66 (by decide), k 65 (by decide), k 86 (by decide)]
    exact h5
  · unfold LetR at h6 ⊢
    rw [k 72 (by decide)]
    exact h6
def am_kc : List Nat := [0, 66, 23, 24, 25, 26, 27, 28, 29, 30, 31, 32, 34, 35, 36, 37, 68]
theorem TR_cells : ∀ t ∈ TR 23, t.1 ∈ am_kc := by decide +kernel
theorem KeptR.kept {I I' : am_I} {uk : am_U} (h : KeptR I uk) (k : ∀ o ∈ am_kc, I' o = I o) : KeptR I' uk := by
  unfold KeptR at h ⊢
  rw [k 0 (by decide), k 66 (by decide)]
  refine ⟨h.1, h.2.imp id (fun q => ⟨q.1, ?_⟩)⟩
  obtain ⟨h1, ⟨h2, h3⟩, ⟨h4, h5, h6⟩, h7⟩ := q.2
  refine ⟨?_, ⟨h2.kept (fun t ht => k _ (TR_cells t ht)), ?_⟩, ⟨h4.kept (fun t ht => ?_), ?_, ?_⟩, h7⟩
  · unfold MRep at h1 ⊢
    rw [k 68 (by decide)]
    exact h1
  · show RuR (I' 32) uk
    rw [k 32 (by decide)]
    exact h3
  · have e : t.1 = 24 := by
      simp only [TC, List.mem_cons, List.not_mem_nil, or_false] at ht
      rcases ht with rfl | rfl | rfl | rfl <;> rfl
    rw [e]
    exact k 24 (by decide)
  · rw [k 24 (by decide)]
    exact h5
  · rw [k 24 (by decide)]
    exact h6
/-- what of u a place is not read by: the rules' numbers, who was met, who is fed -/
def am_free (j : Nat) : Bool := decide (j ≠ 7) && decide (j < 98) && (List.range 6).all (fun k => decide (j ≠ 42 + 6 * k) && decide (j ≠ 43 + 6 * k))
theorem am_free_use {j : Nat} (h : am_free j = true) : j ≠ 7 ∧ j < 98 ∧ ∀ k, k < 6 → j ≠ 42 + 6 * k ∧ j ≠ 43 + 6 * k := by
  simp only [am_free, Bool.and_eq_true, decide_eq_true_eq, List.all_eq_true, List.mem_range] at h
  exact ⟨h.1.1, h.1.2, h.2⟩
theorem RuR.keptu {cd : Nat → Int32} {u u' : am_U} (h : RuR cd u) (h7 : u' 7 = u 7) (hr : ∀ j, 98 ≤ j → u' j = u j) : RuR cd u' := by
  obtain ⟨at', h0, h1⟩ := h
  have e1 : ∀ r, sp_beg u' r = sp_beg u r := by
    intro r
    unfold sp_beg
    rw [hr _ (by omega)]
  have e2 : ∀ r, sp_end u' r = sp_end u r := by
    intro r
    unfold sp_end
    rw [hr _ (by omega)]
  have e3 : ∀ r, sp_steps u' r = sp_steps u r := by
    intro r
    unfold sp_steps
    rw [e1, e2]
    refine List.map_congr_left (fun i _ => hr _ (by omega))
  refine ⟨at', h0, fun r hrr => ?_⟩
  rw [h7] at hrr
  obtain ⟨⟨len, cs, g1, g2, g3, g4, g5, g6, g7⟩, g8, g9, g10, g11⟩ := h1 r hrr
  refine ⟨⟨len, cs, g1, g2, ?_, ?_, g5, g6, fun F => ?_⟩, g8, g9, ?_, ?_⟩
  · rw [hr _ (by omega)]; exact g3
  · rw [hr _ (by omega)]; exact g4
  · rw [e3]; exact g7 F
  · rw [e1, e2]; exact g10
  · rw [e2]; exact g11
theorem RuR.up {cd : Nat → Int32} {u : am_U} {j n : Nat} (h : RuR cd u) (hj : am_free j = true) : RuR cd (upN u j n) := by
  obtain ⟨h1, h2, -⟩ := am_free_use hj
  exact h.keptu (upN_n (Ne.symm h1)) (fun i hi => upN_n (by omega))
theorem MetR.up {x : Int32} {u : am_U} {j n : Nat} (h : MetR x u) (hj : am_free j = true) : MetR x (upN u j n) := by
  obtain ⟨-, -, h3⟩ := am_free_use hj
  intro k hk
  rw [upN_n (Ne.symm (h3 k hk).1)]
  exact h k hk
theorem fedN.up {u : am_U} {j n : Nat} (hj : am_free j = true) : fedN (upN u j n) = fedN u := by
  obtain ⟨-, -, h3⟩ := am_free_use hj
  unfold fedN
  rw [upN_n (Ne.symm (h3 0 (by decide)).2), upN_n (Ne.symm (h3 1 (by decide)).2), upN_n (Ne.symm (h3 2 (by decide)).2), upN_n (Ne.symm (h3 3 (by decide)).2), upN_n (Ne.symm (h3 4 (by decide)).2), upN_n (Ne.symm (h3 5 (by decide)).2)]
theorem MRep.up {I : am_I} {o : Nat} {u : am_U} {j n : Nat} {v : Int32} (h : MRep I o u) (hv : v = nI n) : MRep (am_put I o j v) o (upN u j n) := by
  intro i hi
  unfold am_put upN
  by_cases e : i = j
  · subst e
    rw [if_pos ⟨rfl, rfl⟩, if_pos rfl, hv]
  · rw [if_neg (fun q => e q.2), if_neg e]
    exact h i hi
theorem MRep.off {I : am_I} {o o' : Nat} {u : am_U} {k : Nat} {v : Int32} (h : MRep I o u) (hv : o ≠ o') : MRep (am_put I o' k v) o u := by
  intro i hi
  unfold am_put
  rw [if_neg (fun q => hv q.1)]
  exact h i hi
/-- a place of the class that holds number j of the row -/
def am_t (o k j : Nat) : Bool := decide ((o, k, j) ∈ TR 8 ++ TC 9) && decide (∀ t ∈ TR 8 ++ TC 9, (t.1 = o ∧ t.2.1 = k) ↔ t.2.2 = j) && am_free j && decide (o ≠ 17) && decide (o ≠ 67) && (decide (o ≠ 9) || decide (k < 4)) && decide (o ∉ am_rc) && decide (o ∉ am_kc)
theorem am_of32 (x : Int32) : ∃ n, n < 2 ^ 32 ∧ x = nI n := ⟨x.toBitVec.toNat, x.toBitVec.isLt, Int32.toBitVec_inj.mp (by show _ = BitVec.ofNat 32 _; simp)⟩
theorem am_nIof (a : Int32) : a = nI a.toBitVec.toNat := by
  obtain ⟨n, hn, e⟩ := am_of32 a
  subst e
  rw [show (nI n).toBitVec.toNat = n from pk_tn hn]
theorem TR8_cells : ∀ t ∈ TR 8 ++ TC 9, t.1 ≠ 67 := by decide +kernel
theorem am_put2 {I : am_I} {o k o' : Nat} {v : Int32} (h : o' ≠ o) : am_put I o k v o' = I o' := am_put_o h
/-- both write one number -/
theorem Main_up {I : am_I} {u : am_U} {o k j n : Nat} {v : Int32} (h : Main I 8 9 67 u) (ht : am_t o k j = true) (hO : OKu (upN u j n)) (hv : v = nI n) : Main (am_put (am_put I o k v) 67 j v) 8 9 67 (upN u j n) := by
  simp only [am_t, Bool.and_eq_true, decide_eq_true_eq, Bool.or_eq_true] at ht
  obtain ⟨⟨⟨⟨⟨⟨⟨t0, t1⟩, t2⟩, t3⟩, t4⟩, t5⟩, t6⟩, t7⟩ := ht
  obtain ⟨hM, ⟨hR, hRu⟩, ⟨hC, hMe, hFe⟩, -⟩ := h
  have e17 : am_put (am_put I o k v) 67 j v 17 = I 17 := by rw [am_put_o (by decide), am_put_o (Ne.symm t3)]
  have e94 : am_put (am_put I o k v) 67 j v 9 4 = I 9 4 := by
    rw [am_put_o (by decide)]
    unfold am_put
    rw [if_neg (by omega)]
  have e95 : am_put (am_put I o k v) 67 j v 9 5 = I 9 5 := by
    rw [am_put_o (by decide)]
    unfold am_put
    rw [if_neg (by omega)]
  refine ⟨(hM.off (Ne.symm t4)).up hv, ⟨?_, ?_⟩, ⟨?_, ?_, ?_⟩, hO⟩
  · exact Rel.off (Rel.put hR o k j hv (fun t q => t1 t (List.mem_append_left _ q))) 67 j (fun t q z => TR8_cells t (List.mem_append_left _ q) z.1)
  · show RuR (am_put (am_put I o k v) 67 j v 17) _
    rw [e17]
    exact hRu.up t2
  · exact Rel.off (Rel.put hC o k j hv (fun t q => t1 t (List.mem_append_right _ q))) 67 j (fun t q z => TR8_cells t (List.mem_append_right _ q) z.1)
  · rw [e94]
    exact hMe.up t2
  · rw [e95, fedN.up t2]
    exact hFe
theorem Main.get {I : am_I} {u : am_U} {o k j : Nat} (h : Main I 8 9 67 u) (ht : am_t o k j = true) : I o k = nI (u j) := by
  simp only [am_t, Bool.and_eq_true, decide_eq_true_eq, Bool.or_eq_true] at ht
  obtain ⟨⟨⟨⟨⟨⟨⟨t0, t1⟩, t2⟩, t3⟩, t4⟩, t5⟩, t6⟩, t7⟩ := ht
  obtain ⟨hM, ⟨hR, hRu⟩, ⟨hC, hMe, hFe⟩, -⟩ := h
  rcases List.mem_append.mp t0 with q | q
  · exact hR _ q
  · exact hC _ q
theorem Inv_up {I : am_I} {u uk : am_U} {o k j n : Nat} {v : Int32} (h : Main I 8 9 67 u) (hK : KeptR I uk) (hR : Rest I) (ht : am_t o k j = true) (hO : OKu (upN u j n)) (hv : v = nI n) : Inv (am_put (am_put I o k v) 67 j v) := by
  refine ⟨upN u j n, uk, Main_up h ht hO hv, hK.kept (fun o' q => ?_), hR.kept (fun o' q => ?_)⟩
  all_goals
    simp only [am_t, Bool.and_eq_true, decide_eq_true_eq, Bool.or_eq_true] at ht
    obtain ⟨⟨⟨⟨⟨⟨⟨t0, t1⟩, t2⟩, t3⟩, t4⟩, t5⟩, t6⟩, t7⟩ := ht
    rw [am_put_o (fun z => by subst z; revert q; decide), am_put_o (fun z => by subst z; first | exact t7 q | exact t6 q)]
theorem OKu.b {u : am_U} (h : OKu u) (j m : Nat) (hq : (j, m) ∈ OKb) : u j ≤ m := h.1 _ hq
theorem OKu.up {u : am_U} {j n : Nat} (h : OKu u) (hb : ∀ q ∈ OKb, q.1 = j → n ≤ q.2) (h01 : upN u j n 0 ≤ upN u j n 1) (h1 : 1 ≤ upN u j n 1) (hk : ∀ k, k < upN u j n 6 → 1 ≤ upN u j n (38 + 6 * k)) (hz : ∀ k f, upN u j n 6 ≤ k → k < 6 → f < 6 → upN u j n (38 + 6 * k + f) = 0) : OKu (upN u j n) := by
  refine ⟨fun q hq => ?_, h01, h1, hk, hz⟩
  by_cases e : q.1 = j
  · rw [e, upN_s]
    exact hb q hq e
  · rw [upN_n e]
    exact h.1 q hq
/-- a number outside day, end, the count and the people -/
theorem OKu.up0 {u : am_U} {j n : Nat} (h : OKu u) (hb : ∀ q ∈ OKb, q.1 = j → n ≤ q.2) (hj : j ≠ 0 ∧ j ≠ 1 ∧ j ≠ 6 ∧ (j < 38 ∨ 74 ≤ j)) : OKu (upN u j n) := by
  obtain ⟨h0, h1, h6, hp⟩ := hj
  obtain ⟨g1, g2, g3, g4, g5⟩ := h
  have e0 : upN u j n 0 = u 0 := upN_n (Ne.symm h0)
  have e1 : upN u j n 1 = u 1 := upN_n (Ne.symm h1)
  have e6 : upN u j n 6 = u 6 := upN_n (Ne.symm h6)
  refine OKu.up ⟨g1, g2, g3, g4, g5⟩ hb (by rw [e0, e1]; exact g2) (by rw [e1]; exact g3) (fun k hk => ?_) (fun k f hk h6 hf => ?_)
  · rw [e6] at hk
    have h66 : u 6 ≤ 6 := g1 (6, 6) (by decide)
    rw [upN_n (by omega)]
    exact g4 k hk
  · rw [e6] at hk
    rw [upN_n (by omega)]
    exact g5 k f hk h6 hf
/-- the end -/
theorem OKu.up1 {u : am_U} {n : Nat} (h : OKu u) (h0 : u 0 ≤ n) (h1 : 1 ≤ n) (h16 : n ≤ 16) : OKu (upN u 1 n) := by
  obtain ⟨g1, g2, g3, g4, g5⟩ := h
  have h66 : u 6 ≤ 6 := g1 (6, 6) (by decide)
  refine OKu.up ⟨g1, g2, g3, g4, g5⟩ (fun q hq e => ?_) h0 h1 (fun k hk => ?_) (fun k f hk h6 hf => ?_)
  · have : ∀ q ∈ OKb, q.1 = 1 → q.2 = 16 := by decide +kernel
    rw [this q hq e]; exact h16
  · have hk : k < u 6 := hk
    rw [upN_n (by omega)]
    exact g4 k hk
  · have hk : u 6 ≤ k := hk
    rw [upN_n (by omega)]
    exact g5 k f hk h6 hf
