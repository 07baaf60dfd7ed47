/-- what a String constant's length() and charAt() give, as calls of any method -/
def am_Str (l : Launch) (D : va_G) (cA : FieldType → ClassId) (ad : Nat → Nat) (L : Nat) (xs : Nat → Int32) : Prop :=
  ∀ (p : Program) (e : Env) (R : Room) (s : State) (m : MethodId) (args : Array Value) (below : List Frame) (meth : Method) (c : Code) (H : Heap) (locs : List Loc) (cells slots : Nat) (Z : State → Prop) (pc : Nat) (ls : Array Slot) (M : am_M) (d o idx : Nat) (rest : List Value),
    am_Cx D cA ad L xs M d p R s m args c cells slots → va_S (am_A ad) s.heap H locs → ls.size = M.2.2.1 → 1000 ≤ o → o < 1018 → 4 ≤ d → am_cs rest ≤ 8 → decode M.2.1 pc = .ok (.invokevirtual idx, 3) →
    (Cond.methodLink M.1.cls idx ⟨"java/lang/String", "length", "()I"⟩ ∈ am_tb → (∀ (H' : Heap) (locs' : List Loc), va_S (am_A ad) s.heap H' locs' → (∀ q, am_A ad q → H'[q]? = H[q]?) → W p l e R s m args below meth c H' locs' cells slots Z (F0 m (pc + 3) ls (.int (nI (am_txl (o - 1000))) :: rest.map (am_up ad)))) → W p l e R s m args below meth c H locs cells slots Z (F0 m pc ls (.ref (ad o) :: rest.map (am_up ad)))) ∧
    (∀ k : Int32, vp_in k (am_txl (o - 1000)) → Cond.methodLink M.1.cls idx ⟨"java/lang/String", "charAt", "(I)C"⟩ ∈ am_tb → (∀ (H' : Heap) (locs' : List Loc), va_S (am_A ad) s.heap H' locs' → (∀ q, am_A ad q → H'[q]? = H[q]?) → W p l e R s m args below meth c H' locs' cells slots Z (F0 m (pc + 3) ls (.int (am_txc (o - 1000) k.toNatClampNeg) :: rest.map (am_up ad)))) → W p l e R s m args below meth c H locs cells slots Z (F0 m pc ls (.int k :: .ref (ad o) :: rest.map (am_up ad))))
theorem am_P_kept {D : va_G} {cA : FieldType → ClassId} {ad : Nat → Nat} {I : am_I} {H H' : Heap} (hP : va_P D vwCl (am_ws cA ad I) H) (h : ∀ q, am_A ad q → H'[q]? = H[q]?) : va_P D vwCl (am_ws cA ad I) H' := by
  refine hP.kept (fun k q hk => h q.1 ?_)
  by_cases hn : k < am_n
  · rw [am_ws_at cA ad I hn] at hk
    cases hk
    exact ⟨k, hn, rfl⟩
  · rw [am_ws_none cA ad I hn] at hk
    cases hk
theorem am_okst_lt {M : am_M} {mi a : Nat} (h : am_okst M mi a = true) : a < M.2.2.1 := by
  simp only [am_okst, Bool.and_eq_true, decide_eq_true_eq] at h
  exact h.1
set_option maxHeartbeats 4000000 in
/-- THE REAL MACHINE'S JUDGEMENT IS CLOSED -/
theorem am_closed {l : Launch} {D : va_G} {cA : FieldType → ClassId} {ad : Nat → Nat} {L : Nat} {xs : Nat → Int32} (hOk : am_Ok) (hi : am_inj ad) (hStr : am_Str l D cA ad L xs) : am_Cl am_meth L xs (am_Jm l D cA ad L xs) := by
  refine ⟨?_, am_Jm_mo l D cA ad L xs⟩
  intro d mi pc lv st I Q h M hM p e R s m args below meth c H locs cells slots ls Z hC hP hS hl hr
  unfold am_F at h
  rw [hM] at h
  dsimp only at h
  cases hins : am_ins M pc with
  | none => rw [hins] at h; exact h.elim
  | some en =>
    obtain ⟨i, n, a, b, ts, v⟩ := en
    rw [hins] at h
    dsimp only at h
    obtain ⟨ps, hok⟩ := am_ok_ins (hOk mi M hM).1 hins
    simp only [am_okE, Bool.and_eq_true, decide_eq_true_eq] at hok
    obtain ⟨hd0, hok⟩ := hok
    have hd : ∀ k, n = pc + k → decode M.2.1 pc = .ok (i, k) := fun k e => by rw [hd0, e, Nat.add_sub_cancel_left]
    obtain ⟨hx, hb, hml, hown, hts, hK, hRd, hcs, hX⟩ := id hC
    have K : am_KK l D cA ad L xs p e R s m args below meth c cells slots Z M d mi Q := fun n' lv' st' I' H' locs' ls' h' hP' hS' hl' => h' M hM p e R s m args below meth c H' locs' cells slots ls' Z hC hP' hS' hl' hr
    have hD : va_D (am_A ad) (am_ws cA ad I) := am_ws_D hi cA I
    generalize hJe : am_Jm l D cA ad L xs = J at h
    have KJ : ∀ {n' : Nat} {lv' : List (Option Value)} {st' : List Value} {I' : am_I} {H' : Heap} {locs' : List Loc} {ls' : Array Slot}, J d mi n' lv' st' I' Q → va_P D vwCl (am_ws cA ad I') H' → va_S (am_A ad) s.heap H' locs' → am_ls ad M mi ls' lv' → W p l e R s m args below meth c H' locs' cells slots Z (F0 m n' ls' (st'.map (am_up ad))) := by
      intro n' lv' st' I' H' locs' ls' h' hP' hS' hl'
      rw [← hJe] at h'
      exact K _ _ _ _ _ _ _ h' hP' hS' hl'
    have inv : ∀ (i' : Instr), decode M.2.1 pc = .ok (i', 3) → am_okinv M i' a b ts ps = true → am_inv am_meth J J a b ts d mi (pc + 3) lv st I Q → W p l e R s m args below meth c H locs cells slots Z (F0 m pc ls (st.map (am_up ad))) := by
      intro i' hd' hok' h'
      rw [← hJe] at h'
      refine am_goInv hOk hi hC hP hS hl K hd' hok' h' ?_ ?_
      · intro o rest idx h1 h2 h3 h4 h5 h6 h7
        subst h5
        exact (hStr p e R s m args below meth c H locs cells slots Z pc ls M d o idx rest hC hS hl.1 h1 h2 h3 h4 hd').1 h6 (fun H' locs' hS' hk => K _ _ _ _ _ _ _ h7 (am_P_kept hP hk) hS' hl)
      · intro o k rest idx h1 h2 h3 h4 h5 h6 h7 h8
        subst h6
        exact (hStr p e R s m args below meth c H locs cells slots Z pc ls M d o idx rest hC hS hl.1 h1 h2 h4 h5 hd').2 k h3 h7 (fun H' locs' hS' hk => K _ _ _ _ _ _ _ h8 (am_P_kept hP hk) hS' hl)
    have ild : ∀ (k : Nat), n = pc + k → am_ild J a d mi n lv st I Q → ((∀ x : Int32, ls[a]? = some (.val (.int x)) → W p l e R s m args below meth c H locs cells slots Z (F0 m n ls (.int x :: st.map (am_up ad))) → W p l e R s m args below meth c H locs cells slots Z (F0 m pc ls (st.map (am_up ad))))) → W p l e R s m args below meth c H locs cells slots Z (F0 m pc ls (st.map (am_up ad))) := by
      intro k hk h' f
      unfold am_ild at h'
      split at h'
      · next x hx' => exact f x (hl.2.2.1 _ _ hx') (KJ h' hP hS hl)
      · exact h'.elim
    have ald : am_ald J a d mi n lv st I Q → ((∀ x : Nat, ls[a]? = some (.val (.ref (ad x))) → W p l e R s m args below meth c H locs cells slots Z (F0 m n ls (.ref (ad x) :: st.map (am_up ad))) → W p l e R s m args below meth c H locs cells slots Z (F0 m pc ls (st.map (am_up ad))))) → W p l e R s m args below meth c H locs cells slots Z (F0 m pc ls (st.map (am_up ad))) := by
      intro h' f
      unfold am_ald at h'
      split at h'
      · next x hx' => exact f x (hl.2.2.1 _ _ hx') (KJ h' hP hS hl)
      · exact h'.elim
    cases i with
    | iconst k =>
      simp only [am_okI, Bool.and_eq_true, decide_eq_true_eq] at hok
      obtain ⟨rfl, hv⟩ := hok
      exact lv_iconst hx hb (hd 1 rfl) hv (KJ h hP hS hl)
    | bipush k =>
      simp only [am_okI, Bool.and_eq_true, decide_eq_true_eq] at hok
      obtain ⟨rfl, hv⟩ := hok
      exact lv_bipush hx hb (hd 2 rfl) hv (KJ h hP hS hl)
    | sipush k =>
      simp only [am_okI, Bool.and_eq_true, decide_eq_true_eq] at hok
      obtain ⟨rfl, hv⟩ := hok
      exact lv_sipush hx hb (hd 3 rfl) hv (KJ h hP hS hl)
    | ldc idx =>
      simp only [am_okI, Bool.and_eq_true, decide_eq_true_eq] at hok
      obtain ⟨rfl, hok⟩ := hok
      cases a with
      | zero =>
        match ps, hok with
        | [p0], hok => exact lv_ldc hx hb hown (hts _ (am_at_in hok)) (hd 2 rfl) (KJ h hP hS hl)
        | [], hok => exact absurd hok Bool.false_ne_true
        | _ :: _ :: _, hok => exact absurd hok Bool.false_ne_true
      | succ a =>
        have hok : (decide (b < 18) && decide (am_sx.getD b 0 = idx) && decide (M.1.cls = "BrokenLoaves$RuleText")) = true := hok
        simp only [Bool.and_eq_true, decide_eq_true_eq] at hok
        obtain ⟨⟨q1, q2⟩, q3⟩ := hok
        have hR := hX.2.2.1 b q1
        rw [q2, ← q3] at hR
        exact va_ldcS hx hb hown hR (hd 2 rfl) (KJ h hP hS hl)
    | ldc_w idx =>
      simp only [am_okI, Bool.and_eq_true, decide_eq_true_eq] at hok
      obtain ⟨rfl, hok⟩ := hok
      split at hok
      · exact lv_ldcw hx hb hown (hts _ (am_at_in hok)) (hd 3 rfl) (KJ h hP hS hl)
      · cases hok
    | ldc2_w idx =>
      simp only [am_okI, Bool.and_eq_true, decide_eq_true_eq] at hok
      obtain ⟨rfl, hok⟩ := hok
      split at hok
      · exact lv_ldc2 hx hb hown (hts _ (am_at_in hok)) (hd 3 rfl) (KJ h hP hS hl)
      · cases hok
    | iload k =>
      simp only [am_okI, Bool.and_eq_true, decide_eq_true_eq] at hok
      obtain ⟨rfl, rfl⟩ := hok
      exact ild 2 rfl h (fun x q w => lv_iload hx hb (hd 2 rfl) q w)
    | iload_n k =>
      simp only [am_okI, Bool.and_eq_true, decide_eq_true_eq] at hok
      obtain ⟨rfl, rfl⟩ := hok
      exact ild 1 rfl h (fun x q w => lv_iload_n hx hb (hd 1 rfl) rfl q w)
    | lload_n k =>
      simp only [am_okI, Bool.and_eq_true, decide_eq_true_eq] at hok
      obtain ⟨rfl, rfl⟩ := hok
      simp only [am_step, am_lld] at h
      split at h
      · next x hx' => exact lv_lload_n hx hb (hd 1 rfl) rfl (hl.2.2.1 _ _ hx') (KJ h hP hS hl)
      · exact h.elim
    | aload k =>
      simp only [am_okI, Bool.and_eq_true, decide_eq_true_eq] at hok
      obtain ⟨rfl, rfl⟩ := hok
      exact ald h (fun x q w => lv_aload hx hb (hd 2 rfl) q w)
    | aload_n k =>
      simp only [am_okI, Bool.and_eq_true, decide_eq_true_eq] at hok
      obtain ⟨rfl, rfl⟩ := hok
      exact ald h (fun x q w => lv_aload_n hx hb (hd 1 rfl) rfl q w)
    | istore k =>
      simp only [am_okI, Bool.and_eq_true, decide_eq_true_eq] at hok
      obtain ⟨⟨rfl, rfl⟩, hst⟩ := hok
      simp only [am_step, am_ist] at h
      split at h
      · next x st' => exact lv_istore hx hb (hd 2 rfl) (am_ls_has hl) (am_okst_lt hst) rfl (fun ls' hl' => KJ h hP hS (am_ls_set hl hst rfl hl'))
      · exact h.elim
    | istore_n k =>
      simp only [am_okI, Bool.and_eq_true, decide_eq_true_eq] at hok
      obtain ⟨⟨rfl, rfl⟩, hst⟩ := hok
      simp only [am_step, am_ist] at h
      split at h
      · next x st' => exact lv_istore_n hx hb (hd 1 rfl) rfl (am_ls_has hl) (am_okst_lt hst) rfl (fun ls' hl' => KJ h hP hS (am_ls_set hl hst rfl hl'))
      · exact h.elim
    | astore k =>
      simp only [am_okI, Bool.and_eq_true, decide_eq_true_eq] at hok
      obtain ⟨⟨rfl, rfl⟩, hst⟩ := hok
      simp only [am_step, am_ast] at h
      split at h
      · next x st' => exact lv_astore hx hb (hd 2 rfl) (am_ls_has hl) (am_okst_lt hst) rfl (fun ls' hl' => KJ h hP hS (am_ls_set hl hst rfl hl'))
      · exact h.elim
    | astore_n k =>
      simp only [am_okI, Bool.and_eq_true, decide_eq_true_eq] at hok
      obtain ⟨⟨rfl, rfl⟩, hst⟩ := hok
      simp only [am_step, am_ast] at h
      split at h
      · next x st' => exact lv_astore_n hx hb (hd 1 rfl) rfl (am_ls_has hl) (am_okst_lt hst) rfl (fun ls' hl' => KJ h hP hS (am_ls_set hl hst rfl hl'))
      · exact h.elim
    | iinc k q =>
      simp only [am_okI, Bool.and_eq_true, decide_eq_true_eq] at hok
      obtain ⟨⟨⟨rfl, rfl⟩, hv⟩, hst⟩ := hok
      simp only [am_step, am_inc] at h
      split at h
      · next x hx' =>
        have hm := am_as_of ad lv 0 a _ hx'
        rw [Nat.zero_add] at hm
        obtain ⟨j, hj⟩ := List.getElem?_of_mem hm
        exact lv_iinc hx hb (hd 3 rfl) (am_ls_has hl) hj (by rw [hv]) (am_okst_lt hst) rfl (fun ls' hl' => KJ h hP hS (am_ls_set hl hst rfl hl'))
      · exact h.elim
    | iadd =>
      simp only [am_okI, decide_eq_true_eq] at hok
      subst hok
      simp only [am_step, am_bin] at h
      split at h
      · exact lv_iadd hx hb (hd 1 rfl) (KJ h hP hS hl)
      · exact h.elim
    | isub =>
      simp only [am_okI, decide_eq_true_eq] at hok
      subst hok
      simp only [am_step, am_bin] at h
      split at h
      · exact lv_isub hx hb (hd 1 rfl) (KJ h hP hS hl)
      · exact h.elim
    | imul =>
      simp only [am_okI, decide_eq_true_eq] at hok
      subst hok
      simp only [am_step, am_bin] at h
      split at h
      · exact lv_imul hx hb (hd 1 rfl) (KJ h hP hS hl)
      · exact h.elim
    | iand =>
      simp only [am_okI, decide_eq_true_eq] at hok
      subst hok
      simp only [am_step, am_bin] at h
      split at h
      · exact lv_iand hx hb (hd 1 rfl) (KJ h hP hS hl)
      · exact h.elim
    | ior =>
      simp only [am_okI, decide_eq_true_eq] at hok
      subst hok
      simp only [am_step, am_bin] at h
      split at h
      · exact lv_ior hx hb (hd 1 rfl) (KJ h hP hS hl)
      · exact h.elim
    | ixor =>
      simp only [am_okI, decide_eq_true_eq] at hok
      subst hok
      simp only [am_step, am_bin] at h
      split at h
      · exact lv_ixor hx hb (hd 1 rfl) (KJ h hP hS hl)
      · exact h.elim
    | ishl =>
      simp only [am_okI, decide_eq_true_eq] at hok
      subst hok
      simp only [am_step, am_bin] at h
      split at h
      · exact lv_ishl hx hb (hd 1 rfl) (KJ h hP hS hl)
      · exact h.elim
    | ishr =>
      simp only [am_okI, decide_eq_true_eq] at hok
      subst hok
      simp only [am_step, am_bin] at h
      split at h
      · exact lv_ishr hx hb (hd 1 rfl) (KJ h hP hS hl)
      · exact h.elim
    | iushr =>
      simp only [am_okI, decide_eq_true_eq] at hok
      subst hok
      simp only [am_step, am_bin] at h
      split at h
      · exact lv_iushr hx hb (hd 1 rfl) rfl (KJ h hP hS hl)
      · exact h.elim
    | idiv =>
      simp only [am_okI, decide_eq_true_eq] at hok
      subst hok
      simp only [am_step, am_div] at h
      split at h
      · exact lv_idiv hx hb (hd 1 rfl) h.1 (KJ h.2 hP hS hl)
      · exact h.elim
    | irem =>
      simp only [am_okI, decide_eq_true_eq] at hok
      subst hok
      simp only [am_step, am_div] at h
      split at h
      · exact lv_irem hx hb (hd 1 rfl) h.1 (KJ h.2 hP hS hl)
      · exact h.elim
    | ineg =>
      simp only [am_okI, decide_eq_true_eq] at hok
      subst hok
      simp only [am_step, am_una] at h
      split at h
      · exact lv_ineg hx hb (hd 1 rfl) (KJ h hP hS hl)
      · exact h.elim
    | i2b =>
      simp only [am_okI, decide_eq_true_eq] at hok
      subst hok
      simp only [am_step, am_una] at h
      split at h
      · exact lv_i2b hx hb (hd 1 rfl) rfl (KJ h hP hS hl)
      · exact h.elim
    | i2s =>
      simp only [am_okI, decide_eq_true_eq] at hok
      subst hok
      simp only [am_step, am_una] at h
      split at h
      · exact lv_i2s hx hb (hd 1 rfl) rfl (KJ h hP hS hl)
      · exact h.elim
    | i2l =>
      simp only [am_okI, decide_eq_true_eq] at hok
      subst hok
      simp only [am_step] at h
      split at h
      · exact lv_i2l hx hb (hd 1 rfl) rfl (KJ h hP hS hl)
      · exact h.elim
    | l2i =>
      simp only [am_okI, decide_eq_true_eq] at hok
      subst hok
      simp only [am_step] at h
      split at h
      · exact lv_l2i hx hb (hd 1 rfl) rfl (KJ h hP hS hl)
      · exact h.elim
    | land =>
      simp only [am_okI, decide_eq_true_eq] at hok
      subst hok
      simp only [am_step, am_lbin] at h
      split at h
      · exact lv_land hx hb (hd 1 rfl) (KJ h hP hS hl)
      · exact h.elim
    | lor =>
      simp only [am_okI, decide_eq_true_eq] at hok
      subst hok
      simp only [am_step, am_lbin] at h
      split at h
      · exact lv_lor hx hb (hd 1 rfl) (KJ h hP hS hl)
      · exact h.elim
    | lshl =>
      simp only [am_okI, decide_eq_true_eq] at hok
      subst hok
      simp only [am_step, am_lsh] at h
      split at h
      · exact lv_lshl hx hb (hd 1 rfl) rfl (KJ h hP hS hl)
      · exact h.elim
    | lshr =>
      simp only [am_okI, decide_eq_true_eq] at hok
      subst hok
      simp only [am_step, am_lsh] at h
      split at h
      · exact lv_lshr hx hb (hd 1 rfl) rfl (KJ h hP hS hl)
      · exact h.elim
    | lushr =>
      simp only [am_okI, decide_eq_true_eq] at hok
      subst hok
      simp only [am_step, am_lsh] at h
      split at h
      · exact lv_lushr hx hb (hd 1 rfl) rfl (KJ h hP hS hl)
      · exact h.elim
    | dup =>
      simp only [am_okI, decide_eq_true_eq] at hok
      subst hok
      simp only [am_step] at h
      split at h
      · exact lv_dup hx hb (hd 1 rfl) rfl (KJ h hP hS hl)
      · exact lv_dup hx hb (hd 1 rfl) rfl (KJ h hP hS hl)
      · exact h.elim
    | dup2 =>
      simp only [am_okI, decide_eq_true_eq] at hok
      subst hok
      simp only [am_step] at h
      split at h
      · exact lv_dup2_11 hx hb (hd 1 rfl) rfl rfl (KJ h hP hS hl)
      · exact h.elim
    | pop =>
      simp only [am_okI, decide_eq_true_eq] at hok
      subst hok
      simp only [am_step] at h
      split at h
      · next x st' => exact lv_pop (va := .int x) hx hb (hd 1 rfl) rfl (KJ h hP hS hl)
      · next x st' => exact lv_pop (va := .ref (ad x)) hx hb (hd 1 rfl) rfl (KJ h hP hS hl)
      · exact h.elim
    | goto off =>
      simp only [am_okI, Bool.and_eq_true, decide_eq_true_eq] at hok
      obtain ⟨rfl, ht⟩ := hok
      exact lv_goto hx hb (hd 3 rfl) ht (KJ h hP hS hl)
    | ifCond cd off =>
      simp only [am_okI, Bool.and_eq_true, decide_eq_true_eq] at hok
      obtain ⟨rfl, ht⟩ := hok
      cases cd
      all_goals
        simp only [am_step, am_br1] at h
        split at h
      · exact lv_if_eq hx hb (hd 3 rfl) ht (fun q => KJ (h.1 q) hP hS hl) (fun q => KJ (h.2 q) hP hS hl)
      · exact h.elim
      · exact lv_if_ne hx hb (hd 3 rfl) ht (fun q => KJ (h.2 q) hP hS hl) (fun q => KJ (h.1 q) hP hS hl)
      · exact h.elim
      · exact lv_if_lt hx hb (hd 3 rfl) ht (fun q => KJ (h.1 q) hP hS hl) (fun q => KJ (h.2 q) hP hS hl)
      · exact h.elim
      · exact lv_if_ge hx hb (hd 3 rfl) ht (fun q => KJ (h.1 q) hP hS hl) (fun q => KJ (h.2 q) hP hS hl)
      · exact h.elim
      · exact lv_if_gt hx hb (hd 3 rfl) ht (fun q => KJ (h.1 q) hP hS hl) (fun q => KJ (h.2 q) hP hS hl)
      · exact h.elim
      · exact lv_if_le hx hb (hd 3 rfl) ht (fun q => KJ (h.1 q) hP hS hl) (fun q => KJ (h.2 q) hP hS hl)
      · exact h.elim
    | if_icmp cd off =>
      simp only [am_okI, Bool.and_eq_true, decide_eq_true_eq] at hok
      obtain ⟨rfl, ht⟩ := hok
      cases cd
      all_goals
        simp only [am_step, am_br2] at h
        split at h
      · exact lv_icmp_eq hx hb (hd 3 rfl) ht (fun q => KJ (h.1 q) hP hS hl) (fun q => KJ (h.2 q) hP hS hl)
      · exact h.elim
      · exact lv_icmp_ne hx hb (hd 3 rfl) ht (fun q => KJ (h.2 q) hP hS hl) (fun q => KJ (h.1 q) hP hS hl)
      · exact h.elim
      · exact lv_icmp_lt hx hb (hd 3 rfl) ht (fun q => KJ (h.1 q) hP hS hl) (fun q => KJ (h.2 q) hP hS hl)
      · exact h.elim
      · exact lv_icmp_ge hx hb (hd 3 rfl) ht (fun q => KJ (h.1 q) hP hS hl) (fun q => KJ (h.2 q) hP hS hl)
      · exact h.elim
      · exact lv_icmp_gt hx hb (hd 3 rfl) ht (fun q => KJ (h.1 q) hP hS hl) (fun q => KJ (h.2 q) hP hS hl)
      · exact h.elim
      · exact lv_icmp_le hx hb (hd 3 rfl) ht (fun q => KJ (h.1 q) hP hS hl) (fun q => KJ (h.2 q) hP hS hl)
      · exact h.elim
    | tableswitch df lo hi' offs =>
      simp only [am_okI, Bool.and_eq_true, decide_eq_true_eq] at hok
      obtain ⟨⟨⟨⟨⟨h1, h2⟩, h3⟩, h4⟩, h5⟩, h6⟩ := hok
      simp only [am_step] at h
      split at h
      · next x st' =>
        rcases am_sw_use ts v lo h h2 h5.1 (by omega) with ⟨j, t, g1, g2, g3⟩ | ⟨g1, g2⟩
        · have hlt : j < ts.length := (List.getElem?_eq_some_iff.mp g1).1
          have ho : (offs.toList.map (fun o => (pc : Int) + o))[j]? = some (t : Int) := by
            rw [h3, List.getElem?_map, g1]
            rfl
          rw [List.getElem?_map] at ho
          cases hoj : offs.toList[j]? with
          | none => rw [hoj] at ho; cases ho
          | some off =>
            rw [hoj] at ho
            have hto : (pc : Int) + off = (t : Int) := Option.some.inj ho
            refine lv_tableIn (off := off) (tgt := t) hx hb hd0 (by omega) (by omega) ?_ hto (KJ g3 hP hS hl)
            rw [show (x.toInt - lo).toNat = j by omega, ← Array.getElem?_toList]
            exact hoj
        · exact lv_tableOut hx hb hd0 (by rw [h4]; exact g1) h1 (KJ g2 hP hS hl)
      · exact h.elim
    | getfield idx =>
      simp only [am_okI, Bool.and_eq_true, decide_eq_true_eq] at hok
      obtain ⟨rfl, hok⟩ := hok
      unfold am_okf at hok
      split at hok
      · next q p0 hq =>
        simp only [Bool.and_eq_true, decide_eq_true_eq] at hok
        obtain ⟨hin, hcn, ty0, hty, hnm, hft⟩ := am_cls a q hq
        simp only [am_step, am_getf] at h
        split at h
        · next o st' =>
          split at h
          · next c' ho =>
            split at h
            · next hb' =>
              have := am_beq hb'
              subst this
              have hfa := am_fs_at (ad := ad) (I := I) (o := o) (ci := c') (k := b) (by rw [hcn]; exact hok.1)
              split at h
              · next hf =>
                split at h
                · next r hR =>
                  have hv : am_fv ad I o c' b = .ref (ad r) := by
                    unfold am_fv
                    rw [hf, hR]
                    rfl
                  rw [hv] at hfa
                  exact va_get (C := q.1) (T := q.2.1) (N := q.2.2) (ref := (q.2.1 b).1) hx hb hts hin hown hK hP o (am_cell_obj ho) hq b hok.1 (hts _ (am_at_in hok.2)) (fun _ h9 => h9) hfa (hd 3 rfl) (KJ h hP hS hl)
                · exact h.elim
              · next hf =>
                have hv : am_fv ad I o c' b = .int (I o b) := by
                  unfold am_fv
                  split
                  · next e9 => exact absurd e9 hf
                  · rfl
                rw [hv] at hfa
                exact va_get (C := q.1) (T := q.2.1) (N := q.2.2) (ref := (q.2.1 b).1) hx hb hts hin hown hK hP o (am_cell_obj ho) hq b hok.1 (hts _ (am_at_in hok.2)) (fun _ h9 => h9) hfa (hd 3 rfl) (KJ h hP hS hl)
            · exact h.elim
          · exact h.elim
        · exact h.elim
      · cases hok
    | putfield idx =>
      simp only [am_okI, Bool.and_eq_true, decide_eq_true_eq] at hok
      obtain ⟨⟨rfl, hok⟩, hput⟩ := hok
      unfold am_okf at hok
      split at hok
      · next q p0 hq =>
        simp only [Bool.and_eq_true, decide_eq_true_eq] at hok
        obtain ⟨hin, hcn, ty0, hty, hnm, hft⟩ := am_cls a q hq
        have hfin : (q.2.1 b).2.2.2 = false := by
          unfold am_okput at hput
          rw [hq] at hput
          simpa using hput
        simp only [am_step, am_putf] at h
        split at h
        · next v' o st' =>
          split at h
          · next c' ho =>
            split at h
            · next hb' =>
              have := am_beq hb'
              subst this
              have go : am_ft c' b ≠ 1 → narrow (ty0 b) (.int v') = .int v' → fits (ty0 b) (.int v') = true → J d mi (pc + 3) lv st' (am_put I o b v') Q → W p l e R s m args below meth c H locs cells slots Z (F0 m pc ls ((.int v' :: .ref o :: st').map (am_up ad))) := by
                intro hf hn hfit h'
                refine va_put (C := q.1) (T := q.2.1) (N := q.2.2) (ref := (q.2.1 b).1) hx hb hts hin ty0 hty hnm hown hK hP hD hS o (am_cell_obj ho) hq b hok.1 (hts _ (am_at_in hok.2)) (fun _ h9 => h9) hfin (hty b hok.1) hn hfit (by simp [am_fs]; rw [hcn]; exact hok.1) (hd 3 rfl) (fun H1 locs1 hP1 hD1 hS1 => ?_)
                have hP2 : va_P D vwCl ((am_ws cA ad I).set o (ad o, .inr (c', (am_fs ad I o c').set b (.int v')))) H1 := hP1
                rw [am_put_obj ho (by rw [hcn]; exact hok.1) hf] at hP2
                exact KJ h' hP2 hS1 hl
              split at h
              · next hf => exact go (by rw [hf]; decide) (by rw [(hft b hok.1).1 hf]; rfl) (by rw [(hft b hok.1).1 hf]; rfl) h
              · next hf => exact go (by rw [hf]; decide) (by rw [(hft b hok.1).2 hf]; rcases h.1 with rfl | rfl <;> rfl) (by rw [(hft b hok.1).2 hf]; rcases h.1 with rfl | rfl <;> rfl) h.2
              · exact h.elim
            · exact h.elim
          · exact h.elim
        · exact h.elim
      · cases hok
    | iaload =>
      simp only [am_okI, decide_eq_true_eq] at hok
      subst hok
      simp only [am_step, am_ald1] at h
      split at h
      · next i' o st' =>
        split at h
        · next w ho => exact va_iald hx hb hK hP o 0 (am_cell_arr ho) (am_tys_at rfl) h.1 (hd 1 rfl) (KJ h.2 hP hS hl)
        · exact h.elim
        · exact h.elim
        · split at h
          · next hb' =>
            have := am_beq hb'
            subst this
            have hbl : ad am_scr < s.heap.size := by
              obtain ⟨scr, h1, -⟩ := hX.1.1
              exact (Array.getElem?_eq_some_iff.mp h1).1
            exact va_sld hx hb hX.1.1 hbl hX.1.2 hS h.1 (hd 1 rfl) (KJ h.2 hP hS hl)
          · exact h.elim
        · exact h.elim
      · exact h.elim
    | baload =>
      simp only [am_okI, decide_eq_true_eq] at hok
      subst hok
      simp only [am_step, am_ald1] at h
      split at h
      · next i' o st' =>
        split at h
        · exact h.elim
        · next w ho => exact va_bald hx hb hK hP o 1 (am_cell_arr ho) (am_tys_at rfl) h.1 (hd 1 rfl) (KJ h.2 hP hS hl)
        · exact h.elim
        · exact h.elim
        · exact h.elim
      · exact h.elim
    | caload =>
      simp only [am_okI, decide_eq_true_eq] at hok
      subst hok
      simp only [am_step, am_ald1] at h
      split at h
      · next i' o st' =>
        split at h
        · exact h.elim
        · exact h.elim
        · next w ho => exact va_cald hx hb hK hP o 2 (am_cell_arr ho) (am_tys_at rfl) h.1 (hd 1 rfl) (KJ h.2 hP hS hl)
        · exact h.elim
        · exact h.elim
      · exact h.elim
    | iastore =>
      simp only [am_okI, decide_eq_true_eq] at hok
      subst hok
      simp only [am_step, am_ast1] at h
      split at h
      · next v' i' o st' =>
        split at h
        · next w ho =>
          refine va_iast hx hb hK hP hD hS o 0 (am_cell_arr ho) (am_tys_at rfl) h.1 (hd 1 rfl) (fun H1 locs1 hP1 hD1 hS1 => ?_)
          have hP2 : va_P D vwCl ((am_ws cA ad I).set o (ad o, .inl (cA .int, w, .inl (upd (I o) i'.toNatClampNeg v')))) H1 := hP1
          rw [am_put_arr ho rfl] at hP2
          exact KJ h.2 hP2 hS1 hl
        · exact h.elim
        · exact h.elim
      · exact h.elim
    | bastore =>
      simp only [am_okI, decide_eq_true_eq] at hok
      subst hok
      simp only [am_step, am_ast1] at h
      split at h
      · next v' i' o st' =>
        split at h
        · exact h.elim
        · next w ho =>
          refine va_bast hx hb hK hP hD hS o 1 (am_cell_arr ho) (am_tys_at rfl) h.1 (hd 1 rfl) (fun H1 locs1 hP1 hD1 hS1 => ?_)
          have hP2 : va_P D vwCl ((am_ws cA ad I).set o (ad o, .inl (cA .byte, w, .inl (upd (I o) i'.toNatClampNeg (vp_nar .byte v'))))) H1 := hP1
          rw [vp_nar_byte, am_put_arr ho rfl] at hP2
          exact KJ h.2 hP2 hS1 hl
        · exact h.elim
      · exact h.elim
    | aaload =>
      simp only [am_okI, decide_eq_true_eq] at hok
      subst hok
      simp only [am_step, am_aald] at h
      split at h
      · next i' o st' =>
        split at h
        · next C w ho =>
          obtain ⟨t0, ht0⟩ := am_G_ty ho
          obtain ⟨h1, h2⟩ := h
          split at h2
          · next r hR =>
            refine va_aldq (C := C) hx hb hK hP o t0 (am_cell_arr ho) (am_tys_at ht0) h1 (hd 1 rfl) ?_
            rw [hR]
            exact KJ h2 hP hS hl
          · exact h2.elim
        · next C w ho =>
          obtain ⟨t0, ht0⟩ := am_G_ty ho
          obtain ⟨h1, h2⟩ := h
          split at h2
          · next r hR =>
            have hlt : i'.toNatClampNeg < w := Nat.not_le.mp fun q => h1 (Or.inr q)
            refine W.aald (v := va_rf ((am_R o i'.toNatClampNeg).map ad)) (ty := .array C) hx hb (hP o _ (am_cell_arr ho)) ((hK.2 t0 _ (am_tys_at ht0)).1 w (fun j => va_rf ((am_R o j).map ad))) rfl (fun q => by cases q) (by show ¬ (i' < 0 ∨ (arrV _ _ _).slots.size ≤ _); rw [arrV_size]; exact h1) (by show (arrV _ _ _).slots[_]? = _; rw [arrV_read _ _ hlt]) rfl rfl (hd 1 rfl) ?_
            rw [hR]
            exact KJ h2 hP hS hl
          · exact h2.elim
        · exact h.elim
      · exact h.elim
    | arraylength =>
      simp only [am_okI, decide_eq_true_eq] at hok
      subst hok
      simp only [am_step, am_alen] at h
      split at h
      · next o st' =>
        split at h
        · next ty w ho =>
          obtain ⟨t0, ht0⟩ := am_G_ty ho
          exact va_alen hx hb hK hP o t0 (am_cell_arr ho) (am_tys_at ht0) rfl (hd 1 rfl) (KJ h hP hS hl)
        · split at h
          · next hb' =>
            have := am_beq hb'
            subst this
            have hbl : ad am_scr < s.heap.size := by
              obtain ⟨scr, h1, -⟩ := hX.1.1
              exact (Array.getElem?_eq_some_iff.mp h1).1
            exact va_slen hx hb hX.1.1 hbl hX.1.2 hS (hd 1 rfl) (KJ h hP hS hl)
          · exact h.elim
        · exact h.elim
      · exact h.elim
    | ireturn =>
      simp only [am_okI, Bool.and_eq_true, Bool.or_eq_true, decide_eq_true_eq] at hok
      obtain ⟨rfl, hok⟩ := hok
      simp only [am_step, am_ret] at h
      split at h
      · next v' =>
        rcases hok with ⟨rfl, hret⟩ | ⟨hne, hret⟩
        · exact hr (some (.int v')) I H locs ls pc h hP hS ⟨hd 1 rfl, Or.inl hret⟩
        · cases a with
          | zero => exact absurd rfl hne
          | succ a => exact hr (some (.int v')) I H locs ls pc h.2 hP hS ⟨hd 1 rfl, Or.inr ⟨hret, h.1⟩⟩
      · exact h.elim
    | areturn =>
      simp only [am_okI, Bool.and_eq_true, decide_eq_true_eq] at hok
      obtain ⟨rfl, hok⟩ := hok
      simp only [am_step, am_aret] at h
      split at h
      · next v' =>
        refine hr (some (.ref v')) I H locs ls pc h hP hS ⟨hd 1 rfl, ?_⟩
        unfold am_isRo at hok
        split at hok
        · next n' e9 => exact Or.inl ⟨_, e9⟩
        · next n' e9 => exact Or.inr ⟨_, e9⟩
        · cases hok
      · exact h.elim
    | return_ =>
      simp only [am_okI, Bool.and_eq_true, decide_eq_true_eq] at hok
      obtain ⟨rfl, hok⟩ := hok
      simp only [am_step, am_vret] at h
      split at h
      · exact hr none I H locs ls pc h hP hS ⟨hd 1 rfl, hok⟩
      · exact h.elim
    | invokestatic k =>
      simp only [am_okI, Bool.and_eq_true, decide_eq_true_eq] at hok
      obtain ⟨rfl, hok⟩ := hok
      exact inv _ (hd 3 rfl) hok h
    | invokevirtual k =>
      simp only [am_okI, Bool.and_eq_true, decide_eq_true_eq] at hok
      obtain ⟨rfl, hok⟩ := hok
      exact inv _ (hd 3 rfl) hok h
    | invokespecial k =>
      simp only [am_okI, Bool.and_eq_true, decide_eq_true_eq] at hok
      obtain ⟨rfl, hok⟩ := hok
      exact inv _ (hd 3 rfl) hok h
    | _ => exact h.elim
