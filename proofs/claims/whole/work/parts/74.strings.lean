/-! TEXTS: what length() and charAt() of a constant give -/
theorem tb_in {w : Cond} (h : (decide (w ∈ lw_tbl) && goodWord w) = true) : w ∈ am_tb := by
  rw [Bool.and_eq_true, decide_eq_true_eq] at h
  exact List.mem_filter.mpr h
abbrev Nul : Nat → Prop := fun _ => False
def ss_w (y : MethodName) (bs : ByteArray) (mL : Nat) (rt : Option FieldType) : List Cond := .code y bs mL rt :: am_tb
theorem ss_G {X : Cond} {ws : List Cond} (h : ∀ w ∈ ws, w ∈ am_tb) : GoodIn (X :: am_tb) ws := fun w hw => ⟨List.mem_cons_of_mem _ (h w hw), am_good _ (h w hw)⟩
theorem ss_G0 {ws : List Cond} (h : ∀ w ∈ ws, w ∈ am_tb) : GoodIn am_tb ws := fun w hw => ⟨h w hw, am_good _ (h w hw)⟩
theorem ss_V {own C : String} {idx : Nat} {y : MethodName} {bs : ByteArray} {mL : Nat} {rt : Option FieldType} (h1 : Cond.methodLink own idx y ∈ am_tb) (h2 : Cond.instanceMethod y ∈ am_tb) (h3 : Cond.selects C y y ∈ am_tb) (h4 : Cond.initialized C ∈ am_tb) (h5 : Cond.code y bs mL rt ∈ am_tb) : ∀ w ∈ wsV own idx C y (ss_w y bs mL rt), w ∈ am_tb := by
  intro w hw
  unfold wsV ss_w at hw
  rcases List.mem_append.mp hw with q | q
  · simp only [List.mem_cons, List.not_mem_nil, or_false] at q
    rcases q with rfl | rfl | rfl | rfl
    · exact h1
    · exact h2
    · exact h3
    · exact h4
  · rcases List.mem_cons.mp q with rfl | q
    · exact h5
    · exact q
theorem ss_Sw {own : String} {idx : Nat} {y : MethodName} {bs : ByteArray} {mL : Nat} {rt : Option FieldType} (h1 : Cond.methodLink own idx y ∈ am_tb) (h2 : Cond.static y ∈ am_tb) (h4 : Cond.initialized y.cls ∈ am_tb) (h5 : Cond.code y bs mL rt ∈ am_tb) : ∀ w ∈ va_wsS own idx y (ss_w y bs mL rt), w ∈ am_tb := by
  intro w hw
  unfold va_wsS ss_w at hw
  rcases List.mem_append.mp hw with q | q
  · simp only [List.mem_cons, List.not_mem_nil, or_false] at q
    rcases q with rfl | rfl | rfl
    · exact h1
    · exact h2
    · exact h4
  · rcases List.mem_cons.mp q with rfl | q
    · exact h5
    · exact q
/-- the texts, and the two statics that are read -/
def SF (adK adV : Nat → Nat) (A : Nat → Prop) (U : State) (H : Heap) : Prop := vk_S 18 am_slen am_txt adK adV A U H ∧ va_Z "java/lang/String" "COMPACT_STRINGS" "Z" (.int 1) A U H ∧ va_Zq "jdk/internal/util/Preconditions" "SIOOBE_FORMATTER" "Ljava/util/function/BiFunction;" A U H
theorem SF.moved {adK adV : Nat → Nat} {A : Nat → Prop} {u U : State} {H : Heap} (hvm : u.vm.Alike U.vm) (h : SF adK adV A u H) : SF adK adV A U H := ⟨vk_S.moved hvm h.1, va_Z.moved hvm h.2.1, va_Zq.moved hvm h.2.2⟩
theorem SF.kept {adK adV : Nat → Nat} {A : Nat → Prop} {U : State} {H H1 : Heap} (h : SF adK adV A U H) (hq : ∀ a : Nat, a < H.size → ¬ A a → H1[a]? = H[a]?) : SF adK adV A U H1 := ⟨h.1.kept hq, h.2.1.kept hq, h.2.2.kept hq⟩
theorem SF.nul {adK adV : Nat → Nat} {A : Nat → Prop} {U : State} {H : Heap} (h : SF adK adV A U H) : SF adK adV Nul U H := ⟨h.1.narrow (fun _ q => q.elim), h.2.1.narrow (fun _ q => q.elim), h.2.2.narrow (fun _ q => q.elim)⟩
def SFp (adK adV : Nat → Nat) (Hh : Heap) (U : State) : Prop := SF adK adV Nul U U.heap ∧ U.heap = Hh
theorem SFp.blind {adK adV : Nat → Nat} {Hh : Heap} {av : List Value} : FrameBlind (va_Pc av (SFp adK adV Hh)) := by
  intro a U g mk h
  exact ⟨h.1, SF.moved (u := U) (U := U.calling g mk a) (Vm.Alike.refl U.vm) h.2.1, h.2.2⟩
theorem SFp.at {adK adV : Nat → Nat} {A : Nat → Prop} {s U : State} {H : Heap} {locs : List Loc} (h : SF adK adV A s s.heap) (hS : va_S A s.heap H locs) (hU : U.heap = H) (hW : s.WarmedH U.vm) : SFp adK adV H U := ⟨by rw [hU]; exact (SF.moved hW.alike (h.kept hS.2.1)).nul, hU⟩
def y_coder : MethodName := ⟨"java/lang/String", "coder", "()B"⟩
def y_isL : MethodName := ⟨"java/lang/String", "isLatin1", "()Z"⟩
def y_length : MethodName := ⟨"java/lang/String", "length", "()I"⟩
def y_charAt : MethodName := ⟨"java/lang/String", "charAt", "(I)C"⟩
def y_chk : MethodName := ⟨"java/lang/String", "checkIndex", "(II)V"⟩
def y_lat : MethodName := ⟨"java/lang/StringLatin1", "charAt", "([BI)C"⟩
def y_pre : MethodName := ⟨"jdk/internal/util/Preconditions", "checkIndex", "(IILjava/util/function/BiFunction;)I"⟩
def w_coder : List Cond := ss_w y_coder prog_17_method_152_code 1 (some .byte)
def w_isL : List Cond := ss_w y_isL prog_17_method_154_code 1 (some .boolean)
def w_length : List Cond := ss_w y_length prog_17_method_54_code 1 (some .int)
def w_charAt : List Cond := ss_w y_charAt prog_17_method_56_code 2 (some .char)
def w_chk : List Cond := ss_w y_chk prog_17_method_155_code 2 none
def w_lat : List Cond := ss_w y_lat prog_18_method_2_code 2 (some .char)
def w_pre : List Cond := ss_w y_pre prog_22_method_11_code 3 (some .int)
section
variable (l : Launch) (adK adV : Nat → Nat) (Hh : Heap)
set_option maxHeartbeats 4000000 in
theorem c_coder {w : Nat} (hw : w < 18) : Met l y_coder w_coder { frames := 0, cells := 0, slots := 0, locals := 0 } (va_Pc [.ref (adK w)] (SFp adK adV Hh)) (va_Qi (fun r (_ : Unit) => r = 0) (fun _ t => t.heap = Hh) Nul) 0 0 Nul := by
  refine Met.ofW (cc := prog_17_method_152_code) (maxL := 1) (ret := some .byte) (by decide) rfl ?_
  intro p e s m args below meth c s₁ B hml hv
  obtain ⟨rfl, ⟨hv, hz, hz2⟩, hH⟩ := hv
  have hx := B.exec
  have hb := B.bytes
  have hr := B.returns
  have hts := atoms_spec (ws := w_coder) B.pre
  have hown : s.vm.findClass "java/lang/String" = some m.cls := findClass_of_methodNamed B.named
  have hlocks := B.notSynchronized
  have hS : va_S Nul s.heap s.heap [] := va_S.rf
  have hl := lv_entry ([.ref (adK w)]) (n := 1) (Nat.le_of_ble_eq_true rfl)
  rw [lg_entry_eq]
  generalize (lg_sl ([.ref (adK w)]) ++ List.replicate (1 - (lg_sl ([.ref (adK w)])).length) Slot.unset).toArray = ls at hl ⊢
  have hl : lv_has ls 1 [(0, .ref (adK w))] := hl
  refine va_gets hx hb hz hS hown (hts (.fieldLink "java/lang/String" 38 "java/lang/String" "COMPACT_STRINGS" "Z") (List.mem_cons_of_mem _ (tb_in (by decide +kernel)))) (fun _ h => h) (by decide +kernel) ?_
  refine lv_if_eq hx hb (off := 10) (tgt := 13) (by decide +kernel) (by decide) (fun z => absurd z (by decide)) (fun _ => ?_)
  refine lv_aload_n hx hb (k := 0) (i := 0) (by decide +kernel) rfl (lv_at hl 0 rfl) ?_
  refine vk_getf hx hb (hv.1 w hw).2.1 hS hown (hts (.fieldLink "java/lang/String" 15 "java/lang/String" "coder" "B") (List.mem_cons_of_mem _ (tb_in (by decide +kernel)))) (fun _ h => h) (by decide +kernel) ?_
  refine lv_goto hx hb (off := 4) (tgt := 14) (by decide +kernel) (by decide) ?_
  exact W.zret (v := 0) hx hb hr rfl (fun t ht hW => ⟨⟨0, (), rfl, rfl, ht.trans hH⟩, hS.F ht⟩) (fun q h => by cases h) (by decide +kernel)
set_option maxHeartbeats 4000000 in
theorem c_isL {w : Nat} (hw : w < 18) : Met l y_isL w_isL { frames := 0, cells := 0, slots := 0, locals := 0 } (va_Pc [.ref (adK w)] (SFp adK adV Hh)) (va_Qi (fun r (_ : Unit) => r = 1) (fun _ t => t.heap = Hh) Nul) 0 0 Nul := by
  refine Met.ofW (cc := prog_17_method_154_code) (maxL := 1) (ret := some .boolean) (by decide) rfl ?_
  intro p e s m args below meth c s₁ B hml hv
  obtain ⟨rfl, ⟨hv, hz, hz2⟩, hH⟩ := hv
  have hx := B.exec
  have hb := B.bytes
  have hr := B.returns
  have hts := atoms_spec (ws := w_isL) B.pre
  have hown : s.vm.findClass "java/lang/String" = some m.cls := findClass_of_methodNamed B.named
  have hlocks := B.notSynchronized
  have hS : va_S Nul s.heap s.heap [] := va_S.rf
  have hl := lv_entry ([.ref (adK w)]) (n := 1) (Nat.le_of_ble_eq_true rfl)
  rw [lg_entry_eq]
  generalize (lg_sl ([.ref (adK w)]) ++ List.replicate (1 - (lg_sl ([.ref (adK w)])).length) Slot.unset).toArray = ls at hl ⊢
  have hl : lv_has ls 1 [(0, .ref (adK w))] := hl
  refine va_gets hx hb hz hS hown (hts (.fieldLink "java/lang/String" 38 "java/lang/String" "COMPACT_STRINGS" "Z") (List.mem_cons_of_mem _ (tb_in (by decide +kernel)))) (fun _ h => h) (by decide +kernel) ?_
  refine lv_if_eq hx hb (off := 14) (tgt := 17) (by decide +kernel) (by decide) (fun z => absurd z (by decide)) (fun _ => ?_)
  refine lv_aload_n hx hb (k := 0) (i := 0) (by decide +kernel) rfl (lv_at hl 0 rfl) ?_
  refine vk_getf hx hb (hv.1 w hw).2.1 hS hown (hts (.fieldLink "java/lang/String" 15 "java/lang/String" "coder" "B") (List.mem_cons_of_mem _ (tb_in (by decide +kernel)))) (fun _ h => h) (by decide +kernel) ?_
  refine lv_if_ne hx hb (off := 7) (tgt := 17) (by decide +kernel) (by decide) (fun z => absurd rfl z) (fun _ => ?_)
  refine lv_iconst (n := 1) (v := 1) hx hb (by decide +kernel) (by decide) ?_
  refine lv_goto hx hb (off := 4) (tgt := 18) (by decide +kernel) (by decide) ?_
  exact W.zret (v := 1) hx hb hr rfl (fun t ht hW => ⟨⟨1, (), rfl, rfl, ht.trans hH⟩, hS.F ht⟩) (fun q h => by cases h) (by decide +kernel)
set_option maxHeartbeats 4000000 in
theorem c_pre {k n : Int32} {t : Nat} (h0 : ¬ k < 0) (hn : k < n) : Met l y_pre w_pre { frames := 0, cells := 0, slots := 0, locals := 0 } (va_Pc [.int k, .int n, .ref t] (fun U => U.heap = Hh)) (va_Qi (fun r (_ : Unit) => r = k) (fun _ t => t.heap = Hh) Nul) 0 0 Nul := by
  refine Met.ofW (cc := prog_22_method_11_code) (maxL := 3) (ret := some .int) (by decide) rfl ?_
  intro p e s m args below meth c s₁ B hml hv
  obtain ⟨rfl, hH⟩ := hv
  have hx := B.exec
  have hb := B.bytes
  have hr := B.returns
  have hlocks := B.notSynchronized
  have hS : va_S Nul s.heap s.heap [] := va_S.rf
  have hl := lv_entry ([.int k, .int n, .ref t]) (n := 3) (Nat.le_of_ble_eq_true rfl)
  rw [lg_entry_eq]
  generalize (lg_sl ([.int k, .int n, .ref t]) ++ List.replicate (3 - (lg_sl ([.int k, .int n, .ref t])).length) Slot.unset).toArray = ls at hl ⊢
  have hl : lv_has ls 3 [(0, .int k), (1, .int n), (2, .ref t)] := hl
  refine lv_iload_n hx hb (k := 0) (i := 0) (by decide +kernel) rfl (lv_at hl 0 rfl) ?_
  refine lv_if_lt hx hb (off := 8) (tgt := 9) (by decide +kernel) (by decide) (fun z => absurd z h0) (fun _ => ?_)
  refine lv_iload_n hx hb (k := 0) (i := 0) (by decide +kernel) rfl (lv_at hl 0 rfl) ?_
  refine lv_iload_n hx hb (k := 1) (i := 1) (by decide +kernel) rfl (lv_at hl 1 rfl) ?_
  refine lv_icmp_lt hx hb (off := 10) (tgt := 16) (by decide +kernel) (by decide) (fun _ => ?_) (fun z => absurd hn z)
  refine lv_iload_n hx hb (k := 0) (i := 0) (by decide +kernel) rfl (lv_at hl 0 rfl) ?_
  exact W.iret (v := k) hx hb hr (fun t ht hW => ⟨⟨k, (), rfl, rfl, ht.trans hH⟩, hS.F ht⟩) (fun q h => by cases h) (by decide +kernel)
set_option maxHeartbeats 4000000 in
theorem c_pren {k n : Int32}  (h0 : ¬ k < 0) (hn : k < n) : Met l y_pre w_pre { frames := 0, cells := 0, slots := 0, locals := 0 } (va_Pc [.int k, .int n, .null] (fun U => U.heap = Hh)) (va_Qi (fun r (_ : Unit) => r = k) (fun _ t => t.heap = Hh) Nul) 0 0 Nul := by
  refine Met.ofW (cc := prog_22_method_11_code) (maxL := 3) (ret := some .int) (by decide) rfl ?_
  intro p e s m args below meth c s₁ B hml hv
  obtain ⟨rfl, hH⟩ := hv
  have hx := B.exec
  have hb := B.bytes
  have hr := B.returns
  have hlocks := B.notSynchronized
  have hS : va_S Nul s.heap s.heap [] := va_S.rf
  have hl := lv_entry ([.int k, .int n, .null]) (n := 3) (Nat.le_of_ble_eq_true rfl)
  rw [lg_entry_eq]
  generalize (lg_sl ([.int k, .int n, .null]) ++ List.replicate (3 - (lg_sl ([.int k, .int n, .null])).length) Slot.unset).toArray = ls at hl ⊢
  have hl : lv_has ls 3 [(0, .int k), (1, .int n), (2, .null)] := hl
  refine lv_iload_n hx hb (k := 0) (i := 0) (by decide +kernel) rfl (lv_at hl 0 rfl) ?_
  refine lv_if_lt hx hb (off := 8) (tgt := 9) (by decide +kernel) (by decide) (fun z => absurd z h0) (fun _ => ?_)
  refine lv_iload_n hx hb (k := 0) (i := 0) (by decide +kernel) rfl (lv_at hl 0 rfl) ?_
  refine lv_iload_n hx hb (k := 1) (i := 1) (by decide +kernel) rfl (lv_at hl 1 rfl) ?_
  refine lv_icmp_lt hx hb (off := 10) (tgt := 16) (by decide +kernel) (by decide) (fun _ => ?_) (fun z => absurd hn z)
  refine lv_iload_n hx hb (k := 0) (i := 0) (by decide +kernel) rfl (lv_at hl 0 rfl) ?_
  exact W.iret (v := k) hx hb hr (fun t ht hW => ⟨⟨k, (), rfl, rfl, ht.trans hH⟩, hS.F ht⟩) (fun q h => by cases h) (by decide +kernel)
set_option maxHeartbeats 4000000 in
theorem c_chk {k n : Int32} (h0 : ¬ k < 0) (hn : k < n) : Met l y_chk w_chk { frames := 1, cells := 0, slots := 0, locals := 22 } (va_Pc [.int k, .int n] (SFp adK adV Hh)) (va_Qv (fun (_ : Unit) => True) (fun _ t => t.heap = Hh) Nul) 0 0 Nul := by
  refine Met.ofW (cc := prog_17_method_155_code) (maxL := 2) (ret := none) (by decide) rfl ?_
  intro p e s m args below meth c s₁ B hml hv
  obtain ⟨rfl, ⟨hv, hz, hz2⟩, hH⟩ := hv
  have hx := B.exec
  have hb := B.bytes
  have hr := B.returns
  have hts := atoms_spec (ws := w_chk) B.pre
  have hown : s.vm.findClass "java/lang/String" = some m.cls := findClass_of_methodNamed B.named
  have hlocks := B.notSynchronized
  have hS : va_S Nul s.heap s.heap [] := va_S.rf
  have hl := lv_entry ([.int k, .int n]) (n := 2) (Nat.le_of_ble_eq_true rfl)
  rw [lg_entry_eq]
  generalize (lg_sl ([.int k, .int n]) ++ List.replicate (2 - (lg_sl ([.int k, .int n])).length) Slot.unset).toArray = ls at hl ⊢
  have hl : lv_has ls 2 [(0, .int k), (1, .int n)] := hl
  refine lv_iload_n hx hb (k := 0) (i := 0) (by decide +kernel) rfl (lv_at hl 0 rfl) ?_
  refine lv_iload_n hx hb (k := 1) (i := 1) (by decide +kernel) rfl (lv_at hl 1 rfl) ?_
  rcases hz2 with hz2 | ⟨tz, hz2⟩
  · refine va_gets hx hb hz2 hS hown (hts (.fieldLink "java/lang/String" 1053 "jdk/internal/util/Preconditions" "SIOOBE_FORMATTER" "Ljava/util/function/BiFunction;") (List.mem_cons_of_mem _ (tb_in (by decide +kernel)))) (fun _ h => h) (by decide +kernel) ?_
    refine va_calli (va_runS (As := [.int k, .int n, .null]) (rest := []) ⟨hx, hb, hml, hown, hts⟩ (c_pren l Hh h0 hn) (va_cwS 3 hts (ss_G (ss_Sw (idx := 1059) (tb_in (by decide +kernel)) (tb_in (by decide +kernel)) (tb_in (by decide +kernel)) (tb_in (by decide +kernel)))) rfl rfl rfl (by decide +kernel) ⟨Nat.le_of_ble_eq_true rfl, Nat.le_of_ble_eq_true rfl⟩) ⟨fun a U g mk q => q, fun U hU hW => ⟨rfl, hU.trans hH⟩⟩ rfl rfl hl.1 rfl (lv_room (Nat.le_of_ble_eq_true rfl)) (by show decode prog_17_method_155_code 5 = _; decide +kernel) ⟨Nat.le_refl _, Nat.le_refl _⟩) hS (fun q _ h => h) (fun q h => h) (fun r u t H1 locs ht1 hvm hw hB hz1 hk1 hS => ?_)
    refine lv_pop hx hb (by decide +kernel) rfl ?_
    exact W.vret hx hb hr (fun t ht hW => ⟨⟨(), rfl, trivial, ht.trans (ht1.symm.trans hB)⟩, hS.F ht⟩) hS.2.2 (by decide +kernel)
  · refine va_gets hx hb hz2 hS hown (hts (.fieldLink "java/lang/String" 1053 "jdk/internal/util/Preconditions" "SIOOBE_FORMATTER" "Ljava/util/function/BiFunction;") (List.mem_cons_of_mem _ (tb_in (by decide +kernel)))) (fun _ h => h) (by decide +kernel) ?_
    refine va_calli (va_runS (As := [.int k, .int n, .ref tz]) (rest := []) ⟨hx, hb, hml, hown, hts⟩ (c_pre l Hh (t := tz) h0 hn) (va_cwS 3 hts (ss_G (ss_Sw (idx := 1059) (tb_in (by decide +kernel)) (tb_in (by decide +kernel)) (tb_in (by decide +kernel)) (tb_in (by decide +kernel)))) rfl rfl rfl (by decide +kernel) ⟨Nat.le_of_ble_eq_true rfl, Nat.le_of_ble_eq_true rfl⟩) ⟨fun a U g mk q => q, fun U hU hW => ⟨rfl, hU.trans hH⟩⟩ rfl rfl hl.1 rfl (lv_room (Nat.le_of_ble_eq_true rfl)) (by show decode prog_17_method_155_code 5 = _; decide +kernel) ⟨Nat.le_refl _, Nat.le_refl _⟩) hS (fun q _ h => h) (fun q h => h) (fun r u t H1 locs ht1 hvm hw hB hz1 hk1 hS => ?_)
    refine lv_pop hx hb (by decide +kernel) rfl ?_
    exact W.vret hx hb hr (fun t ht hW => ⟨⟨(), rfl, trivial, ht.trans (ht1.symm.trans hB)⟩, hS.F ht⟩) hS.2.2 (by decide +kernel)
theorem sg_len {w : Nat} (hw : w < 18) : nI (am_txl w) = Int32.ofNat (am_slen.getD w 0) := by
  have : ∀ w : Fin 18, nI (am_txl w) = Int32.ofNat (am_slen.getD w 0) := by decide +kernel
  exact this ⟨w, hw⟩
theorem sg_le {w : Nat} (hw : w < 18) : am_slen.getD w 0 = am_txl w := by
  have : ∀ w : Fin 18, am_slen.getD w 0 = am_txl w := by decide +kernel
  exact this ⟨w, hw⟩
theorem sg_ok {w k : Nat} (hw : w < 18) (hk : k < am_txl w) : (am_txt.getD w []).getD k 0 = am_txc w k ∧ ((am_txc w k &&& 255).toUInt32 % 65536).toInt32 = am_txc w k ∧ narrow .char (.int (am_txc w k)) = .int (am_txc w k) := by
  have : ∀ w : Fin 18, ∀ k : Fin (am_txl w), (am_txt.getD w []).getD k 0 = am_txc w k ∧ ((am_txc w k &&& 255).toUInt32 % 65536).toInt32 = am_txc w k ∧ narrow .char (.int (am_txc w k)) = .int (am_txc w k) := by decide +kernel
  exact this ⟨w, hw⟩ ⟨k, hk⟩
theorem sg_in {k : Int32} {n : Nat} (hn : n < 100) (h : vp_in k n) : ¬ k < 0 ∧ k < Int32.ofNat n := by
  have h1 : ¬ k < 0 := fun z => h (Or.inl z)
  have h2 : k.toNatClampNeg < n := Nat.not_le.mp fun z => h (Or.inr z)
  refine ⟨h1, ?_⟩
  rw [Int32.lt_iff_toInt_lt]
  have h3 : (Int32.ofNat n).toInt = n := Int32.toInt_ofNat_of_lt (by omega)
  rw [h3]
  have : k.toNatClampNeg = k.toInt.toNat := rfl
  omega
theorem sg_lt {w : Nat} (hw : w < 18) : am_txl w < 100 := by
  have : ∀ w : Fin 18, am_txl w < 100 := by decide +kernel
  exact this ⟨w, hw⟩
set_option maxHeartbeats 4000000 in
theorem c_lat {w : Nat} (hw : w < 18) {k : Int32} (hk : vp_in k (am_txl w)) : Met l y_lat w_lat { frames := 2, cells := 0, slots := 0, locals := 43 } (va_Pc [.ref (adV w), .int k] (SFp adK adV Hh)) (va_Qi (fun r (_ : Unit) => r = am_txc w k.toNatClampNeg) (fun _ t => t.heap = Hh) Nul) 0 0 Nul := by
  refine Met.ofW (cc := prog_18_method_2_code) (maxL := 2) (ret := some .char) (by decide) rfl ?_
  intro p e s m args below meth c s₁ B hml hv
  obtain ⟨rfl, hSF, hH⟩ := hv
  have hv := hSF.1
  have hx := B.exec
  have hb := B.bytes
  have hr := B.returns
  have hts := atoms_spec (ws := w_lat) B.pre
  have hown : s.vm.findClass "java/lang/StringLatin1" = some m.cls := findClass_of_methodNamed B.named
  have hlocks := B.notSynchronized
  have hS : va_S Nul s.heap s.heap [] := va_S.rf
  have hl := lv_entry ([.ref (adV w), .int k]) (n := 2) (Nat.le_of_ble_eq_true rfl)
  rw [lg_entry_eq]
  generalize (lg_sl ([.ref (adV w), .int k]) ++ List.replicate (2 - (lg_sl ([.ref (adV w), .int k])).length) Slot.unset).toArray = ls at hl ⊢
  have hl : lv_has ls 2 [(0, .ref (adV w)), (1, .int k)] := hl
  have hkn : k.toNatClampNeg < am_txl w := Nat.not_le.mp fun z => hk (Or.inr z)
  obtain ⟨hi0, hin⟩ := sg_in (sg_lt hw) hk
  refine lv_iload_n hx hb (k := 1) (i := 1) (by decide +kernel) rfl (lv_at hl 1 rfl) ?_
  refine lv_aload_n hx hb (k := 0) (i := 0) (by decide +kernel) rfl (lv_at hl 0 rfl) ?_
  refine va_tlen hx hb (hv.1 w hw).2.2.2 hS (v := Int32.ofNat (am_txl w)) (by rw [sg_le hw]) (by decide +kernel) ?_
  refine va_callv (va_runS (As := [.int k, .int (Int32.ofNat (am_txl w))]) (rest := []) ⟨hx, hb, hml, hown, hts⟩ (c_chk l adK adV Hh hi0 hin) (va_cwS 2 hts (ss_G (ss_Sw (idx := 9) (tb_in (by decide +kernel)) (tb_in (by decide +kernel)) (tb_in (by decide +kernel)) (tb_in (by decide +kernel)))) rfl rfl rfl (by decide +kernel) ⟨Nat.le_of_ble_eq_true rfl, Nat.le_of_ble_eq_true rfl⟩) ⟨SFp.blind, fun U hU hW => ⟨rfl, hH ▸ SFp.at hSF hS hU hW⟩⟩ rfl rfl hl.1 rfl (lv_room (Nat.le_of_ble_eq_true rfl)) (by show decode prog_18_method_2_code 3 = _; decide +kernel) ⟨Nat.le_refl _, Nat.le_refl _⟩) hS (fun q _ h => h) (fun q h => h) (fun u t1 H1 locs ht1 hvm hw1 hB hz1 hk1 hS => ?_)
  refine lv_aload_n hx hb (k := 0) (i := 0) (by decide +kernel) rfl (lv_at hl 0 rfl) ?_
  refine lv_iload_n hx hb (k := 1) (i := 1) (by decide +kernel) rfl (lv_at hl 1 rfl) ?_
  refine va_tb hx hb (hv.1 w hw).2.2.2 hS (i := k) (by rw [sg_le hw]; exact hk) (v := .int (am_txc w k.toNatClampNeg)) (by show Value.int _ = Value.int _; rw [(sg_ok hw hkn).1]) (by decide +kernel) ?_
  refine lv_sipush (n := 255) (v := 255) hx hb (by decide +kernel) (by decide) ?_
  refine lv_iand hx hb (by decide +kernel) ?_
  refine lv_i2c hx hb (by decide +kernel) (sg_ok hw hkn).2.1 ?_
  exact W.zret hx hb hr (sg_ok hw hkn).2.2 (fun t ht hW => ⟨⟨_, (), rfl, rfl, ht.trans (ht1.symm.trans hB)⟩, hS.F ht⟩) hS.2.2 (by decide +kernel)
set_option maxHeartbeats 4000000 in
theorem c_length {w : Nat} (hw : w < 18) : Met l y_length w_length { frames := 1, cells := 0, slots := 0, locals := 20 } (va_Pc [.ref (adK w)] (SFp adK adV Hh)) (va_Qi (fun r (_ : Unit) => r = nI (am_txl w)) (fun _ t => t.heap = Hh) Nul) 0 0 Nul := by
  refine Met.ofW (cc := prog_17_method_54_code) (maxL := 1) (ret := some .int) (by decide) rfl ?_
  intro p e s m args below meth c s₁ B hml hv
  obtain ⟨rfl, hSF, hH⟩ := hv
  have hv := hSF.1
  have hx := B.exec
  have hb := B.bytes
  have hr := B.returns
  have hts := atoms_spec (ws := w_length) B.pre
  have hown : s.vm.findClass "java/lang/String" = some m.cls := findClass_of_methodNamed B.named
  have hlocks := B.notSynchronized
  have hS : va_S Nul s.heap s.heap [] := va_S.rf
  have hl := lv_entry ([.ref (adK w)]) (n := 1) (Nat.le_of_ble_eq_true rfl)
  rw [lg_entry_eq]
  generalize (lg_sl ([.ref (adK w)]) ++ List.replicate (1 - (lg_sl ([.ref (adK w)])).length) Slot.unset).toArray = ls at hl ⊢
  have hl : lv_has ls 1 [(0, .ref (adK w))] := hl
  refine lv_aload_n hx hb (k := 0) (i := 0) (by decide +kernel) rfl (lv_at hl 0 rfl) ?_
  refine vk_getf hx hb (hv.1 w hw).2.2.1 hS hown (hts (.fieldLink "java/lang/String" 9 "java/lang/String" "value" "[B") (List.mem_cons_of_mem _ (tb_in (by decide +kernel)))) (fun _ h => h) (by decide +kernel) ?_
  refine va_tlen hx hb (hv.1 w hw).2.2.2 hS (v := nI (am_txl w)) (sg_len hw).symm (by decide +kernel) ?_
  refine lv_aload_n hx hb (k := 0) (i := 0) (by decide +kernel) rfl (lv_at hl 0 rfl) ?_
  refine va_calli (va_runV (As := []) (rest := [.int (nI (am_txl w))]) (b := adK w) ⟨hx, hb, hml, hown, hts⟩ (c_coder l adK adV Hh hw) (cwV 0 hts (ss_G (ss_V (idx := 335) (tb_in (by decide +kernel)) (tb_in (by decide +kernel)) (tb_in (by decide +kernel)) (tb_in (by decide +kernel)) (tb_in (by decide +kernel)))) rfl rfl rfl (by decide +kernel) ⟨Nat.le_of_ble_eq_true rfl, Nat.le_of_ble_eq_true rfl⟩) ⟨SFp.blind, vk_recv hv hw hS, fun U hU hW => ⟨rfl, hH ▸ SFp.at hSF hS hU hW⟩⟩ rfl rfl hl.1 rfl (lv_room (Nat.le_of_ble_eq_true rfl)) (by show decode prog_17_method_54_code 6 = _; decide +kernel) ⟨Nat.le_refl _, Nat.le_refl _⟩) hS (fun q _ h => h) (fun q h => h) (fun r u t1 H1 locs ht1 hvm hw1 hB hz1 hk1 hS => ?_)
  subst hw1
  refine lv_ishr hx hb (by decide +kernel) ?_
  rw [show nI (am_txl w) >>> ((0 : Int32) &&& 31) = nI (am_txl w) from by rw [show (0 : Int32) &&& 31 = 0 from by decide]; exact Int32.shiftRight_zero]
  exact W.iret hx hb hr (fun t ht hW => ⟨⟨_, (), rfl, rfl, ht.trans (ht1.symm.trans hB)⟩, hS.F ht⟩) hS.2.2 (by decide +kernel)
set_option maxHeartbeats 4000000 in
theorem c_charAt {w : Nat} (hw : w < 18) {k : Int32} (hk : vp_in k (am_txl w)) : Met l y_charAt w_charAt { frames := 3, cells := 0, slots := 0, locals := 64 } (va_Pc [.ref (adK w), .int k] (SFp adK adV Hh)) (va_Qi (fun r (_ : Unit) => r = am_txc w k.toNatClampNeg) (fun _ t => t.heap = Hh) Nul) 0 0 Nul := by
  refine Met.ofW (cc := prog_17_method_56_code) (maxL := 2) (ret := some .char) (by decide) rfl ?_
  intro p e s m args below meth c s₁ B hml hv
  obtain ⟨rfl, hSF, hH⟩ := hv
  have hv := hSF.1
  have hx := B.exec
  have hb := B.bytes
  have hr := B.returns
  have hts := atoms_spec (ws := w_charAt) B.pre
  have hown : s.vm.findClass "java/lang/String" = some m.cls := findClass_of_methodNamed B.named
  have hlocks := B.notSynchronized
  have hS : va_S Nul s.heap s.heap [] := va_S.rf
  have hl := lv_entry ([.ref (adK w), .int k]) (n := 2) (Nat.le_of_ble_eq_true rfl)
  rw [lg_entry_eq]
  generalize (lg_sl ([.ref (adK w), .int k]) ++ List.replicate (2 - (lg_sl ([.ref (adK w), .int k])).length) Slot.unset).toArray = ls at hl ⊢
  have hl : lv_has ls 2 [(0, .ref (adK w)), (1, .int k)] := hl
  have hkn : k.toNatClampNeg < am_txl w := Nat.not_le.mp fun z => hk (Or.inr z)
  refine lv_aload_n hx hb (k := 0) (i := 0) (by decide +kernel) rfl (lv_at hl 0 rfl) ?_
  refine va_calli (va_runV (As := []) (rest := []) (b := adK w) ⟨hx, hb, hml, hown, hts⟩ (c_isL l adK adV Hh hw) (cwV 0 hts (ss_G (ss_V (idx := 492) (tb_in (by decide +kernel)) (tb_in (by decide +kernel)) (tb_in (by decide +kernel)) (tb_in (by decide +kernel)) (tb_in (by decide +kernel)))) rfl rfl rfl (by decide +kernel) ⟨Nat.le_of_ble_eq_true rfl, Nat.le_of_ble_eq_true rfl⟩) ⟨SFp.blind, vk_recv hv hw hS, fun U hU hW => ⟨rfl, hH ▸ SFp.at hSF hS hU hW⟩⟩ rfl rfl hl.1 rfl (lv_room (Nat.le_of_ble_eq_true rfl)) (by show decode prog_17_method_56_code 1 = _; decide +kernel) ⟨Nat.le_refl _, Nat.le_refl _⟩) hS (fun q _ h => h) (fun q h => h) (fun r u t1 H1 locs ht1 hvm hw1 hB hz1 hk1 hS => ?_)
  subst hw1
  have hH0 : H1 = Hh := ht1.symm.trans hB
  refine lv_if_eq hx hb (off := 12) (tgt := 16) (by decide +kernel) (by decide) (fun z => absurd z (by decide)) (fun _ => ?_)
  refine lv_aload_n hx hb (k := 0) (i := 0) (by decide +kernel) rfl (lv_at hl 0 rfl) ?_
  refine vk_getf hx hb (hv.1 w hw).2.2.1 hS hown (hts (.fieldLink "java/lang/String" 9 "java/lang/String" "value" "[B") (List.mem_cons_of_mem _ (tb_in (by decide +kernel)))) (fun _ h => h) (by decide +kernel) ?_
  refine lv_iload_n hx hb (k := 1) (i := 1) (by decide +kernel) rfl (lv_at hl 1 rfl) ?_
  clear ht1 hB hk1 hz1 hvm
  refine va_calli (va_runS (As := [.ref (adV w), .int k]) (rest := []) ⟨hx, hb, hml, hown, hts⟩ (c_lat l adK adV Hh hw hk) (va_cwS 2 hts (ss_G (ss_Sw (idx := 495) (tb_in (by decide +kernel)) (tb_in (by decide +kernel)) (tb_in (by decide +kernel)) (tb_in (by decide +kernel)))) rfl rfl rfl (by decide +kernel) ⟨Nat.le_of_ble_eq_true rfl, Nat.le_of_ble_eq_true rfl⟩) ⟨SFp.blind, fun U hU hW => ⟨rfl, hH0 ▸ SFp.at hSF hS hU hW⟩⟩ rfl rfl hl.1 rfl (lv_room (Nat.le_of_ble_eq_true rfl)) (by show decode prog_17_method_56_code 12 = _; decide +kernel) ⟨Nat.le_refl _, Nat.le_refl _⟩) hS (fun q _ h => h) (fun q h => h) (fun r u t1 H2 locs2 ht1 hvm hw1 hB hz1 hk1 hS => ?_)
  subst hw1
  exact W.zret hx hb hr (sg_ok hw hkn).2.2 (fun t ht hW => ⟨⟨_, (), rfl, rfl, ht.trans (ht1.symm.trans hB)⟩, hS.F ht⟩) hS.2.2 (by decide +kernel)
end
set_option maxHeartbeats 4000000 in
theorem am_str (l : Launch) (D : va_G) (cA : FieldType → ClassId) (ad : Nat → Nat) (L : Nat) (xs : Nat → Int32) : am_Str l D cA ad L xs := by
  intro p e R s m args below meth c H locs cells slots Z pc ls M d o idx rest hC hS hls h1 h2 hd hst hdc
  obtain ⟨hx, hb, hml, hown, hts, hK, hRd, hcs, hX⟩ := hC
  obtain ⟨w, hw, rfl⟩ : ∃ w, w < 18 ∧ o = 1000 + w := ⟨o - 1000, by omega, by omega⟩
  have ho : ad (1000 + w) = (fun w => ad (1000 + w)) w := rfl
  rw [Nat.add_sub_cancel_left]
  have hSF : SF (fun w => ad (1000 + w)) (fun w => ad (2000 + w)) (am_A ad) s s.heap := hX.2.1
  refine ⟨fun hlk kk => ?_, fun k hk hlk kk => ?_⟩
  · refine va_calli (va_runV (As := []) (rest := rest.map (am_up ad)) (b := ad (1000 + w)) ⟨hx, hb, hml, hown, hts⟩ (c_length l (fun w => ad (1000 + w)) (fun w => ad (2000 + w)) H hw) (cwV 0 hts (ss_G0 (ss_V (idx := idx) hlk (tb_in (by decide +kernel)) (tb_in (by decide +kernel)) (tb_in (by decide +kernel)) (tb_in (by decide +kernel)))) rfl rfl rfl (by decide +kernel) ⟨Nat.le_trans (Nat.le_of_ble_eq_true rfl) (Nat.le_trans hd hRd.1), Nat.le_trans (Nat.le_of_ble_eq_true rfl) (Nat.le_trans (Nat.mul_le_mul_left 64 hd) hRd.2)⟩) ⟨SFp.blind, ho ▸ vk_recv hSF.1 hw hS, fun U hU hW => ⟨by rw [ho], SFp.at hSF hS hU hW⟩⟩ rfl rfl hls rfl (lv_room (by rw [am_cs_sum, am_cs_up]; exact hst)) hdc ⟨hcs.1, hcs.2⟩) hS (fun q _ h => h.elim) (fun q h => h.elim) (fun r u t1 H1 locs1 ht1 hvm hw1 hB hz1 hk1 hS1 => ?_)
    subst hw1
    have e : H1 = H := ht1.symm.trans hB
    subst e
    exact kk H1 locs1 hS1 (fun q _ => rfl)
  · refine va_calli (va_runV (As := [.int k]) (rest := rest.map (am_up ad)) (b := ad (1000 + w)) ⟨hx, hb, hml, hown, hts⟩ (c_charAt l (fun w => ad (1000 + w)) (fun w => ad (2000 + w)) H hw hk) (cwV 1 hts (ss_G0 (ss_V (idx := idx) hlk (tb_in (by decide +kernel)) (tb_in (by decide +kernel)) (tb_in (by decide +kernel)) (tb_in (by decide +kernel)))) rfl rfl rfl (by decide +kernel) ⟨Nat.le_trans (Nat.le_of_ble_eq_true rfl) (Nat.le_trans hd hRd.1), Nat.le_trans (Nat.le_of_ble_eq_true rfl) (Nat.le_trans (Nat.mul_le_mul_left 64 hd) hRd.2)⟩) ⟨SFp.blind, ho ▸ vk_recv hSF.1 hw hS, fun U hU hW => ⟨by rw [ho], SFp.at hSF hS hU hW⟩⟩ rfl rfl hls rfl (lv_room (by rw [am_cs_sum, am_cs_up]; exact hst)) hdc ⟨hcs.1, hcs.2⟩) hS (fun q _ h => h.elim) (fun q h => h.elim) (fun r u t1 H1 locs1 ht1 hvm hw1 hB hz1 hk1 hS1 => ?_)
    subst hw1
    have e : H1 = H := ht1.symm.trans hB
    subst e
    exact kk H1 locs1 hS1 (fun q _ => rfl)
