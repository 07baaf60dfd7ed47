/-! the law from its entry to its end -/
def R_law : String := "BrokenLoavesLaw"
def lw_P (b : Addr) (xs : List Int32) (args : Array Value) (s : State) : Prop := args = #[.ref b] ∧ s.IntsAt b xs ∧ xs.length ≤ 2560 ∧ (Jvm.Cond.and given_1 narrow_1).before args s = true
def lw_Q (_ : Array Value) (s : State) (o : Outcome) (t : State) : Prop := o = .returned (some (.int 1)) ∧ Framed s o t [] 600000 7302250
def lw_Z (below : List Frame) (a : Array Value) (s : State) : State → Prop := fun t => ∃ o, t.status = .running ∧ Ended t below o ∧ lw_Q a s o t
/-- the law's own end, with 1 on the stack, nothing written that was there before, its room as the claim has it -/
theorem lw_ret {p : Program} {l : Launch} {e : Env} {s : State} {m : MethodId} {below : List Frame} {meth : Method} {c : Code} {b : Nat} (hx : p.tables.exec = Jvm.exec) (hb : c.code = code) (hr : meth.sig.returnType = ret) (hlocks : meth.locks = false) {pc : Nat} {H : Heap} {ls : Array Slot} (hdg : decode code pc = .ok (.ireturn, 1)) : W p l e room_1 s m #[Value.ref b] below meth c H [] 600000 7302250 (lw_Z below #[Value.ref b] s) (F0 m pc ls [.int 1]) := by
  intro T hT X
  obtain ⟨fs, hret, hrun, hended, hW, hframe⟩ := X.leave (v := some (.int 1)) (hlocks := hlocks) (fun h => by rw [hr] at h; cases h)
  have hmeth' : T.vm.method? m = some meth := X.method'
  refine ⟨T.setFrames fs, ?_, .returned (some (.int 1)), hrun, hended, rfl, ⟨_, rfl⟩, hW, hframe⟩
  jvm_step X.here [X.here.top, hx, hb, hdg, hmeth', hr, ret, narrow_b1]
  (try refine ⟨rfl, ?_⟩); (try refine ⟨rfl, ?_⟩)
  first | (intro acts; rw [hret _ acts rfl rfl rfl]) | rw [hret _ _ rfl rfl rfl]
  exact Steps.refl _
/-- what holds at the law's entry: the machine, the code, the tables' words (any of lw_tbl by 'hts w (by decide +kernel)'), the script of L ints xs at the cell b, what the Statement gives of the start (any of its parts by flat_of_before) -/
def lw_At (p : Program) (s : State) (m : MethodId) (meth : Method) (c : Code) (b L : Nat) (xs : Nat → Int32) : Prop :=
  p.tables.exec = Jvm.exec ∧ c.code = code ∧ meth.sig.returnType = ret ∧ c.maxLocals = 4 ∧ s.vm.findClass R_law = some m.cls ∧ (∀ w ∈ lw_tbl, w.before #[Value.ref b] s = true) ∧ va_X b L xs s s.heap ∧ b < s.heap.size ∧ meth.locks = false ∧ (Jvm.Cond.and given_1 narrow_1).before #[Value.ref b] s = true
theorem st_vkS {N : Nat} {len : List Nat} {byt : List (List Int32)} {k v k' v' : Nat → Nat} {A : Nat → Prop} {U : State} {H : Heap} (h : vk_S N len byt k v A U H) (hk : ∀ i, i < N → k' i = k i) (hv : ∀ i, i < N → v' i = v i) : vk_S N len byt k' v' A U H :=
  ⟨fun i hi => by rw [hk i hi, hv i hi]; exact h.1 i hi, fun i j hi hj e => h.2 i j hi hj (by rw [← hk i hi, ← hk j hj]; exact e)⟩
theorem st_meth : am_meth q_L_law = some mm_289 := rfl
set_option maxHeartbeats 4000000 in
theorem whole_start {p : Program} {e : Env} {s : State} {m : MethodId} {below : List Frame} {meth : Method} {c : Code} (l : Launch) {b L : Nat} {xs : Nat → Int32} (hL : L ≤ 2560) (C0 : lw_At p s m meth c b L xs) : W p l e room_1 s m #[Value.ref b] below meth c s.heap [] 0 0 (lw_Z below #[Value.ref b] s) (entryFrame m ([Value.ref b] : List Value).toArray 4) := by
  obtain ⟨hx, hb, hr, hml, hown, hts, hX, hbl, hlk, hg⟩ := C0
  obtain ⟨D, cA, hK⟩ := st_K hts
  obtain ⟨adK, adV, hSt, hev⟩ := st_S (A := fun q => s.heap.size ≤ q) hg (fun a h => Nat.not_le.mpr h)
  have hC : cm_Cx D cA (fun q => s.heap.size ≤ q) cm_m14.2.1 87 3888 p room_1 s m #[.ref b] meth c := ⟨hx, hb, hml, hown, st_tb hts, hK, fun q h => h, fun h => absurd rfl h, st_X hts, ⟨by decide, by decide⟩⟩
  have hl := lv_entry ([.ref b]) (n := 4) (Nat.le_of_ble_eq_true rfl)
  rw [lg_entry_eq]
  generalize (lg_sl ([.ref b]) ++ List.replicate (4 - (lg_sl ([.ref b])).length) Slot.unset).toArray = ls at hl ⊢
  refine cm_start cm_mnaok hC (st_N hts) ⟨by decide, by decide⟩ hl ?_
  intro ad' H locs ls hb0 hP hD hS hl
  have hws : cm_w cA ad' (cm_B ++ cm_Q14.2.2.2.1) = am_ws cA (st_ad ad' b adK adV) st_I := st_ws
  rw [hws] at hP hD
  have h200 : st_ad ad' b adK adV am_scr = b := by
    unfold st_ad
    rw [if_neg (by decide), if_pos rfl]
  have hK1 : ∀ w, w < 18 → st_ad ad' b adK adV (1000 + w) = adK w := by
    intro w hw
    unfold st_ad
    rw [if_neg (by omega), if_neg (by omega), if_pos (by omega), Nat.add_sub_cancel_left]
  have hV1 : ∀ w, w < 18 → st_ad ad' b adK adV (2000 + w) = adV w := by
    intro w hw
    unfold st_ad
    rw [if_neg (by omega), if_neg (by omega), if_neg (by omega), Nat.add_sub_cancel_left]
  have h0 : st_ad ad' b adK adV 0 = ad' 1 := by
    unfold st_ad
    rw [if_pos (by decide)]
  have h66 : st_ad ad' b adK adV 66 = ad' 67 := by
    unfold st_ad
    rw [if_pos (by decide)]
  clear hws
  generalize st_ad ad' b adK adV = ad at hP hD h200 hK1 hV1 h0 h66
  have hl2 : lv_has ls 4 [(3, .int 0), (2, .ref (ad 66)), (1, .ref (ad 0)), (0, .ref (ad 200))] := by
    rw [h66, h0, h200]
    exact hl
  have hinj : am_inj ad := fun i j hi hj e => hD.1 i j _ _ (am_ws_at cA ad st_I hi) (am_ws_at cA ad st_I hj) e
  have hge : ∀ q, am_A ad q → s.heap.size ≤ q := by
    rintro q ⟨o, ho, rfl⟩
    exact hD.2 o _ (am_ws_at cA ad st_I ho)
  have hXX : am_X ad L xs s := by
    refine ⟨⟨by rw [h200]; exact hX, fun z => absurd (hge _ z) (by rw [h200]; omega)⟩, ⟨st_vkS (hSt.narrow hge) hK1 hV1, st_Z1 hts hg (fun a h z => absurd (hge a z) (by omega)), st_Z2 hts hg (fun a h z => absurd (hge a z) (by omega))⟩, fun w hw => by rw [hK1 w hw]; exact st_R hts hev w hw, st_nest hts⟩
  refine va_forget (fun q hq => hS.2.2 q hq) ?_
  have hS' : va_S (am_A ad) s.heap H [] := ⟨hS.1, fun q h1 h2 => hS.2.1 q h1 (Nat.not_le.mpr h1), fun _ h => by cases h⟩
  have hJ := am_closed am_ok hinj (am_str l D cA ad L xs)
  have J := law_loop (Inv := Inv) (Q := fun r _ => r = some (.int 1)) hJ hL (st_ops hJ) (fun _ => rfl) (L + 6) 0 st_I st_inv (Nat.zero_le _) (by omega)
  have hls : am_ls ad mm_289 q_L_law ls (am_lw (nI 0)) := by
    refine ⟨hl2.1, hl2.2.1, fun i v h => ?_, fun i v h hc => ?_⟩
    · match i, h with
      | 0, h => cases h; exact hl2.2.2 (0, .ref (ad 200)) (by simp)
      | 1, h => cases h; exact hl2.2.2 (1, .ref (ad 0)) (by simp)
      | 2, h => cases h; exact hl2.2.2 (2, .ref (ad 66)) (by simp)
      | 3, h => cases h; exact hl2.2.2 (3, .int 0) (by simp)
      | n + 4, h => cases h
    · match i, h with
      | 0, h => cases h; cases hc
      | 1, h => cases h; cases hc
      | 2, h => cases h; cases hc
      | 3, h => cases h; cases hc
      | n + 4, h => cases h
  refine J mm_289 st_meth p e room_1 s m #[Value.ref b] below meth c H [] 87 3888 ls _ ⟨hx, hb, hml, hown, st_tb hts, hK, ⟨by decide, by decide⟩, ⟨by decide, by decide⟩, hXX⟩ hP hS' hls ?_
  intro r I' H' locs' ls' pc' hq hP' hS'' hrt
  subst hq
  refine va_forget (fun q hq => hge _ (hS''.2.2 q hq)) ?_
  refine W.widen (k := 600000) (n := 7302250) (by decide) (by decide) ?_
  exact lw_ret hx hb hr hlk hrt.1
