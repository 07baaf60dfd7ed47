/-! WHAT A DAY DOES -/
def sp_s (u : am_U) : am_U := upN u 3 (sp_snowD u)
def sp_lf (u : am_U) (k : Nat) : Nat := if 999 < u 4 + sp_still u k then 999 else u 4 + sp_still u k
def sp_brk (u : am_U) (k : Nat) : am_U := if u (39 + 6 * k) ≤ sp_lf u k then upN (upN (upN u 4 (sp_lf u k)) (43 + 6 * k) 1) 4 (sp_lf u k - sp_eats u k) else upN u 4 (sp_lf u k)
def sp_brkW (u : am_U) (k : Nat) : Nat := if u (39 + 6 * k) ≤ sp_lf u k then (if u (43 + 6 * k) = 0 then sp_still u k + 9 else sp_still u k) else sp_still u k
def sp_mt (u : am_U) (k : Nat) : Nat := if 9 < u (42 + 6 * k) + 1 then 9 else u (42 + 6 * k) + 1
def sp_meetU (u : am_U) (k : Nat) : am_U := if sp_will u k = 2 then u else if sp_will u k = 1 then upN u (42 + 6 * k) (sp_mt u k) else upN (sp_brk u k) (42 + 6 * k) (sp_mt u k)
def sp_meetW (u : am_U) (k : Nat) : Nat := if sp_will u k = 2 then 0 else if sp_will u k = 1 then 1 else sp_brkW u k
abbrev sp_tk (u : am_U) (k : Nat) : Prop := u 3 ≤ u (32 + u (41 + 6 * k))
def sp_fin (u : am_U) (w : Nat) : am_U := upN (upN (upN u 4 (u 4 - 1 - u 3 / 3)) 0 (u 0 + 1)) 2 (u 2 + w)
def sp_goW (u : am_U) (act : Nat) : Nat := if act ≠ 0 ∧ sp_tk (sp_s u) (act - 1) then sp_meetW (sp_s u) (act - 1) else 0
def sp_goV (u : am_U) (act : Nat) : am_U := if act ≠ 0 ∧ sp_tk (sp_s u) (act - 1) then sp_meetU (sp_s u) (act - 1) else sp_s u
def sp_goU (u : am_U) (act : Nat) : am_U := sp_fin (sp_goV u act) (sp_goW u act)
/-- whom the rest feeds next -/
abbrev sp_can (u : am_U) (k : Nat) : Prop := u (43 + 6 * k) = 0 ∧ sp_tk u k ∧ u (39 + 6 * k) ≤ u 4 + sp_still u k
def sp_rl (u : am_U) : Nat → Nat → Nat
  | 0, _ => 0
  | n + 1, k => if sp_can u k then k + 1 else sp_rl u n (k + 1)
def sp_rest (u : am_U) : Nat := sp_rl (sp_s u) (u 6) 0
theorem sp_rl_succ (u : am_U) (n k : Nat) : sp_rl u (n + 1) k = if sp_can u k then k + 1 else sp_rl u n (k + 1) := rfl
theorem sp_rl_le {u : am_U} : ∀ n k, sp_rl u n k ≤ n + k
  | 0, k => Nat.zero_le _
  | n + 1, k => by
    rw [sp_rl_succ]
    split
    · omega
    · have := sp_rl_le (u := u) n (k + 1)
      omega
theorem sp_rest_le {u : am_U} : sp_rest u ≤ u 6 := sp_rl_le _ 0
theorem sp_rl_can {u : am_U} : ∀ n k, sp_rl u n k ≠ 0 → sp_can u (sp_rl u n k - 1)
  | 0, k, h => absurd rfl h
  | n + 1, k, h => by
    rw [sp_rl_succ] at h ⊢
    split
    · next q => simpa using q
    · next q =>
      rw [if_neg q] at h
      exact sp_rl_can n (k + 1) h
/-! places that a day changes -/
def am_dy (j : Nat) : Bool := decide (j = 0) || decide (j = 2) || decide (j = 3) || decide (j = 4) || (decide (42 ≤ j) && decide (j < 74) && decide (4 ≤ (j - 38) % 6))
def SameR (u u' : am_U) : Prop := ∀ j, am_dy j = false → u' j = u j
theorem SameR.refl (u : am_U) : SameR u u := fun _ _ => rfl
theorem SameR.trans {u v w : am_U} (h : SameR u v) (g : SameR v w) : SameR u w := fun j hj => (g j hj).trans (h j hj)
theorem SameR.up {u v : am_U} {i n : Nat} (h : SameR u v) (hi : am_dy i = true) : SameR u (upN v i n) := by
  intro j hj
  rw [upN_n (fun z => by subst z; rw [hi] at hj; cases hj)]
  exact h j hj
theorem am_dyM : ∀ k, k < 6 → am_dy (42 + 6 * k) = true ∧ am_dy (43 + 6 * k) = true := by decide
theorem TR8_dy : ∀ t ∈ TR 8, am_dy t.2.2 = false := by decide +kernel
theorem am_dy_98 {j : Nat} (h : 74 ≤ j) : am_dy j = false := by
  unfold am_dy
  simp
  omega
theorem RRep.same {I : am_I} {u u' : am_U} (h : RRep I 8 u) (hs : SameR u u') : RRep I 8 u' :=
  ⟨h.1.keptu (fun t ht => hs _ (TR8_dy t ht)), h.2.keptu (hs 7 (by decide)) (fun j hj => hs j (am_dy_98 (by omega)))⟩
theorem RRep.kept {I I' : am_I} {u : am_U} (h : RRep I 8 u) (hk : ∀ o, o ∈ am_mc → o ≠ 9 → I' o = I o) : RRep I' 8 u := by
  have t : ∀ t ∈ TR 8, t.1 ∈ am_mc ∧ t.1 ≠ 9 := by decide +kernel
  refine ⟨h.1.kept (fun x hx => hk _ (t x hx).1 (t x hx).2), ?_⟩
  show RuR (I' 17) u
  rw [hk 17 (by decide) (by decide)]
  exact h.2
theorem upN_comm {u : am_U} {i j a b : Nat} (h : i ≠ j) : upN (upN u i a) j b = upN (upN u j b) i a := by
  funext x
  unfold upN
  by_cases h1 : x = i
  · subst h1
    rw [if_neg h]
    simp
  · simp [h1]
/-! ranges -/
theorem OKu.upM {u : am_U} {k n : Nat} (h : OKu u) (hk : k < u 6) (hn : n ≤ 9) : OKu (upN u (42 + 6 * k) n) := by
  have h6 := h.Cn.1
  have := OKu.upP (f := 4) (m := 9) h hk (by decide) hn (fun q hq e => (am_okbP q hq k (by omega)).2.2.2.2.1 (by omega)) (by omega)
  rw [show 38 + 6 * k + 4 = 42 + 6 * k by omega] at this
  exact this
theorem OKu.upF {u : am_U} {k n : Nat} (h : OKu u) (hk : k < u 6) (hn : n ≤ 1) : OKu (upN u (43 + 6 * k) n) := by
  have h6 := h.Cn.1
  have := OKu.upP (f := 5) (m := 1) h hk (by decide) hn (fun q hq e => (am_okbP q hq k (by omega)).2.2.2.2.2 (by omega)) (by omega)
  rw [show 38 + 6 * k + 5 = 43 + 6 * k by omega] at this
  exact this
theorem am_okb34 : ∀ q ∈ OKb, (q.1 = 3 → q.2 = 9) ∧ (q.1 = 4 → q.2 = 999) ∧ (q.1 = 2 → False) ∧ (q.1 = 0 → q.2 = 16) := by decide +kernel
theorem OKu.up4 {u : am_U} {n : Nat} (h : OKu u) (hn : n ≤ 999) : OKu (upN u 4 n) := h.up0 (fun q hq e => by rw [(am_okb34 q hq).2.1 e]; exact hn) (by omega)
theorem OKu.up3 {u : am_U} {n : Nat} (h : OKu u) (hn : n ≤ 9) : OKu (upN u 3 n) := h.up0 (fun q hq e => by rw [(am_okb34 q hq).1 e]; exact hn) (by omega)
theorem OKu.up2 {u : am_U} {n : Nat} (h : OKu u) : OKu (upN u 2 n) := h.up0 (fun q hq e => ((am_okb34 q hq).2.2.1 e).elim) (by omega)
theorem OKu.upD {u : am_U} {n : Nat} (h : OKu u) (hn : n ≤ u 1) : OKu (upN u 0 n) := by
  obtain ⟨g1, g2, g3, g4, g5⟩ := id h
  have h66 : u 6 ≤ 6 := g1 (6, 6) (by decide)
  have h1 : u 1 ≤ 16 := h.Cn.2.2.1
  refine OKu.up h (fun q hq e => by rw [(am_okb34 q hq).2.2.2 e]; omega) hn g3 (fun k hk => ?_) (fun k f hk h6 hf => ?_)
  · have hk : k < u 6 := hk
    rw [upN_n (by omega)]
    exact g4 k hk
  · have hk : u 6 ≤ k := hk
    rw [upN_n (by omega)]
    exact g5 k f hk h6 hf
theorem sp_snow_le {sn we : Nat} (hs : sn ≤ 9) : sp_snow sn we ≤ 9 := by
  unfold sp_snow
  repeat' split
  all_goals omega
theorem sp_snowD_le {u : am_U} (h : OKu u) : sp_snowD u ≤ 9 := by
  have := h.Cn
  unfold sp_snowD
  split
  · exact sp_snow_le (by omega)
  · omega
theorem sp_s_ok {u : am_U} (h : OKu u) : OKu (sp_s u) := h.up3 (sp_snowD_le h)
theorem sp_s_n {u : am_U} {j : Nat} (h : j ≠ 3) : sp_s u j = u j := upN_n h
theorem sp_s_3 {u : am_U} : sp_s u 3 = sp_snowD u := upN_s
theorem sp_still_s {u : am_U} {k : Nat} : sp_still (sp_s u) k = sp_still u k := by
  unfold sp_still
  rw [sp_s_n (j := 38 + 6 * k) (by omega), sp_s_n (j := 40 + 6 * k) (by omega), sp_s_n (j := 0) (by omega), sp_s_n (j := 41 + 6 * k) (by omega), sp_s_n (j := 26 + u (41 + 6 * k)) (by omega), sp_s_n (j := 42 + 6 * k) (by omega)]
theorem sp_lf_le {u : am_U} {k : Nat} : sp_lf u k ≤ 999 := by
  unfold sp_lf
  split <;> omega
theorem sp_mt_le {u : am_U} {k : Nat} : sp_mt u k ≤ 9 := by
  unfold sp_mt
  split <;> omega
theorem sp_brk_ok {u : am_U} {k : Nat} (h : OKu u) (hk : k < u 6) : OKu (sp_brk u k) := by
  have hl := sp_lf_le (u := u) (k := k)
  unfold sp_brk
  split
  · exact ((h.up4 hl).upF (k := k) hk (by omega)).up4 (by omega)
  · exact h.up4 hl
theorem sp_brk_6 {u : am_U} {k : Nat} : sp_brk u k 6 = u 6 := by
  unfold sp_brk
  split
  · rw [upN_n (by omega), upN_n (by omega), upN_n (by omega)]
  · rw [upN_n (by omega)]
theorem sp_meetU_ok {u : am_U} {k : Nat} (h : OKu u) (hk : k < u 6) : OKu (sp_meetU u k) := by
  unfold sp_meetU
  split
  · exact h
  · split
    · exact h.upM hk sp_mt_le
    · exact (sp_brk_ok h hk).upM (by rw [sp_brk_6]; exact hk) sp_mt_le
theorem sp_brk_same {u : am_U} {k : Nat} (hk : k < 6) : SameR u (sp_brk u k) := by
  unfold sp_brk
  split
  · exact (((SameR.refl u).up (by decide)).up (am_dyM k hk).2).up (by decide)
  · exact (SameR.refl u).up (by decide)
theorem sp_meetU_same {u : am_U} {k : Nat} (hk : k < 6) : SameR u (sp_meetU u k) := by
  unfold sp_meetU
  split
  · exact SameR.refl u
  · split
    · exact (SameR.refl u).up (am_dyM k hk).1
    · exact (sp_brk_same hk).up (am_dyM k hk).1
theorem sp_s_same {u : am_U} : SameR u (sp_s u) := (SameR.refl u).up (by decide)
theorem sp_goV_same {u : am_U} {act : Nat} (h : OKu u) (ha : act ≤ u 6) : SameR u (sp_goV u act) := by
  have := h.Cn.1
  unfold sp_goV
  split
  · exact sp_s_same.trans (sp_meetU_same (by omega))
  · exact sp_s_same
theorem sp_fin_same {u : am_U} {w : Nat} : SameR u (sp_fin u w) := (((SameR.refl u).up (by decide)).up (by decide)).up (by decide)
theorem sp_goU_same {u : am_U} {act : Nat} (h : OKu u) (ha : act ≤ u 6) : SameR u (sp_goU u act) := (sp_goV_same h ha).trans sp_fin_same
theorem sp_goV_ok {u : am_U} {act : Nat} (h : OKu u) (ha : act ≤ u 6) : OKu (sp_goV u act) := by
  unfold sp_goV
  split
  · next q => exact sp_meetU_ok (sp_s_ok h) (by rw [sp_s_n (by decide)]; omega)
  · exact sp_s_ok h
theorem sp_brk_0 {u : am_U} {k : Nat} : sp_brk u k 0 = u 0 ∧ sp_brk u k 2 = u 2 ∧ sp_brk u k 3 = u 3 := by
  unfold sp_brk
  split
  · refine ⟨?_, ?_, ?_⟩ <;> rw [upN_n (by omega), upN_n (by omega), upN_n (by omega)]
  · refine ⟨?_, ?_, ?_⟩ <;> rw [upN_n (by omega)]
theorem sp_meetU_0 {u : am_U} {k : Nat} : sp_meetU u k 0 = u 0 ∧ sp_meetU u k 2 = u 2 ∧ sp_meetU u k 3 = u 3 := by
  obtain ⟨a, b, c⟩ := sp_brk_0 (u := u) (k := k)
  unfold sp_meetU
  split
  · exact ⟨rfl, rfl, rfl⟩
  · split
    · refine ⟨?_, ?_, ?_⟩ <;> rw [upN_n (by omega)]
    · refine ⟨?_, ?_, ?_⟩ <;> rw [upN_n (by omega)] <;> assumption
theorem sp_goV_0 {u : am_U} {act : Nat} : sp_goV u act 0 = u 0 ∧ sp_goV u act 2 = u 2 ∧ sp_goV u act 3 = sp_snowD u := by
  obtain ⟨a, b, c⟩ := sp_meetU_0 (u := sp_s u) (k := act - 1)
  unfold sp_goV
  split
  · exact ⟨a, b, c⟩
  · exact ⟨rfl, rfl, rfl⟩
theorem sp_fin_ok {u : am_U} {w : Nat} (h : OKu u) (h1 : u 0 < u 1) : OKu (sp_fin u w) := by
  have c := h.Cn
  refine OKu.up2 (OKu.upD (h.up4 (by omega)) ?_)
  show u 0 + 1 ≤ u 1
  omega
theorem sp_goU_ok {u : am_U} {act : Nat} (h : OKu u) (ha : act ≤ u 6) (h1 : u 0 < u 1) : OKu (sp_goU u act) := by
  refine sp_fin_ok (sp_goV_ok h ha) ?_
  rw [sp_goV_0.1, sp_goV_same h ha 1 (by decide)]
  exact h1
theorem sp_goU_0 {u : am_U} {act : Nat} (h : OKu u) (ha : act ≤ u 6) : sp_goU u act 0 = u 0 + 1 ∧ sp_goU u act 1 = u 1 ∧ sp_goU u act 6 = u 6 ∧ sp_goU u act 2 = u 2 + sp_goW u act := by
  refine ⟨?_, sp_goU_same h ha 1 (by decide), sp_goU_same h ha 6 (by decide), ?_⟩
  · show sp_goV u act 0 + 1 = _
    rw [sp_goV_0.1]
  · show sp_goV u act 2 + _ = _
    rw [sp_goV_0.2.1]
theorem sp_brkW_le {u : am_U} {k : Nat} (h : OKu u) (hk : k < 6) : sp_brkW u k ≤ 36 := by
  have := sp_still_le h hk
  unfold sp_brkW
  split
  · split <;> omega
  · omega
theorem sp_meetW_le {u : am_U} {k : Nat} (h : OKu u) (hk : k < 6) : sp_meetW u k ≤ 36 := by
  have := sp_brkW_le h hk
  unfold sp_meetW
  split
  · omega
  · split <;> omega
theorem sp_goW_le {u : am_U} {act : Nat} (h : OKu u) (ha : act ≤ u 6) : sp_goW u act ≤ 36 := by
  have := h.Cn.1
  unfold sp_goW
  split
  · exact sp_meetW_le (sp_s_ok h) (by omega)
  · omega
theorem sp_eats_le {u : am_U} {k : Nat} (hk : k < 6) : sp_eats u k ≤ 8 := by
  unfold sp_eats
  repeat' split
  all_goals omega
