/-! A DAY: the numbers -/
def sp_strange (kd ta dy : Nat) : Nat := if kd = 1 then 2 * ta else if kd = 2 then ta + 3 else if kd = 3 then (if dy % 2 = 0 then ta + 5 else ta + 3) else if kd = 4 then ta / 2 else if kd = 5 then (if dy % 3 = 2 then 9 else ta / 2) else ta
def sp_still (u : am_U) (k : Nat) : Nat := sp_strange (u (38 + 6 * k)) (u (40 + 6 * k)) (u 0) + u (26 + u (41 + 6 * k)) - 2 * u (42 + 6 * k)
def sp_eats (u : am_U) (k : Nat) : Nat := if u (38 + 6 * k) = 1 then 3 + k else if u (38 + 6 * k) = 2 then 2 else if u (38 + 6 * k) = 3 then 7 else if u (38 + 6 * k) = 4 then 6 else if u (38 + 6 * k) = 5 then 4 else 3
def sp_taken (u : am_U) (k : Nat) : Bool := decide (u 3 ≤ u (32 + u (41 + 6 * k)))
def sp_snow (sn we : Nat) : Nat := if we % 4 = 0 then (if 9 < sn + we / 4 then 9 else sn + we / 4) else if we % 4 = 1 then sn - we / 4 else if we % 4 = 2 then (if sn < 5 then (if 5 < sn + we / 4 then 5 else sn + we / 4) else (if sn - we / 4 < 5 then 5 else sn - we / 4)) else sn
/-- the snow behind the day's weather -/
def sp_snowD (u : am_U) : Nat := if u 0 < 16 then sp_snow (u 3) (u (10 + u 0)) else u 3
theorem sp_strange_le {kd ta dy : Nat} (h : ta ≤ 9) : sp_strange kd ta dy ≤ 18 := by
  unfold sp_strange
  repeat' split
  all_goals omega
theorem OKu.P {u : am_U} (h : OKu u) {k : Nat} (hk : k < 6) : u (38 + 6 * k) ≤ 5 ∧ u (39 + 6 * k) ≤ 60 ∧ u (40 + 6 * k) ≤ 9 ∧ u (41 + 6 * k) ≤ 5 ∧ u (42 + 6 * k) ≤ 9 ∧ u (43 + 6 * k) ≤ 1 := by
  have t1 : ∀ k, k < 6 → (38 + 6 * k, 5) ∈ OKb ∧ (39 + 6 * k, 60) ∈ OKb ∧ (40 + 6 * k, 9) ∈ OKb := by decide +kernel
  have t2 : ∀ k, k < 6 → (41 + 6 * k, 5) ∈ OKb ∧ (42 + 6 * k, 9) ∈ OKb ∧ (43 + 6 * k, 1) ∈ OKb := by decide +kernel
  obtain ⟨a, b, c⟩ := t1 k hk
  obtain ⟨d, e, f⟩ := t2 k hk
  exact ⟨h.1 _ a, h.1 _ b, h.1 _ c, h.1 _ d, h.1 _ e, h.1 _ f⟩
theorem OKu.G {u : am_U} (h : OKu u) {g : Nat} (hg : g < 6) : u (26 + g) ≤ 9 ∧ u (32 + g) ≤ 9 := by
  have : ∀ g, g < 6 → (26 + g, 9) ∈ OKb ∧ (32 + g, 9) ∈ OKb := by decide +kernel
  obtain ⟨a, b⟩ := this g hg
  exact ⟨h.1 _ a, h.1 _ b⟩
theorem OKu.Wt {u : am_U} (h : OKu u) {g : Nat} (hg : g < 16) : u (10 + g) ≤ 15 := by
  have : ∀ g, g < 16 → (10 + g, 15) ∈ OKb := by decide +kernel
  exact h.1 _ (this g hg)
theorem OKu.Cn {u : am_U} (h : OKu u) : u 6 ≤ 6 ∧ u 0 ≤ 16 ∧ u 1 ≤ 16 ∧ u 3 ≤ 9 ∧ u 4 ≤ 999 ∧ u 7 ≤ 8 ∧ u 8 ≤ 6 := ⟨h.b 6 6 (by decide), h.b 0 16 (by decide), h.b 1 16 (by decide), h.b 3 9 (by decide), h.b 4 999 (by decide), h.b 7 8 (by decide), h.b 8 6 (by decide)⟩
theorem sp_still_le {u : am_U} (h : OKu u) {k : Nat} (hk : k < 6) : sp_still u k ≤ 27 := by
  obtain ⟨a, b, c, d, e, f⟩ := h.P hk
  have h1 := sp_strange_le (kd := u (38 + 6 * k)) (dy := u 0) c
  have h2 := (h.G (g := u (41 + 6 * k)) (by omega)).1
  unfold sp_still
  omega
theorem nI_mod2 : ∀ n, n < 17 → (nI n - nI n / 2 * 2 = 0 ↔ n % 2 = 0) := by decide +kernel
theorem nI_mod3 : ∀ n, n < 17 → (nI n - nI n / 3 * 3 = 2 ↔ n % 3 = 2) := by decide +kernel
theorem nI_div2 : ∀ n, n < 10 → nI n / 2 = nI (n / 2) := by decide +kernel
/-- max(0, a - b) -/
theorem am_mx0 {a b : Nat} (ha : a < 2 ^ 30) (hb : b < 2 ^ 30) : am_mx 0 (nI a - nI b) = nI (a - b) := by
  unfold am_mx
  by_cases h : a < b
  · have h1 := pk_sneg hb h
    rw [if_neg (fun q => Int32.lt_irrefl (Int32.lt_trans h1 q)), show a - b = 0 by omega]
    rfl
  · rw [pk_sub (by omega)]
    by_cases h2 : a - b = 0
    · rw [h2]
      rfl
    · have h3 : (0 : Int32) < nI (a - b) := nI_lt (a := 0) (b := a - b) (by omega) (by omega)
      rw [if_pos h3]
theorem am_mnN {a b : Nat} (ha : a < 2 ^ 31) (hb : b < 2 ^ 31) : am_mn (nI a) (nI b) = nI (if b < a then b else a) := by
  unfold am_mn
  by_cases h : b < a
  · rw [if_pos (nI_lt h ha), if_pos h]
  · rw [if_neg (nI_nlt (by omega) hb), if_neg h]
theorem am_mxN {a b : Nat} (ha : a < 2 ^ 31) (hb : b < 2 ^ 31) : am_mx (nI a) (nI b) = nI (if a < b then b else a) := by
  unfold am_mx
  by_cases h : a < b
  · rw [if_pos (nI_lt h hb), if_pos h]
  · rw [if_neg (nI_nlt (by omega) ha), if_neg h]
section
variable {L : Nat} {xs : Nat → Int32} {J : am_J} {d : Nat} {I : am_I} {Q : am_Q}
/-! the kinds' own words -/
theorem x_Person_strange (hJ : am_Cl am_meth L xs J) {o : Nat} {a b : Int32} (h : Q (some (.int a)) I) : J d q_Person_strange 0 [some (.ref o), some (.int a), some (.int b)] [] I Q := by
  refine am_vc hJ 3 _ _ _ _ _ _ _ ?_
  exact h
theorem x_Pilgrim_strange (hJ : am_Cl am_meth L xs J) {o : Nat} {a b : Int32} (ho : o = 4 ∨ o = 5) (h : Q (some (.int (a + 3))) I) : J (d + 1) q_Pilgrim_strange 0 [some (.ref o), some (.int a), some (.int b)] [] I Q := by
  rcases ho with rfl | rfl
  all_goals
    refine am_vc hJ 9 _ _ _ _ _ _ _ ?_
    refine x_Person_strange hJ ?_
    exact h
theorem x_Friend_strange (hJ : am_Cl am_meth L xs J) {o : Nat} {a b : Int32} (ho : o = 6 ∨ o = 7) (h : Q (some (.int (a / 2))) I) : J (d + 1) q_Friend_strange 0 [some (.ref o), some (.int a), some (.int b)] [] I Q := by
  rcases ho with rfl | rfl
  all_goals
    refine am_vc hJ 9 _ _ _ _ _ _ _ ?_
    refine x_Person_strange hJ ?_
    refine ⟨by decide, ?_⟩
    exact h
theorem x_Tramp_strange (hJ : am_Cl am_meth L xs J) {a b : Int32} (h : Q (some (.int (2 * a))) I) : J (d + 1) q_Tramp_strange 0 [some (.ref 3), some (.int a), some (.int b)] [] I Q := by
  refine am_vc hJ 9 _ _ _ _ _ _ _ ?_
  refine x_Person_strange hJ ?_
  exact h
theorem x_Bishop_strange (hJ : am_Cl am_meth L xs J) {ta dy : Nat} (hd : dy < 17) (h : Q (some (.int (nI (sp_strange 3 ta dy)))) I) : J (d + 2) q_Bishop_strange 0 [some (.ref 5), some (.int (nI ta)), some (.int (nI dy))] [] I Q := by
  refine am_vc hJ 16 _ _ _ _ _ _ _ ?_
  refine x_Pilgrim_strange hJ (Or.inr rfl) ?_
  refine ⟨by decide, ?_⟩
  refine ⟨fun g => ?_, fun g => ?_⟩
  · have g := (nI_mod2 dy hd).mp g
    have e : nI ta + 3 + 2 = nI (sp_strange 3 ta dy) := by
      rw [show (3 : Int32) = nI 3 from rfl, show (2 : Int32) = nI 2 from rfl, nI_add, nI_add]
      simp [sp_strange, g]
    show Q (some (.int (nI ta + 3 + 2))) I
    rw [e]
    exact h
  · have g : ¬ dy % 2 = 0 := fun z => g ((nI_mod2 dy hd).mpr z)
    have e : nI ta + 3 + 0 = nI (sp_strange 3 ta dy) := by
      rw [show (3 : Int32) = nI 3 from rfl, show (0 : Int32) = nI 0 from rfl, nI_add, nI_add]
      simp [sp_strange, g]
    show Q (some (.int (nI ta + 3 + 0))) I
    rw [e]
    exact h
theorem x_Twin_strange (hJ : am_Cl am_meth L xs J) {ta dy : Nat} (ht : ta < 10) (hd : dy < 17) (h : Q (some (.int (nI (sp_strange 5 ta dy)))) I) : J (d + 2) q_Twin_strange 0 [some (.ref 7), some (.int (nI ta)), some (.int (nI dy))] [] I Q := by
  refine am_vc hJ 14 _ _ _ _ _ _ _ ?_
  refine ⟨by decide, ?_⟩
  refine ⟨fun g => ?_, fun g => ?_⟩
  · have g := (nI_mod3 dy hd).mp g
    have e : (9 : Int32) = nI (sp_strange 5 ta dy) := by simp [sp_strange, g]; rfl
    rw [← e] at h
    exact h
  · have g : ¬ dy % 3 = 2 := fun z => g ((nI_mod3 dy hd).mpr z)
    refine x_Friend_strange hJ (Or.inr rfl) ?_
    have e : nI ta / 2 = nI (sp_strange 5 ta dy) := by rw [nI_div2 ta ht]; simp [sp_strange, g]
    show Q (some (.int (nI ta / 2))) I
    rw [e]
    exact h
theorem x_Person_eats (hJ : am_Cl am_meth L xs J) {o : Nat} {a : Int32} (h : Q (some (.int 3)) I) : J d q_Person_eats 0 [some (.ref o), some (.int a)] [] I Q := by
  refine am_vc hJ 3 _ _ _ _ _ _ _ ?_
  exact h
theorem x_Pilgrim_eats (hJ : am_Cl am_meth L xs J) {o : Nat} {a : Int32} (ho : o = 4 ∨ o = 5) (h : Q (some (.int 2)) I) : J (d + 1) q_Pilgrim_eats 0 [some (.ref o), some (.int a)] [] I Q := by
  rcases ho with rfl | rfl
  all_goals
    refine am_vc hJ 9 _ _ _ _ _ _ _ ?_
    refine x_Person_eats hJ ?_
    exact h
theorem x_Friend_eats (hJ : am_Cl am_meth L xs J) {o : Nat} {a : Int32} (ho : o = 6 ∨ o = 7) (h : Q (some (.int 6)) I) : J (d + 1) q_Friend_eats 0 [some (.ref o), some (.int a)] [] I Q := by
  rcases ho with rfl | rfl
  all_goals
    refine am_vc hJ 9 _ _ _ _ _ _ _ ?_
    refine x_Person_eats hJ ?_
    exact h
theorem x_Tramp_eats (hJ : am_Cl am_meth L xs J) {a : Int32} (h : Q (some (.int (3 + a))) I) : J (d + 1) q_Tramp_eats 0 [some (.ref 3), some (.int a)] [] I Q := by
  refine am_vc hJ 9 _ _ _ _ _ _ _ ?_
  refine x_Person_eats hJ ?_
  exact h
theorem x_Bishop_eats (hJ : am_Cl am_meth L xs J) {a : Int32} (h : Q (some (.int 7)) I) : J (d + 2) q_Bishop_eats 0 [some (.ref 5), some (.int a)] [] I Q := by
  refine am_vc hJ 9 _ _ _ _ _ _ _ ?_
  refine x_Pilgrim_eats hJ (Or.inr rfl) ?_
  exact h
theorem x_Twin_eats (hJ : am_Cl am_meth L xs J) {a : Int32} (h : Q (some (.int 4)) I) : J (d + 2) q_Twin_eats 0 [some (.ref 7), some (.int a)] [] I Q := by
  refine am_vc hJ 11 _ _ _ _ _ _ _ ?_
  refine x_Friend_eats hJ (Or.inr rfl) ?_
  refine ⟨by decide, ?_⟩
  exact h
end
