/-! PLANS: what all of them come to -/
abbrev PS : Type := Int32 × Int32 × Nat × Nat × (Nat → Int32)
def sp_fe (wt F : Nat) : Bool := decide (nI F &&& nI wt = nI wt)
theorem sp_fe_eq : ∀ wt, wt < 64 → ∀ F, F < 64 → (nI F &&& nI wt = nI wt ↔ nI wt &&& (nI F ^^^ (-1)) = 0) := by decide +kernel
theorem or64 : ∀ E, E < 64 → ∀ F, F < 64 → nI E ||| nI F = nI (E ||| F) ∧ E ||| F < 64 := by decide +kernel
def sp_we (wt : Nat) (path : Nat → Int32) (w told F : Nat) (S : PS) : PS :=
  (if nI w ≤ S.1 then S.1 else nI w, (if nI w ≤ S.1 then S.2.1 else 0) + (if nI w = (if nI w ≤ S.1 then S.1 else nI w) then 1 else 0), if sp_fe wt F = true ∧ told < S.2.2.1 then told else S.2.2.1, S.2.2.2.1 ||| F, fun i => if nI w ≤ S.1 then S.2.2.2.2 i else path i)
def sp_fo (f : Nat → PS → PS) : Nat → PS → PS
  | 0, S => S
  | a + 1, S => f a (sp_fo f a S)
def sp_pth (path : Nat → Int32) (dp act : Nat) : Nat → Int32 := fun i => if i = dp then nI act else path i
def sp_try (wt : Nat) : Nat → Nat → am_U → (Nat → Int32) → Nat → Nat → PS → PS
  | 0, _, v, path, w, told, S => sp_we wt path w told (fedN v) S
  | n + 1, dp, v, path, w, told, S => sp_fo (fun act S => sp_try wt n (dp + 1) (sp_goU v act) (sp_pth path dp act) (w + sp_goW v act) (if act = 0 then told else told + 1) S) (v 6 + 1) S
/-- what holds of the numbers -/
def PSok (S : PS) : Prop := S.2.2.1 ≤ 5 ∧ S.2.2.2.1 < 64
theorem sp_we_ok {wt : Nat} {path : Nat → Int32} {w told F : Nat} {S : PS} (h : PSok S) (ht : told ≤ 4) (hF : F < 64) : PSok (sp_we wt path w told F S) := by
  refine ⟨?_, (or64 _ h.2 _ hF).2⟩
  show (if sp_fe wt F = true ∧ told < S.2.2.1 then told else S.2.2.1) ≤ 5
  split
  · omega
  · exact h.1
theorem sp_fo_ok {f : Nat → PS → PS} (P : PS → Prop) : ∀ n S, P S → (∀ a S, a < n → P S → P (f a S)) → P (sp_fo f n S)
  | 0, _, h, _ => h
  | n + 1, S, h, hf => hf n _ (by omega) (sp_fo_ok P n S h (fun a S ha => hf a S (by omega)))
theorem sp_try_ok {wt : Nat} : ∀ (n dp : Nat) (v : am_U) (path : Nat → Int32) (w told : Nat) (S : PS), OKu v → v 0 + n ≤ v 1 → told + n ≤ 4 → PSok S → PSok (sp_try wt n dp v path w told S)
  | 0, dp, v, path, w, told, S, hO, _, ht, hS => sp_we_ok hS (by omega) (fedN_lt hO.fed)
  | n + 1, dp, v, path, w, told, S, hO, hd, ht, hS => by
    refine sp_fo_ok PSok _ S hS (fun a S ha hS => ?_)
    have ha' : a ≤ v 6 := by omega
    obtain ⟨e0, e1, e6, e2⟩ := sp_goU_0 hO ha'
    refine sp_try_ok n (dp + 1) _ _ _ _ S (sp_goU_ok hO ha' (by omega)) (by omega) ?_ hS
    split <;> omega
/-- the first plan is one of acts -/
def PSfirst (m c : Nat) (S : PS) : Prop := ∀ i, i < m → ∃ a, a ≤ c ∧ S.2.2.2.2 i = nI a
theorem sp_we_first {wt m c : Nat} {path : Nat → Int32} {w told F : Nat} {S : PS} (hw : w < 2 ^ 31) (hp : ∀ i, i < m → ∃ a, a ≤ c ∧ path i = nI a) (h : S.1 = -1 ∨ PSfirst m c S) : (sp_we wt path w told F S).1 ≠ -1 ∧ PSfirst m c (sp_we wt path w told F S) := by
  have hw0 := nI_pos' hw
  by_cases g : nI w ≤ S.1
  · have hne : S.1 ≠ -1 := by
      intro z
      rw [z] at g
      exact absurd (Int32.le_trans hw0 g) (by decide)
    refine ⟨?_, fun i hi => ?_⟩
    · show (if nI w ≤ S.1 then S.1 else nI w) ≠ -1
      rw [if_pos g]
      exact hne
    · show ∃ a, a ≤ c ∧ (if nI w ≤ S.1 then S.2.2.2.2 i else path i) = nI a
      rw [if_pos g]
      rcases h with z | z
      · exact absurd z hne
      · exact z i hi
  · refine ⟨?_, fun i hi => ?_⟩
    · show (if nI w ≤ S.1 then S.1 else nI w) ≠ -1
      rw [if_neg g]
      exact am_neg1 hw
    · show ∃ a, a ≤ c ∧ (if nI w ≤ S.1 then S.2.2.2.2 i else path i) = nI a
      rw [if_neg g]
      exact hp i hi
theorem sp_fo_first {f : Nat → PS → PS} (P R : PS → Prop) (hRP : ∀ S, R S → P S) : ∀ n S, P S → (∀ a S, a < n + 1 → P S → R (f a S)) → R (sp_fo f (n + 1) S)
  | 0, S, h, hf => hf 0 S (by omega) h
  | n + 1, S, h, hf => hf (n + 1) _ (by omega) (hRP _ (sp_fo_first P R hRP n S h (fun a S ha => hf a S (by omega))))
theorem sp_try_first {wt m c : Nat} : ∀ (n dp : Nat) (v : am_U) (path : Nat → Int32) (w told : Nat) (S : PS), OKu v → v 6 = c → v 0 + n ≤ v 1 → dp + n = m → w + 36 * n < 2 ^ 31 → (∀ i, i < dp → ∃ a, a ≤ c ∧ path i = nI a) → (S.1 = -1 ∨ PSfirst m c S) → (sp_try wt n dp v path w told S).1 ≠ -1 ∧ PSfirst m c (sp_try wt n dp v path w told S)
  | 0, dp, v, path, w, told, S, hO, hc, hd, hm, hw, hp, hS => sp_we_first (by omega) (fun i hi => hp i (by omega)) hS
  | n + 1, dp, v, path, w, told, S, hO, hc, hd, hm, hw, hp, hS => by
    refine sp_fo_first (fun S => S.1 = -1 ∨ PSfirst m c S) (fun S => S.1 ≠ -1 ∧ PSfirst m c S) (fun S h => Or.inr h.2) _ S hS (fun a S ha hS => ?_)
    have ha' : a ≤ v 6 := by omega
    obtain ⟨e0, e1, e6, e2⟩ := sp_goU_0 hO ha'
    have hl := sp_goW_le hO ha'
    refine sp_try_first n (dp + 1) _ _ _ _ S (sp_goU_ok hO ha' (by omega)) (by omega) (by omega) (by omega) (by omega) (fun i hi => ?_) hS
    unfold sp_pth
    split
    · exact ⟨a, by omega, rfl⟩
    · exact hp i (by omega)
/-! the planner of the class -/
def PlR (I : am_I) (m wt : Nat) (S : PS) : Prop := I 43 3 = nI wt ∧ I 43 4 = nI m ∧ I 43 5 = S.1 ∧ I 43 6 = S.2.1 ∧ I 43 8 = (if S.2.2.1 = 5 then -1 else nI S.2.2.1) ∧ I 43 9 = nI S.2.2.2.1 ∧ ∀ i, i < m → I 46 i = S.2.2.2.2 i
theorem PlR.kept {I I' : am_I} {m wt : Nat} {S : PS} (h : PlR I m wt S) (h1 : I' 43 = I 43) (h2 : I' 46 = I 46) : PlR I' m wt S := by
  unfold PlR
  rw [h1, h2]
  exact h
/-- cells that the plans of a level change -/
def PlF (I I' : am_I) (dp : Nat) : Prop := (∀ o, o ≠ 18 → o ≠ 43 → o ≠ 45 → o ≠ 46 → o ≤ 47 + dp ∨ 51 < o → I' o = I o) ∧ ∀ i, i < dp → I' 45 i = I 45 i
theorem PlF.refl (I : am_I) (dp : Nat) : PlF I I dp := ⟨fun _ _ _ _ _ _ => rfl, fun _ _ => rfl⟩
theorem PlF.trans {I I' I'' : am_I} {dp : Nat} (h : PlF I I' dp) (g : PlF I' I'' dp) : PlF I I'' dp := ⟨fun o a b c e f => by rw [g.1 o a b c e f, h.1 o a b c e f], fun i hi => by rw [g.2 i hi, h.2 i hi]⟩
theorem PlF.up {I I' : am_I} {dp : Nat} (h : PlF I I' (dp + 1)) : PlF I I' dp := ⟨fun o a b c e f => h.1 o a b c e (by omega), fun i hi => h.2 i (by omega)⟩
theorem am_R44 : ∀ j, j < 5 → am_R 44 j = some (47 + j) := by decide +kernel
theorem am_lv : ∀ j, j < 5 → 47 + j ∈ am_cl := by decide
theorem PlR.put5 {I : am_I} {m wt : Nat} {a b : Int32} {f e : Nat} {g : Nat → Int32} (h : PlR I m wt (a, b, f, e, g)) (a' : Int32) : PlR (am_put I 43 5 a') m wt (a', b, f, e, g) := by
  obtain ⟨h3, h4, h5, h6, h8, h9, hf⟩ := h
  refine ⟨?_, ?_, ?_, ?_, ?_, ?_, fun i hi => ?_⟩
  · rw [put_nk (by decide)]; exact h3
  · rw [put_nk (by decide)]; exact h4
  · rw [put_at]
  · rw [put_nk (by decide)]; exact h6
  · rw [put_nk (by decide)]; exact h8
  · rw [put_nk (by decide)]; exact h9
  · rw [am_put_o (by decide)]; exact hf i hi
theorem PlR.put6 {I : am_I} {m wt : Nat} {a b : Int32} {f e : Nat} {g : Nat → Int32} (h : PlR I m wt (a, b, f, e, g)) (b' : Int32) : PlR (am_put I 43 6 b') m wt (a, b', f, e, g) := by
  obtain ⟨h3, h4, h5, h6, h8, h9, hf⟩ := h
  refine ⟨?_, ?_, ?_, ?_, ?_, ?_, fun i hi => ?_⟩
  · rw [put_nk (by decide)]; exact h3
  · rw [put_nk (by decide)]; exact h4
  · rw [put_nk (by decide)]; exact h5
  · rw [put_at]
  · rw [put_nk (by decide)]; exact h8
  · rw [put_nk (by decide)]; exact h9
  · rw [am_put_o (by decide)]; exact hf i hi
theorem PlR.put8 {I : am_I} {m wt : Nat} {a b : Int32} {f e : Nat} {g : Nat → Int32} (h : PlR I m wt (a, b, f, e, g)) (f' : Nat) : PlR (am_put I 43 8 (if f' = 5 then -1 else nI f')) m wt (a, b, f', e, g) := by
  obtain ⟨h3, h4, h5, h6, h8, h9, hf⟩ := h
  refine ⟨?_, ?_, ?_, ?_, ?_, ?_, fun i hi => ?_⟩
  · rw [put_nk (by decide)]; exact h3
  · rw [put_nk (by decide)]; exact h4
  · rw [put_nk (by decide)]; exact h5
  · rw [put_nk (by decide)]; exact h6
  · rw [put_at]
  · rw [put_nk (by decide)]; exact h9
  · rw [am_put_o (by decide)]; exact hf i hi
theorem PlR.put9 {I : am_I} {m wt : Nat} {a b : Int32} {f e : Nat} {g : Nat → Int32} (h : PlR I m wt (a, b, f, e, g)) (e' : Nat) : PlR (am_put I 43 9 (nI e')) m wt (a, b, f, e', g) := by
  obtain ⟨h3, h4, h5, h6, h8, h9, hf⟩ := h
  refine ⟨?_, ?_, ?_, ?_, ?_, ?_, fun i hi => ?_⟩
  · rw [put_nk (by decide)]; exact h3
  · rw [put_nk (by decide)]; exact h4
  · rw [put_nk (by decide)]; exact h5
  · rw [put_nk (by decide)]; exact h6
  · rw [put_nk (by decide)]; exact h8
  · rw [put_at]
  · rw [am_put_o (by decide)]; exact hf i hi
section
variable {L : Nat} {xs : Nat → Int32} {J : am_J} {d : Nat} {Q : am_Q}
theorem x_weigh_tail (hJ : am_Cl am_meth L xs J) {I : am_I} {m wt c told F f e : Nat} {a b : Int32} {g : Nat → Int32} (hc : c ∈ am_cl) (hne : c ≠ 43) (hF : F < 64) (h5 : I c 5 = nI F) (hP : PlR I m wt (a, b, f, e, g)) (hf : f ≤ 5) (he : e < 64) (ht : told ≤ 4) (h : ∀ I' : am_I, (∀ o, o ≠ 43 → I' o = I o) → PlR I' m wt (a, b, if sp_fe wt F = true ∧ told < f then told else f, e ||| F, g) → Q none I') {z3 z4 : Option Value} : J (d + 1) q_Planner_weighPlan 68 [some (.ref 43), some (.ref c), some (.int (nI told)), z3, z4] [] I Q := by
  have hcl := hc
  obtain ⟨p3, p4, p5, p6, p8, p9, pf⟩ := id hP
  have eo : I 43 9 ||| I c 5 = nI (e ||| F) := by rw [p9, h5]; exact (or64 e he F hF).1
  have P1 := hP.put9 (e ||| F)
  have c5 : ∀ y, am_put I 43 9 y c 5 = nI F := fun y => by rw [am_put_o hne]; exact h5
  have p31 : am_put I 43 9 (nI (e ||| F)) 43 3 = nI wt := P1.1
  have p81 : am_put I 43 9 (nI (e ||| F)) 43 8 = (if f = 5 then -1 else nI f) := P1.2.2.2.2.1
  have f1 : ∀ o, o ≠ 43 → am_put I 43 9 (nI (e ||| F)) o = I o := fun o ho => am_put_o ho
  have fin1 : (sp_fe wt F = true ∧ told < f) → Q none (am_put (am_put I 43 9 (nI (e ||| F))) 43 8 (nI told)) := by
    intro hy
    have P2 := P1.put8 told
    rw [if_neg (by omega)] at P2
    rw [if_pos hy] at h
    exact h _ (fun o ho => by rw [am_put_o ho, am_put_o ho]) P2
  have fin0 : ¬ (sp_fe wt F = true ∧ told < f) → Q none (am_put I 43 9 (nI (e ||| F))) := by
    intro hy
    rw [if_neg hy] at h
    exact h _ f1 P1
  refine am_vc hJ 60 _ _ _ _ _ _ _ ?_
  conv => whnf
  rw [am_clG c hc]
  conv => whnf
  dsimp only
  rw [eo, am_clG c hcl]
  conv => whnf
  dsimp only
  rw [c5, p31]
  refine ⟨fun g1 => ?_, fun g1 => ?_⟩
  · have e1 : sp_fe wt F = true := decide_eq_true g1
    refine br_f (by decide) ?_
    by_cases gf : f = 5
    · rw [if_pos gf] at p81
      refine br_t (by show am_put I 43 9 (nI (e ||| F)) 43 8 < 0; rw [p81]; decide) ?_
      exact fin1 ⟨e1, by omega⟩
    · rw [if_neg gf] at p81
      refine br_f (by show ¬ am_put I 43 9 (nI (e ||| F)) 43 8 < 0; rw [p81]; exact nI_pos (by omega)) ?_
      refine ⟨fun g2 => ?_, fun g2 => ?_⟩
      · have g2 : am_put I 43 9 (nI (e ||| F)) 43 8 ≤ nI told := g2
        rw [p81, nI_leI (by omega) (by omega)] at g2
        exact fin0 (fun z => by omega)
      · have g2 : ¬ am_put I 43 9 (nI (e ||| F)) 43 8 ≤ nI told := g2
        rw [p81, nI_leI (by omega) (by omega)] at g2
        exact fin1 ⟨e1, by omega⟩
  · have e1 : sp_fe wt F = false := decide_eq_false g1
    refine br_t (by decide) ?_
    exact fin0 (fun z => by rw [e1] at z; cases z.1)
theorem x_weighPlan (hJ : am_Cl am_meth L xs J) {I : am_I} {m wt c w told u2 F v2 : Nat} {path : Nat → Int32} {S : PS} (hc : c ∈ am_cl) (hne : c ≠ 43 ∧ c ≠ 46) (hF : F < 64) (h5 : I c 5 = nI F) (h3 : I c 3 = nI v2) (hP : PlR I m wt S) (hS : PSok S) (hm : m ≤ 4) (ht : told ≤ 4) (h47 : I 47 3 = nI u2) (hv2 : v2 = u2 + w) (hpath : ∀ i, i < m → I 45 i = path i) (h : ∀ I' : am_I, (∀ o, o ≠ 43 → o ≠ 46 → I' o = I o) → PlR I' m wt (sp_we wt path w told F S) → Q none I') {z1 z2 : Option Value} : J (d + 1) q_Planner_weighPlan 0 [some (.ref 43), some (.ref c), some (.int (nI told)), z1, z2] [] I Q := by
  obtain ⟨a, b, f, e, g⟩ := S
  obtain ⟨hf, he⟩ := hS
  have hf : f ≤ 5 := hf
  have he : e < 64 := he
  obtain ⟨p3, p4, p5, p6, p8, p9, pf⟩ := id hP
  have p5 : I 43 5 = a := p5
  have hcl := hc
  have ew : I c 3 - I 47 3 = nI w := by
    rw [h3, h47, hv2, pk_sub (by omega)]
    congr 1
    omega
  have cnt : ∀ (I1 : am_I) (a1 b1 : Int32) (g1 : Nat → Int32), (∀ o, o ≠ 43 → o ≠ 46 → I1 o = I o) → PlR I1 m wt (a1, b1, f, e, g1) → sp_we wt path w told F (a, b, f, e, g) = (a1, b1 + (if nI w = a1 then 1 else 0), if sp_fe wt F = true ∧ told < f then told else f, e ||| F, g1) → ∀ z2 : Option Value, J (d + 1) q_Planner_weighPlan 50 [some (.ref 43), some (.ref c), some (.int (nI told)), some (.int (nI w)), z2] [] I1 Q := by
    intro I1 a1 b1 g1 f1 P1 eE z2
    rw [eE] at h
    have q5 : I1 43 5 = a1 := P1.2.2.1
    have q6 : I1 43 6 = b1 := P1.2.2.2.1
    have c5 : I1 c 5 = nI F := by rw [f1 c hne.1 hne.2]; exact h5
    refine am_vcc hJ [68] 200 _ _ _ _ _ _ _ ?_
    refine ⟨fun z => ?_, fun z => ?_⟩
    · have z : nI w = I1 43 5 := z
      rw [q5] at z
      rw [if_pos z] at h
      have P2 := P1.put6 (b1 + 1)
      conv => whnf
      show J (d + 1) q_Planner_weighPlan 68 _ [] (am_put I1 43 6 (I1 43 6 + 1)) Q
      rw [q6]
      exact x_weigh_tail hJ hc hne.1 hF (by rw [am_put_o hne.1]; exact c5) P2 hf he ht (fun I' w1 w2 => h I' (fun o o1 o2 => by rw [w1 o o1, am_put_o o1]; exact f1 o o1 o2) w2)
    · have z : ¬ nI w = I1 43 5 := z
      rw [q5] at z
      rw [if_neg z, Int32.add_zero] at h
      exact x_weigh_tail hJ hc hne.1 hF c5 P1 hf he ht (fun I' w1 w2 => h I' (fun o o1 o2 => by rw [w1 o o1]; exact f1 o o1 o2) w2)
  refine am_vcc hJ [50] 200 _ _ _ _ _ _ _ ?_
  conv => whnf
  rw [am_clG c hc]
  refine ⟨am_vin (by decide), ?_⟩
  conv => whnf
  dsimp only
  rw [ew, p5]
  refine ⟨fun z => ?_, fun z => ?_⟩
  · refine cnt I a b g (fun _ _ _ => rfl) hP ?_ _
    unfold sp_we
    simp only [if_pos z]
  · have hcp : ∀ y, am_put (am_put I 43 5 y) 43 6 0 43 4 = nI m := fun y => by rw [put_nk (by decide), put_nk (by decide)]; exact p4
    conv => whnf
    rw [hcp]
    refine ⟨⟨by decide, by decide, nI_pos' (by omega), ?_, ?_⟩, ?_⟩
    · show 0 + (nI m).toNatClampNeg ≤ 4
      rw [nI_clamp (by omega)]
      omega
    · show 0 + (nI m).toNatClampNeg ≤ 4
      rw [nI_clamp (by omega)]
      omega
    · conv => whnf
      show J (d + 1) q_Planner_weighPlan 50 _ [] (am_cpy (am_put (am_put I 43 5 (nI w)) 43 6 0) 45 0 46 0 (nI m).toNatClampNeg) Q
      rw [nI_clamp (by omega)]
      have P1 := (hP.put5 (nI w)).put6 0
      refine cnt _ (nI w) 0 path (fun o o1 o2 => by rw [cpy_ne o2, am_put_o o1, am_put_o o1]) ?_ ?_ _
      · obtain ⟨q3, q4, q5, q6, q8, q9, qf⟩ := P1
        refine ⟨?_, ?_, ?_, ?_, ?_, ?_, fun i hi => ?_⟩
        · rw [cpy_ne (by decide)]; exact q3
        · rw [cpy_ne (by decide)]; exact q4
        · rw [cpy_ne (by decide)]; exact q5
        · rw [cpy_ne (by decide)]; exact q6
        · rw [cpy_ne (by decide)]; exact q8
        · rw [cpy_ne (by decide)]; exact q9
        · unfold am_cpy
          rw [if_pos ⟨rfl, by omega, by omega⟩, am_put_o (by decide), am_put_o (by decide), show 0 + (i - 0) = i by omega]
          exact hpath i hi
      · unfold sp_we
        simp only [if_neg z]
end
