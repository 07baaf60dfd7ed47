/-! TALES, LIAR -/
def st_fit (u : am_U) (b s : Nat) : Prop := ∀ r, r < u 8 → r = b ∨ st_so u s r
noncomputable def st_cnt (P : Nat → Prop) : Nat → Nat
  | 0 => 0
  | k + 1 => st_cnt P k + @ite Nat (P k) (Classical.propDecidable _) 1 0
noncomputable def st_f (P : Nat → Prop) : Nat → Nat
  | 0 => 0
  | k + 1 => @ite Nat (st_cnt P k = 0 ∧ P k) (Classical.propDecidable _) k (st_f P k)
theorem st_cnt_y {P : Nat → Prop} {k : Nat} (h : P k) : st_cnt P (k + 1) = st_cnt P k + 1 := by
  show st_cnt P k + @ite Nat (P k) (Classical.propDecidable _) 1 0 = _
  rw [if_pos h]
theorem st_cnt_n {P : Nat → Prop} {k : Nat} (h : ¬ P k) : st_cnt P (k + 1) = st_cnt P k := by
  show st_cnt P k + @ite Nat (P k) (Classical.propDecidable _) 1 0 = _
  rw [if_neg h]
  rfl
theorem st_f_y {P : Nat → Prop} {k : Nat} (h : st_cnt P k = 0 ∧ P k) : st_f P (k + 1) = k := by
  show @ite Nat (st_cnt P k = 0 ∧ P k) (Classical.propDecidable _) k (st_f P k) = _
  rw [if_pos h]
theorem st_f_n {P : Nat → Prop} {k : Nat} (h : ¬ (st_cnt P k = 0 ∧ P k)) : st_f P (k + 1) = st_f P k := by
  show @ite Nat (st_cnt P k = 0 ∧ P k) (Classical.propDecidable _) k (st_f P k) = _
  rw [if_neg h]
theorem st_cnt_le {P : Nat → Prop} : ∀ k, st_cnt P k ≤ k
  | 0 => Nat.le_refl _
  | k + 1 => by
    have := st_cnt_le (P := P) k
    by_cases h : P k
    · rw [st_cnt_y h]; omega
    · rw [st_cnt_n h]; omega
theorem st_cnt_pos {P : Nat → Prop} : ∀ k, 0 < st_cnt P k ↔ ∃ s, s < k ∧ P s
  | 0 => ⟨fun h => absurd h (Nat.lt_irrefl _), fun ⟨s, h, _⟩ => by omega⟩
  | k + 1 => by
    have ih := st_cnt_pos (P := P) k
    by_cases h : P k
    · rw [st_cnt_y h]
      exact ⟨fun _ => ⟨k, by omega, h⟩, fun _ => by omega⟩
    · rw [st_cnt_n h, ih]
      constructor
      · rintro ⟨s, a, b⟩
        exact ⟨s, by omega, b⟩
      · rintro ⟨s, a, b⟩
        by_cases q : s = k
        · subst q; exact absurd b h
        · exact ⟨s, by omega, b⟩
theorem st_f_lt {P : Nat → Prop} : ∀ k, 0 < st_cnt P k → st_f P k < k
  | 0, h => absurd h (Nat.lt_irrefl _)
  | k + 1, h => by
    by_cases g : st_cnt P k = 0 ∧ P k
    · rw [st_f_y g]; omega
    · rw [st_f_n g]
      by_cases q : P k
      · have := st_f_lt k (Nat.pos_of_ne_zero (fun z => g ⟨z, q⟩))
        omega
      · rw [st_cnt_n q] at h
        have := st_f_lt k h
        omega
theorem tb_zero {A n : Nat} {P : Nat → Prop} (h : ∀ r, A.testBit r = true ↔ r < n ∧ ¬ P r) : A = 0 ↔ ∀ r, r < n → P r := by
  constructor
  · intro z r hr
    refine Classical.byContradiction (fun y => ?_)
    have := (h r).mpr ⟨hr, y⟩
    rw [z, Nat.zero_testBit] at this
    cases this
  · intro z
    refine Nat.eq_of_testBit_eq (fun r => ?_)
    rw [Nat.zero_testBit]
    cases e : A.testBit r with
    | false => rfl
    | true =>
      obtain ⟨a, b⟩ := (h r).mp e
      exact absurd (z r a) b
section
variable {L : Nat} {xs : Nat → Int32} {J : am_J} {d : Nat} {Q : am_Q}
theorem x_tales_loop (hJ : am_Cl am_meth L xs J) {I : am_I} {u : am_U} {z1 : Option Value} (hR : Rel (TR 8) I u) (hO : OKu u) (h : ∀ (fv : Int32) (z4 : Option Value), (0 < st_cnt (st_fit u 99) 500 → fv = nI (st_f (st_fit u 99) 500)) → J (d + 4) q_X_tales 55 [some (.ref 0), z1, some (.int (nI (st_cnt (st_fit u 99) 500))), some (.int fv), z4] [] I Q) : ∀ (n s : Nat) (fv : Int32), s + n = 500 → (0 < st_cnt (st_fit u 99) s → fv = nI (st_f (st_fit u 99) s)) → J (d + 4) q_X_tales 19 [some (.ref 0), z1, some (.int (nI (st_cnt (st_fit u 99) s))), some (.int fv), some (.int (nI s))] [] I Q
  | 0, s, fv, hn, hf => by
    have es : s = 500 := by omega
    subst es
    refine am_vcl hJ [19, 55] 200 ?_
    refine br_t (by decide) ?_
    exact h fv _ hf
  | n + 1, s, fv, hn, hf => by
    have c := hO.Cn
    have hcl := st_cnt_le (P := st_fit u 99) s
    have ih := fun fv hf => x_tales_loop (z1 := z1) hJ hR hO h n (s + 1) fv (by omega) hf
    refine am_vcl hJ [19, 55] 200 ?_
    refine br_f (by show ¬ nI 500 ≤ nI s; exact nI_ge (by omega) (by omega)) ?_
    refine x_reportsAgainst hJ hR hO (by omega) (fun A hA hAb => ?_)
    have hz := tb_zero hAb
    have hfit : A = 0 ↔ st_fit u 99 s := by
      rw [hz]
      exact ⟨fun z r hr => Or.inr (z r hr), fun z r hr => (z r hr).resolve_left (by omega)⟩
    by_cases g : A = 0
    · have hP := hfit.mp g
      refine br_t (by show nI A = 0; rw [g]; rfl) ?_
      by_cases g2 : st_cnt (st_fit u 99) s = 0
      · refine br_t (by show nI (st_cnt (st_fit u 99) s) = 0; rw [g2]; rfl) ?_
        have k9 := ih (nI s) (fun _ => by rw [st_f_y ⟨g2, hP⟩])
        rw [st_cnt_y hP, ← nI_1, ← nI_1] at k9
        exact k9
      · refine br_f (by show ¬ nI (st_cnt (st_fit u 99) s) = 0; exact nI_ne0 (by omega) (by omega)) ?_
        have k9 := ih fv (fun _ => by rw [st_f_n (fun z => g2 z.1)]; exact hf (by omega))
        rw [st_cnt_y hP, ← nI_1, ← nI_1] at k9
        exact k9
    · have hP : ¬ st_fit u 99 s := fun z => g (hfit.mpr z)
      refine br_f (by show ¬ nI A = 0; exact nI_ne0 (by omega) (by omega)) ?_
      have k9 := ih fv (fun z => by
        rw [st_cnt_n hP] at z
        rw [st_f_n (fun y => hP y.2)]
        exact hf z)
      rw [st_cnt_n hP, ← nI_1] at k9
      exact k9
theorem m_fit_inner (hJ : am_Cl am_meth L xs J) {I : am_I} {u : am_U} {s b cn : Nat} {bI : Int32} (hM : MRep I 67 u) (hO : OKu u) (hb : ∀ r, r < 6 → (nI r = bI ↔ r = b)) (hT : ∀ i, i < 16 → I 78 i = nI (st_lf u (s / 100 + 1) (s / 10 % 10) (s % 10) i) ∧ I 79 i = nI (st_sn u (s % 10) i)) (h1 : st_fit u b s → ∀ z5, J (d + 2) q_M_fitting 88 [some (.ref 66), some (.int bI), some (.int (nI cn)), some (.int (nI s)), some (.int 1), z5] [] I Q) (h0 : ¬ st_fit u b s → ∀ z5, J (d + 2) q_M_fitting 88 [some (.ref 66), some (.int bI), some (.int (nI cn)), some (.int (nI s)), some (.int 0), z5] [] I Q) : ∀ (n r : Nat) (v : Int32), r + n = u 8 → ((v = 1 ∧ ∀ i, i < r → i = b ∨ st_so u s i) ∨ (v = 0 ∧ ¬ st_fit u b s)) → J (d + 2) q_M_fitting 43 [some (.ref 66), some (.int bI), some (.int (nI cn)), some (.int (nI s)), some (.int v), some (.int (nI r))] [] I Q
  | 0, r, v, hn, hv => by
    have c := hO.Cn
    have x8 : I 67 8 = nI (u 8) := hM 8 (by decide)
    refine am_vcl hJ [43, 88] 200 ?_
    refine ⟨am_vin (by decide), ?_⟩
    refine br_t (by show I 67 8 ≤ nI r; rw [x8]; exact nI_le (by omega) (by omega)) ?_
    rcases hv with ⟨rfl, a⟩ | ⟨rfl, a⟩
    · exact h1 (fun i hi => a i (by omega)) _
    · exact h0 a _
  | n + 1, r, v, hn, hv => by
    have c := hO.Cn
    have x8 : I 67 8 = nI (u 8) := hM 8 (by decide)
    have ih := fun v hv => m_fit_inner (cn := cn) (bI := bI) hJ hM hO hb hT h1 h0 n (r + 1) v (by omega) hv
    refine am_vcl hJ [43, 88] 200 ?_
    refine ⟨am_vin (by decide), ?_⟩
    refine br_f (by show ¬ I 67 8 ≤ nI r; rw [x8]; exact nI_ge (by omega) (by omega)) ?_
    rcases hv with ⟨rfl, a⟩ | ⟨rfl, a⟩
    · refine br_f (by decide) ?_
      by_cases g : r = b
      · refine br_t ((hb r (by omega)).mpr g) ?_
        have k9 := ih 1 (Or.inl ⟨rfl, fun i hi => by
          by_cases q : i = r
          · exact Or.inl (q.trans g)
          · exact a i (by omega)⟩)
        rw [← nI_1] at k9
        exact k9
      · refine br_f (fun z => g ((hb r (by omega)).mp z)) ?_
        refine m_isSo hJ hM hO (by omega) hT (fun z => ?_) (fun z => ?_)
        · refine br_f (by decide) ?_
          have k9 := ih 1 (Or.inl ⟨rfl, fun i hi => by
            by_cases q : i = r
            · rw [q]; exact Or.inr z
            · exact a i (by omega)⟩)
          rw [← nI_1] at k9
          exact k9
        · refine br_t (by decide) ?_
          have k9 := ih 0 (Or.inr ⟨rfl, fun y => (y r (by omega)).elim (fun y => g y) (fun y => z y)⟩)
          rw [← nI_1] at k9
          exact k9
    · refine br_t (by decide) ?_
      exact h0 a _
def FtF (I I' : am_I) : Prop := (∀ o, o ≠ 66 → o ≠ 78 → o ≠ 79 → I' o = I o) ∧ ∀ j, j ≠ 27 → I' 66 j = I 66 j
theorem FtF.refl (I : am_I) : FtF I I := ⟨fun _ _ _ _ => rfl, fun _ _ => rfl⟩
theorem FtF.trans {I I' I'' : am_I} (h : FtF I I') (g : FtF I' I'') : FtF I I'' := ⟨fun o a b c => by rw [g.1 o a b c, h.1 o a b c], fun j a => by rw [g.2 j a, h.2 j a]⟩
theorem m_fit_loop (hJ : am_Cl am_meth L xs J) {I0 : am_I} {u : am_U} {b : Nat} {bI : Int32} (hM0 : MRep I0 67 u) (hO : OKu u) (hb : ∀ r, r < 6 → (nI r = bI ↔ r = b)) (h : ∀ I : am_I, FtF I0 I → (0 < st_cnt (st_fit u b) 500 → I 66 27 = nI (st_f (st_fit u b) 500)) → Q (some (.int (nI (st_cnt (st_fit u b) 500)))) I) : ∀ (n s : Nat) (I : am_I) (z4 z5 : Option Value), s + n = 500 → FtF I0 I → (st_cnt (st_fit u b) s = 0 → I 66 27 = -1) → (0 < st_cnt (st_fit u b) s → I 66 27 = nI (st_f (st_fit u b) s)) → J (d + 3) q_M_fitting 9 [some (.ref 66), some (.int bI), some (.int (nI (st_cnt (st_fit u b) s))), some (.int (nI s)), z4, z5] [] I Q
  | 0, s, I, z4, z5, hn, hF, hf0, hf => by
    have es : s = 500 := by omega
    subst es
    refine am_vcl hJ [9] 200 ?_
    refine br_t (by decide) ?_
    exact h I hF hf
  | n + 1, s, I, z4, z5, hn, hF, hf0, hf => by
    have hcl := st_cnt_le (P := st_fit u b) s
    have ih := fun I z4 z5 hF h0 h1 => m_fit_loop hJ hM0 hO hb h n (s + 1) I z4 z5 (by omega) hF h0 h1
    have M1 : MRep I 67 u := hM0.kept (hF.1 67 (by decide) (by decide) (by decide))
    have e1 : 1 + nI s / 100 = nI (s / 100 + 1) := by
      rw [show (100 : Int32) = nI 100 from rfl, pk_div (by omega) (by decide) (by decide), show (1 : Int32) = nI 1 from rfl, nI_add, Nat.add_comm]
    have e2 : nI s / 10 - nI s / 10 / 10 * 10 = nI (s / 10 % 10) := by
      rw [show (10 : Int32) = nI 10 from rfl, pk_div (by omega) (by decide) (by decide), pk_rem (by omega) (by decide) (by decide)]
    have e3 : nI s - nI s / 10 * 10 = nI (s % 10) := by
      rw [show (10 : Int32) = nI 10 from rfl, pk_rem (by omega) (by decide) (by decide)]
    have tl : ∀ Q' : am_Q, (∀ I' : am_I, (∀ o, o ≠ 78 → o ≠ 79 → I' o = I o) → (∀ i, i < 16 → I' 78 i = nI (st_lf u (s / 100 + 1) (s / 10 % 10) (s % 10) i) ∧ I' 79 i = nI (st_sn u (s % 10) i)) → Q' none I') → J (d + 2) q_M_tellsStranger 0 [some (.ref 66), some (.int (1 + nI s / 100)), some (.int (nI s / 10 - nI s / 10 / 10 * 10)), some (.int (nI s - nI s / 10 * 10)), none, none, none, none, none] [] I Q' := by
      intro Q' hQ'
      rw [e1, e2, e3]
      exact m_tells hJ M1 hO (by omega) hQ'
    refine am_vcl hJ [9, 43, 88] 200 ?_
    refine br_f (by show ¬ nI 500 ≤ nI s; exact nI_ge (by omega) (by omega)) ?_
    refine ⟨by decide, by decide, by decide, by decide, ?_⟩
    refine tl _ (fun I2 F2 T2 => ?_)
    have M2 : MRep I2 67 u := M1.kept (F2 67 (by decide) (by decide))
    have F02 : FtF I0 I2 := hF.trans ⟨fun o _ o2 o3 => F2 o o2 o3, fun j _ => by rw [F2 66 (by decide) (by decide)]⟩
    have g27 : I2 66 27 = I 66 27 := by rw [F2 66 (by decide) (by decide)]
    have nxt : ∀ (fv : Int32) (cn' : Int32) (z4 z5 : Option Value), cn' = nI (st_cnt (st_fit u b) (s + 1)) → (st_cnt (st_fit u b) (s + 1) = 0 → fv = -1) → (0 < st_cnt (st_fit u b) (s + 1) → fv = nI (st_f (st_fit u b) (s + 1))) → J (d + 3) q_M_fitting 9 [some (.ref 66), some (.int bI), some (.int cn'), some (.int (nI s + 1)), z4, z5] [] (am_put I2 66 27 fv) Q := by
      intro fv cn' z4 z5 hcn hv0 hv1
      rw [hcn, nI_1]
      exact ih _ z4 z5 (F02.trans ⟨fun o o1 _ _ => am_put_o o1, fun j hj => put_nk hj⟩) (fun z => by rw [put_at]; exact hv0 z) (fun z => by rw [put_at]; exact hv1 z)
    refine m_fit_inner (d := d + 1) (s := s) (b := b) hJ M2 hO hb T2 (fun hP z5 => ?_) (fun hP z5 => ?_) (u 8) 0 1 (Nat.zero_add _) (Or.inl ⟨rfl, fun i hi => by omega⟩)
    · refine am_vcc hJ [9] 200 _ _ _ _ _ _ _ ?_
      refine br_f (by decide) ?_
      refine br_f (by decide) ?_
      by_cases g2 : st_cnt (st_fit u b) s = 0
      · refine br_f (by show ¬ 0 ≤ I2 66 27; rw [g27, hf0 g2]; decide) ?_
        exact nxt (nI s) _ _ _ (by rw [st_cnt_y hP]; exact nI_1 _) (fun z => by rw [st_cnt_y hP] at z; omega) (fun _ => by rw [st_f_y ⟨g2, hP⟩])
      · have hfl := st_f_lt (P := st_fit u b) s (by omega)
        have e27 : I2 66 27 = nI (st_f (st_fit u b) s) := by rw [g27, hf (by omega)]
        refine br_t (by show 0 ≤ I2 66 27; rw [e27]; exact nI_pos' (by omega)) ?_
        exact nxt _ _ _ _ (by rw [st_cnt_y hP]; exact nI_1 _) (fun z => by rw [st_cnt_y hP] at z; omega) (fun _ => by rw [st_f_n (fun z => g2 z.1)]; exact e27)
    · refine am_vcc hJ [9] 200 _ _ _ _ _ _ _ ?_
      refine br_t (by decide) ?_
      refine br_t (by decide) ?_
      refine nxt _ _ _ _ (by rw [st_cnt_n hP]; exact Int32.add_zero _) (fun z => ?_) (fun z => ?_)
      · rw [st_cnt_n hP] at z
        show I2 66 27 = -1
        rw [g27]
        exact hf0 z
      · rw [st_cnt_n hP] at z
        rw [st_f_n (fun y => hP y.2)]
        show I2 66 27 = _
        rw [g27]
        exact hf z
theorem m_fitting (hJ : am_Cl am_meth L xs J) {I : am_I} {u : am_U} {b : Nat} {bI : Int32} (hM : MRep I 67 u) (hO : OKu u) (hb : ∀ r, r < 6 → (nI r = bI ↔ r = b)) (h : ∀ I' : am_I, FtF I I' → (0 < st_cnt (st_fit u b) 500 → I' 66 27 = nI (st_f (st_fit u b) 500)) → Q (some (.int (nI (st_cnt (st_fit u b) 500)))) I') {z2 z3 z4 z5 : Option Value} : J (d + 3) q_M_fitting 0 [some (.ref 66), some (.int bI), z2, z3, z4, z5] [] I Q := by
  have k9 := m_fit_loop (d := d) (I0 := I) hJ hM hO hb h 500 0 (am_put I 66 27 (-1)) z4 z5 (by decide) ⟨fun o o1 _ _ => am_put_o o1, fun j hj => put_nk hj⟩ (fun _ => put_at) (fun z => absurd z (Nat.lt_irrefl _))
  refine am_vcc hJ [9] 200 _ _ _ _ _ _ _ ?_
  exact k9
theorem am_ac_ft : ∀ o ∈ am_ac, o ≠ 78 ∧ o ≠ 79 := by decide
theorem Inv.fit {I I2 : am_I} {u uk : am_U} (hMn : Main I 8 9 67 u) (hK : KeptR I uk) (hRs : Rest I) (q : FtF I I2) : Inv I2 := by
  refine Inv.plans hMn hK hRs (fun o ho h6 h7 => q.1 o h6 (am_ac_ft o ho).1 (am_ac_ft o ho).2) (fun j hj => ?_) (hMn.1.kept (q.1 67 (by decide) (by decide) (by decide)))
  have : ∀ j ∈ [3, 6, 29, 36], j ≠ 27 := by decide
  exact q.2 j (this j hj)
theorem bt_m1 : ∀ r, r < 6 → (nI r = (-1 : Int32) ↔ r = 99) := by decide +kernel
theorem op_tales (hJ : am_Cl am_meth L xs J) (a : Int32) : am_same Inv J q_X_tales q_M_tales [.int a] := by
  intro I hI Qc hQc
  obtain ⟨u, uk, hMn, hK, hRs⟩ := id hI
  obtain ⟨hM, hR, hC, hO⟩ := id hMn
  by_cases h1 : (0 : Int32) ≤ a ∧ a ≤ 3
  · obtain ⟨w, hw, rfl⟩ := am_rng (N := 3) rfl (by decide) h1
    have hcl := st_cnt_le (P := st_fit u 99) 500
    have ref : ∀ v : Int32, (∀ fv : Int32, (0 < st_cnt (st_fit u 99) 500 → fv = nI (st_f (st_fit u 99) 500)) → v = (if w = 0 then nI (st_cnt (st_fit u 99) 500) else if st_cnt (st_fit u 99) 500 = 0 then -3 else if w = 1 then 1 + fv / 100 else if w = 2 then fv / 10 - fv / 10 / 10 * 10 else fv - fv / 10 * 10)) → J 40 q_M_tales 0 (am_ents q_M_tales [.ref 66, .int (nI w)]) [] I (fun r2 I2 => r2 = some (.int v) ∧ Qc I2) := by
      intro v hv
      refine am_vc hJ 60 _ _ _ _ _ _ _ ?_
      refine m_in1Y hJ h1 ?_
      refine br_f (by decide) ?_
      refine m_fitting hJ hM hO bt_m1 (fun I1 F1 T1 => ?_)
      have hv1 := hv _ T1
      have hInv : Inv I1 := Inv.fit hMn hK hRs F1
      by_cases g : w = 0
      · subst g
        rw [if_pos rfl] at hv1
        refine br_t (by decide) ?_
        refine br_t (by decide) ?_
        refine ⟨?_, hQc _ hInv⟩
        rw [hv1]
      · rw [if_neg g] at hv1
        refine br_f (by show ¬ nI w ≤ 0; exact nI_nle (by omega) (by omega)) ?_
        by_cases g0 : st_cnt (st_fit u 99) 500 = 0
        · rw [if_pos g0] at hv1
          refine br_t (by show nI (st_cnt (st_fit u 99) 500) = 0; rw [g0]; rfl) ?_
          refine ⟨?_, hQc _ hInv⟩
          rw [hv1]
        · rw [if_neg g0] at hv1
          refine br_f (by show ¬ nI (st_cnt (st_fit u 99) 500) = 0; exact nI_ne0 (by omega) (by omega)) ?_
          refine br_f (by show ¬ nI w = 0; exact nI_ne0 (by omega) (by omega)) ?_
          rcases (show w = 1 ∨ w = 2 ∨ w = 3 by omega) with rfl | rfl | rfl
          · refine br_t (by decide) ?_
            refine ⟨by decide, ?_⟩
            refine ⟨?_, hQc _ hInv⟩
            rw [hv1]
            rfl
          · refine br_f (by decide) ?_
            refine br_t (by decide) ?_
            refine ⟨by decide, by decide, ?_⟩
            refine ⟨?_, hQc _ hInv⟩
            rw [hv1]
            rfl
          · refine br_f (by decide) ?_
            refine br_f (by decide) ?_
            refine ⟨by decide, ?_⟩
            refine ⟨?_, hQc _ hInv⟩
            rw [hv1]
            rfl
    have e1 : ∀ s, s < 500 → 1 + nI s / 100 = nI (s / 100 + 1) := fun s hs => by
      rw [show (100 : Int32) = nI 100 from rfl, pk_div (by omega) (by decide) (by decide), show (1 : Int32) = nI 1 from rfl, nI_add, Nat.add_comm]
    have e2 : ∀ s, s < 500 → nI s / 10 - nI s / 10 / 10 * 10 = nI (s / 10 % 10) := fun s hs => by
      rw [show (10 : Int32) = nI 10 from rfl, pk_div (by omega) (by decide) (by decide), pk_rem (by omega) (by decide) (by decide)]
    have e3 : ∀ s, s < 500 → nI s - nI s / 10 * 10 = nI (s % 10) := fun s hs => by
      rw [show (10 : Int32) = nI 10 from rfl, pk_rem (by omega) (by decide) (by decide)]
    refine am_vcc hJ [19] 200 _ _ _ _ _ _ _ ?_
    refine x_withinY hJ h1 ?_
    refine br_f (by decide) ?_
    refine x_tales_loop (d := 36) hJ hR.1 hO (fun fv z4 hfv => ?_) 500 0 (-3) (by decide) (fun z => absurd z (Nat.lt_irrefl _))
    refine am_vc hJ 40 _ _ _ _ _ _ _ ?_
    by_cases g : w = 0
    · refine br_t (by show nI w = 0; rw [g]; rfl) ?_
      refine ⟨_, rfl, ?_⟩
      exact ref _ (fun fv' _ => by rw [if_pos g])
    · refine br_f (by show ¬ nI w = 0; exact nI_ne0 (by omega) (by omega)) ?_
      by_cases g0 : st_cnt (st_fit u 99) 500 = 0
      · refine br_t (by show nI (st_cnt (st_fit u 99) 500) = 0; rw [g0]; rfl) ?_
        refine ⟨_, rfl, ?_⟩
        exact ref _ (fun fv' _ => by rw [if_neg g, if_pos g0])
      · refine br_f (by show ¬ nI (st_cnt (st_fit u 99) 500) = 0; exact nI_ne0 (by omega) (by omega)) ?_
        have hfl := st_f_lt (P := st_fit u 99) 500 (by omega)
        have efv := hfv (by omega)
        subst efv
        rcases (show w = 1 ∨ w = 2 ∨ w = 3 by omega) with rfl | rfl | rfl
        · refine br_t (by decide) ?_
          refine x_kindOf hJ hfl ?_
          refine ⟨_, rfl, ?_⟩
          refine ref _ (fun fv' hf' => ?_)
          rw [if_neg (by decide), if_neg g0, if_pos rfl, hf' (by omega), e1 _ hfl]
        · refine br_f (by decide) ?_
          refine br_t (by decide) ?_
          refine x_taleOf hJ hfl ?_
          refine ⟨_, rfl, ?_⟩
          refine ref _ (fun fv' hf' => ?_)
          rw [if_neg (by decide), if_neg g0, if_neg (by decide), if_pos rfl, hf' (by omega), e2 _ hfl]
        · refine br_f (by decide) ?_
          refine br_f (by decide) ?_
          refine x_snowOf hJ hfl ?_
          refine ⟨_, rfl, ?_⟩
          refine ref _ (fun fv' hf' => ?_)
          rw [if_neg (by decide), if_neg g0, if_neg (by decide), if_neg (by decide), hf' (by omega), e3 _ hfl]
  · repeat (
      (try conv => whnf)
      first
        | refine ⟨am_vin (by decide), ?_⟩
        | refine ⟨(by assumption : vp_in _ _), ?_⟩
        | refine br_f (by decide) ?_
        | refine br_t (by decide) ?_
        | refine br_t (by assumption) ?_
        | refine br_f (by assumption) ?_
        | refine x_withinY hJ (by assumption) ?_
        | refine x_withinN hJ (by assumption) ?_
        | refine m_in1Y hJ (by assumption) ?_
        | refine m_in1N hJ (by assumption) ?_
        | refine m_isGateY hJ (by assumption) ?_
        | refine m_isGateN hJ (by assumption) ?_
        | refine m_isDigitY hJ (by assumption) ?_
        | refine m_isDigitN hJ (by assumption) ?_
        | refine m_isNeedY hJ (by assumption) ?_
        | refine m_isNeedN hJ (by assumption) ?_
        | refine m_isPlanY hJ (by assumption) ?_
        | refine m_isPlanN hJ (by assumption) ?_
        | refine m_isSheetY hJ (by assumption) ?_
        | refine m_isSheetN hJ (by assumption) ?_
        | refine x_isSheetY hJ (by assumption) ?_
        | refine x_isSheetN hJ (by assumption) ?_
        | refine x_isShelfY hJ (by assumption) ?_
        | refine x_isShelfN hJ (by assumption) ?_
        | refine x_hasY hJ (by assumption) (by assumption) (by assumption) ?_
        | refine x_hasN hJ (by assumption) (by assumption) (by assumption) ?_
        | refine m_isPersonY hJ (by assumption) (by assumption) (by assumption) ?_
        | refine m_isPersonN hJ (by assumption) (by assumption) (by assumption) ?_
        | refine am_vc hJ 120 40 _ _ _ _ _ _ ?_
        | refine ⟨_, rfl, ?_⟩)
    exact ⟨rfl, hQc _ hI⟩
/-! liar -/
theorem pc_one : ∀ A, A < 64 → (sp_pc A = 1 ↔ ∃ r, r < 6 ∧ A = 2 ^ r) := by decide +kernel
theorem tb_div : ∀ t, t < 64 → ∀ k, k < 6 → (t / 2 ^ k % 2 = 1 ↔ t.testBit k = true) := by decide +kernel
theorem x_liar_loop (hJ : am_Cl am_meth L xs J) {I : am_I} {u : am_U} (hR : Rel (TR 8) I u) (hO : OKu u) (h1 : (∃ s, s < 500 ∧ st_fit u 99 s) → Q (some (.int (-3))) I) (h2 : ∀ A, A < 64 → (¬ ∃ s, s < 500 ∧ st_fit u 99 s) → (∀ r, A.testBit r = true ↔ r < u 8 ∧ ∃ s, s < 500 ∧ st_fit u r s) → Q (some (.int (if A = 0 then -3 else nI (sp_lb A 6 0)))) I) : ∀ (n s A : Nat) (z3 : Option Value), s + n = 500 → A < 64 → (¬ ∃ i, i < s ∧ st_fit u 99 i) → (∀ r, A.testBit r = true ↔ r < u 8 ∧ ∃ i, i < s ∧ st_fit u r i) → J (d + 4) q_X_liar 4 [some (.ref 0), some (.int (nI A)), some (.int (nI s)), z3] [] I Q
  | 0, s, A, z3, hn, hA, hno, hb => by
    have es : s = 500 := by omega
    subst es
    have k9 := h2 A hA hno hb
    refine am_vcl hJ [4] 200 ?_
    refine br_t (by decide) ?_
    refine x_leastOf hJ hA ?_
    exact k9
  | n + 1, s, A, z3, hn, hA, hno, hb => by
    have c := hO.Cn
    refine am_vcl hJ [4] 200 ?_
    refine br_f (by show ¬ nI 500 ≤ nI s; exact nI_ge (by omega) (by omega)) ?_
    refine x_reportsAgainst hJ hR hO (by omega) (fun B hB hBb => ?_)
    have hz := tb_zero hBb
    by_cases g : B = 0
    · refine br_t (by show nI B = 0; rw [g]; rfl) ?_
      exact h1 ⟨s, by omega, fun r hr => Or.inr (hz.mp g r hr)⟩
    · refine br_f (by show ¬ nI B = 0; exact nI_ne0 (by omega) (by omega)) ?_
      have hns : ¬ st_fit u 99 s := fun z => g (hz.mpr (fun r hr => (z r hr).resolve_left (by omega)))
      have hno' : ¬ ∃ i, i < s + 1 ∧ st_fit u 99 i := by
        rintro ⟨i, a, b⟩
        by_cases q : i = s
        · subst q; exact hns b
        · exact hno ⟨i, by omega, b⟩
      have pcl : sp_pc B ≤ 6 := by unfold sp_pc; omega
      refine x_bitCount hJ hB ?_
      by_cases g1 : sp_pc B = 1
      · obtain ⟨r0, hr0, e0⟩ := (pc_one B hB).mp g1
        have hr0b := (hBb r0).mp (by rw [e0, Nat.testBit_two_pow]; simp)
        have only : ∀ r, r < u 8 → r ≠ r0 → st_so u s r := fun r hr hne => Classical.byContradiction (fun z => by
          have := (hBb r).mpr ⟨hr, z⟩
          rw [e0, Nat.testBit_two_pow, decide_eq_true_eq] at this
          exact hne this.symm)
        have fr : ∀ r, r < u 8 → (st_fit u r s ↔ r = r0) := fun r hr => by
          constructor
          · intro z
            refine Classical.byContradiction (fun y => ?_)
            rcases z r0 hr0b.1 with q | q
            · exact y q.symm
            · exact hr0b.2 q
          · intro z i hi
            by_cases q : i = r0
            · left; rw [q, z]
            · right; exact only i hi q
        refine br_t (by show nI (sp_pc B) = 1; rw [g1]; rfl) ?_
        have k9 := x_liar_loop hJ hR hO h1 h2 n (s + 1) (A ||| B) (some (.int (nI B))) (by omega) (or64 A hA B hB).2 hno' (fun r => by
          rw [Nat.testBit_or, Bool.or_eq_true, hb, e0, Nat.testBit_two_pow, decide_eq_true_eq]
          constructor
          · rintro (⟨a, i, b, b2⟩ | a)
            · exact ⟨a, i, by omega, b2⟩
            · rw [← a]
              exact ⟨hr0b.1, s, by omega, (fr r0 hr0b.1).mpr rfl⟩
          · rintro ⟨a, i, b, b2⟩
            by_cases q : i = s
            · subst q
              exact Or.inr ((fr r a).mp b2).symm
            · exact Or.inl ⟨a, i, by omega, b2⟩)
        rw [← (or64 A hA B hB).1, ← nI_1] at k9
        exact k9
      · refine br_f (by show ¬ nI (sp_pc B) = nI 1; rw [nI_eq (by omega) (by omega)]; exact g1) ?_
        have nf : ∀ r, r < u 8 → ¬ st_fit u r s := fun r hr z => by
          apply g1
          rw [pc_one B hB]
          refine ⟨r, by omega, tb_ext hB (tb_one (by omega)).1 (fun i => ?_)⟩
          rw [hBb, Nat.testBit_two_pow, decide_eq_true_eq]
          constructor
          · rintro ⟨a, b⟩
            exact ((z i a).resolve_right b).symm
          · intro q
            subst q
            refine ⟨hr, fun y => hns (fun i hi => ?_)⟩
            rcases z i hi with q | q
            · rw [q]; exact Or.inr y
            · exact Or.inr q
        have k9 := x_liar_loop hJ hR hO h1 h2 n (s + 1) A (some (.int (nI B))) (by omega) hA hno' (fun r => by
          rw [hb]
          constructor
          · rintro ⟨a, i, b, b2⟩
            exact ⟨a, i, by omega, b2⟩
          · rintro ⟨a, i, b, b2⟩
            by_cases q : i = s
            · subst q; exact absurd b2 (nf r a)
            · exact ⟨a, i, by omega, b2⟩)
        rw [← nI_1] at k9
        exact k9
theorem m_liar_loop (hJ : am_Cl am_meth L xs J) {I0 : am_I} {u : am_U} {A w : Nat} (hM0 : MRep I0 67 u) (hO : OKu u) (hA : A < 64) (hb : ∀ r, A.testBit r = true ↔ r < u 8 ∧ ∃ s, s < 500 ∧ st_fit u r s) (h : ∀ I : am_I, FtF I0 I → Q (some (.int (if w < u 8 then nI w else -3))) I) : ∀ (n r : Nat) (I : am_I), r + n = u 8 → w = sp_lb A n r → FtF I0 I → J (d + 4) q_M_liar 13 [some (.ref 66), some (.int (nI r))] [] I Q
  | 0, r, I, hn, hw, hF => by
    have c := hO.Cn
    have M1 : MRep I 67 u := hM0.kept (hF.1 67 (by decide) (by decide) (by decide))
    have x8 : I 67 8 = nI (u 8) := M1 8 (by decide)
    have ew : w = r := hw
    have k9 := h I hF
    rw [if_neg (by omega)] at k9
    refine am_vcl hJ [13] 200 ?_
    refine ⟨am_vin (by decide), ?_⟩
    refine br_t (by show I 67 8 ≤ nI r; rw [x8]; exact nI_le (by omega) (by omega)) ?_
    exact k9
  | n + 1, r, I, hn, hw, hF => by
    have c := hO.Cn
    have M1 : MRep I 67 u := hM0.kept (hF.1 67 (by decide) (by decide) (by decide))
    have x8 : I 67 8 = nI (u 8) := M1 8 (by decide)
    have hcl := st_cnt_le (P := st_fit u r) 500
    have hp := st_cnt_pos (P := st_fit u r) 500
    have hbr := hb r
    rw [sp_lb_succ] at hw
    refine am_vcl hJ [13] 200 ?_
    refine ⟨am_vin (by decide), ?_⟩
    refine br_f (by show ¬ I 67 8 ≤ nI r; rw [x8]; exact nI_ge (by omega) (by omega)) ?_
    refine m_fitting (b := r) hJ M1 hO (fun i hi => nI_eq (by omega) (by omega)) (fun I2 F2 _ => ?_)
    by_cases g : 0 < st_cnt (st_fit u r) 500
    · refine br_f (by show ¬ nI (st_cnt (st_fit u r) 500) ≤ 0; exact nI_nle g (by omega)) ?_
      have t : A.testBit r = true := hbr.mpr ⟨by omega, hp.mp g⟩
      rw [if_pos ((tb_div A hA r (by omega)).mpr t)] at hw
      have k9 := h I2 (hF.trans F2)
      rw [if_pos (by omega), hw] at k9
      exact k9
    · refine br_t (by show nI (st_cnt (st_fit u r) 500) ≤ 0; rw [show st_cnt (st_fit u r) 500 = 0 by omega]; decide) ?_
      have t : ¬ A.testBit r = true := fun z => g (hp.mpr (hbr.mp z).2)
      rw [if_neg (fun z => t ((tb_div A hA r (by omega)).mp z))] at hw
      have k9 := m_liar_loop hJ hM0 hO hA hb h n (r + 1) I2 (by omega) hw (hF.trans F2)
      rw [← nI_1] at k9
      exact k9
theorem op_liar (hJ : am_Cl am_meth L xs J) : am_same Inv J q_X_liar q_M_liar [] := by
  intro I hI Qc hQc
  obtain ⟨u, uk, hMn, hK, hRs⟩ := id hI
  obtain ⟨hM, hR, hC, hO⟩ := id hMn
  have cO := hO.Cn
  have hcl := st_cnt_le (P := st_fit u 99) 500
  have hp := st_cnt_pos (P := st_fit u 99) 500
  refine am_vcc hJ [4] 200 _ _ _ _ _ _ _ ?_
  refine x_liar_loop (d := 36) hJ hR.1 hO (fun hex => ?_) (fun A hA hno hb => ?_) 500 0 0 _ (by decide) (by decide) (fun ⟨i, a, _⟩ => by omega) (fun r => ⟨fun z => (by rw [Nat.zero_testBit] at z; cases z), fun ⟨_, i, a, _⟩ => by omega⟩)
  · refine ⟨_, rfl, ?_⟩
    refine am_vcc hJ [13] 200 _ _ _ _ _ _ _ ?_
    refine m_fitting hJ hM hO bt_m1 (fun I1 F1 _ => ?_)
    refine br_f (by show ¬ nI (st_cnt (st_fit u 99) 500) ≤ 0; exact nI_nle (hp.mpr hex) (by omega)) ?_
    exact ⟨rfl, hQc _ (Inv.fit hMn hK hRs F1)⟩
  · refine ⟨_, rfl, ?_⟩
    have h8 : A < 2 ^ (u 8) := tb_lt (fun j hj => ((hb j).mp hj).1)
    obtain ⟨l0, l1⟩ := lb_n (u 8) (by omega) A hA h8
    refine am_vcc hJ [13] 200 _ _ _ _ _ _ _ ?_
    refine m_fitting hJ hM hO bt_m1 (fun I1 F1 _ => ?_)
    refine br_t (by show nI (st_cnt (st_fit u 99) 500) ≤ 0; rw [show st_cnt (st_fit u 99) 500 = 0 by have : ¬ 0 < st_cnt (st_fit u 99) 500 := fun z => hno (hp.mp z); omega]; decide) ?_
    have M1 : MRep I1 67 u := hM.kept (F1.1 67 (by decide) (by decide) (by decide))
    refine m_liar_loop (d := 36) (I0 := I1) (w := sp_lb A (u 8) 0) hJ M1 hO hA hb (fun I2 F2 => ?_) (u 8) 0 I1 (Nat.zero_add _) rfl (FtF.refl _)
    refine ⟨?_, hQc _ (Inv.fit hMn hK hRs (F1.trans F2))⟩
    by_cases g : A = 0
    · rw [if_pos g, if_neg (by rw [l0 g]; omega)]
    · obtain ⟨a, b⟩ := l1 g
      rw [if_neg g, if_pos a, b]
end
