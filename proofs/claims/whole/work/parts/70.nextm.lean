/-! RULES: the reference's next token -/
def NF (I I' : am_I) : Prop := (∀ o, o ≠ 66 → I' o = I o) ∧ ∀ f, f < 8 ∨ 11 < f → I' 66 f = I 66 f
theorem NF.refl (I : am_I) : NF I I := ⟨fun _ _ => rfl, fun _ _ => rfl⟩
theorem NF.trans {I I' I'' : am_I} (h : NF I I') (g : NF I' I'') : NF I I'' := ⟨fun o a => by rw [g.1 o a, h.1 o a], fun f a => by rw [g.2 f a, h.2 f a]⟩
theorem NF.put {I : am_I} {f : Nat} {w : Int32} (h : 8 ≤ f ∧ f ≤ 11) : NF I (am_put I 66 f w) := ⟨fun o a => am_put_o a, fun g hg => put_nk (by omega)⟩
theorem NF.mf {I I' : am_I} (h : NF I I') : MF I I' := ⟨fun o a _ _ => h.1 o a, fun f hf => h.2 f (by omega)⟩
theorem in_L {b : Nat → Nat} {n k : Nat} (hb : k < n → b k < 256) : ((97 : Int32) ≤ (if k < n then nI (b k) else -1) ∧ (if k < n then nI (b k) else -1) ≤ 122) ↔ (k < n ∧ rt_L (b k) = true) := by
  by_cases g : k < n
  · rw [if_pos g, by_Ln _ (hb g)]
    exact ⟨fun z => ⟨g, z⟩, fun z => z.2⟩
  · rw [if_neg g]
    exact ⟨fun z => absurd z.1 (by decide), fun z => absurd z.1 g⟩
theorem in_D {b : Nat → Nat} {n k : Nat} (hb : k < n → b k < 256) : ((48 : Int32) ≤ (if k < n then nI (b k) else -1) ∧ (if k < n then nI (b k) else -1) ≤ 57) ↔ (k < n ∧ rt_D (b k) = true) := by
  by_cases g : k < n
  · rw [if_pos g, by_Dn _ (hb g)]
    exact ⟨fun z => ⟨g, z⟩, fun z => z.2⟩
  · rw [if_neg g]
    exact ⟨fun z => absurd z.1 (by decide), fun z => absurd z.1 g⟩
section
variable {L : Nat} {xs : Nat → Int32} {J : am_J} {b : Nat → Nat} {n d : Nat} {Q : am_Q}
theorem m_nm_run (hJ : am_Cl am_meth L xs J) {I0 : am_I} {R : Nat} {z1 : Option Value} (hT0 : Tm I0 b n) (h : ∀ I, NF I0 I → I 66 8 = nI R → (∀ f, f ≠ 8 → I 66 f = I0 66 f) → J (d + 2) q_M_readsName 31 [some (.ref 66), z1] [] I Q) : ∀ (f j : Nat) (I : am_I), j + f = n → R = rt_rn (fun j => rt_L (b j)) f j → NF I0 I → I 66 8 = nI j → (∀ f, f ≠ 8 → I 66 f = I0 66 f) → J (d + 2) q_M_readsName 0 [some (.ref 66), z1] [] I Q
  | f, j, I, hn, hR, hF, h8, hf => by
    have hT := hT0.mf hF.mf
    have h200 := hT.1
    have hb : j < n → b j < 256 := fun z => (hT.2.2.1 j z).1
    refine am_vcl hJ [0, 31] 200 ?_
    conv => whnf
    rw [h8]
    refine m_byteAt hJ hT (by omega) ?_
    refine m_in1 hJ (fun g => ?_) (fun g => ?_)
    · obtain ⟨g1, g2⟩ := (in_L hb).mp g
      cases f with
      | zero => omega
      | succ f =>
        refine br_f (by decide) ?_
        refine m_nm_run hJ hT0 h f (j + 1) (am_put I 66 8 (I 66 8 + 1)) (by omega) (hR.trans (rt_rn_y (P := fun j => rt_L (b j)) g2)) (hF.trans (NF.put (by decide))) (by rw [put_at, h8, nI_1]) (fun f hf2 => by rw [put_nk hf2]; exact hf f hf2)
    · have g : ¬ (j < n ∧ rt_L (b j) = true) := fun z => g ((in_L hb).mpr z)
      have e : R = j := by
        cases f with
        | zero => exact hR
        | succ f => exact hR.trans (rt_rn_n (P := fun j => rt_L (b j)) (fun z => g ⟨by omega, z⟩))
      refine br_t (by decide) ?_
      exact h I hF (by rw [h8, e]) hf
theorem m_nm_loop (hJ : am_Cl am_meth L xs J) {I0 : am_I} {p e : Nat} (hT0 : Tm I0 b n) (hp : p ≤ e) (he : e ≤ n) (hL : ∀ k, p ≤ k → k < e → b k < 256 ∧ rt_L (b k) = true) (h8 : I0 66 8 = nI e) (h9 : I0 66 9 = nI p) (h : ∀ I, NF I0 I → I 66 8 = nI e → I 66 9 = nI p → I 66 10 = rt_m (rt_wd b p e 18 0) → Q none I) : ∀ (f w : Nat) (I : am_I), w + f = 18 → NF I0 I → I 66 8 = nI e → I 66 9 = nI p → ((∃ v, v < w ∧ rt_mt b (rt_pm v) p e ∧ I 66 10 = nI v) ∨ ((∀ v, v < w → ¬ rt_mt b (rt_pm v) p e) ∧ I 66 10 = 101)) → J (d + 2) q_M_readsName 39 [some (.ref 66), some (.int (nI w))] [] I Q
  | 0, w, I, hn, hF, g8, g9, hv => by
    refine am_vcl hJ [39] 200 ?_
    refine br_t (by show nI 18 ≤ nI w; exact nI_le (by omega) (by omega)) ?_
    refine h I hF g8 g9 ?_
    rcases rt_wd_c (b := b) (p := p) (e := e) 18 0 with ⟨a, c⟩ | ⟨v, -, a, c, e2⟩
    · rw [a]
      rcases hv with ⟨v, v1, v2, v3⟩ | ⟨v1, v2⟩
      · exact absurd v2 (c _ (Nat.zero_le _) (by have := (rt_pm_lt v (by omega)).1; omega))
      · rw [v2]
        rfl
    · rw [e2]
      have a : v < 18 := by omega
      have em : rt_m (10000 + v) = nI (rt_pm v) := by
        unfold rt_m
        rw [if_neg (by omega), if_pos (by omega), show 10000 + v - 10000 = v by omega]
      rw [em]
      rcases hv with ⟨y, v1, v2, v3⟩ | ⟨v1, v2⟩
      · have := rt_mt_1 (rt_pm_lt y (by omega)).1 a v2 c
        rw [v3, ← this, (rt_pm_lt y (by omega)).2]
      · have := v1 (rt_pm v) (by have := (rt_pm_lt v a).1; omega)
        rw [(rt_pm_lt v a).2] at this
        exact absurd c this
  | f + 1, w, I, hn, hF, g8, g9, hv => by
    have hT := hT0.mf hF.mf
    have ih := fun I => m_nm_loop hJ hT0 hp he hL h8 h9 h f (w + 1) I (by omega)
    refine am_vcl hJ [39] 200 ?_
    refine br_f (by show ¬ nI 18 ≤ nI w; exact nI_ge (by omega) (by omega)) ?_
    refine m_isNameOf hJ hT (by omega) hp he hL g8 g9 (fun g => ?_) (fun g => ?_)
    · have k9 := ih (am_put I 66 10 (nI w)) (hF.trans (NF.put (by decide))) (by rw [put_nk (by decide)]; exact g8) (by rw [put_nk (by decide)]; exact g9) (Or.inl ⟨w, by omega, g, put_at⟩)
      rw [← nI_1] at k9
      refine br_f (by decide) ?_
      exact k9
    · have k9 := ih (am_put I 66 10 (I 66 10)) (hF.trans (NF.put (by decide))) (by rw [put_nk (by decide)]; exact g8) (by rw [put_nk (by decide)]; exact g9) (by
        rcases hv with ⟨v, v1, v2, v3⟩ | ⟨v1, v2⟩
        · exact Or.inl ⟨v, by omega, v2, by rw [put_at]; exact v3⟩
        · refine Or.inr ⟨fun v hv => ?_, by rw [put_at]; exact v2⟩
          by_cases q : v = w
          · rw [q]; exact g
          · exact v1 v (by omega))
      rw [← nI_1] at k9
      refine br_t (by decide) ?_
      exact k9
theorem m_readsName (hJ : am_Cl am_meth L xs J) {I : am_I} {p : Nat} (hT : Tm I b n) (hp : p < n) (hL : rt_L (b p) = true) (h8 : I 66 8 = nI p) (h9 : I 66 9 = nI p) (h : ∀ I', NF I I' → I' 66 8 = nI (rt_te b n p) → I' 66 9 = nI p → I' 66 10 = rt_m (rt_co b n p) → Q none I') {z1 : Option Value} : J (d + 2) q_M_readsName 0 [some (.ref 66), z1] [] I Q := by
  have et : rt_te b n p = rt_rn (fun j => rt_L (b j)) (n - (p + 1)) (p + 1) := by unfold rt_te; rw [if_pos hL]
  have et2 : rt_te b n p = rt_rn (fun j => rt_L (b j)) (n - p) p := by
    rw [et, show n - p = n - (p + 1) + 1 by omega]
    exact (rt_rn_y (P := fun j => rt_L (b j)) hL).symm
  have hte := rt_te_le (b := b) hp
  have ec : rt_co b n p = rt_wd b p (rt_te b n p) 18 0 := by unfold rt_co; rw [if_pos hL]
  rw [ec] at h
  refine m_nm_run (d := d) (I0 := I) (R := rt_te b n p) hJ hT (fun I1 F1 g8 gf => ?_) (n - p) p I (by omega) et2 (NF.refl I) h8 (fun _ _ => rfl)
  have hT1 := hT.mf F1.mf
  have hLe : ∀ k, p ≤ k → k < rt_te b n p → b k < 256 ∧ rt_L (b k) = true := fun k k1 k2 => by
    refine ⟨(hT.2.2.1 k (by omega)).1, ?_⟩
    rw [et2] at k2
    exact (rt_rn_b (fun j => rt_L (b j)) (n - p) p).2.2.1 k k1 k2
  have g9 : I1 66 9 = nI p := by rw [gf 9 (by decide)]; exact h9
  have k9 := m_nm_loop (d := d) (Q := Q) (I0 := I1) hJ hT1 (by omega) hte.2 hLe g8 g9 (fun I2 F2 a c e => h I2 (F1.trans F2) a c e) 18 0 (am_put I1 66 10 101) (by decide) (NF.put (by decide)) (by rw [put_nk (by decide)]; exact g8) (by rw [put_nk (by decide)]; exact g9) (Or.inr ⟨fun v hv => by omega, put_at⟩)
  refine am_vcc hJ [39] 200 _ _ _ _ _ _ _ ?_
  exact k9
theorem rt_m4 (k : Nat) : (if 4 < k then 4 else k) ≤ 4 := by split <;> omega
theorem m_nu_loop (hJ : am_Cl am_meth L xs J) {I0 : am_I} {p R : Nat} (hT0 : Tm I0 b n) (h9 : I0 66 9 = nI p) (h : ∀ I, NF I0 I → I 66 8 = nI R → I 66 9 = nI p → I 66 10 = (if 4 < R - p then 101 else 100) → I 66 11 = nI (rt_nu b p (if 4 < R - p then 4 else R - p)) → Q none I) : ∀ (f j : Nat) (I : am_I), j + f = n → p ≤ j → R = rt_rn (fun j => rt_D (b j)) f j → NF I0 I → I 66 8 = nI j → I 66 9 = nI p → I 66 11 = nI (rt_nu b p (if 4 < j - p then 4 else j - p)) → J (d + 1) q_M_readsNumber 5 [some (.ref 66)] [] I Q
  | f, j, I, hn, hpj, hR, hF, h8, g9, g11 => by
    have hT := hT0.mf hF.mf
    have h200 := hT.1
    have hb : j < n → b j < 256 := fun z => (hT.2.2.1 j z).1
    have es : I 66 8 - I 66 9 = nI (j - p) := by rw [h8, g9, pk_sub hpj]
    refine am_vcl hJ [5] 200 ?_
    conv => whnf
    rw [h8]
    refine m_byteAt hJ hT (by omega) ?_
    refine m_in1 hJ (fun g => ?_) (fun g => ?_)
    · obtain ⟨g1, g2⟩ := (in_D hb).mp g
      cases f with
      | zero => omega
      | succ f =>
        refine br_f (by decide) ?_
        have hd := g2
        unfold rt_D at hd
        rw [decide_eq_true_eq] at hd
        have ih := fun (v : Int32) (hv : v = nI (rt_nu b p (if 4 < j + 1 - p then 4 else j + 1 - p))) => m_nu_loop hJ hT0 h9 h f (j + 1) (am_put (am_put I 66 11 v) 66 8 (am_put I 66 11 v 66 8 + 1)) (by omega) (by omega) (hR.trans (rt_rn_y (P := fun j => rt_D (b j)) g2)) ((hF.trans (NF.put (by decide))).trans (NF.put (by decide))) (by rw [put_at, put_nk (by decide), h8, nI_1]) (by rw [put_nk (by decide), put_nk (by decide)]; exact g9) (by rw [put_nk (by decide), put_at]; exact hv)
        by_cases g4 : j - p < 4
        · refine br_f (by show ¬ nI 4 ≤ I 66 8 - I 66 9; rw [es]; exact nI_ge g4 (by omega)) ?_
          conv => whnf
          rw [h8]
          refine m_byteAt hJ hT (by omega) ?_
          rw [if_pos g1]
          refine ih _ ?_
          show 10 * I 66 11 + nI (b j) - 48 = _
          rw [g11, if_neg (by omega), if_neg (by omega), show (10 : Int32) = nI 10 from rfl, pk_mul, nI_add, show (48 : Int32) = nI 48 from rfl, pk_sub (by omega), show j + 1 - p = (j - p) + 1 by omega]
          show _ = nI (10 * rt_nu b p (j - p) + b (p + (j - p)) - 48)
          rw [show p + (j - p) = j by omega]
        · refine br_t (by show nI 4 ≤ I 66 8 - I 66 9; rw [es]; exact nI_le (by omega) (by omega)) ?_
          refine ih _ ?_
          rw [g11, show (if 4 < j - p then 4 else j - p) = 4 by split <;> omega, if_pos (by omega)]
    · have g : ¬ (j < n ∧ rt_D (b j) = true) := fun z => g ((in_D hb).mpr z)
      have e : R = j := by
        cases f with
        | zero => exact hR
        | succ f => exact hR.trans (rt_rn_n (P := fun j => rt_D (b j)) (fun z => g ⟨by omega, z⟩))
      subst e
      refine br_t (by decide) ?_
      by_cases g4 : 4 < R - p
      · rw [if_pos g4, if_pos g4] at h
        rw [if_pos g4] at g11
        refine br_f (by show ¬ I 66 8 - I 66 9 ≤ nI 4; rw [es]; exact nI_ge g4 (by omega)) ?_
        exact h _ (hF.trans (NF.put (by decide))) (by rw [put_nk (by decide)]; exact h8) (by rw [put_nk (by decide)]; exact g9) put_at (by rw [put_nk (by decide)]; exact g11)
      · rw [if_neg g4, if_neg g4] at h
        rw [if_neg g4] at g11
        refine br_t (by show I 66 8 - I 66 9 ≤ nI 4; rw [es]; exact nI_le (by omega) (by omega)) ?_
        exact h _ (hF.trans (NF.put (by decide))) (by rw [put_nk (by decide)]; exact h8) (by rw [put_nk (by decide)]; exact g9) put_at (by rw [put_nk (by decide)]; exact g11)
theorem m_readsNumber (hJ : am_Cl am_meth L xs J) {I : am_I} {p : Nat} (hT : Tm I b n) (hp : p < n) (hL : rt_L (b p) = false) (hD : rt_D (b p) = true) (h8 : I 66 8 = nI p) (h9 : I 66 9 = nI p) (h : ∀ I', NF I I' → I' 66 8 = nI (rt_te b n p) → I' 66 9 = nI p → I' 66 10 = rt_m (rt_co b n p) → (rt_co b n p < 10000 → I' 66 11 = nI (rt_co b n p)) → Q none I') : J (d + 1) q_M_readsNumber 0 [some (.ref 66)] [] I Q := by
  have nl : ¬ rt_L (b p) = true := by rw [hL]; decide
  have et : rt_te b n p = rt_rn (fun j => rt_D (b j)) (n - (p + 1)) (p + 1) := by unfold rt_te; rw [if_neg nl, if_pos hD]
  have et2 : rt_te b n p = rt_rn (fun j => rt_D (b j)) (n - p) p := by
    rw [et, show n - p = n - (p + 1) + 1 by omega]
    exact (rt_rn_y (P := fun j => rt_D (b j)) hD).symm
  have ec : rt_co b n p = (if 4 < rt_te b n p - p then 30000 else rt_nu b p (rt_te b n p - p)) := by unfold rt_co; rw [if_neg nl, if_pos hD]
  have hcc := rt_co_c hp (fun j hj => (hT.2.2.1 j hj).1)
  have k9 := m_nu_loop (d := d) (Q := Q) (I0 := I) (p := p) (R := rt_te b n p) hJ hT h9 (fun I1 F1 a c e g => ?_) (n - p) p (am_put I 66 11 0) (by omega) (Nat.le_refl _) et2 (NF.put (by decide)) (by rw [put_nk (by decide)]; exact h8) (by rw [put_nk (by decide)]; exact h9) (by rw [put_at, Nat.sub_self]; rfl)
  · refine am_vcc hJ [5] 200 _ _ _ _ _ _ _ ?_
    exact k9
  · refine h I1 F1 a c ?_ (fun z => ?_)
    · rw [e, ec]
      by_cases g4 : 4 < rt_te b n p - p
      · rw [if_pos g4, if_pos g4]
        rfl
      · rw [if_neg g4] at ec
        rw [if_neg g4, if_neg g4]
        unfold rt_m
        rw [if_pos]
        rw [← ec]
        rcases hcc with q | q | q | q
        · exact q.1
        · rw [hL] at q; cases q.2.2.1
        · rw [hD] at q; cases q.2.2
        · have := rt_nu_lt (b := b) (p := p) (rt_te b n p - p) (fun i hi => by
            have hk : p + i < rt_te b n p := by omega
            rw [et2] at hk
            exact (rt_rn_b (fun j => rt_D (b j)) (n - p) p).2.2.1 (p + i) (by omega) hk)
          have h4 : 10 ^ (rt_te b n p - p) ≤ 10 ^ 4 := Nat.pow_le_pow_right (by decide) (by omega)
          omega
    · by_cases g4 : 4 < rt_te b n p - p
      · rw [if_pos g4] at ec
        omega
      · rw [if_neg g4] at ec g
        rw [g, ec]
/-- the reference stands at token i -/
def MSt (I : am_I) (b : Nat → Nat) (n i : Nat) : Prop := I 66 9 = nI (rt_P b n i) ∧ I 66 10 = rt_m (rt_C b n i) ∧ (rt_P b n i < n → I 66 8 = nI (rt_te b n (rt_P b n i))) ∧ (rt_C b n i < 10000 → I 66 11 = nI (rt_C b n i))
theorem MSt.kept {I I' : am_I} {i : Nat} (h : MSt I b n i) (hk : ∀ f, 8 ≤ f → f ≤ 11 → I' 66 f = I 66 f) : MSt I' b n i := by
  unfold MSt
  rw [hk 9 (by decide) (by decide), hk 10 (by decide) (by decide), hk 8 (by decide) (by decide), hk 11 (by decide) (by decide)]
  exact h
theorem m_nx_run (hJ : am_Cl am_meth L xs J) {I0 : am_I} {R : Nat} {z1 : Option Value} (hT0 : Tm I0 b n) (h : ∀ I, NF I0 I → I 66 8 = nI R → J (d + 3) q_M_next 26 [some (.ref 66), z1] [] I Q) : ∀ (f j : Nat) (I : am_I), j + f = n → R = rt_rn (rt_bl b) f j → NF I0 I → I 66 8 = nI j → J (d + 3) q_M_next 0 [some (.ref 66), z1] [] I Q
  | f, j, I, hn, hR, hF, h8 => by
    have hT := hT0.mf hF.mf
    have h200 := hT.1
    refine am_vcl hJ [0, 26] 200 ?_
    conv => whnf
    rw [h8]
    refine m_byteAt hJ hT (by omega) ?_
    by_cases g : j < n ∧ b j = 32
    · rw [if_pos g.1, g.2]
      cases f with
      | zero => omega
      | succ f =>
        refine br_t (by decide) ?_
        refine m_nx_run hJ hT0 h f (j + 1) (am_put I 66 8 (I 66 8 + 1)) (by omega) (hR.trans (rt_rn_y (by unfold rt_bl; rw [decide_eq_true_eq]; exact g.2))) (hF.trans (NF.put (by decide))) (by rw [put_at, h8, nI_1])
    · have e : R = j := by
        cases f with
        | zero => exact hR
        | succ f => exact hR.trans (rt_rn_n (by unfold rt_bl; rw [decide_eq_true_eq]; exact fun z => g ⟨by omega, z⟩))
      refine br_f ?_ ?_
      · show ¬ (if j < n then nI (b j) else -1) = 32
        by_cases g1 : j < n
        · have := (hT.2.2.1 j g1).1
          rw [if_pos g1, show (32 : Int32) = nI 32 from rfl, nI_eq (by omega) (by omega)]
          exact fun z => g ⟨g1, z⟩
        · rw [if_neg g1]
          decide
      · exact h I hF (by rw [h8, e])
theorem m_next (hJ : am_Cl am_meth L xs J) {I : am_I} {q i : Nat} (hT : Tm I b n) (hq : q ≤ n) (h8 : I 66 8 = nI q) (hP : rt_nb b n q = rt_P b n i) (h : ∀ I', NF I I' → MSt I' b n i → Q none I') {z1 : Option Value} : J (d + 3) q_M_next 0 [some (.ref 66), z1] [] I Q := by
  have hnb := rt_nb_le (b := b) hq
  rw [hP] at hnb
  refine m_nx_run (d := d) (I0 := I) (R := rt_P b n i) hJ hT (fun I1 F1 g8 => ?_) (n - q) q I (by omega) (by rw [← hP]; rfl) (NF.refl I) h8
  have hT1 := hT.mf F1.mf
  have h200 := hT.1
  have F2 : NF I (am_put I1 66 9 (I1 66 8)) := F1.trans (NF.put (by decide))
  have hT2 := hT.mf F2.mf
  have e8 : am_put I1 66 9 (I1 66 8) 66 8 = nI (rt_P b n i) := by rw [put_nk (by decide)]; exact g8
  have e9 : am_put I1 66 9 (I1 66 8) 66 9 = nI (rt_P b n i) := by rw [put_at]; exact g8
  have hb : rt_P b n i < n → b (rt_P b n i) < 256 := fun z => (hT.2.2.1 _ z).1
  have by8 : ∀ Q' : am_Q, Q' (some (.int (if rt_P b n i < n then nI (b (rt_P b n i)) else -1))) (am_put I1 66 9 (I1 66 8)) → J (d + 2) q_M_byteAt 0 [some (.ref 66), some (.int (I1 66 8))] [] (am_put I1 66 9 (I1 66 8)) Q' := by
    intro Q' hQ'
    rw [g8] at hT2 hQ' ⊢
    exact m_byteAt hJ hT2 (by omega) hQ'
  refine am_vc hJ 60 _ _ _ _ _ _ _ ?_
  refine by8 _ ?_
  by_cases g : rt_P b n i < n
  · have eC : rt_C b n i = rt_co b n (rt_P b n i) := by unfold rt_C; rw [if_pos g]
    have hb1 := hb g
    rw [if_pos g]
    refine br_t (by show 0 ≤ nI (b (rt_P b n i)); exact nI_pos' (by omega)) ?_
    refine m_in1 hJ (fun z => ?_) (fun z => ?_)
    · have gL := (by_Ln _ hb1).mp z
      refine br_f (by decide) ?_
      refine m_readsName hJ hT2 g gL e8 e9 (fun I2 F3 a c e => ?_)
      refine h I2 (F2.trans F3) ⟨c, by rw [eC]; exact e, fun _ => a, fun y => ?_⟩
      rw [eC] at y
      rcases rt_co_c g (fun j hj => (hT.2.2.1 j hj).1) with r | r | r | r
      · rw [gL] at r; cases r.2.1
      · omega
      · rw [gL] at r; cases r.2.1
      · omega
    · have gL : rt_L (b (rt_P b n i)) = false := by
        cases e : rt_L (b (rt_P b n i)) with
        | false => rfl
        | true => exact absurd ((by_Ln _ hb1).mpr e) z
      refine br_t (by decide) ?_
      refine m_in1 hJ (fun z2 => ?_) (fun z2 => ?_)
      · have gD := (by_Dn _ hb1).mp z2
        refine br_f (by decide) ?_
        refine m_readsNumber hJ hT2 g gL gD e8 e9 (fun I2 F3 a c e f => ?_)
        exact h I2 (F2.trans F3) ⟨c, by rw [eC]; exact e, fun _ => a, fun y => by rw [eC] at y ⊢; exact f y⟩
      · have gD : rt_D (b (rt_P b n i)) = false := by
          cases e : rt_D (b (rt_P b n i)) with
          | false => rfl
          | true => exact absurd ((by_Dn _ hb1).mpr e) z2
        have ec : rt_co b n (rt_P b n i) = 20000 + b (rt_P b n i) := by unfold rt_co; rw [gL, gD]; rfl
        have et : rt_te b n (rt_P b n i) = rt_P b n i + 1 := by unfold rt_te; rw [gL, gD]; rfl
        refine br_t (by decide) ?_
        have k9 := h (am_put (am_put (am_put I1 66 9 (I1 66 8)) 66 10 (200 + nI (b (rt_P b n i)))) 66 8 (am_put (am_put I1 66 9 (I1 66 8)) 66 10 (200 + nI (b (rt_P b n i))) 66 8 + 1)) ((F2.trans (NF.put (by decide))).trans (NF.put (by decide))) ⟨?_, ?_, fun _ => ?_, fun y => ?_⟩
        · exact k9
        · rw [put_nk (by decide), put_nk (by decide)]; exact e9
        · rw [put_nk (by decide), put_at, eC, ec]
          unfold rt_m
          rw [if_neg (by omega), if_neg (by omega), if_pos (by omega), show (200 : Int32) = nI 200 from rfl, nI_add, show 20000 + b (rt_P b n i) - 20000 + 200 = 200 + b (rt_P b n i) by omega]
        · rw [put_at, put_nk (by decide), e8, nI_1, et]
        · rw [eC, ec] at y
          omega
  · have eC : rt_C b n i = 30001 := by unfold rt_C; rw [if_neg g]
    rw [if_neg g]
    refine br_f (by decide) ?_
    exact h _ (F2.trans (NF.put (by decide))) ⟨by rw [put_nk (by decide)]; exact e9, by rw [put_at, eC]; rfl, fun y => absurd y g, fun y => by rw [eC] at y; omega⟩
/-- from a token on to the next -/
theorem m_nextS (hJ : am_Cl am_meth L xs J) {I : am_I} {i : Nat} (hT : Tm I b n) (hM : MSt I b n i) (hi : rt_P b n i < n) (h : ∀ I', NF I I' → MSt I' b n (i + 1) → Q none I') {z1 : Option Value} : J (d + 3) q_M_next 0 [some (.ref 66), z1] [] I Q := m_next hJ hT (rt_te_le hi).2 (hM.2.2.1 hi) (rt_P_s hi).symm h
end
