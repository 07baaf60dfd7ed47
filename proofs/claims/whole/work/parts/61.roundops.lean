section
variable {L : Nat} {xs : Nat → Int32} {J : am_J} {d : Nat}
theorem x_parts_loop (hJ : am_Cl am_meth L xs J) {I : am_I} {Q : am_Q} {u : am_U} {f S : Nat} (hR : Rel (TR 8) I u) (hO : OKu u) (hf : f ≤ 999) (hS : S < 2 ^ (u 6)) (h : Q (some (.int (nI (sp_fm (sp_N u) (u 6) f S)))) I) : ∀ (n k : Nat), k + n = u 6 → J (d + 1) q_Road_partsOver 9 [some (.ref 8), some (.int (nI f)), some (.int (nI S)), some (.int (nI (rd_lo (sp_N u) S k))), some (.int (nI (rd_hi (sp_N u) S k))), some (.int (nI k))] [] I Q
  | 0, k, hn => by
    have c := hO.Cn
    have h64 : 2 ^ (u 6) ≤ 64 := Nat.pow_le_pow_right (by decide) c.1
    have x6 : I 8 2 = nI (u 6) := hR.get 8 2 6 (by decide +kernel)
    have ek : k = u 6 := by omega
    refine am_vcl hJ [9] 200 ?_
    refine br_t (by show I 8 2 ≤ nI k; rw [x6]; exact nI_le (by omega) (by omega)) ?_
    by_cases g : S = 0
    · refine br_t (by show nI S = 0; rw [g]; rfl) ?_
      unfold sp_fm at h
      rw [if_pos g] at h
      exact h
    · refine br_f (by show ¬ nI S = 0; exact nI_ne0 (by omega) (by omega)) ?_
      obtain ⟨a, ⟨i, b1, b2⟩, -⟩ := sp_ends (sp_N_le hO) c.1 hS g
      have ai := a i b1
      have ll := sp_N_le hO i
      have lh := (rd_hi_ch (S := S) (sp_N_le hO) (u 6)).2.1
      unfold sp_fm at h
      rw [if_neg g] at h
      subst ek
      have e : nI (rd_hi (sp_N u) S (u 6)) - nI (rd_lo (sp_N u) S (u 6)) + am_mn (am_ab (nI f - nI (rd_lo (sp_N u) S (u 6)))) (am_ab (nI f - nI (rd_hi (sp_N u) S (u 6)))) = nI (rd_hi (sp_N u) S (u 6) - rd_lo (sp_N u) S (u 6) + (if sp_di f (rd_hi (sp_N u) S (u 6)) < sp_di f (rd_lo (sp_N u) S (u 6)) then sp_di f (rd_hi (sp_N u) S (u 6)) else sp_di f (rd_lo (sp_N u) S (u 6)))) := by
        rw [ab_N (by omega) (by omega), ab_N (by omega) (by omega), am_mnN (by unfold sp_di; omega) (by unfold sp_di; omega), pk_sub (by omega), nI_add]
      exact am_qe e h
  | n + 1, k, hn => by
    have c := hO.Cn
    have h64 : 2 ^ (u 6) ≤ 64 := Nat.pow_le_pow_right (by decide) c.1
    have x6 : I 8 2 = nI (u 6) := hR.get 8 2 6 (by decide +kernel)
    have nk : I 11 k = nI (sp_N u k) := by rw [sp_N_at (by omega)]; exact hR _ (TR8_gn k (by omega)).2
    have ll := (rd_lo_ch (S := S) (sp_N_le hO) k).2.1
    have lh := (rd_hi_ch (S := S) (sp_N_le hO) k).2.1
    have ln := sp_N_le hO k
    have k9 := x_parts_loop hJ hR hO hf hS h n (k + 1) (by omega)
    rw [rd_lo_succ, rd_hi_succ, ← nI_1] at k9
    refine am_vcl hJ [9] 200 ?_
    refine br_f (by show ¬ I 8 2 ≤ nI k; rw [x6]; exact nI_ge (by omega) (by omega)) ?_
    cases e : S.testBit k with
    | false =>
      refine br_t ((mb_and S (by omega) k (by omega)).mpr e) ?_
      rw [e] at k9
      exact k9
    | true =>
      refine br_f (fun z => by have := (mb_and S (by omega) k (by omega)).mp z; rw [e] at this; cases this) ?_
      refine ⟨vp_in_nI (by omega) (by omega), ?_⟩
      refine ⟨vp_in_nI (by omega) (by omega), ?_⟩
      rw [e, if_pos rfl, if_pos rfl, ← am_mnN (by omega) (by omega), ← am_mxN (by omega) (by omega), ← nk] at k9
      rw [nI_clamp (by omega)]
      exact k9
theorem x_partsOver (hJ : am_Cl am_meth L xs J) {I : am_I} {Q : am_Q} {u : am_U} {f S : Nat} (hR : Rel (TR 8) I u) (hO : OKu u) (hf : f ≤ 999) (hS : S < 2 ^ (u 6)) (h : Q (some (.int (nI (sp_fm (sp_N u) (u 6) f S)))) I) {z3 z4 z5 : Option Value} : J (d + 1) q_Road_partsOver 0 [some (.ref 8), some (.int (nI f)), some (.int (nI S)), z3, z4, z5] [] I Q := by
  have k9 := x_parts_loop (d := d) hJ hR hO hf hS h (u 6) 0 (Nat.zero_add _)
  refine am_vcc hJ [9] 200 _ _ _ _ _ _ _ ?_
  exact k9
theorem x_partsBy (hJ : am_Cl am_meth L xs J) {I : am_I} {Q : am_Q} {u : am_U} {f k S : Nat} (hR : Rel (TR 8) I u) (hO : OKu u) (hf : f ≤ 999) (hS : S < 2 ^ (u 6)) (hk : k < 6) (h : Q (some (.int (nI (sp_cf (sp_N u) (u 6) f S k)))) I) : J (d + 2) q_Road_partsBy 0 [some (.ref 8), some (.int (nI f)), some (.int (nI k)), some (.int (nI S))] [] I Q := by
  have c := hO.Cn
  have h64 : 2 ^ (u 6) ≤ 64 := Nat.pow_le_pow_right (by decide) c.1
  have nk : I 11 k = nI (sp_N u k) := by rw [sp_N_at hk]; exact hR _ (TR8_gn k hk).2
  have ln := sp_N_le hO k
  have ea : nI S &&& (((1 : Int32) <<< (nI k &&& 31)) ^^^ (-1)) = nI (sp_rm S k) := by
    rw [mb_shl k hk]
    exact and64 S (by omega) _ (tb_one hk).1
  have hrl : sp_rm S k < 2 ^ (u 6) := Nat.lt_of_le_of_lt rm_le hS
  refine am_vc hJ 40 _ _ _ _ _ _ _ ?_
  refine ⟨vp_in_nI hk (by omega), ?_⟩
  refine ⟨vp_in_nI hk (by omega), ?_⟩
  rw [nI_clamp (by omega), nk]
  conv => whnf
  rw [show (fun (x y : Int32) => x &&& y) (nI S) ((fun (x y : Int32) => x ^^^ y) ((fun (x y : Int32) => x <<< (y &&& 31)) 1 (nI k)) (-1)) = nI (sp_rm S k) from ea]
  refine x_partsOver hJ hR hO (by omega) hrl ?_
  refine am_qe ?_ h
  show am_ab (nI f - nI (sp_N u k)) + nI (sp_fm (sp_N u) (u 6) (sp_N u k) (sp_rm S k)) = _
  rw [ab_N (by omega) (by omega), nI_add]
  rfl
theorem x_hungry (hJ : am_Cl am_meth L xs J) {I : am_I} {Q : am_Q} {u : am_U} (hR : Rel (TR 8) I u) (hC : CRep I 9 u) (hO : OKu u) (h : Q (some (.int (nI (sp_H u)))) I) : J d q_Road_hungry 0 [some (.ref 8)] [] I Q := by
  have c := hO.Cn
  have h64 : 2 ^ (u 6) ≤ 64 := Nat.pow_le_pow_right (by decide) c.1
  have x6 : I 8 2 = nI (u 6) := hR.get 8 2 6 (by decide +kernel)
  refine am_vc hJ 20 _ _ _ _ _ _ _ ?_
  refine am_qe ?_ h
  show (I 9 5 ^^^ (-1)) &&& (((1 : Int32) <<< (I 8 2 &&& 31)) - 1) = _
  rw [x6, hC.2.2, am_isset c.1, Int32.and_comm]
  exact and64 _ (by omega) _ (fedN_lt hO.fed)
theorem x_rounds_loop (hJ : am_Cl am_meth L xs J) {I : am_I} {Q : am_Q} {u : am_U} {f S m w : Nat} {z2 : Option Value} (hR : Rel (TR 8) I u) (hO : OKu u) (hf : f ≤ 999) (hS : S < 2 ^ (u 6)) (hm : m ≤ 2000) (h : Q (some (.int (if w < u 6 then nI w else -3))) I) : ∀ (n k : Nat) (z6 : Option Value), k + n = u 6 → w = sp_ff (sp_cf (sp_N u) (u 6) f S) S m n k → J (d + 3) q_X_rounds 51 [some (.ref 0), some (.int (nI f)), z2, some (.int (nI S)), some (.int (nI m)), some (.int (nI k)), z6] [] I Q
  | 0, k, z6, hn, hw => by
    have c := hO.Cn
    have x6 : I 8 2 = nI (u 6) := hR.get 8 2 6 (by decide +kernel)
    have ew : w = k := hw
    refine am_vcl hJ [51] 200 ?_
    refine br_t (by show I 8 2 ≤ nI k; rw [x6]; exact nI_le (by omega) (by omega)) ?_
    rw [if_neg (by omega)] at h
    exact h
  | n + 1, k, z6, hn, hw => by
    have c := hO.Cn
    have h64 : 2 ^ (u 6) ≤ 64 := Nat.pow_le_pow_right (by decide) c.1
    have x6 : I 8 2 = nI (u 6) := hR.get 8 2 6 (by decide +kernel)
    have ln := sp_N_le hO k
    have hcl : sp_cf (sp_N u) (u 6) f S k ≤ 3000 := by
      have := sp_fm_le (n := u 6) (f := sp_N u k) (S := sp_rm S k) (sp_N_le hO) (by omega)
      unfold sp_cf sp_di
      omega
    rw [sp_ff_succ] at hw
    have nxt : ∀ z6, ¬ (S.testBit k = true ∧ sp_cf (sp_N u) (u 6) f S k = m) → J (d + 3) q_X_rounds 51 [some (.ref 0), some (.int (nI f)), z2, some (.int (nI S)), some (.int (nI m)), some (.int (nI k + 1)), z6] [] I Q := by
      intro z6 hz
      rw [if_neg hz] at hw
      rw [nI_1]
      exact x_rounds_loop hJ hR hO hf hS hm h n (k + 1) z6 (by omega) hw
    refine am_vcl hJ [51] 200 ?_
    refine br_f (by show ¬ I 8 2 ≤ nI k; rw [x6]; exact nI_ge (by omega) (by omega)) ?_
    cases e : S.testBit k with
    | false =>
      refine br_t ((mb_and S (by omega) k (by omega)).mpr e) ?_
      refine br_t (by decide) ?_
      exact nxt _ (fun z => by rw [e] at z; cases z.1)
    | true =>
      refine br_f (fun z => by have := (mb_and S (by omega) k (by omega)).mp z; rw [e] at this; cases this) ?_
      refine br_f (by decide) ?_
      refine x_partsBy hJ hR hO hf hS (by omega) ?_
      by_cases g : sp_cf (sp_N u) (u 6) f S k = m
      · refine br_t (by show nI (sp_cf (sp_N u) (u 6) f S k) = nI m; rw [g]) ?_
        rw [if_pos ⟨e, g⟩] at hw
        subst hw
        rw [if_pos (by omega)] at h
        exact h
      · refine br_f (by show ¬ nI (sp_cf (sp_N u) (u 6) f S k) = nI m; rw [nI_eq (by omega) (by omega)]; exact g) ?_
        exact nxt _ (fun z => g z.2)
/-! the reference -/
def RdF (I I' : am_I) : Prop := (∀ o, o ≠ 66 → I' o = I o) ∧ ∀ j, j ≠ 16 → j ≠ 17 → I' 66 j = I 66 j
theorem RdF.refl (I : am_I) : RdF I I := ⟨fun _ _ => rfl, fun _ _ _ => rfl⟩
theorem RdF.trans {I I' I'' : am_I} (h : RdF I I') (g : RdF I' I'') : RdF I I'' := ⟨fun o a => by rw [g.1 o a, h.1 o a], fun j a b => by rw [g.2 j a b, h.2 j a b]⟩
/-- one turn of the loop, over what the round behind it does -/
theorem m_round_step (hJ : am_Cl am_meth L xs J) {I : am_I} {Q : am_Q} {u : am_U} {S f p k : Nat} {fi : Int32} (hM : MRep I 67 u) (hO : OKu u) (hS : S < 2 ^ (u 6)) (hk : k < u 6) (hf : f ≤ 999) (hp : p < 2 ^ 20)
    (hno : S.testBit k = false → ∀ z6, J (d + 2) q_M_goesRound 34 [some (.ref 66), some (.int (nI S)), some (.int (nI f)), some (.int (nI p)), some (.int fi), some (.int (nI k + 1)), z6] [] I Q)
    (hyes : S.testBit k = true → ∀ Q' : am_Q, (∀ I', J (d + 2) q_M_goesRound 34 [some (.ref 66), some (.int (nI S)), some (.int (nI f)), some (.int (nI p)), some (.int fi), some (.int (nI k + 1)), some (.int (nI (sp_di f (sp_N u k))))] [] I' Q → Q' none I') → J (d + 1) q_M_goesRound 0 [some (.ref 66), some (.int (nI (sp_rm S k))), some (.int (nI (sp_N u k))), some (.int (nI (p + sp_di f (sp_N u k)))), some (.int (if fi < 0 then nI k else fi)), none, none] [] I Q') : ∀ z6 : Option Value, J (d + 2) q_M_goesRound 34 [some (.ref 66), some (.int (nI S)), some (.int (nI f)), some (.int (nI p)), some (.int fi), some (.int (nI k)), z6] [] I Q := by
  intro z6
  have c := hO.Cn
  have h64 : 2 ^ (u 6) ≤ 64 := Nat.pow_le_pow_right (by decide) c.1
  have x6 : I 67 6 = nI (u 6) := hM 6 (by decide)
  have hk6 : k < 6 := by omega
  have e1 : I 67 (38 + 6 * k + 1) = nI (sp_N u k) := by rw [hM _ (by omega), show 38 + 6 * k + 1 = 39 + 6 * k by omega, sp_N_at hk6]
  have ln := sp_N_le hO k
  have ea : nI S &&& (((1 : Int32) <<< (nI k &&& 31)) ^^^ (-1)) = nI (sp_rm S k) := by
    rw [mb_shl k hk6]
    exact and64 S (by omega) _ (tb_one hk6).1
  have go : S.testBit k = true → ∀ v : Int32, v = nI (sp_di f (sp_N u k)) → J (d + 2) q_M_goesRound 88 [some (.ref 66), some (.int (nI S)), some (.int (nI f)), some (.int (nI p)), some (.int fi), some (.int (nI k)), z6] [.int v] I Q := by
    intro e v hv
    have hy := hyes e
    subst hv
    refine am_vcc hJ [34] 200 _ _ _ _ _ _ _ ?_
    refine m_get hJ (a := k) (b := 1) rfl rfl hk6 (by decide) ?_
    by_cases g : fi < 0
    · refine br_f (Int32.not_le.mpr g) ?_
      conv => whnf
      rw [show (fun (x y : Int32) => x &&& y) (nI S) ((fun (x y : Int32) => x ^^^ y) ((fun (x y : Int32) => x <<< (y &&& 31)) 1 (nI k)) (-1)) = nI (sp_rm S k) from ea, show (fun x y => x + y) (nI p) (nI (sp_di f (sp_N u k))) = nI (p + sp_di f (sp_N u k)) from nI_add _ _, e1]
      rw [if_pos g] at hy
      exact hy _ (fun I' q => q)
    · refine br_t (Int32.not_lt.mp g) ?_
      conv => whnf
      rw [show (fun (x y : Int32) => x &&& y) (nI S) ((fun (x y : Int32) => x ^^^ y) ((fun (x y : Int32) => x <<< (y &&& 31)) 1 (nI k)) (-1)) = nI (sp_rm S k) from ea, show (fun x y => x + y) (nI p) (nI (sp_di f (sp_N u k))) = nI (p + sp_di f (sp_N u k)) from nI_add _ _, e1]
      rw [if_neg g] at hy
      exact hy _ (fun I' q => q)
  refine am_vcl hJ [34, 88] 200 ?_
  refine ⟨am_vin (by decide), ?_⟩
  refine br_f (by show ¬ I 67 6 ≤ nI k; rw [x6]; exact nI_ge (by omega) (by omega)) ?_
  cases e : S.testBit k with
  | false =>
    refine br_f (fun z => by have := (mb_shr S (by omega) k hk6).mp z; rw [e] at this; cases this) ?_
    exact hno e _
  | true =>
    refine br_t ((mb_shr S (by omega) k hk6).mpr e) ?_
    refine m_get hJ (a := k) (b := 1) rfl rfl hk6 (by decide) ?_
    by_cases g : sp_N u k < f
    · refine br_f (by show ¬ nI f ≤ I 67 (38 + 6 * k + 1); rw [e1]; exact nI_ge g (by omega)) ?_
      refine m_get hJ (a := k) (b := 1) rfl rfl hk6 (by decide) ?_
      refine go e _ ?_
      show nI f - I 67 (38 + 6 * k + 1) = _
      rw [e1, pk_sub (by omega)]
      unfold sp_di
      congr 1
      omega
    · refine br_t (by show nI f ≤ I 67 (38 + 6 * k + 1); rw [e1]; exact nI_le (by omega) (by omega)) ?_
      refine m_get hJ (a := k) (b := 1) rfl rfl hk6 (by decide) ?_
      refine go e _ ?_
      show I 67 (38 + 6 * k + 1) - nI f = _
      rw [e1, pk_sub (by omega)]
      unfold sp_di
      congr 1
      omega
theorem m_goesRound (hJ : am_Cl am_meth L xs J) {u : am_U} (hO : OKu u) : ∀ (c S f p x : Nat) (fi g : Int32) (I : am_I) (Q : am_Q), sp_card S = c → S < 2 ^ (u 6) → f ≤ 999 → p + 1100 * c ≤ 7000 → ¬ fi < 0 → MRep I 67 u → LPr (I 66 16) x → I 66 17 = g → (∀ I' : am_I, RdF I I' → LPr (I' 66 16) (if p + sp_fm (sp_N u) (u 6) f S < x then p + sp_fm (sp_N u) (u 6) f S else x) → I' 66 17 = (if p + sp_fm (sp_N u) (u 6) f S < x then fi else g) → Q none I') → ∀ z5 z6 : Option Value, J (d + c + 1) q_M_goesRound 0 [some (.ref 66), some (.int (nI S)), some (.int (nI f)), some (.int (nI p)), some (.int fi), z5, z6] [] I Q
  | 0, S, f, p, x, fi, g, I, Q, hc, hS, hf, hp, hfi, hM, hx, hg, h, z5, z6 => by
    have c := hO.Cn
    have h64 : 2 ^ (u 6) ≤ 64 := Nat.pow_le_pow_right (by decide) c.1
    have e0 : S = 0 := (card_0 S (by omega)).mp hc
    subst e0
    have ef : p + sp_fm (sp_N u) (u 6) f 0 = p := by unfold sp_fm; rw [if_pos rfl]; rfl
    rw [ef] at h
    have upd : p < x → Q none (am_put (am_put I 66 16 (nI p)) 66 17 fi) := by
      intro z
      rw [if_pos z, if_pos z] at h
      exact h _ ⟨fun o ho => by rw [am_put_o ho, am_put_o ho], fun j a b => by rw [put_nk b, put_nk a]⟩ (Or.inr ⟨by omega, by rw [put_nk (by decide), put_at]⟩) put_at
    refine am_vc hJ 30 _ _ _ _ _ _ _ ?_
    refine br_t (by decide) ?_
    rcases hx with ⟨x1, x2⟩ | ⟨x1, x2⟩
    · refine br_t (by show I 66 16 < 0; rw [x2]; decide) ?_
      exact upd (by omega)
    · refine br_f (by show ¬ I 66 16 < 0; rw [x2]; exact nI_pos (by omega)) ?_
      refine ⟨fun z => ?_, fun z => ?_⟩
      · have z : I 66 16 ≤ nI p := z
        rw [x2, nI_leI (by omega) (by omega)] at z
        rw [if_neg (by omega), if_neg (by omega)] at h
        exact h I (RdF.refl I) (Or.inr ⟨x1, x2⟩) hg
      · have z : ¬ I 66 16 ≤ nI p := z
        rw [x2, nI_leI (by omega) (by omega)] at z
        exact upd (by omega)
  | c + 1, S, f, p, x, fi, g, I, Q, hc, hS, hf, hp, hfi, hM, hx, hg, h, z5, z6 => by
    have cO := hO.Cn
    have h64 : 2 ^ (u 6) ≤ 64 := Nat.pow_le_pow_right (by decide) cO.1
    have h0 : S ≠ 0 := fun z => by rw [(card_0 S (by omega)).mpr z] at hc; omega
    have hN := sp_N_le hO
    have hxl : x ≤ 99999 := by rcases hx with ⟨a, -⟩ | ⟨a, -⟩ <;> omega
    have loop : ∀ (n k y : Nat) (I1 : am_I) (z6 : Option Value), k + n = u 6 → RdF I I1 → LPr (I1 66 16) y → y ≤ x → I1 66 17 = (if y < x then fi else g) → (∀ j, j < k → S.testBit j = true → y ≤ p + sp_cf (sp_N u) (u 6) f S j) → (y = x ∨ ∃ j, j < k ∧ S.testBit j = true ∧ y = p + sp_cf (sp_N u) (u 6) f S j) → J (d + (c + 1) + 1) q_M_goesRound 34 [some (.ref 66), some (.int (nI S)), some (.int (nI f)), some (.int (nI p)), some (.int fi), some (.int (nI k)), z6] [] I1 Q := by
      intro n
      induction n with
      | zero =>
        intro k y I1 z6 hn hF hy hyx hy7 hle hex
        have M1 : MRep I1 67 u := hM.kept (hF.1 67 (by decide))
        have x6 : I1 67 6 = nI (u 6) := M1 6 (by decide)
        have ey : y = (if p + sp_fm (sp_N u) (u 6) f S < x then p + sp_fm (sp_N u) (u 6) f S else x) := by
          obtain ⟨b, b1, b2⟩ := sp_fm_B (f := f) hN cO.1 hS h0
          have q1 := hle b (by have := tb_n hS b1; omega) b1
          rcases hex with q | ⟨j, j1, j2, j3⟩
          · split <;> omega
          · have q2 := sp_fm_A (f := f) hN cO.1 hS j2
            split <;> omega
        refine am_vcl hJ [34] 200 ?_
        refine ⟨am_vin (by decide), ?_⟩
        refine br_t (by show I1 67 6 ≤ nI k; rw [x6]; exact nI_le (by omega) (by omega)) ?_
        refine h I1 hF (by rw [← ey]; exact hy) ?_
        rw [hy7, ey]
        by_cases z : p + sp_fm (sp_N u) (u 6) f S < x
        · rw [if_pos z, if_pos z]
        · rw [if_neg z, if_neg z, if_neg (by omega)]
      | succ n ih =>
        intro k y I1 z6 hn hF hy hyx hy7 hle hex
        have M1 : MRep I1 67 u := hM.kept (hF.1 67 (by decide))
        have hdl : sp_di f (sp_N u k) ≤ 1059 := by have := hN k; unfold sp_di; omega
        refine m_round_step hJ M1 hO hS (by omega) hf (by omega) (fun e z6 => ?_) (fun e Q' hQ' => ?_) z6
        · rw [nI_1]
          refine ih (k + 1) y I1 z6 (by omega) hF hy hyx hy7 (fun j hj hs => ?_) (hex.imp id (fun ⟨j, q⟩ => ⟨j, by omega, q.2⟩))
          by_cases q : j = k
          · subst q; rw [e] at hs; cases hs
          · exact hle j (by omega) hs
        · rw [if_neg hfi]
          have hcr := rm_card S (by omega) k (by omega) e
          have hfl := sp_fm_le (n := u 6) (f := sp_N u k) (S := sp_rm S k) hN (by have := hN k; omega)
          refine m_goesRound hJ hO c (sp_rm S k) (sp_N u k) (p + sp_di f (sp_N u k)) y fi _ I1 Q' (by omega) (Nat.lt_of_le_of_lt rm_le hS) (by have := hN k; omega) (by omega) hfi M1 hy hy7 (fun I2 F2 L2 G2 => ?_) _ _
          have ecf : p + sp_di f (sp_N u k) + sp_fm (sp_N u) (u 6) (sp_N u k) (sp_rm S k) = p + sp_cf (sp_N u) (u 6) f S k := by unfold sp_cf; omega
          rw [ecf] at L2 G2
          refine hQ' I2 ?_
          rw [nI_1]
          refine ih (k + 1) _ I2 _ (by omega) (hF.trans F2) L2 (by split <;> omega) ?_ (fun j hj hs => ?_) ?_
          · rw [G2]
            by_cases z : p + sp_cf (sp_N u) (u 6) f S k < y
            · rw [if_pos z, if_pos z, if_pos (by omega)]
            · rw [if_neg z, if_neg z]
          · by_cases q : j = k
            · subst q
              split <;> omega
            · have := hle j (by omega) hs
              split <;> omega
          · by_cases z : p + sp_cf (sp_N u) (u 6) f S k < y
            · rw [if_pos z]
              exact Or.inr ⟨k, by omega, e, rfl⟩
            · rw [if_neg z]
              exact hex.imp id (fun ⟨j, q⟩ => ⟨j, by omega, q.2⟩)
    have k9 := loop (u 6) 0 x I z6 (Nat.zero_add _) (RdF.refl I) hx (Nat.le_refl _) (by rw [if_neg (by omega)]; exact hg) (fun j hj => by omega) (Or.inl rfl)
    refine am_vcc hJ [34] 200 _ _ _ _ _ _ _ ?_
    refine br_f (by show ¬ nI S = 0; exact nI_ne0 (by omega) (by omega)) ?_
    exact k9
/-- the whole round, of those that are hungry -/
theorem m_goesTop (hJ : am_Cl am_meth L xs J) {u : am_U} {I : am_I} {Q : am_Q} {S f : Nat} (hO : OKu u) (hS : S < 2 ^ (u 6)) (hf : f ≤ 999) (hM : MRep I 67 u) (hx : I 66 16 = -1) (h : ∀ I' : am_I, RdF I I' → I' 66 16 = nI (sp_fm (sp_N u) (u 6) f S) → (S ≠ 0 → sp_ff (sp_cf (sp_N u) (u 6) f S) S (sp_fm (sp_N u) (u 6) f S) (u 6) 0 < u 6 ∧ I' 66 17 = nI (sp_ff (sp_cf (sp_N u) (u 6) f S) S (sp_fm (sp_N u) (u 6) f S) (u 6) 0)) → Q none I') {z5 z6 : Option Value} : J (d + 8) q_M_goesRound 0 [some (.ref 66), some (.int (nI S)), some (.int (nI f)), some (.int 0), some (.int (-1)), z5, z6] [] I Q := by
  have cO := hO.Cn
  have h64 : 2 ^ (u 6) ≤ 64 := Nat.pow_le_pow_right (by decide) cO.1
  have hN := sp_N_le hO
  by_cases h0 : S = 0
  · subst h0
    have ef : sp_fm (sp_N u) (u 6) f 0 = 0 := by unfold sp_fm; rw [if_pos rfl]
    rw [ef] at h
    refine am_vc hJ 30 _ _ _ _ _ _ _ ?_
    refine br_t (by decide) ?_
    refine br_t (by show I 66 16 < 0; rw [hx]; decide) ?_
    exact h _ ⟨fun o ho => by rw [am_put_o ho, am_put_o ho], fun j a b => by rw [put_nk b, put_nk a]⟩ (by rw [put_nk (by decide), put_at]; rfl) (fun z => absurd rfl z)
  · have loop : ∀ (n k y : Nat) (I1 : am_I) (z6 : Option Value), k + n = u 6 → RdF I I1 → LPr (I1 66 16) y → (∀ j, j < k → S.testBit j = true → y ≤ sp_cf (sp_N u) (u 6) f S j) → (y = 99999 ∨ ∃ j, j < k ∧ S.testBit j = true ∧ y = sp_cf (sp_N u) (u 6) f S j ∧ I1 66 17 = nI j ∧ ∀ i, i < j → S.testBit i = true → y < sp_cf (sp_N u) (u 6) f S i) → J (d + 8) q_M_goesRound 34 [some (.ref 66), some (.int (nI S)), some (.int (nI f)), some (.int (nI 0)), some (.int (-1)), some (.int (nI k)), z6] [] I1 Q := by
      intro n
      induction n with
      | zero =>
        intro k y I1 z6 hn hF hy hle hex
        have M1 : MRep I1 67 u := hM.kept (hF.1 67 (by decide))
        have x6 : I1 67 6 = nI (u 6) := M1 6 (by decide)
        obtain ⟨b, b1, b2⟩ := sp_fm_B (f := f) hN cO.1 hS h0
        have q1 := hle b (by have := tb_n hS b1; omega) b1
        have hfl := sp_fm_le (n := u 6) (f := f) (S := S) hN hf
        obtain ⟨j, j1, j2, j3, j4, j5⟩ : ∃ j, j < k ∧ S.testBit j = true ∧ y = sp_cf (sp_N u) (u 6) f S j ∧ I1 66 17 = nI j ∧ ∀ i, i < j → S.testBit i = true → y < sp_cf (sp_N u) (u 6) f S i := by
          rcases hex with q | q
          · omega
          · exact q
        have q2 := sp_fm_A (f := f) hN cO.1 hS j2
        have ey : y = sp_fm (sp_N u) (u 6) f S := by omega
        have eff : sp_ff (sp_cf (sp_N u) (u 6) f S) S (sp_fm (sp_N u) (u 6) f S) (u 6) 0 = j := sp_ff_eq ⟨j2, by omega⟩ (u 6) 0 (by omega) (by omega) (fun i _ h5 z => by have := j5 i h5 z.1; omega)
        refine am_vcl hJ [34] 200 ?_
        refine ⟨am_vin (by decide), ?_⟩
        refine br_t (by show I1 67 6 ≤ nI k; rw [x6]; exact nI_le (by omega) (by omega)) ?_
        refine h I1 hF ?_ (fun _ => ?_)
        · rcases hy with ⟨a, -⟩ | ⟨-, a⟩
          · omega
          · rw [a, ey]
        · rw [eff]
          exact ⟨by omega, j4⟩
      | succ n ih =>
        intro k y I1 z6 hn hF hy hle hex
        have M1 : MRep I1 67 u := hM.kept (hF.1 67 (by decide))
        have hdl : sp_di f (sp_N u k) ≤ 1059 := by have := hN k; unfold sp_di; omega
        refine m_round_step (d := d + 6) hJ M1 hO hS (by omega) hf (by omega) (fun e z6 => ?_) (fun e Q' hQ' => ?_) z6
        · rw [nI_1]
          refine ih (k + 1) y I1 z6 (by omega) hF hy (fun j hj hs => ?_) (hex.imp id (fun ⟨j, q⟩ => ⟨j, by omega, q.2⟩))
          by_cases q : j = k
          · subst q; rw [e] at hs; cases hs
          · exact hle j (by omega) hs
        · rw [if_pos (by decide), Nat.zero_add]
          have hcr := rm_card S (by omega) k (by omega) e
          have hcd : sp_card S ≤ 6 := by
            rcases tb_card 6 (by decide) S (by omega) with q | q
            · omega
            · exact q
          have hfl := sp_fm_le (n := u 6) (f := sp_N u k) (S := sp_rm S k) hN (by have := hN k; omega)
          have ecf : sp_di f (sp_N u k) + sp_fm (sp_N u) (u 6) (sp_N u k) (sp_rm S k) = sp_cf (sp_N u) (u 6) f S k := rfl
          have k9 := m_goesRound (d := d + 6 - sp_card (sp_rm S k)) hJ hO (sp_card (sp_rm S k)) (sp_rm S k) (sp_N u k) (sp_di f (sp_N u k)) y (nI k) _ I1 Q' rfl (Nat.lt_of_le_of_lt rm_le hS) (by have := hN k; omega) (by omega) (nI_pos (by omega)) M1 hy rfl (fun I2 F2 L2 G2 => by
            rw [ecf] at L2 G2
            refine hQ' I2 ?_
            rw [nI_1]
            refine ih (k + 1) _ I2 _ (by omega) (hF.trans F2) L2 (fun j hj hs => ?_) ?_
            · by_cases q : j = k
              · subst q
                split <;> omega
              · have := hle j (by omega) hs
                split <;> omega
            · by_cases z : sp_cf (sp_N u) (u 6) f S k < y
              · rw [if_pos z] at G2 ⊢
                refine Or.inr ⟨k, by omega, e, rfl, G2, fun i hi hs => ?_⟩
                have := hle i hi hs
                omega
              · rw [if_neg z] at G2 ⊢
                refine hex.imp id (fun ⟨j, j1, j2, j3, j4, j5⟩ => ⟨j, by omega, j2, j3, by rw [G2]; exact j4, j5⟩)) none none
          rw [show d + 6 - sp_card (sp_rm S k) + sp_card (sp_rm S k) + 1 = d + 6 + 1 by omega] at k9
          exact k9
    have k9 := loop (u 6) 0 99999 I z6 (Nat.zero_add _) (RdF.refl I) (Or.inl ⟨rfl, hx⟩) (fun j hj => by omega) (Or.inl rfl)
    refine am_vcc hJ [34] 200 _ _ _ _ _ _ _ ?_
    refine br_f (by show ¬ nI S = 0; exact nI_ne0 (by omega) (by omega)) ?_
    exact k9
theorem op_rounds (hJ : am_Cl am_meth L xs J) (a b : Int32) : am_same Inv J q_X_rounds q_M_rounds [.int a, .int b] := by
  intro I hI Qc hQc
  obtain ⟨u, uk, hMn, hK, hRs⟩ := id hI
  obtain ⟨hM, hR, hC, hO⟩ := id hMn
  obtain ⟨c1, c2, c3, c4, c5, c6, c7⟩ := hO.Cn
  have x6 : I 8 2 = nI (u 6) := hMn.get (j := 6) (by decide +kernel)
  have m6 : I 67 6 = nI (u 6) := hM 6 (by decide)
  have h64 : 2 ^ (u 6) ≤ 64 := Nat.pow_le_pow_right (by decide) c1
  have hH := sp_H_lt (u := u)
  by_cases h1 : (0 : Int32) ≤ a ∧ a ≤ 999
  · by_cases h2 : (0 : Int32) ≤ b ∧ b ≤ 1
    · obtain ⟨f, hf, rfl⟩ := am_rng (N := 999) rfl (by decide) h1
      obtain ⟨w, hw, rfl⟩ := am_rng (N := 1) rfl (by decide) h2
      have hfl := sp_fm_le (n := u 6) (f := f) (S := sp_H u) (sp_N_le hO) hf
      have em : (((1 : Int32) <<< (I 67 6 &&& 31)) - 1) &&& (nI (fedN u) ^^^ (-1)) = nI (sp_H u) := by
        rw [m6, am_isset c1]
        exact and64 _ (by omega) _ (fedN_lt hO.fed)
      have ref : ∀ v : Int32, (∀ I' : am_I, I' 66 16 = nI (sp_fm (sp_N u) (u 6) f (sp_H u)) → (sp_H u ≠ 0 → sp_ff (sp_cf (sp_N u) (u 6) f (sp_H u)) (sp_H u) (sp_fm (sp_N u) (u 6) f (sp_H u)) (u 6) 0 < u 6 ∧ I' 66 17 = nI (sp_ff (sp_cf (sp_N u) (u 6) f (sp_H u)) (sp_H u) (sp_fm (sp_N u) (u 6) f (sp_H u)) (u 6) 0)) → v = (if w = 0 then I' 66 16 else if sp_H u = 0 then -3 else I' 66 17)) → J 40 q_M_rounds 0 (am_ents q_M_rounds [.ref 66, .int (nI f), .int (nI w)]) [] I (fun r2 I2 => r2 = some (.int v) ∧ Qc I2) := by
        intro v hv
        refine am_vc hJ 60 _ _ _ _ _ _ _ ?_
        refine m_in1Y hJ h1 ?_
        refine br_f (by decide) ?_
        refine m_in1Y hJ h2 ?_
        refine br_f (by decide) ?_
        refine ⟨am_vin (by decide), ?_⟩
        refine m_thoseFed hJ hM hO ?_
        conv => whnf
        rw [show (fun (x y : Int32) => x &&& y) ((fun (x y : Int32) => x - y) ((fun (x y : Int32) => x <<< (y &&& 31)) 1 (I 67 (Int32.toNatClampNeg 6))) 1) ((fun (x y : Int32) => x ^^^ y) (nI (fedN u)) (-1)) = nI (sp_H u) from em]
        refine m_goesTop (d := 31) hJ hO hH hf (hM.kept (am_put_o (by decide))) put_at (fun I1 F1 L1 G1 => ?_)
        have hv1 := hv I1 L1 G1
        have hInv : Inv I1 := Inv.plans hMn hK hRs (fun o _ o6 _ => by rw [F1.1 o o6, am_put_o o6]) (fun j hj => by
          have : ∀ j ∈ [3, 6, 29, 36], j ≠ 16 ∧ j ≠ 17 := by decide
          obtain ⟨j1, j2⟩ := this j hj
          rw [F1.2 j j1 j2, put_nk j1]) (hM.kept (by rw [F1.1 67 (by decide), am_put_o (by decide)]))
        by_cases g : w = 0
        · refine br_t (by show nI w = 0; rw [g]; rfl) ?_
          rw [if_pos g] at hv1
          refine ⟨?_, hQc _ hInv⟩
          rw [hv1]
        · refine br_f (by show ¬ nI w = 0; exact nI_ne0 (by omega) (by omega)) ?_
          rw [if_neg g] at hv1
          by_cases g0 : sp_H u = 0
          · refine br_t (by show nI (sp_H u) = 0; rw [g0]; rfl) ?_
            rw [if_pos g0] at hv1
            refine ⟨?_, hQc _ hInv⟩
            rw [hv1]
          · refine br_f (by show ¬ nI (sp_H u) = 0; exact nI_ne0 (by omega) (by omega)) ?_
            rw [if_neg g0] at hv1
            refine ⟨?_, hQc _ hInv⟩
            rw [hv1]
      refine am_vcc hJ [51] 200 _ _ _ _ _ _ _ ?_
      refine x_withinY hJ h1 ?_
      refine br_f (by decide) ?_
      refine x_withinY hJ h2 ?_
      refine br_f (by decide) ?_
      refine x_hungry hJ hR.1 hC hO ?_
      refine x_partsOver hJ hR.1 hO hf hH ?_
      by_cases g : w = 0
      · refine br_t (by show nI w = 0; rw [g]; rfl) ?_
        refine ⟨_, rfl, ?_⟩
        refine ref _ (fun I' e1 _ => ?_)
        rw [if_pos g, e1]
      · refine br_f (by show ¬ nI w = 0; exact nI_ne0 (by omega) (by omega)) ?_
        refine x_rounds_loop (d := 37) (w := sp_ff (sp_cf (sp_N u) (u 6) f (sp_H u)) (sp_H u) (sp_fm (sp_N u) (u 6) f (sp_H u)) (u 6) 0) hJ hR.1 hO hf hH (by omega) ?_ (u 6) 0 _ (Nat.zero_add _) rfl
        refine ⟨_, rfl, ?_⟩
        refine ref _ (fun I' e1 e2 => ?_)
        rw [if_neg g]
        by_cases g0 : sp_H u = 0
        · rw [if_pos g0, if_neg]
          have : ∀ (c : Nat → Nat) (m n k : Nat), sp_ff c 0 m n k = n + k := by
            intro c m n
            induction n with
            | zero => intro k; show k = 0 + k; omega
            | succ n ih =>
              intro k
              rw [sp_ff_succ, if_neg (fun z => by rw [Nat.zero_testBit] at z; cases z.1), ih]
              omega
          rw [g0, this]
          omega
        · obtain ⟨e3, e4⟩ := e2 g0
          rw [if_neg g0, if_pos e3, e4]
    · repeat (
        (try conv => whnf)
        first
          | refine ⟨am_vin (by decide), ?_⟩
          | refine ⟨(by assumption : vp_in _ _), ?_⟩
          | refine br_f (by decide) ?_
          | refine br_t (by decide) ?_
          | refine br_t (by assumption) ?_
          | refine br_f (by assumption) ?_
          | refine x_withinY hJ (by assumption) ?_
          | refine x_withinN hJ (by assumption) ?_
          | refine m_in1Y hJ (by assumption) ?_
          | refine m_in1N hJ (by assumption) ?_
          | refine m_isGateY hJ (by assumption) ?_
          | refine m_isGateN hJ (by assumption) ?_
          | refine m_isDigitY hJ (by assumption) ?_
          | refine m_isDigitN hJ (by assumption) ?_
          | refine m_isNeedY hJ (by assumption) ?_
          | refine m_isNeedN hJ (by assumption) ?_
          | refine m_isPlanY hJ (by assumption) ?_
          | refine m_isPlanN hJ (by assumption) ?_
          | refine m_isSheetY hJ (by assumption) ?_
          | refine m_isSheetN hJ (by assumption) ?_
          | refine x_isSheetY hJ (by assumption) ?_
          | refine x_isSheetN hJ (by assumption) ?_
          | refine x_isShelfY hJ (by assumption) ?_
          | refine x_isShelfN hJ (by assumption) ?_
          | refine x_hasY hJ (by assumption) (by assumption) (by assumption) ?_
          | refine x_hasN hJ (by assumption) (by assumption) (by assumption) ?_
          | refine m_isPersonY hJ (by assumption) (by assumption) (by assumption) ?_
          | refine m_isPersonN hJ (by assumption) (by assumption) (by assumption) ?_
          | refine am_vc hJ 120 40 _ _ _ _ _ _ ?_
          | refine ⟨_, rfl, ?_⟩)
      exact ⟨rfl, hQc _ hI⟩
  · repeat (
      (try conv => whnf)
      first
        | refine ⟨am_vin (by decide), ?_⟩
        | refine ⟨(by assumption : vp_in _ _), ?_⟩
        | refine br_f (by decide) ?_
        | refine br_t (by decide) ?_
        | refine br_t (by assumption) ?_
        | refine br_f (by assumption) ?_
        | refine x_withinY hJ (by assumption) ?_
        | refine x_withinN hJ (by assumption) ?_
        | refine m_in1Y hJ (by assumption) ?_
        | refine m_in1N hJ (by assumption) ?_
        | refine m_isGateY hJ (by assumption) ?_
        | refine m_isGateN hJ (by assumption) ?_
        | refine m_isDigitY hJ (by assumption) ?_
        | refine m_isDigitN hJ (by assumption) ?_
        | refine m_isNeedY hJ (by assumption) ?_
        | refine m_isNeedN hJ (by assumption) ?_
        | refine m_isPlanY hJ (by assumption) ?_
        | refine m_isPlanN hJ (by assumption) ?_
        | refine m_isSheetY hJ (by assumption) ?_
        | refine m_isSheetN hJ (by assumption) ?_
        | refine x_isSheetY hJ (by assumption) ?_
        | refine x_isSheetN hJ (by assumption) ?_
        | refine x_isShelfY hJ (by assumption) ?_
        | refine x_isShelfN hJ (by assumption) ?_
        | refine x_hasY hJ (by assumption) (by assumption) (by assumption) ?_
        | refine x_hasN hJ (by assumption) (by assumption) (by assumption) ?_
        | refine m_isPersonY hJ (by assumption) (by assumption) (by assumption) ?_
        | refine m_isPersonN hJ (by assumption) (by assumption) (by assumption) ?_
        | refine am_vc hJ 120 40 _ _ _ _ _ _ ?_
        | refine ⟨_, rfl, ?_⟩)
    exact ⟨rfl, hQc _ hI⟩
end
