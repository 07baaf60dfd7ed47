/-! WILLOF IN THE CLASS -/
def sp_F (u : am_U) (k : Nat) : Nat → Nat := sp_known u (sp_still u k) k
def sp_wl (u : am_U) (kd : Nat) (F : Nat → Nat) : Nat → Nat → Nat
  | 0, _ => 0
  | n + 1, r => if sp_under kd (u (98 + 3 * r)) && sp_holds u r F then u (98 + 3 * r + 1) else sp_wl u kd F n (r + 1)
theorem sp_wl_succ (u : am_U) (kd : Nat) (F : Nat → Nat) (n r : Nat) : sp_wl u kd F (n + 1) r = if (sp_under kd (u (98 + 3 * r)) && sp_holds u r F) = true then u (98 + 3 * r + 1) else sp_wl u kd F n (r + 1) := rfl
def sp_will (u : am_U) (k : Nat) : Nat := sp_wl u (u (38 + 6 * k)) (sp_F u k) (u 7) 0
theorem sp_wl_le {u : am_U} (h : OKu u) {kd : Nat} {F : Nat → Nat} : ∀ (n r : Nat), r + n ≤ 8 → sp_wl u kd F n r ≤ 2
  | 0, _, _ => by simp [sp_wl]
  | n + 1, r, hr => by
    unfold sp_wl
    split
    · have t : ∀ r, r < 8 → (99 + 3 * r, 2) ∈ OKb := by decide +kernel
      have := h.1 _ (t r (by omega))
      rw [show 98 + 3 * r + 1 = 99 + 3 * r by omega]
      exact this
    · exact sp_wl_le h n (r + 1) (by omega)
theorem sp_will_le {u : am_U} (h : OKu u) (k : Nat) : sp_will u k ≤ 2 := sp_wl_le h _ 0 (by have := h.Cn; omega)
theorem OKu.Ru {u : am_U} (h : OKu u) {r : Nat} (hr : r < 8) : u (98 + 3 * r) ≤ 5 := by
  have t : ∀ r, r < 8 → (98 + 3 * r, 5) ∈ OKb := by decide +kernel
  exact h.1 _ (t r hr)
theorem sp_F_lt {u : am_U} (h : OKu u) {k : Nat} (hk : k < 6) : ∀ j, sp_F u k j < 2 ^ 20 := by
  intro j
  obtain ⟨c1, c2, c3, c4, c5, c6, c7⟩ := h.Cn
  obtain ⟨p1, p2, p3, p4, p5, p6⟩ := h.P hk
  have := sp_still_le h hk
  unfold sp_F sp_known
  split
  · omega
  · split
    · omega
    · split
      · omega
      · split <;> omega
section
variable {L : Nat} {xs : Nat → Int32} {J : am_J} {d : Nat} {Q : am_Q}
theorem x_will_loop (hJ : am_Cl am_meth L xs J) {I : am_I} {F : Nat → Nat} {k : Nat} {u : am_U} {cv sv : Value} (hR : Rel (TR 8) I u) (hO : OKu u) (hk : k < 6) (hF : FactsR I F) {at' : Nat → Nat} (hru : ∀ r, r < u 7 → RuR1 (I 17) u r (at' r) ∧ I 17 (at' r + 2) = nI (at' (r + 1) - at' r - 3) ∧ (at' r + 3 ≤ at' (r + 1) ∧ at' (r + 1) ≤ 200) ∧ sp_beg u r ≤ sp_end u r ∧ sp_end u r ≤ 200) (w : Nat) (h : Q (some (.int (nI w))) I) : ∀ (n r : Nat) (z : Option Value), r + n = u 7 → w = sp_wl u (u (38 + 6 * k)) F n r → J (d + 3) q_Road_willOf 52 [some (.ref 8), some cv, some (.int (nI k)), some sv, some (.int (nI (at' r))), some (.int (nI r)), z] [] I Q
  | 0, r, z, hr, hw => by
    have e7 : I 8 12 = nI (u 7) := hR.get 8 12 7 (by decide +kernel)
    have h7 := hO.Cn
    refine am_vcl hJ [52] 200 ?_
    refine br_t (by show I 8 12 ≤ nI r; rw [e7]; exact nI_le (by omega) (by omega)) ?_
    have e0 : w = 0 := hw
    rw [e0] at h
    exact h
  | n + 1, r, z, hr, hw => by
    have e7 : I 8 12 = nI (u 7) := hR.get 8 12 7 (by decide +kernel)
    obtain ⟨c1, c2, c3, c4, c5, c6, c7⟩ := hO.Cn
    obtain ⟨p1, p2, p3, p4, p5, p6⟩ := hO.P hk
    have hrr : r < u 7 := by omega
    obtain ⟨⟨len, cs, g1, g2, g3, g4, g5, g6, g7⟩, g8, g9, g10, g11⟩ := hru r hrr
    obtain ⟨at0, ha⟩ : ∃ a, at' r = a := ⟨_, rfl⟩
    rw [ha] at g1 g3 g4 g5 g6 g8 g9
    have hlen : at' (r + 1) = at0 + 3 + len := by
      have := g8.symm.trans g5
      rw [nI_eq (by omega) (by omega)] at this
      omega
    have k5 := hO.Ru (r := r) (by omega)
    rw [ha]
    have ih := x_will_loop hJ (cv := cv) (sv := sv) hR hO hk hF hru w h n (r + 1) (some (.int (nI len))) (by omega)
    have ea3 : nI at0 + 3 = nI (at0 + 3) := nI_add at0 3
    have ea2 : nI at0 + 2 = nI (at0 + 2) := nI_add at0 2
    have ea1 : nI at0 + 1 = nI (at0 + 1) := nI_add at0 1
    have el : I 17 (nI at0 + 2).toNatClampNeg = nI len := by rw [am_clN ea2 (by omega)]; exact g5
    have ek : I 10 (nI k).toNatClampNeg = nI (u (38 + 6 * k)) := by rw [nI_clamp (by omega), hR.get 10 k _ (TR8_p k hk).1]
    have ekk : I 17 (nI at0).toNatClampNeg = nI (u (98 + 3 * r)) := by rw [nI_clamp (by omega)]; exact g3
    have e1 : I 17 (nI at0 + 1).toNatClampNeg = nI (u (98 + 3 * r + 1)) := by rw [am_clN ea1 (by omega)]; exact g4
    have next : ∀ (hne : (sp_under (u (38 + 6 * k)) (u (98 + 3 * r)) && sp_holds u r F) = false), J (d + 3) q_Road_willOf 126 [some (.ref 8), some cv, some (.int (nI k)), some sv, some (.int (nI at0)), some (.int (nI r)), some (.int (nI len))] [] I Q := by
      intro hne
      have k9 := ih (by rw [hw, sp_wl_succ, hne]; exact if_neg Bool.false_ne_true)
      have en : nI at0 + (3 + nI len) = nI (at' (r + 1)) := by rw [show (3 : Int32) = nI 3 from rfl, nI_add, nI_add, hlen]; congr 1; omega
      have er : nI r + 1 = nI (r + 1) := nI_1 r
      rw [← en, ← er] at k9
      refine am_vcc hJ [52] 200 _ _ _ _ _ _ _ ?_
      exact k9
    have hwy : (sp_under (u (38 + 6 * k)) (u (98 + 3 * r)) && sp_holds u r F) = true → w = u (98 + 3 * r + 1) := by
      intro z
      rw [hw, sp_wl_succ, z]
      exact if_pos rfl
    refine am_vcl hJ [52, 126] 200 ?_
    refine br_f (by show ¬ I 8 12 ≤ nI r; rw [e7]; exact nI_ge (by omega) (by omega)) ?_
    refine br_f (by show ¬ nI 200 < nI at0 + 3; rw [ea3, nI_ltI (by omega) (by omega)]; omega) ?_
    refine ⟨am_vinN ea2 (by omega) (by omega), vp_in_nI (by omega) (by omega), vp_in_nI (by omega) (by omega), ?_⟩
    conv => whnf
    rw [el, ek, ekk]
    refine x_isOrIsUnder hJ p1 k5 (fun hy => ?_) (fun hnn => ?_)
    · refine br_f (by decide) ?_
      conv => whnf
      show J (d + 2) q_Road_holds 0 [some (.ref 8), some (.int (nI at0 + 3)), some (.int (nI len)), none, none, none, none, none] [] I _
      rw [ea3]
      have hsem : (len = 0 ∧ sp_holds u r F = true) ∨ sp_hc F cs [] = some [sp_holds u r F] := by
        rcases g7 F with ⟨q1, q2⟩ | ⟨x, q1, q2⟩
        · left
          refine ⟨q1, ?_⟩
          unfold sp_holds
          rw [q2]
          rfl
        · right
          have : sp_holds u r F = x := by
            unfold sp_holds
            rw [q2]
            cases x <;> rfl
          rw [this]
          exact q1
      refine x_holds hJ hF g1 g2 g6 hsem (fun ht => ?_) (fun hf => ?_)
      · refine br_f (by decide) ?_
        refine ⟨am_vinN ea1 (by omega) (by omega), ?_⟩
        have ew := hwy (by rw [hy, ht]; rfl)
        show Q (some (.int (I 17 (nI at0 + 1).toNatClampNeg))) I
        rw [e1, ← ew]
        exact h
      · refine br_t (by decide) ?_
        exact next (by rw [hf]; simp)
    · refine br_t (by decide) ?_
      exact next (by rw [hnn]; rfl)
theorem x_willOf (hJ : am_Cl am_meth L xs J) {I : am_I} {c k : Nat} {u : am_U} (hc : c ∈ am_cl) (hR : RRep I 8 u) (hC : CRep I c u) (hO : OKu u) (hk : k < 6) (h : ∀ I', (∀ o, o ≠ 18 → I' o = I o) → Q (some (.int (nI (sp_will u k)))) I') {z1 z2 z3 : Option Value} : J (d + 3) q_Road_willOf 0 [some (.ref 8), some (.ref c), some (.int (nI k)), some (.int (nI (sp_still u k))), z1, z2, z3] [] I Q := by
  obtain ⟨c1, c2, c3, c4, c5, c6, c7⟩ := hO.Cn
  obtain ⟨hR1, at', h0, hru⟩ := hR
  have hne := am_clN0 c hc
  have et : I 12 (nI k).toNatClampNeg = nI (u (40 + 6 * k)) := by rw [nI_clamp (by omega), hR1.get 12 k _ (TR8_p k hk).2.2.1]
  obtain ⟨d0, d1, d2, d3⟩ := hC.day
  have fin : ∀ I' : am_I, I' = am_put (am_put (am_put (am_put (am_put I 18 0 (nI (u 0))) 18 1 (nI (u (40 + 6 * k)))) 18 2 (nI (sp_still u k))) 18 3 (nI (u 3))) 18 4 (nI k) → J (d + 3) q_Road_willOf 52 [some (.ref 8), some (.ref c), some (.int (nI k)), some (.int (nI (sp_still u k))), some (.int 0), some (.int 0), z3] [] I' Q := by
    intro I' hI'
    have off : ∀ o, o ≠ 18 → I' o = I o := fun o ho => by rw [hI', am_put_o ho, am_put_o ho, am_put_o ho, am_put_o ho, am_put_o ho]
    have hR' : Rel (TR 8) I' u := hR1.kept (fun t ht => off _ (by
      have : ∀ t ∈ TR 8, t.1 ≠ 18 := by decide +kernel
      exact this t ht))
    have hF : FactsR I' (sp_F u k) := by
      intro j hj
      refine ⟨?_, sp_F_lt hO hk j⟩
      rcases (show j = 0 ∨ j = 1 ∨ j = 2 ∨ j = 3 ∨ j = 4 by omega) with rfl | rfl | rfl | rfl | rfl
      · rw [hI', put_nk (by decide), put_nk (by decide), put_nk (by decide), put_nk (by decide), put_at]; rfl
      · rw [hI', put_nk (by decide), put_nk (by decide), put_nk (by decide), put_at]; rfl
      · rw [hI', put_nk (by decide), put_nk (by decide), put_at]; rfl
      · rw [hI', put_nk (by decide), put_at]; rfl
      · rw [hI', put_at]; rfl
    have e17 : I' 17 = I 17 := off 17 (by decide)
    have hru' : ∀ r, r < u 7 → RuR1 (I' 17) u r (at' r) ∧ I' 17 (at' r + 2) = nI (at' (r + 1) - at' r - 3) ∧ (at' r + 3 ≤ at' (r + 1) ∧ at' (r + 1) ≤ 200) ∧ sp_beg u r ≤ sp_end u r ∧ sp_end u r ≤ 200 := by
      rw [e17]
      exact hru
    have k9 := x_will_loop (d := d) hJ (cv := .ref c) (sv := .int (nI (sp_still u k))) hR' hO hk hF hru' (sp_will u k) (h I' off) (u 7) 0 z3 (by omega) rfl
    rw [h0] at k9
    exact k9
  refine am_vcc hJ [52] 200 _ _ _ _ _ _ _ ?_
  conv => whnf
  rw [am_clG c hc]
  refine ⟨am_vin (by decide), vp_in_nI (by omega) (by omega), am_vin (by decide), am_vin (by decide), ?_⟩
  conv => whnf
  rw [am_clG c hc]
  refine ⟨am_vin (by decide), am_vin (by decide), ?_⟩
  conv => whnf
  show J (d + 3) q_Road_willOf 52 [some (.ref 8), some (.ref c), some (.int (nI k)), some (.int (nI (sp_still u k))), some (.int 0), some (.int 0), z3] [] (am_put (am_put (am_put (am_put (am_put I 18 0 (I c 0)) 18 1 (I 12 (nI k).toNatClampNeg)) 18 2 (nI (sp_still u k))) 18 3 (am_put (am_put (am_put I 18 0 (I c 0)) 18 1 (I 12 (nI k).toNatClampNeg)) 18 2 (nI (sp_still u k)) c 1)) 18 4 (nI k)) Q
  rw [am_put_o (o' := c) hne.2.2, am_put_o (o' := c) hne.2.2, am_put_o (o' := c) hne.2.2, d0, et, d1]
  exact fin _ rfl
end
