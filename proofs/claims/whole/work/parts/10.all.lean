def am_P (mi : Nat) (M : am_M) : Prop := am_okM mi M ∧ (M.1.cls ≠ "BrokenLoavesLaw" → Cond.code M.1 M.2.1 M.2.2.1 M.2.2.2.1 ∈ am_tb)
def am_Pl (k : Nat) (l : List am_M) : Prop := ∀ (j : Nat) (M : am_M), am_nth l j = some M → am_P (k + j) M
theorem am_Pl_n (k : Nat) : am_Pl k [] := fun _ _ h => by simp [am_nth] at h
theorem am_Pl_c {k : Nat} {x : am_M} {l : List am_M} (h : am_P k x) (hl : am_Pl (k + 1) l) : am_Pl k (x :: l)
  | 0, M, e => by
    simp only [am_nth, Option.some.injEq] at e
    subst e
    exact h
  | j + 1, M, e => by
    have := hl j M e
    rw [show k + (j + 1) = k + 1 + j by omega]
    exact this
def am_Pll (k : Nat) (ls : List (List am_M)) : Prop := ∀ (q : Nat) (l : List am_M), am_nth ls q = some l → am_Pl (16 * (k + q)) l
theorem am_Pll_n (k : Nat) : am_Pll k [] := fun _ _ h => by simp [am_nth] at h
theorem am_Pll_c {k : Nat} {x : List am_M} {l : List (List am_M)} (h : am_Pl (16 * k) x) (hl : am_Pll (k + 1) l) : am_Pll k (x :: l)
  | 0, M, e => by
    simp only [am_nth, Option.some.injEq] at e
    subst e
    exact h
  | j + 1, M, e => by
    have := hl j M e
    rw [show k + (j + 1) = k + 1 + j by omega]
    exact this
theorem cw_0 : Cond.code mm_0.1 mm_0.2.1 mm_0.2.2.1 mm_0.2.2.2.1 ∈ am_tb := am_at_in (p := 953) (by decide +kernel)
theorem pk_0 : am_P 0 mm_0 := ⟨ok_0, fun _ => cw_0⟩
theorem cw_1 : Cond.code mm_1.1 mm_1.2.1 mm_1.2.2.1 mm_1.2.2.2.1 ∈ am_tb := am_at_in (p := 1013) (by decide +kernel)
theorem pk_1 : am_P 1 mm_1 := ⟨ok_1, fun _ => cw_1⟩
theorem cw_2 : Cond.code mm_2.1 mm_2.2.1 mm_2.2.2.1 mm_2.2.2.2.1 ∈ am_tb := am_at_in (p := 213) (by decide +kernel)
theorem pk_2 : am_P 2 mm_2 := ⟨ok_2, fun _ => cw_2⟩
theorem cw_3 : Cond.code mm_3.1 mm_3.2.1 mm_3.2.2.1 mm_3.2.2.2.1 ∈ am_tb := am_at_in (p := 502) (by decide +kernel)
theorem pk_3 : am_P 3 mm_3 := ⟨ok_3, fun _ => cw_3⟩
theorem cw_4 : Cond.code mm_4.1 mm_4.2.1 mm_4.2.2.1 mm_4.2.2.2.1 ∈ am_tb := am_at_in (p := 532) (by decide +kernel)
theorem pk_4 : am_P 4 mm_4 := ⟨ok_4, fun _ => cw_4⟩
theorem cw_5 : Cond.code mm_5.1 mm_5.2.1 mm_5.2.2.1 mm_5.2.2.2.1 ∈ am_tb := am_at_in (p := 1140) (by decide +kernel)
theorem pk_5 : am_P 5 mm_5 := ⟨ok_5, fun _ => cw_5⟩
theorem cw_6 : Cond.code mm_6.1 mm_6.2.1 mm_6.2.2.1 mm_6.2.2.2.1 ∈ am_tb := am_at_in (p := 1205) (by decide +kernel)
theorem pk_6 : am_P 6 mm_6 := ⟨ok_6, fun _ => cw_6⟩
theorem cw_7 : Cond.code mm_7.1 mm_7.2.1 mm_7.2.2.1 mm_7.2.2.2.1 ∈ am_tb := am_at_in (p := 837) (by decide +kernel)
theorem pk_7 : am_P 7 mm_7 := ⟨ok_7, fun _ => cw_7⟩
theorem cw_8 : Cond.code mm_8.1 mm_8.2.1 mm_8.2.2.1 mm_8.2.2.2.1 ∈ am_tb := am_at_in (p := 624) (by decide +kernel)
theorem pk_8 : am_P 8 mm_8 := ⟨ok_8, fun _ => cw_8⟩
theorem cw_9 : Cond.code mm_9.1 mm_9.2.1 mm_9.2.2.1 mm_9.2.2.2.1 ∈ am_tb := am_at_in (p := 483) (by decide +kernel)
theorem pk_9 : am_P 9 mm_9 := ⟨ok_9, fun _ => cw_9⟩
theorem cw_10 : Cond.code mm_10.1 mm_10.2.1 mm_10.2.2.1 mm_10.2.2.2.1 ∈ am_tb := am_at_in (p := 588) (by decide +kernel)
theorem pk_10 : am_P 10 mm_10 := ⟨ok_10, fun _ => cw_10⟩
theorem cw_11 : Cond.code mm_11.1 mm_11.2.1 mm_11.2.2.1 mm_11.2.2.2.1 ∈ am_tb := am_at_in (p := 487) (by decide +kernel)
theorem pk_11 : am_P 11 mm_11 := ⟨ok_11, fun _ => cw_11⟩
theorem cw_12 : Cond.code mm_12.1 mm_12.2.1 mm_12.2.2.1 mm_12.2.2.2.1 ∈ am_tb := am_at_in (p := 592) (by decide +kernel)
theorem pk_12 : am_P 12 mm_12 := ⟨ok_12, fun _ => cw_12⟩
theorem cw_13 : Cond.code mm_13.1 mm_13.2.1 mm_13.2.2.1 mm_13.2.2.2.1 ∈ am_tb := am_at_in (p := 636) (by decide +kernel)
theorem pk_13 : am_P 13 mm_13 := ⟨ok_13, fun _ => cw_13⟩
theorem cw_14 : Cond.code mm_14.1 mm_14.2.1 mm_14.2.2.1 mm_14.2.2.2.1 ∈ am_tb := am_at_in (p := 1129) (by decide +kernel)
theorem pk_14 : am_P 14 mm_14 := ⟨ok_14, fun _ => cw_14⟩
theorem cw_15 : Cond.code mm_15.1 mm_15.2.1 mm_15.2.2.1 mm_15.2.2.2.1 ∈ am_tb := am_at_in (p := 1133) (by decide +kernel)
theorem pk_15 : am_P 15 mm_15 := ⟨ok_15, fun _ => cw_15⟩
theorem cw_16 : Cond.code mm_16.1 mm_16.2.1 mm_16.2.2.1 mm_16.2.2.2.1 ∈ am_tb := am_at_in (p := 1144) (by decide +kernel)
theorem pk_16 : am_P 16 mm_16 := ⟨ok_16, fun _ => cw_16⟩
theorem cw_17 : Cond.code mm_17.1 mm_17.2.1 mm_17.2.2.1 mm_17.2.2.2.1 ∈ am_tb := am_at_in (p := 509) (by decide +kernel)
theorem pk_17 : am_P 17 mm_17 := ⟨ok_17, fun _ => cw_17⟩
theorem cw_18 : Cond.code mm_18.1 mm_18.2.1 mm_18.2.2.1 mm_18.2.2.2.1 ∈ am_tb := am_at_in (p := 539) (by decide +kernel)
theorem pk_18 : am_P 18 mm_18 := ⟨ok_18, fun _ => cw_18⟩
theorem cw_19 : Cond.code mm_19.1 mm_19.2.1 mm_19.2.2.1 mm_19.2.2.2.1 ∈ am_tb := am_at_in (p := 1186) (by decide +kernel)
theorem pk_19 : am_P 19 mm_19 := ⟨ok_19, fun _ => cw_19⟩
theorem cw_20 : Cond.code mm_20.1 mm_20.2.1 mm_20.2.2.1 mm_20.2.2.2.1 ∈ am_tb := am_at_in (p := 520) (by decide +kernel)
theorem pk_20 : am_P 20 mm_20 := ⟨ok_20, fun _ => cw_20⟩
theorem cw_21 : Cond.code mm_21.1 mm_21.2.1 mm_21.2.2.1 mm_21.2.2.2.1 ∈ am_tb := am_at_in (p := 550) (by decide +kernel)
theorem pk_21 : am_P 21 mm_21 := ⟨ok_21, fun _ => cw_21⟩
theorem cw_22 : Cond.code mm_22.1 mm_22.2.1 mm_22.2.2.1 mm_22.2.2.2.1 ∈ am_tb := am_at_in (p := 1156) (by decide +kernel)
theorem pk_22 : am_P 22 mm_22 := ⟨ok_22, fun _ => cw_22⟩
theorem cw_23 : Cond.code mm_23.1 mm_23.2.1 mm_23.2.2.1 mm_23.2.2.2.1 ∈ am_tb := am_at_in (p := 1177) (by decide +kernel)
theorem pk_23 : am_P 23 mm_23 := ⟨ok_23, fun _ => cw_23⟩
theorem cw_24 : Cond.code mm_24.1 mm_24.2.1 mm_24.2.2.1 mm_24.2.2.2.1 ∈ am_tb := am_at_in (p := 1198) (by decide +kernel)
theorem pk_24 : am_P 24 mm_24 := ⟨ok_24, fun _ => cw_24⟩
theorem cw_25 : Cond.code mm_25.1 mm_25.2.1 mm_25.2.2.1 mm_25.2.2.2.1 ∈ am_tb := am_at_in (p := 1217) (by decide +kernel)
theorem pk_25 : am_P 25 mm_25 := ⟨ok_25, fun _ => cw_25⟩
theorem cw_26 : Cond.code mm_26.1 mm_26.2.1 mm_26.2.2.1 mm_26.2.2.2.1 ∈ am_tb := am_at_in (p := 505) (by decide +kernel)
theorem pk_26 : am_P 26 mm_26 := ⟨ok_26, fun _ => cw_26⟩
theorem cw_27 : Cond.code mm_27.1 mm_27.2.1 mm_27.2.2.1 mm_27.2.2.2.1 ∈ am_tb := am_at_in (p := 535) (by decide +kernel)
theorem pk_27 : am_P 27 mm_27 := ⟨ok_27, fun _ => cw_27⟩
theorem cw_28 : Cond.code mm_28.1 mm_28.2.1 mm_28.2.2.1 mm_28.2.2.2.1 ∈ am_tb := am_at_in (p := 1164) (by decide +kernel)
theorem pk_28 : am_P 28 mm_28 := ⟨ok_28, fun _ => cw_28⟩
theorem cw_29 : Cond.code mm_29.1 mm_29.2.1 mm_29.2.2.1 mm_29.2.2.2.1 ∈ am_tb := am_at_in (p := 914) (by decide +kernel)
theorem pk_29 : am_P 29 mm_29 := ⟨ok_29, fun _ => cw_29⟩
theorem cw_30 : Cond.code mm_30.1 mm_30.2.1 mm_30.2.2.1 mm_30.2.2.2.1 ∈ am_tb := am_at_in (p := 910) (by decide +kernel)
theorem pk_30 : am_P 30 mm_30 := ⟨ok_30, fun _ => cw_30⟩
theorem cw_31 : Cond.code mm_31.1 mm_31.2.1 mm_31.2.2.1 mm_31.2.2.2.1 ∈ am_tb := am_at_in (p := 921) (by decide +kernel)
theorem pk_31 : am_P 31 mm_31 := ⟨ok_31, fun _ => cw_31⟩
theorem cw_32 : Cond.code mm_32.1 mm_32.2.1 mm_32.2.2.1 mm_32.2.2.2.1 ∈ am_tb := am_at_in (p := 925) (by decide +kernel)
theorem pk_32 : am_P 32 mm_32 := ⟨ok_32, fun _ => cw_32⟩
theorem cw_33 : Cond.code mm_33.1 mm_33.2.1 mm_33.2.2.1 mm_33.2.2.2.1 ∈ am_tb := am_at_in (p := 962) (by decide +kernel)
theorem pk_33 : am_P 33 mm_33 := ⟨ok_33, fun _ => cw_33⟩
theorem cw_34 : Cond.code mm_34.1 mm_34.2.1 mm_34.2.2.1 mm_34.2.2.2.1 ∈ am_tb := am_at_in (p := 966) (by decide +kernel)
theorem pk_34 : am_P 34 mm_34 := ⟨ok_34, fun _ => cw_34⟩
theorem cw_35 : Cond.code mm_35.1 mm_35.2.1 mm_35.2.2.1 mm_35.2.2.2.1 ∈ am_tb := am_at_in (p := 1235) (by decide +kernel)
theorem pk_35 : am_P 35 mm_35 := ⟨ok_35, fun _ => cw_35⟩
theorem cw_36 : Cond.code mm_36.1 mm_36.2.1 mm_36.2.2.1 mm_36.2.2.2.1 ∈ am_tb := am_at_in (p := 787) (by decide +kernel)
theorem pk_36 : am_P 36 mm_36 := ⟨ok_36, fun _ => cw_36⟩
theorem cw_37 : Cond.code mm_37.1 mm_37.2.1 mm_37.2.2.1 mm_37.2.2.2.1 ∈ am_tb := am_at_in (p := 784) (by decide +kernel)
theorem pk_37 : am_P 37 mm_37 := ⟨ok_37, fun _ => cw_37⟩
theorem cw_38 : Cond.code mm_38.1 mm_38.2.1 mm_38.2.2.1 mm_38.2.2.2.1 ∈ am_tb := am_at_in (p := 478) (by decide +kernel)
theorem pk_38 : am_P 38 mm_38 := ⟨ok_38, fun _ => cw_38⟩
theorem cw_39 : Cond.code mm_39.1 mm_39.2.1 mm_39.2.2.1 mm_39.2.2.2.1 ∈ am_tb := am_at_in (p := 1063) (by decide +kernel)
theorem pk_39 : am_P 39 mm_39 := ⟨ok_39, fun _ => cw_39⟩
theorem cw_40 : Cond.code mm_40.1 mm_40.2.1 mm_40.2.2.1 mm_40.2.2.2.1 ∈ am_tb := am_at_in (p := 632) (by decide +kernel)
theorem pk_40 : am_P 40 mm_40 := ⟨ok_40, fun _ => cw_40⟩
theorem cw_41 : Cond.code mm_41.1 mm_41.2.1 mm_41.2.2.1 mm_41.2.2.2.1 ∈ am_tb := am_at_in (p := 841) (by decide +kernel)
theorem pk_41 : am_P 41 mm_41 := ⟨ok_41, fun _ => cw_41⟩
theorem cw_42 : Cond.code mm_42.1 mm_42.2.1 mm_42.2.2.1 mm_42.2.2.2.1 ∈ am_tb := am_at_in (p := 495) (by decide +kernel)
theorem pk_42 : am_P 42 mm_42 := ⟨ok_42, fun _ => cw_42⟩
theorem cw_43 : Cond.code mm_43.1 mm_43.2.1 mm_43.2.2.1 mm_43.2.2.2.1 ∈ am_tb := am_at_in (p := 576) (by decide +kernel)
theorem pk_43 : am_P 43 mm_43 := ⟨ok_43, fun _ => cw_43⟩
theorem cw_44 : Cond.code mm_44.1 mm_44.2.1 mm_44.2.2.1 mm_44.2.2.2.1 ∈ am_tb := am_at_in (p := 491) (by decide +kernel)
theorem pk_44 : am_P 44 mm_44 := ⟨ok_44, fun _ => cw_44⟩
theorem cw_45 : Cond.code mm_45.1 mm_45.2.1 mm_45.2.2.1 mm_45.2.2.2.1 ∈ am_tb := am_at_in (p := 557) (by decide +kernel)
theorem pk_45 : am_P 45 mm_45 := ⟨ok_45, fun _ => cw_45⟩
theorem cw_46 : Cond.code mm_46.1 mm_46.2.1 mm_46.2.2.1 mm_46.2.2.2.1 ∈ am_tb := am_at_in (p := 802) (by decide +kernel)
theorem pk_46 : am_P 46 mm_46 := ⟨ok_46, fun _ => cw_46⟩
theorem cw_47 : Cond.code mm_47.1 mm_47.2.1 mm_47.2.2.1 mm_47.2.2.2.1 ∈ am_tb := am_at_in (p := 809) (by decide +kernel)
theorem pk_47 : am_P 47 mm_47 := ⟨ok_47, fun _ => cw_47⟩
theorem cw_48 : Cond.code mm_48.1 mm_48.2.1 mm_48.2.2.1 mm_48.2.2.2.1 ∈ am_tb := am_at_in (p := 815) (by decide +kernel)
theorem pk_48 : am_P 48 mm_48 := ⟨ok_48, fun _ => cw_48⟩
theorem cw_49 : Cond.code mm_49.1 mm_49.2.1 mm_49.2.2.1 mm_49.2.2.2.1 ∈ am_tb := am_at_in (p := 821) (by decide +kernel)
theorem pk_49 : am_P 49 mm_49 := ⟨ok_49, fun _ => cw_49⟩
theorem cw_50 : Cond.code mm_50.1 mm_50.2.1 mm_50.2.2.1 mm_50.2.2.2.1 ∈ am_tb := am_at_in (p := 798) (by decide +kernel)
theorem pk_50 : am_P 50 mm_50 := ⟨ok_50, fun _ => cw_50⟩
theorem cw_51 : Cond.code mm_51.1 mm_51.2.1 mm_51.2.2.1 mm_51.2.2.2.1 ∈ am_tb := am_at_in (p := 554) (by decide +kernel)
theorem pk_51 : am_P 51 mm_51 := ⟨ok_51, fun _ => cw_51⟩
theorem cw_52 : Cond.code mm_52.1 mm_52.2.1 mm_52.2.2.1 mm_52.2.2.2.1 ∈ am_tb := am_at_in (p := 561) (by decide +kernel)
theorem pk_52 : am_P 52 mm_52 := ⟨ok_52, fun _ => cw_52⟩
theorem cw_53 : Cond.code mm_53.1 mm_53.2.1 mm_53.2.2.1 mm_53.2.2.2.1 ∈ am_tb := am_at_in (p := 568) (by decide +kernel)
theorem pk_53 : am_P 53 mm_53 := ⟨ok_53, fun _ => cw_53⟩
theorem cw_54 : Cond.code mm_54.1 mm_54.2.1 mm_54.2.2.1 mm_54.2.2.2.1 ∈ am_tb := am_at_in (p := 572) (by decide +kernel)
theorem pk_54 : am_P 54 mm_54 := ⟨ok_54, fun _ => cw_54⟩
theorem cw_55 : Cond.code mm_55.1 mm_55.2.1 mm_55.2.2.1 mm_55.2.2.2.1 ∈ am_tb := am_at_in (p := 893) (by decide +kernel)
theorem pk_55 : am_P 55 mm_55 := ⟨ok_55, fun _ => cw_55⟩
theorem cw_56 : Cond.code mm_56.1 mm_56.2.1 mm_56.2.2.1 mm_56.2.2.2.1 ∈ am_tb := am_at_in (p := 878) (by decide +kernel)
theorem pk_56 : am_P 56 mm_56 := ⟨ok_56, fun _ => cw_56⟩
theorem cw_57 : Cond.code mm_57.1 mm_57.2.1 mm_57.2.2.1 mm_57.2.2.2.1 ∈ am_tb := am_at_in (p := 882) (by decide +kernel)
theorem pk_57 : am_P 57 mm_57 := ⟨ok_57, fun _ => cw_57⟩
theorem cw_58 : Cond.code mm_58.1 mm_58.2.1 mm_58.2.2.1 mm_58.2.2.2.1 ∈ am_tb := am_at_in (p := 897) (by decide +kernel)
theorem pk_58 : am_P 58 mm_58 := ⟨ok_58, fun _ => cw_58⟩
theorem cw_59 : Cond.code mm_59.1 mm_59.2.1 mm_59.2.2.1 mm_59.2.2.2.1 ∈ am_tb := am_at_in (p := 901) (by decide +kernel)
theorem pk_59 : am_P 59 mm_59 := ⟨ok_59, fun _ => cw_59⟩
theorem cw_60 : Cond.code mm_60.1 mm_60.2.1 mm_60.2.2.1 mm_60.2.2.2.1 ∈ am_tb := am_at_in (p := 1000) (by decide +kernel)
theorem pk_60 : am_P 60 mm_60 := ⟨ok_60, fun _ => cw_60⟩
theorem cw_61 : Cond.code mm_61.1 mm_61.2.1 mm_61.2.2.1 mm_61.2.2.2.1 ∈ am_tb := am_at_in (p := 1003) (by decide +kernel)
theorem pk_61 : am_P 61 mm_61 := ⟨ok_61, fun _ => cw_61⟩
theorem cw_62 : Cond.code mm_62.1 mm_62.2.1 mm_62.2.2.1 mm_62.2.2.2.1 ∈ am_tb := am_at_in (p := 989) (by decide +kernel)
theorem pk_62 : am_P 62 mm_62 := ⟨ok_62, fun _ => cw_62⟩
theorem cw_63 : Cond.code mm_63.1 mm_63.2.1 mm_63.2.2.1 mm_63.2.2.2.1 ∈ am_tb := am_at_in (p := 986) (by decide +kernel)
theorem pk_63 : am_P 63 mm_63 := ⟨ok_63, fun _ => cw_63⟩
theorem cw_64 : Cond.code mm_64.1 mm_64.2.1 mm_64.2.2.1 mm_64.2.2.2.1 ∈ am_tb := am_at_in (p := 993) (by decide +kernel)
theorem pk_64 : am_P 64 mm_64 := ⟨ok_64, fun _ => cw_64⟩
theorem cw_65 : Cond.code mm_65.1 mm_65.2.1 mm_65.2.2.1 mm_65.2.2.2.1 ∈ am_tb := am_at_in (p := 997) (by decide +kernel)
theorem pk_65 : am_P 65 mm_65 := ⟨ok_65, fun _ => cw_65⟩
theorem cw_66 : Cond.code mm_66.1 mm_66.2.1 mm_66.2.2.1 mm_66.2.2.2.1 ∈ am_tb := am_at_in (p := 645) (by decide +kernel)
theorem pk_66 : am_P 66 mm_66 := ⟨ok_66, fun _ => cw_66⟩
theorem cw_67 : Cond.code mm_67.1 mm_67.2.1 mm_67.2.2.1 mm_67.2.2.2.1 ∈ am_tb := am_at_in (p := 653) (by decide +kernel)
theorem pk_67 : am_P 67 mm_67 := ⟨ok_67, fun _ => cw_67⟩
theorem cw_68 : Cond.code mm_68.1 mm_68.2.1 mm_68.2.2.1 mm_68.2.2.2.1 ∈ am_tb := am_at_in (p := 657) (by decide +kernel)
theorem pk_68 : am_P 68 mm_68 := ⟨ok_68, fun _ => cw_68⟩
theorem cw_69 : Cond.code mm_69.1 mm_69.2.1 mm_69.2.2.1 mm_69.2.2.2.1 ∈ am_tb := am_at_in (p := 660) (by decide +kernel)
theorem pk_69 : am_P 69 mm_69 := ⟨ok_69, fun _ => cw_69⟩
theorem cw_70 : Cond.code mm_70.1 mm_70.2.1 mm_70.2.2.1 mm_70.2.2.2.1 ∈ am_tb := am_at_in (p := 745) (by decide +kernel)
theorem pk_70 : am_P 70 mm_70 := ⟨ok_70, fun _ => cw_70⟩
theorem cw_71 : Cond.code mm_71.1 mm_71.2.1 mm_71.2.2.1 mm_71.2.2.2.1 ∈ am_tb := am_at_in (p := 742) (by decide +kernel)
theorem pk_71 : am_P 71 mm_71 := ⟨ok_71, fun _ => cw_71⟩
theorem cw_72 : Cond.code mm_72.1 mm_72.2.1 mm_72.2.2.1 mm_72.2.2.2.1 ∈ am_tb := am_at_in (p := 749) (by decide +kernel)
theorem pk_72 : am_P 72 mm_72 := ⟨ok_72, fun _ => cw_72⟩
theorem cw_73 : Cond.code mm_73.1 mm_73.2.1 mm_73.2.2.1 mm_73.2.2.2.1 ∈ am_tb := am_at_in (p := 665) (by decide +kernel)
theorem pk_73 : am_P 73 mm_73 := ⟨ok_73, fun _ => cw_73⟩
theorem cw_74 : Cond.code mm_74.1 mm_74.2.1 mm_74.2.2.1 mm_74.2.2.2.1 ∈ am_tb := am_at_in (p := 690) (by decide +kernel)
theorem pk_74 : am_P 74 mm_74 := ⟨ok_74, fun _ => cw_74⟩
theorem cw_75 : Cond.code mm_75.1 mm_75.2.1 mm_75.2.2.1 mm_75.2.2.2.1 ∈ am_tb := am_at_in (p := 668) (by decide +kernel)
theorem pk_75 : am_P 75 mm_75 := ⟨ok_75, fun _ => cw_75⟩
theorem cw_76 : Cond.code mm_76.1 mm_76.2.1 mm_76.2.2.1 mm_76.2.2.2.1 ∈ am_tb := am_at_in (p := 753) (by decide +kernel)
theorem pk_76 : am_P 76 mm_76 := ⟨ok_76, fun _ => cw_76⟩
theorem cw_77 : Cond.code mm_77.1 mm_77.2.1 mm_77.2.2.1 mm_77.2.2.2.1 ∈ am_tb := am_at_in (p := 757) (by decide +kernel)
theorem pk_77 : am_P 77 mm_77 := ⟨ok_77, fun _ => cw_77⟩
theorem cw_78 : Cond.code mm_78.1 mm_78.2.1 mm_78.2.2.1 mm_78.2.2.2.1 ∈ am_tb := am_at_in (p := 765) (by decide +kernel)
theorem pk_78 : am_P 78 mm_78 := ⟨ok_78, fun _ => cw_78⟩
theorem cw_79 : Cond.code mm_79.1 mm_79.2.1 mm_79.2.2.1 mm_79.2.2.2.1 ∈ am_tb := am_at_in (p := 769) (by decide +kernel)
theorem pk_79 : am_P 79 mm_79 := ⟨ok_79, fun _ => cw_79⟩
theorem cw_80 : Cond.code mm_80.1 mm_80.2.1 mm_80.2.2.1 mm_80.2.2.2.1 ∈ am_tb := am_at_in (p := 773) (by decide +kernel)
theorem pk_80 : am_P 80 mm_80 := ⟨ok_80, fun _ => cw_80⟩
theorem cw_81 : Cond.code mm_81.1 mm_81.2.1 mm_81.2.2.1 mm_81.2.2.2.1 ∈ am_tb := am_at_in (p := 777) (by decide +kernel)
theorem pk_81 : am_P 81 mm_81 := ⟨ok_81, fun _ => cw_81⟩
theorem cw_82 : Cond.code mm_82.1 mm_82.2.1 mm_82.2.2.1 mm_82.2.2.2.1 ∈ am_tb := am_at_in (p := 780) (by decide +kernel)
theorem pk_82 : am_P 82 mm_82 := ⟨ok_82, fun _ => cw_82⟩
theorem cw_83 : Cond.code mm_83.1 mm_83.2.1 mm_83.2.2.1 mm_83.2.2.2.1 ∈ am_tb := am_at_in (p := 761) (by decide +kernel)
theorem pk_83 : am_P 83 mm_83 := ⟨ok_83, fun _ => cw_83⟩
theorem cw_84 : Cond.code mm_84.1 mm_84.2.1 mm_84.2.2.1 mm_84.2.2.2.1 ∈ am_tb := am_at_in (p := 514) (by decide +kernel)
theorem pk_84 : am_P 84 mm_84 := ⟨ok_84, fun _ => cw_84⟩
theorem cw_85 : Cond.code mm_85.1 mm_85.2.1 mm_85.2.2.1 mm_85.2.2.2.1 ∈ am_tb := am_at_in (p := 544) (by decide +kernel)
theorem pk_85 : am_P 85 mm_85 := ⟨ok_85, fun _ => cw_85⟩
theorem cw_86 : Cond.code mm_86.1 mm_86.2.1 mm_86.2.2.1 mm_86.2.2.2.1 ∈ am_tb := am_at_in (p := 1152) (by decide +kernel)
theorem pk_86 : am_P 86 mm_86 := ⟨ok_86, fun _ => cw_86⟩
theorem cw_87 : Cond.code mm_87.1 mm_87.2.1 mm_87.2.2.1 mm_87.2.2.2.1 ∈ am_tb := am_at_in (p := 518) (by decide +kernel)
theorem pk_87 : am_P 87 mm_87 := ⟨ok_87, fun _ => cw_87⟩
theorem cw_88 : Cond.code mm_88.1 mm_88.2.1 mm_88.2.2.1 mm_88.2.2.2.1 ∈ am_tb := am_at_in (p := 548) (by decide +kernel)
theorem pk_88 : am_P 88 mm_88 := ⟨ok_88, fun _ => cw_88⟩
theorem cw_89 : Cond.code mm_89.1 mm_89.2.1 mm_89.2.2.1 mm_89.2.2.2.1 ∈ am_tb := am_at_in (p := 1172) (by decide +kernel)
theorem pk_89 : am_P 89 mm_89 := ⟨ok_89, fun _ => cw_89⟩
theorem cw_90 : Cond.code mm_90.1 mm_90.2.1 mm_90.2.2.1 mm_90.2.2.2.1 ∈ am_tb := am_at_in (p := 1193) (by decide +kernel)
theorem pk_90 : am_P 90 mm_90 := ⟨ok_90, fun _ => cw_90⟩
theorem cw_91 : Cond.code mm_91.1 mm_91.2.1 mm_91.2.2.1 mm_91.2.2.2.1 ∈ am_tb := am_at_in (p := 467) (by decide +kernel)
theorem pk_91 : am_P 91 mm_91 := ⟨ok_91, fun _ => cw_91⟩
theorem cw_92 : Cond.code mm_92.1 mm_92.2.1 mm_92.2.2.1 mm_92.2.2.2.1 ∈ am_tb := am_at_in (p := 474) (by decide +kernel)
theorem pk_92 : am_P 92 mm_92 := ⟨ok_92, fun _ => cw_92⟩
theorem cw_93 : Cond.code mm_93.1 mm_93.2.1 mm_93.2.2.1 mm_93.2.2.2.1 ∈ am_tb := am_at_in (p := 580) (by decide +kernel)
theorem pk_93 : am_P 93 mm_93 := ⟨ok_93, fun _ => cw_93⟩
theorem cw_94 : Cond.code mm_94.1 mm_94.2.1 mm_94.2.2.1 mm_94.2.2.2.1 ∈ am_tb := am_at_in (p := 583) (by decide +kernel)
theorem pk_94 : am_P 94 mm_94 := ⟨ok_94, fun _ => cw_94⟩
theorem cw_95 : Cond.code mm_95.1 mm_95.2.1 mm_95.2.2.1 mm_95.2.2.2.1 ∈ am_tb := am_at_in (p := 596) (by decide +kernel)
theorem pk_95 : am_P 95 mm_95 := ⟨ok_95, fun _ => cw_95⟩
theorem cw_96 : Cond.code mm_96.1 mm_96.2.1 mm_96.2.2.1 mm_96.2.2.2.1 ∈ am_tb := am_at_in (p := 600) (by decide +kernel)
theorem pk_96 : am_P 96 mm_96 := ⟨ok_96, fun _ => cw_96⟩
theorem cw_97 : Cond.code mm_97.1 mm_97.2.1 mm_97.2.2.1 mm_97.2.2.2.1 ∈ am_tb := am_at_in (p := 604) (by decide +kernel)
theorem pk_97 : am_P 97 mm_97 := ⟨ok_97, fun _ => cw_97⟩
theorem cw_98 : Cond.code mm_98.1 mm_98.2.1 mm_98.2.2.1 mm_98.2.2.2.1 ∈ am_tb := am_at_in (p := 608) (by decide +kernel)
theorem pk_98 : am_P 98 mm_98 := ⟨ok_98, fun _ => cw_98⟩
theorem cw_99 : Cond.code mm_99.1 mm_99.2.1 mm_99.2.2.1 mm_99.2.2.2.1 ∈ am_tb := am_at_in (p := 612) (by decide +kernel)
theorem pk_99 : am_P 99 mm_99 := ⟨ok_99, fun _ => cw_99⟩
theorem cw_100 : Cond.code mm_100.1 mm_100.2.1 mm_100.2.2.1 mm_100.2.2.2.1 ∈ am_tb := am_at_in (p := 616) (by decide +kernel)
theorem pk_100 : am_P 100 mm_100 := ⟨ok_100, fun _ => cw_100⟩
theorem cw_101 : Cond.code mm_101.1 mm_101.2.1 mm_101.2.2.1 mm_101.2.2.2.1 ∈ am_tb := am_at_in (p := 620) (by decide +kernel)
theorem pk_101 : am_P 101 mm_101 := ⟨ok_101, fun _ => cw_101⟩
theorem cw_102 : Cond.code mm_102.1 mm_102.2.1 mm_102.2.2.1 mm_102.2.2.2.1 ∈ am_tb := am_at_in (p := 628) (by decide +kernel)
theorem pk_102 : am_P 102 mm_102 := ⟨ok_102, fun _ => cw_102⟩
theorem cw_103 : Cond.code mm_103.1 mm_103.2.1 mm_103.2.2.1 mm_103.2.2.2.1 ∈ am_tb := am_at_in (p := 641) (by decide +kernel)
theorem pk_103 : am_P 103 mm_103 := ⟨ok_103, fun _ => cw_103⟩
theorem cw_104 : Cond.code mm_104.1 mm_104.2.1 mm_104.2.2.1 mm_104.2.2.2.1 ∈ am_tb := am_at_in (p := 649) (by decide +kernel)
theorem pk_104 : am_P 104 mm_104 := ⟨ok_104, fun _ => cw_104⟩
theorem cw_105 : Cond.code mm_105.1 mm_105.2.1 mm_105.2.2.1 mm_105.2.2.2.1 ∈ am_tb := am_at_in (p := 794) (by decide +kernel)
theorem pk_105 : am_P 105 mm_105 := ⟨ok_105, fun _ => cw_105⟩
theorem cw_106 : Cond.code mm_106.1 mm_106.2.1 mm_106.2.2.1 mm_106.2.2.2.1 ∈ am_tb := am_at_in (p := 825) (by decide +kernel)
theorem pk_106 : am_P 106 mm_106 := ⟨ok_106, fun _ => cw_106⟩
theorem cw_107 : Cond.code mm_107.1 mm_107.2.1 mm_107.2.2.1 mm_107.2.2.2.1 ∈ am_tb := am_at_in (p := 846) (by decide +kernel)
theorem pk_107 : am_P 107 mm_107 := ⟨ok_107, fun _ => cw_107⟩
theorem cw_108 : Cond.code mm_108.1 mm_108.2.1 mm_108.2.2.1 mm_108.2.2.2.1 ∈ am_tb := am_at_in (p := 850) (by decide +kernel)
theorem pk_108 : am_P 108 mm_108 := ⟨ok_108, fun _ => cw_108⟩
theorem cw_109 : Cond.code mm_109.1 mm_109.2.1 mm_109.2.2.1 mm_109.2.2.2.1 ∈ am_tb := am_at_in (p := 858) (by decide +kernel)
theorem pk_109 : am_P 109 mm_109 := ⟨ok_109, fun _ => cw_109⟩
theorem cw_110 : Cond.code mm_110.1 mm_110.2.1 mm_110.2.2.1 mm_110.2.2.2.1 ∈ am_tb := am_at_in (p := 854) (by decide +kernel)
theorem pk_110 : am_P 110 mm_110 := ⟨ok_110, fun _ => cw_110⟩
theorem cw_111 : Cond.code mm_111.1 mm_111.2.1 mm_111.2.2.1 mm_111.2.2.2.1 ∈ am_tb := am_at_in (p := 833) (by decide +kernel)
theorem pk_111 : am_P 111 mm_111 := ⟨ok_111, fun _ => cw_111⟩
theorem cw_112 : Cond.code mm_112.1 mm_112.2.1 mm_112.2.2.1 mm_112.2.2.2.1 ∈ am_tb := am_at_in (p := 829) (by decide +kernel)
theorem pk_112 : am_P 112 mm_112 := ⟨ok_112, fun _ => cw_112⟩
theorem cw_113 : Cond.code mm_113.1 mm_113.2.1 mm_113.2.2.1 mm_113.2.2.2.1 ∈ am_tb := am_at_in (p := 862) (by decide +kernel)
theorem pk_113 : am_P 113 mm_113 := ⟨ok_113, fun _ => cw_113⟩
theorem cw_114 : Cond.code mm_114.1 mm_114.2.1 mm_114.2.2.1 mm_114.2.2.2.1 ∈ am_tb := am_at_in (p := 866) (by decide +kernel)
theorem pk_114 : am_P 114 mm_114 := ⟨ok_114, fun _ => cw_114⟩
theorem cw_115 : Cond.code mm_115.1 mm_115.2.1 mm_115.2.2.1 mm_115.2.2.2.1 ∈ am_tb := am_at_in (p := 870) (by decide +kernel)
theorem pk_115 : am_P 115 mm_115 := ⟨ok_115, fun _ => cw_115⟩
theorem cw_116 : Cond.code mm_116.1 mm_116.2.1 mm_116.2.2.1 mm_116.2.2.2.1 ∈ am_tb := am_at_in (p := 874) (by decide +kernel)
theorem pk_116 : am_P 116 mm_116 := ⟨ok_116, fun _ => cw_116⟩
theorem cw_117 : Cond.code mm_117.1 mm_117.2.1 mm_117.2.2.1 mm_117.2.2.2.1 ∈ am_tb := am_at_in (p := 889) (by decide +kernel)
theorem pk_117 : am_P 117 mm_117 := ⟨ok_117, fun _ => cw_117⟩
theorem cw_118 : Cond.code mm_118.1 mm_118.2.1 mm_118.2.2.1 mm_118.2.2.2.1 ∈ am_tb := am_at_in (p := 906) (by decide +kernel)
theorem pk_118 : am_P 118 mm_118 := ⟨ok_118, fun _ => cw_118⟩
theorem cw_119 : Cond.code mm_119.1 mm_119.2.1 mm_119.2.2.1 mm_119.2.2.2.1 ∈ am_tb := am_at_in (p := 931) (by decide +kernel)
theorem pk_119 : am_P 119 mm_119 := ⟨ok_119, fun _ => cw_119⟩
theorem cw_120 : Cond.code mm_120.1 mm_120.2.1 mm_120.2.2.1 mm_120.2.2.2.1 ∈ am_tb := am_at_in (p := 935) (by decide +kernel)
theorem pk_120 : am_P 120 mm_120 := ⟨ok_120, fun _ => cw_120⟩
theorem cw_121 : Cond.code mm_121.1 mm_121.2.1 mm_121.2.2.1 mm_121.2.2.2.1 ∈ am_tb := am_at_in (p := 939) (by decide +kernel)
theorem pk_121 : am_P 121 mm_121 := ⟨ok_121, fun _ => cw_121⟩
theorem cw_122 : Cond.code mm_122.1 mm_122.2.1 mm_122.2.2.1 mm_122.2.2.2.1 ∈ am_tb := am_at_in (p := 947) (by decide +kernel)
theorem pk_122 : am_P 122 mm_122 := ⟨ok_122, fun _ => cw_122⟩
theorem cw_123 : Cond.code mm_123.1 mm_123.2.1 mm_123.2.2.1 mm_123.2.2.2.1 ∈ am_tb := am_at_in (p := 943) (by decide +kernel)
theorem pk_123 : am_P 123 mm_123 := ⟨ok_123, fun _ => cw_123⟩
theorem cw_124 : Cond.code mm_124.1 mm_124.2.1 mm_124.2.2.1 mm_124.2.2.2.1 ∈ am_tb := am_at_in (p := 950) (by decide +kernel)
theorem pk_124 : am_P 124 mm_124 := ⟨ok_124, fun _ => cw_124⟩
theorem cw_125 : Cond.code mm_125.1 mm_125.2.1 mm_125.2.2.1 mm_125.2.2.2.1 ∈ am_tb := am_at_in (p := 958) (by decide +kernel)
theorem pk_125 : am_P 125 mm_125 := ⟨ok_125, fun _ => cw_125⟩
theorem cw_126 : Cond.code mm_126.1 mm_126.2.1 mm_126.2.2.1 mm_126.2.2.2.1 ∈ am_tb := am_at_in (p := 970) (by decide +kernel)
theorem pk_126 : am_P 126 mm_126 := ⟨ok_126, fun _ => cw_126⟩
theorem cw_127 : Cond.code mm_127.1 mm_127.2.1 mm_127.2.2.1 mm_127.2.2.2.1 ∈ am_tb := am_at_in (p := 974) (by decide +kernel)
theorem pk_127 : am_P 127 mm_127 := ⟨ok_127, fun _ => cw_127⟩
theorem cw_128 : Cond.code mm_128.1 mm_128.2.1 mm_128.2.2.1 mm_128.2.2.2.1 ∈ am_tb := am_at_in (p := 978) (by decide +kernel)
theorem pk_128 : am_P 128 mm_128 := ⟨ok_128, fun _ => cw_128⟩
theorem cw_129 : Cond.code mm_129.1 mm_129.2.1 mm_129.2.2.1 mm_129.2.2.2.1 ∈ am_tb := am_at_in (p := 982) (by decide +kernel)
theorem pk_129 : am_P 129 mm_129 := ⟨ok_129, fun _ => cw_129⟩
theorem cw_130 : Cond.code mm_130.1 mm_130.2.1 mm_130.2.2.1 mm_130.2.2.2.1 ∈ am_tb := am_at_in (p := 1010) (by decide +kernel)
theorem pk_130 : am_P 130 mm_130 := ⟨ok_130, fun _ => cw_130⟩
theorem cw_131 : Cond.code mm_131.1 mm_131.2.1 mm_131.2.2.1 mm_131.2.2.2.1 ∈ am_tb := am_at_in (p := 1020) (by decide +kernel)
theorem pk_131 : am_P 131 mm_131 := ⟨ok_131, fun _ => cw_131⟩
theorem cw_132 : Cond.code mm_132.1 mm_132.2.1 mm_132.2.2.1 mm_132.2.2.2.1 ∈ am_tb := am_at_in (p := 1024) (by decide +kernel)
theorem pk_132 : am_P 132 mm_132 := ⟨ok_132, fun _ => cw_132⟩
theorem cw_133 : Cond.code mm_133.1 mm_133.2.1 mm_133.2.2.1 mm_133.2.2.2.1 ∈ am_tb := am_at_in (p := 1036) (by decide +kernel)
theorem pk_133 : am_P 133 mm_133 := ⟨ok_133, fun _ => cw_133⟩
theorem cw_134 : Cond.code mm_134.1 mm_134.2.1 mm_134.2.2.1 mm_134.2.2.2.1 ∈ am_tb := am_at_in (p := 1027) (by decide +kernel)
theorem pk_134 : am_P 134 mm_134 := ⟨ok_134, fun _ => cw_134⟩
theorem cw_135 : Cond.code mm_135.1 mm_135.2.1 mm_135.2.2.1 mm_135.2.2.2.1 ∈ am_tb := am_at_in (p := 1032) (by decide +kernel)
theorem pk_135 : am_P 135 mm_135 := ⟨ok_135, fun _ => cw_135⟩
theorem cw_136 : Cond.code mm_136.1 mm_136.2.1 mm_136.2.2.1 mm_136.2.2.2.1 ∈ am_tb := am_at_in (p := 1040) (by decide +kernel)
theorem pk_136 : am_P 136 mm_136 := ⟨ok_136, fun _ => cw_136⟩
theorem cw_137 : Cond.code mm_137.1 mm_137.2.1 mm_137.2.2.1 mm_137.2.2.2.1 ∈ am_tb := am_at_in (p := 1047) (by decide +kernel)
theorem pk_137 : am_P 137 mm_137 := ⟨ok_137, fun _ => cw_137⟩
theorem cw_138 : Cond.code mm_138.1 mm_138.2.1 mm_138.2.2.1 mm_138.2.2.2.1 ∈ am_tb := am_at_in (p := 1055) (by decide +kernel)
theorem pk_138 : am_P 138 mm_138 := ⟨ok_138, fun _ => cw_138⟩
theorem cw_139 : Cond.code mm_139.1 mm_139.2.1 mm_139.2.2.1 mm_139.2.2.2.1 ∈ am_tb := am_at_in (p := 1059) (by decide +kernel)
theorem pk_139 : am_P 139 mm_139 := ⟨ok_139, fun _ => cw_139⟩
theorem cw_140 : Cond.code mm_140.1 mm_140.2.1 mm_140.2.2.1 mm_140.2.2.2.1 ∈ am_tb := am_at_in (p := 1051) (by decide +kernel)
theorem pk_140 : am_P 140 mm_140 := ⟨ok_140, fun _ => cw_140⟩
theorem cw_141 : Cond.code mm_141.1 mm_141.2.1 mm_141.2.2.1 mm_141.2.2.2.1 ∈ am_tb := am_at_in (p := 1043) (by decide +kernel)
theorem pk_141 : am_P 141 mm_141 := ⟨ok_141, fun _ => cw_141⟩
theorem cw_142 : Cond.code mm_142.1 mm_142.2.1 mm_142.2.2.1 mm_142.2.2.2.1 ∈ am_tb := am_at_in (p := 1067) (by decide +kernel)
theorem pk_142 : am_P 142 mm_142 := ⟨ok_142, fun _ => cw_142⟩
theorem cw_143 : Cond.code mm_143.1 mm_143.2.1 mm_143.2.2.1 mm_143.2.2.2.1 ∈ am_tb := am_at_in (p := 1074) (by decide +kernel)
theorem pk_143 : am_P 143 mm_143 := ⟨ok_143, fun _ => cw_143⟩
theorem cw_144 : Cond.code mm_144.1 mm_144.2.1 mm_144.2.2.1 mm_144.2.2.2.1 ∈ am_tb := am_at_in (p := 1081) (by decide +kernel)
theorem pk_144 : am_P 144 mm_144 := ⟨ok_144, fun _ => cw_144⟩
theorem cw_145 : Cond.code mm_145.1 mm_145.2.1 mm_145.2.2.1 mm_145.2.2.2.1 ∈ am_tb := am_at_in (p := 1085) (by decide +kernel)
theorem pk_145 : am_P 145 mm_145 := ⟨ok_145, fun _ => cw_145⟩
theorem cw_146 : Cond.code mm_146.1 mm_146.2.1 mm_146.2.2.1 mm_146.2.2.2.1 ∈ am_tb := am_at_in (p := 1093) (by decide +kernel)
theorem pk_146 : am_P 146 mm_146 := ⟨ok_146, fun _ => cw_146⟩
theorem cw_147 : Cond.code mm_147.1 mm_147.2.1 mm_147.2.2.1 mm_147.2.2.2.1 ∈ am_tb := am_at_in (p := 1097) (by decide +kernel)
theorem pk_147 : am_P 147 mm_147 := ⟨ok_147, fun _ => cw_147⟩
theorem cw_148 : Cond.code mm_148.1 mm_148.2.1 mm_148.2.2.1 mm_148.2.2.2.1 ∈ am_tb := am_at_in (p := 1070) (by decide +kernel)
theorem pk_148 : am_P 148 mm_148 := ⟨ok_148, fun _ => cw_148⟩
theorem cw_149 : Cond.code mm_149.1 mm_149.2.1 mm_149.2.2.1 mm_149.2.2.2.1 ∈ am_tb := am_at_in (p := 1078) (by decide +kernel)
theorem pk_149 : am_P 149 mm_149 := ⟨ok_149, fun _ => cw_149⟩
theorem cw_150 : Cond.code mm_150.1 mm_150.2.1 mm_150.2.2.1 mm_150.2.2.2.1 ∈ am_tb := am_at_in (p := 1089) (by decide +kernel)
theorem pk_150 : am_P 150 mm_150 := ⟨ok_150, fun _ => cw_150⟩
theorem cw_151 : Cond.code mm_151.1 mm_151.2.1 mm_151.2.2.1 mm_151.2.2.2.1 ∈ am_tb := am_at_in (p := 1101) (by decide +kernel)
theorem pk_151 : am_P 151 mm_151 := ⟨ok_151, fun _ => cw_151⟩
theorem cw_152 : Cond.code mm_152.1 mm_152.2.1 mm_152.2.2.1 mm_152.2.2.2.1 ∈ am_tb := am_at_in (p := 1108) (by decide +kernel)
theorem pk_152 : am_P 152 mm_152 := ⟨ok_152, fun _ => cw_152⟩
theorem cw_153 : Cond.code mm_153.1 mm_153.2.1 mm_153.2.2.1 mm_153.2.2.2.1 ∈ am_tb := am_at_in (p := 1112) (by decide +kernel)
theorem pk_153 : am_P 153 mm_153 := ⟨ok_153, fun _ => cw_153⟩
theorem cw_154 : Cond.code mm_154.1 mm_154.2.1 mm_154.2.2.1 mm_154.2.2.2.1 ∈ am_tb := am_at_in (p := 1116) (by decide +kernel)
theorem pk_154 : am_P 154 mm_154 := ⟨ok_154, fun _ => cw_154⟩
theorem cw_155 : Cond.code mm_155.1 mm_155.2.1 mm_155.2.2.1 mm_155.2.2.2.1 ∈ am_tb := am_at_in (p := 1125) (by decide +kernel)
theorem pk_155 : am_P 155 mm_155 := ⟨ok_155, fun _ => cw_155⟩
theorem cw_156 : Cond.code mm_156.1 mm_156.2.1 mm_156.2.2.1 mm_156.2.2.2.1 ∈ am_tb := am_at_in (p := 1104) (by decide +kernel)
theorem pk_156 : am_P 156 mm_156 := ⟨ok_156, fun _ => cw_156⟩
theorem cw_157 : Cond.code mm_157.1 mm_157.2.1 mm_157.2.2.1 mm_157.2.2.2.1 ∈ am_tb := am_at_in (p := 1120) (by decide +kernel)
theorem pk_157 : am_P 157 mm_157 := ⟨ok_157, fun _ => cw_157⟩
theorem cw_158 : Cond.code mm_158.1 mm_158.2.1 mm_158.2.2.1 mm_158.2.2.2.1 ∈ am_tb := am_at_in (p := 1223) (by decide +kernel)
theorem pk_158 : am_P 158 mm_158 := ⟨ok_158, fun _ => cw_158⟩
theorem cw_159 : Cond.code mm_159.1 mm_159.2.1 mm_159.2.2.1 mm_159.2.2.2.1 ∈ am_tb := am_at_in (p := 1227) (by decide +kernel)
theorem pk_159 : am_P 159 mm_159 := ⟨ok_159, fun _ => cw_159⟩
theorem cw_160 : Cond.code mm_160.1 mm_160.2.1 mm_160.2.2.1 mm_160.2.2.2.1 ∈ am_tb := am_at_in (p := 1231) (by decide +kernel)
theorem pk_160 : am_P 160 mm_160 := ⟨ok_160, fun _ => cw_160⟩
theorem cw_161 : Cond.code mm_161.1 mm_161.2.1 mm_161.2.2.1 mm_161.2.2.2.1 ∈ am_tb := am_at_in (p := 1241) (by decide +kernel)
theorem pk_161 : am_P 161 mm_161 := ⟨ok_161, fun _ => cw_161⟩
theorem cw_162 : Cond.code mm_162.1 mm_162.2.1 mm_162.2.2.1 mm_162.2.2.2.1 ∈ am_tb := am_at_in (p := 470) (by decide +kernel)
theorem pk_162 : am_P 162 mm_162 := ⟨ok_162, fun _ => cw_162⟩
theorem cw_163 : Cond.code mm_163.1 mm_163.2.1 mm_163.2.2.1 mm_163.2.2.2.1 ∈ am_tb := am_at_in (p := 1373) (by decide +kernel)
theorem pk_163 : am_P 163 mm_163 := ⟨ok_163, fun _ => cw_163⟩
theorem cw_164 : Cond.code mm_164.1 mm_164.2.1 mm_164.2.2.1 mm_164.2.2.2.1 ∈ am_tb := am_at_in (p := 1565) (by decide +kernel)
theorem pk_164 : am_P 164 mm_164 := ⟨ok_164, fun _ => cw_164⟩
theorem cw_165 : Cond.code mm_165.1 mm_165.2.1 mm_165.2.2.1 mm_165.2.2.2.1 ∈ am_tb := am_at_in (p := 1585) (by decide +kernel)
theorem pk_165 : am_P 165 mm_165 := ⟨ok_165, fun _ => cw_165⟩
theorem cw_166 : Cond.code mm_166.1 mm_166.2.1 mm_166.2.2.1 mm_166.2.2.2.1 ∈ am_tb := am_at_in (p := 1593) (by decide +kernel)
theorem pk_166 : am_P 166 mm_166 := ⟨ok_166, fun _ => cw_166⟩
theorem cw_167 : Cond.code mm_167.1 mm_167.2.1 mm_167.2.2.1 mm_167.2.2.2.1 ∈ am_tb := am_at_in (p := 1467) (by decide +kernel)
theorem pk_167 : am_P 167 mm_167 := ⟨ok_167, fun _ => cw_167⟩
theorem cw_168 : Cond.code mm_168.1 mm_168.2.1 mm_168.2.2.1 mm_168.2.2.2.1 ∈ am_tb := am_at_in (p := 1451) (by decide +kernel)
theorem pk_168 : am_P 168 mm_168 := ⟨ok_168, fun _ => cw_168⟩
theorem cw_169 : Cond.code mm_169.1 mm_169.2.1 mm_169.2.2.1 mm_169.2.2.2.1 ∈ am_tb := am_at_in (p := 1459) (by decide +kernel)
theorem pk_169 : am_P 169 mm_169 := ⟨ok_169, fun _ => cw_169⟩
theorem cw_170 : Cond.code mm_170.1 mm_170.2.1 mm_170.2.2.1 mm_170.2.2.2.1 ∈ am_tb := am_at_in (p := 1769) (by decide +kernel)
theorem pk_170 : am_P 170 mm_170 := ⟨ok_170, fun _ => cw_170⟩
theorem cw_171 : Cond.code mm_171.1 mm_171.2.1 mm_171.2.2.1 mm_171.2.2.2.1 ∈ am_tb := am_at_in (p := 1547) (by decide +kernel)
theorem pk_171 : am_P 171 mm_171 := ⟨ok_171, fun _ => cw_171⟩
theorem cw_172 : Cond.code mm_172.1 mm_172.2.1 mm_172.2.2.1 mm_172.2.2.2.1 ∈ am_tb := am_at_in (p := 1511) (by decide +kernel)
theorem pk_172 : am_P 172 mm_172 := ⟨ok_172, fun _ => cw_172⟩
theorem cw_173 : Cond.code mm_173.1 mm_173.2.1 mm_173.2.2.1 mm_173.2.2.2.1 ∈ am_tb := am_at_in (p := 1488) (by decide +kernel)
theorem pk_173 : am_P 173 mm_173 := ⟨ok_173, fun _ => cw_173⟩
theorem cw_174 : Cond.code mm_174.1 mm_174.2.1 mm_174.2.2.1 mm_174.2.2.2.1 ∈ am_tb := am_at_in (p := 1485) (by decide +kernel)
theorem pk_174 : am_P 174 mm_174 := ⟨ok_174, fun _ => cw_174⟩
theorem cw_175 : Cond.code mm_175.1 mm_175.2.1 mm_175.2.2.1 mm_175.2.2.2.1 ∈ am_tb := am_at_in (p := 1470) (by decide +kernel)
theorem pk_175 : am_P 175 mm_175 := ⟨ok_175, fun _ => cw_175⟩
theorem cw_176 : Cond.code mm_176.1 mm_176.2.1 mm_176.2.2.1 mm_176.2.2.2.1 ∈ am_tb := am_at_in (p := 1463) (by decide +kernel)
theorem pk_176 : am_P 176 mm_176 := ⟨ok_176, fun _ => cw_176⟩
theorem cw_177 : Cond.code mm_177.1 mm_177.2.1 mm_177.2.2.1 mm_177.2.2.2.1 ∈ am_tb := am_at_in (p := 1474) (by decide +kernel)
theorem pk_177 : am_P 177 mm_177 := ⟨ok_177, fun _ => cw_177⟩
theorem cw_178 : Cond.code mm_178.1 mm_178.2.1 mm_178.2.2.1 mm_178.2.2.2.1 ∈ am_tb := am_at_in (p := 1503) (by decide +kernel)
theorem pk_178 : am_P 178 mm_178 := ⟨ok_178, fun _ => cw_178⟩
theorem cw_179 : Cond.code mm_179.1 mm_179.2.1 mm_179.2.2.1 mm_179.2.2.2.1 ∈ am_tb := am_at_in (p := 1496) (by decide +kernel)
theorem pk_179 : am_P 179 mm_179 := ⟨ok_179, fun _ => cw_179⟩
theorem cw_180 : Cond.code mm_180.1 mm_180.2.1 mm_180.2.2.1 mm_180.2.2.2.1 ∈ am_tb := am_at_in (p := 1499) (by decide +kernel)
theorem pk_180 : am_P 180 mm_180 := ⟨ok_180, fun _ => cw_180⟩
theorem cw_181 : Cond.code mm_181.1 mm_181.2.1 mm_181.2.2.1 mm_181.2.2.2.1 ∈ am_tb := am_at_in (p := 1482) (by decide +kernel)
theorem pk_181 : am_P 181 mm_181 := ⟨ok_181, fun _ => cw_181⟩
theorem cw_182 : Cond.code mm_182.1 mm_182.2.1 mm_182.2.2.1 mm_182.2.2.2.1 ∈ am_tb := am_at_in (p := 1492) (by decide +kernel)
theorem pk_182 : am_P 182 mm_182 := ⟨ok_182, fun _ => cw_182⟩
theorem cw_183 : Cond.code mm_183.1 mm_183.2.1 mm_183.2.2.1 mm_183.2.2.2.1 ∈ am_tb := am_at_in (p := 1478) (by decide +kernel)
theorem pk_183 : am_P 183 mm_183 := ⟨ok_183, fun _ => cw_183⟩
theorem cw_184 : Cond.code mm_184.1 mm_184.2.1 mm_184.2.2.1 mm_184.2.2.2.1 ∈ am_tb := am_at_in (p := 1386) (by decide +kernel)
theorem pk_184 : am_P 184 mm_184 := ⟨ok_184, fun _ => cw_184⟩
theorem cw_185 : Cond.code mm_185.1 mm_185.2.1 mm_185.2.2.1 mm_185.2.2.2.1 ∈ am_tb := am_at_in (p := 1394) (by decide +kernel)
theorem pk_185 : am_P 185 mm_185 := ⟨ok_185, fun _ => cw_185⟩
theorem cw_186 : Cond.code mm_186.1 mm_186.2.1 mm_186.2.2.1 mm_186.2.2.2.1 ∈ am_tb := am_at_in (p := 1390) (by decide +kernel)
theorem pk_186 : am_P 186 mm_186 := ⟨ok_186, fun _ => cw_186⟩
theorem cw_187 : Cond.code mm_187.1 mm_187.2.1 mm_187.2.2.1 mm_187.2.2.2.1 ∈ am_tb := am_at_in (p := 1398) (by decide +kernel)
theorem pk_187 : am_P 187 mm_187 := ⟨ok_187, fun _ => cw_187⟩
theorem cw_188 : Cond.code mm_188.1 mm_188.2.1 mm_188.2.2.1 mm_188.2.2.2.1 ∈ am_tb := am_at_in (p := 1382) (by decide +kernel)
theorem pk_188 : am_P 188 mm_188 := ⟨ok_188, fun _ => cw_188⟩
theorem cw_189 : Cond.code mm_189.1 mm_189.2.1 mm_189.2.2.1 mm_189.2.2.2.1 ∈ am_tb := am_at_in (p := 1406) (by decide +kernel)
theorem pk_189 : am_P 189 mm_189 := ⟨ok_189, fun _ => cw_189⟩
theorem cw_190 : Cond.code mm_190.1 mm_190.2.1 mm_190.2.2.1 mm_190.2.2.2.1 ∈ am_tb := am_at_in (p := 1434) (by decide +kernel)
theorem pk_190 : am_P 190 mm_190 := ⟨ok_190, fun _ => cw_190⟩
theorem cw_191 : Cond.code mm_191.1 mm_191.2.1 mm_191.2.2.1 mm_191.2.2.2.1 ∈ am_tb := am_at_in (p := 1430) (by decide +kernel)
theorem pk_191 : am_P 191 mm_191 := ⟨ok_191, fun _ => cw_191⟩
theorem cw_192 : Cond.code mm_192.1 mm_192.2.1 mm_192.2.2.1 mm_192.2.2.2.1 ∈ am_tb := am_at_in (p := 1426) (by decide +kernel)
theorem pk_192 : am_P 192 mm_192 := ⟨ok_192, fun _ => cw_192⟩
theorem cw_193 : Cond.code mm_193.1 mm_193.2.1 mm_193.2.2.1 mm_193.2.2.2.1 ∈ am_tb := am_at_in (p := 1422) (by decide +kernel)
theorem pk_193 : am_P 193 mm_193 := ⟨ok_193, fun _ => cw_193⟩
theorem cw_194 : Cond.code mm_194.1 mm_194.2.1 mm_194.2.2.1 mm_194.2.2.2.1 ∈ am_tb := am_at_in (p := 1418) (by decide +kernel)
theorem pk_194 : am_P 194 mm_194 := ⟨ok_194, fun _ => cw_194⟩
theorem cw_195 : Cond.code mm_195.1 mm_195.2.1 mm_195.2.2.1 mm_195.2.2.2.1 ∈ am_tb := am_at_in (p := 1414) (by decide +kernel)
theorem pk_195 : am_P 195 mm_195 := ⟨ok_195, fun _ => cw_195⟩
theorem cw_196 : Cond.code mm_196.1 mm_196.2.1 mm_196.2.2.1 mm_196.2.2.2.1 ∈ am_tb := am_at_in (p := 1410) (by decide +kernel)
theorem pk_196 : am_P 196 mm_196 := ⟨ok_196, fun _ => cw_196⟩
theorem cw_197 : Cond.code mm_197.1 mm_197.2.1 mm_197.2.2.1 mm_197.2.2.2.1 ∈ am_tb := am_at_in (p := 1402) (by decide +kernel)
theorem pk_197 : am_P 197 mm_197 := ⟨ok_197, fun _ => cw_197⟩
theorem cw_198 : Cond.code mm_198.1 mm_198.2.1 mm_198.2.2.1 mm_198.2.2.2.1 ∈ am_tb := am_at_in (p := 1370) (by decide +kernel)
theorem pk_198 : am_P 198 mm_198 := ⟨ok_198, fun _ => cw_198⟩
theorem cw_199 : Cond.code mm_199.1 mm_199.2.1 mm_199.2.2.1 mm_199.2.2.2.1 ∈ am_tb := am_at_in (p := 1378) (by decide +kernel)
theorem pk_199 : am_P 199 mm_199 := ⟨ok_199, fun _ => cw_199⟩
theorem cw_200 : Cond.code mm_200.1 mm_200.2.1 mm_200.2.2.1 mm_200.2.2.2.1 ∈ am_tb := am_at_in (p := 1562) (by decide +kernel)
theorem pk_200 : am_P 200 mm_200 := ⟨ok_200, fun _ => cw_200⟩
theorem cw_201 : Cond.code mm_201.1 mm_201.2.1 mm_201.2.2.1 mm_201.2.2.2.1 ∈ am_tb := am_at_in (p := 1577) (by decide +kernel)
theorem pk_201 : am_P 201 mm_201 := ⟨ok_201, fun _ => cw_201⟩
theorem cw_202 : Cond.code mm_202.1 mm_202.2.1 mm_202.2.2.1 mm_202.2.2.2.1 ∈ am_tb := am_at_in (p := 1573) (by decide +kernel)
theorem pk_202 : am_P 202 mm_202 := ⟨ok_202, fun _ => cw_202⟩
theorem cw_203 : Cond.code mm_203.1 mm_203.2.1 mm_203.2.2.1 mm_203.2.2.2.1 ∈ am_tb := am_at_in (p := 1569) (by decide +kernel)
theorem pk_203 : am_P 203 mm_203 := ⟨ok_203, fun _ => cw_203⟩
theorem cw_204 : Cond.code mm_204.1 mm_204.2.1 mm_204.2.2.1 mm_204.2.2.2.1 ∈ am_tb := am_at_in (p := 1559) (by decide +kernel)
theorem pk_204 : am_P 204 mm_204 := ⟨ok_204, fun _ => cw_204⟩
theorem cw_205 : Cond.code mm_205.1 mm_205.2.1 mm_205.2.2.1 mm_205.2.2.2.1 ∈ am_tb := am_at_in (p := 1441) (by decide +kernel)
theorem pk_205 : am_P 205 mm_205 := ⟨ok_205, fun _ => cw_205⟩
theorem cw_206 : Cond.code mm_206.1 mm_206.2.1 mm_206.2.2.1 mm_206.2.2.2.1 ∈ am_tb := am_at_in (p := 1444) (by decide +kernel)
theorem pk_206 : am_P 206 mm_206 := ⟨ok_206, fun _ => cw_206⟩
theorem cw_207 : Cond.code mm_207.1 mm_207.2.1 mm_207.2.2.1 mm_207.2.2.2.1 ∈ am_tb := am_at_in (p := 1447) (by decide +kernel)
theorem pk_207 : am_P 207 mm_207 := ⟨ok_207, fun _ => cw_207⟩
theorem cw_208 : Cond.code mm_208.1 mm_208.2.1 mm_208.2.2.1 mm_208.2.2.2.1 ∈ am_tb := am_at_in (p := 1438) (by decide +kernel)
theorem pk_208 : am_P 208 mm_208 := ⟨ok_208, fun _ => cw_208⟩
theorem cw_209 : Cond.code mm_209.1 mm_209.2.1 mm_209.2.2.1 mm_209.2.2.2.1 ∈ am_tb := am_at_in (p := 1455) (by decide +kernel)
theorem pk_209 : am_P 209 mm_209 := ⟨ok_209, fun _ => cw_209⟩
theorem cw_210 : Cond.code mm_210.1 mm_210.2.1 mm_210.2.2.1 mm_210.2.2.2.1 ∈ am_tb := am_at_in (p := 1507) (by decide +kernel)
theorem pk_210 : am_P 210 mm_210 := ⟨ok_210, fun _ => cw_210⟩
theorem cw_211 : Cond.code mm_211.1 mm_211.2.1 mm_211.2.2.1 mm_211.2.2.2.1 ∈ am_tb := am_at_in (p := 1515) (by decide +kernel)
theorem pk_211 : am_P 211 mm_211 := ⟨ok_211, fun _ => cw_211⟩
theorem cw_212 : Cond.code mm_212.1 mm_212.2.1 mm_212.2.2.1 mm_212.2.2.2.1 ∈ am_tb := am_at_in (p := 1519) (by decide +kernel)
theorem pk_212 : am_P 212 mm_212 := ⟨ok_212, fun _ => cw_212⟩
theorem cw_213 : Cond.code mm_213.1 mm_213.2.1 mm_213.2.2.1 mm_213.2.2.2.1 ∈ am_tb := am_at_in (p := 1523) (by decide +kernel)
theorem pk_213 : am_P 213 mm_213 := ⟨ok_213, fun _ => cw_213⟩
theorem cw_214 : Cond.code mm_214.1 mm_214.2.1 mm_214.2.2.1 mm_214.2.2.2.1 ∈ am_tb := am_at_in (p := 1527) (by decide +kernel)
theorem pk_214 : am_P 214 mm_214 := ⟨ok_214, fun _ => cw_214⟩
theorem cw_215 : Cond.code mm_215.1 mm_215.2.1 mm_215.2.2.1 mm_215.2.2.2.1 ∈ am_tb := am_at_in (p := 1531) (by decide +kernel)
theorem pk_215 : am_P 215 mm_215 := ⟨ok_215, fun _ => cw_215⟩
theorem cw_216 : Cond.code mm_216.1 mm_216.2.1 mm_216.2.2.1 mm_216.2.2.2.1 ∈ am_tb := am_at_in (p := 1535) (by decide +kernel)
theorem pk_216 : am_P 216 mm_216 := ⟨ok_216, fun _ => cw_216⟩
theorem cw_217 : Cond.code mm_217.1 mm_217.2.1 mm_217.2.2.1 mm_217.2.2.2.1 ∈ am_tb := am_at_in (p := 1539) (by decide +kernel)
theorem pk_217 : am_P 217 mm_217 := ⟨ok_217, fun _ => cw_217⟩
theorem cw_218 : Cond.code mm_218.1 mm_218.2.1 mm_218.2.2.1 mm_218.2.2.2.1 ∈ am_tb := am_at_in (p := 1551) (by decide +kernel)
theorem pk_218 : am_P 218 mm_218 := ⟨ok_218, fun _ => cw_218⟩
theorem cw_219 : Cond.code mm_219.1 mm_219.2.1 mm_219.2.2.1 mm_219.2.2.2.1 ∈ am_tb := am_at_in (p := 1543) (by decide +kernel)
theorem pk_219 : am_P 219 mm_219 := ⟨ok_219, fun _ => cw_219⟩
theorem cw_220 : Cond.code mm_220.1 mm_220.2.1 mm_220.2.2.1 mm_220.2.2.2.1 ∈ am_tb := am_at_in (p := 1555) (by decide +kernel)
theorem pk_220 : am_P 220 mm_220 := ⟨ok_220, fun _ => cw_220⟩
theorem cw_221 : Cond.code mm_221.1 mm_221.2.1 mm_221.2.2.1 mm_221.2.2.2.1 ∈ am_tb := am_at_in (p := 1589) (by decide +kernel)
theorem pk_221 : am_P 221 mm_221 := ⟨ok_221, fun _ => cw_221⟩
theorem cw_222 : Cond.code mm_222.1 mm_222.2.1 mm_222.2.2.1 mm_222.2.2.2.1 ∈ am_tb := am_at_in (p := 1581) (by decide +kernel)
theorem pk_222 : am_P 222 mm_222 := ⟨ok_222, fun _ => cw_222⟩
theorem cw_223 : Cond.code mm_223.1 mm_223.2.1 mm_223.2.2.1 mm_223.2.2.2.1 ∈ am_tb := am_at_in (p := 1597) (by decide +kernel)
theorem pk_223 : am_P 223 mm_223 := ⟨ok_223, fun _ => cw_223⟩
theorem cw_224 : Cond.code mm_224.1 mm_224.2.1 mm_224.2.2.1 mm_224.2.2.2.1 ∈ am_tb := am_at_in (p := 1605) (by decide +kernel)
theorem pk_224 : am_P 224 mm_224 := ⟨ok_224, fun _ => cw_224⟩
theorem cw_225 : Cond.code mm_225.1 mm_225.2.1 mm_225.2.2.1 mm_225.2.2.2.1 ∈ am_tb := am_at_in (p := 1601) (by decide +kernel)
theorem pk_225 : am_P 225 mm_225 := ⟨ok_225, fun _ => cw_225⟩
theorem cw_226 : Cond.code mm_226.1 mm_226.2.1 mm_226.2.2.1 mm_226.2.2.2.1 ∈ am_tb := am_at_in (p := 1609) (by decide +kernel)
theorem pk_226 : am_P 226 mm_226 := ⟨ok_226, fun _ => cw_226⟩
theorem cw_227 : Cond.code mm_227.1 mm_227.2.1 mm_227.2.2.1 mm_227.2.2.2.1 ∈ am_tb := am_at_in (p := 1613) (by decide +kernel)
theorem pk_227 : am_P 227 mm_227 := ⟨ok_227, fun _ => cw_227⟩
theorem cw_228 : Cond.code mm_228.1 mm_228.2.1 mm_228.2.2.1 mm_228.2.2.2.1 ∈ am_tb := am_at_in (p := 1617) (by decide +kernel)
theorem pk_228 : am_P 228 mm_228 := ⟨ok_228, fun _ => cw_228⟩
theorem cw_229 : Cond.code mm_229.1 mm_229.2.1 mm_229.2.2.1 mm_229.2.2.2.1 ∈ am_tb := am_at_in (p := 1629) (by decide +kernel)
theorem pk_229 : am_P 229 mm_229 := ⟨ok_229, fun _ => cw_229⟩
theorem cw_230 : Cond.code mm_230.1 mm_230.2.1 mm_230.2.2.1 mm_230.2.2.2.1 ∈ am_tb := am_at_in (p := 1625) (by decide +kernel)
theorem pk_230 : am_P 230 mm_230 := ⟨ok_230, fun _ => cw_230⟩
theorem cw_231 : Cond.code mm_231.1 mm_231.2.1 mm_231.2.2.1 mm_231.2.2.2.1 ∈ am_tb := am_at_in (p := 1621) (by decide +kernel)
theorem pk_231 : am_P 231 mm_231 := ⟨ok_231, fun _ => cw_231⟩
theorem cw_232 : Cond.code mm_232.1 mm_232.2.1 mm_232.2.2.1 mm_232.2.2.2.1 ∈ am_tb := am_at_in (p := 1637) (by decide +kernel)
theorem pk_232 : am_P 232 mm_232 := ⟨ok_232, fun _ => cw_232⟩
theorem cw_233 : Cond.code mm_233.1 mm_233.2.1 mm_233.2.2.1 mm_233.2.2.2.1 ∈ am_tb := am_at_in (p := 1633) (by decide +kernel)
theorem pk_233 : am_P 233 mm_233 := ⟨ok_233, fun _ => cw_233⟩
theorem cw_234 : Cond.code mm_234.1 mm_234.2.1 mm_234.2.2.1 mm_234.2.2.2.1 ∈ am_tb := am_at_in (p := 1664) (by decide +kernel)
theorem pk_234 : am_P 234 mm_234 := ⟨ok_234, fun _ => cw_234⟩
theorem cw_235 : Cond.code mm_235.1 mm_235.2.1 mm_235.2.2.1 mm_235.2.2.2.1 ∈ am_tb := am_at_in (p := 1668) (by decide +kernel)
theorem pk_235 : am_P 235 mm_235 := ⟨ok_235, fun _ => cw_235⟩
theorem cw_236 : Cond.code mm_236.1 mm_236.2.1 mm_236.2.2.1 mm_236.2.2.2.1 ∈ am_tb := am_at_in (p := 1652) (by decide +kernel)
theorem pk_236 : am_P 236 mm_236 := ⟨ok_236, fun _ => cw_236⟩
theorem cw_237 : Cond.code mm_237.1 mm_237.2.1 mm_237.2.2.1 mm_237.2.2.2.1 ∈ am_tb := am_at_in (p := 1660) (by decide +kernel)
theorem pk_237 : am_P 237 mm_237 := ⟨ok_237, fun _ => cw_237⟩
theorem cw_238 : Cond.code mm_238.1 mm_238.2.1 mm_238.2.2.1 mm_238.2.2.2.1 ∈ am_tb := am_at_in (p := 1656) (by decide +kernel)
theorem pk_238 : am_P 238 mm_238 := ⟨ok_238, fun _ => cw_238⟩
theorem cw_239 : Cond.code mm_239.1 mm_239.2.1 mm_239.2.2.1 mm_239.2.2.2.1 ∈ am_tb := am_at_in (p := 1648) (by decide +kernel)
theorem pk_239 : am_P 239 mm_239 := ⟨ok_239, fun _ => cw_239⟩
theorem cw_240 : Cond.code mm_240.1 mm_240.2.1 mm_240.2.2.1 mm_240.2.2.2.1 ∈ am_tb := am_at_in (p := 1644) (by decide +kernel)
theorem pk_240 : am_P 240 mm_240 := ⟨ok_240, fun _ => cw_240⟩
theorem cw_241 : Cond.code mm_241.1 mm_241.2.1 mm_241.2.2.1 mm_241.2.2.2.1 ∈ am_tb := am_at_in (p := 1641) (by decide +kernel)
theorem pk_241 : am_P 241 mm_241 := ⟨ok_241, fun _ => cw_241⟩
theorem cw_242 : Cond.code mm_242.1 mm_242.2.1 mm_242.2.2.1 mm_242.2.2.2.1 ∈ am_tb := am_at_in (p := 1672) (by decide +kernel)
theorem pk_242 : am_P 242 mm_242 := ⟨ok_242, fun _ => cw_242⟩
theorem cw_243 : Cond.code mm_243.1 mm_243.2.1 mm_243.2.2.1 mm_243.2.2.2.1 ∈ am_tb := am_at_in (p := 1676) (by decide +kernel)
theorem pk_243 : am_P 243 mm_243 := ⟨ok_243, fun _ => cw_243⟩
theorem cw_244 : Cond.code mm_244.1 mm_244.2.1 mm_244.2.2.1 mm_244.2.2.2.1 ∈ am_tb := am_at_in (p := 1684) (by decide +kernel)
theorem pk_244 : am_P 244 mm_244 := ⟨ok_244, fun _ => cw_244⟩
theorem cw_245 : Cond.code mm_245.1 mm_245.2.1 mm_245.2.2.1 mm_245.2.2.2.1 ∈ am_tb := am_at_in (p := 1680) (by decide +kernel)
theorem pk_245 : am_P 245 mm_245 := ⟨ok_245, fun _ => cw_245⟩
theorem cw_246 : Cond.code mm_246.1 mm_246.2.1 mm_246.2.2.1 mm_246.2.2.2.1 ∈ am_tb := am_at_in (p := 1688) (by decide +kernel)
theorem pk_246 : am_P 246 mm_246 := ⟨ok_246, fun _ => cw_246⟩
theorem cw_247 : Cond.code mm_247.1 mm_247.2.1 mm_247.2.2.1 mm_247.2.2.2.1 ∈ am_tb := am_at_in (p := 1696) (by decide +kernel)
theorem pk_247 : am_P 247 mm_247 := ⟨ok_247, fun _ => cw_247⟩
theorem cw_248 : Cond.code mm_248.1 mm_248.2.1 mm_248.2.2.1 mm_248.2.2.2.1 ∈ am_tb := am_at_in (p := 1692) (by decide +kernel)
theorem pk_248 : am_P 248 mm_248 := ⟨ok_248, fun _ => cw_248⟩
theorem cw_249 : Cond.code mm_249.1 mm_249.2.1 mm_249.2.2.1 mm_249.2.2.2.1 ∈ am_tb := am_at_in (p := 1700) (by decide +kernel)
theorem pk_249 : am_P 249 mm_249 := ⟨ok_249, fun _ => cw_249⟩
theorem cw_250 : Cond.code mm_250.1 mm_250.2.1 mm_250.2.2.1 mm_250.2.2.2.1 ∈ am_tb := am_at_in (p := 1704) (by decide +kernel)
theorem pk_250 : am_P 250 mm_250 := ⟨ok_250, fun _ => cw_250⟩
theorem cw_251 : Cond.code mm_251.1 mm_251.2.1 mm_251.2.2.1 mm_251.2.2.2.1 ∈ am_tb := am_at_in (p := 1708) (by decide +kernel)
theorem pk_251 : am_P 251 mm_251 := ⟨ok_251, fun _ => cw_251⟩
theorem cw_252 : Cond.code mm_252.1 mm_252.2.1 mm_252.2.2.1 mm_252.2.2.2.1 ∈ am_tb := am_at_in (p := 1720) (by decide +kernel)
theorem pk_252 : am_P 252 mm_252 := ⟨ok_252, fun _ => cw_252⟩
theorem cw_253 : Cond.code mm_253.1 mm_253.2.1 mm_253.2.2.1 mm_253.2.2.2.1 ∈ am_tb := am_at_in (p := 1724) (by decide +kernel)
theorem pk_253 : am_P 253 mm_253 := ⟨ok_253, fun _ => cw_253⟩
theorem cw_254 : Cond.code mm_254.1 mm_254.2.1 mm_254.2.2.1 mm_254.2.2.2.1 ∈ am_tb := am_at_in (p := 1716) (by decide +kernel)
theorem pk_254 : am_P 254 mm_254 := ⟨ok_254, fun _ => cw_254⟩
theorem cw_255 : Cond.code mm_255.1 mm_255.2.1 mm_255.2.2.1 mm_255.2.2.2.1 ∈ am_tb := am_at_in (p := 1712) (by decide +kernel)
theorem pk_255 : am_P 255 mm_255 := ⟨ok_255, fun _ => cw_255⟩
theorem cw_256 : Cond.code mm_256.1 mm_256.2.1 mm_256.2.2.1 mm_256.2.2.2.1 ∈ am_tb := am_at_in (p := 1728) (by decide +kernel)
theorem pk_256 : am_P 256 mm_256 := ⟨ok_256, fun _ => cw_256⟩
theorem cw_257 : Cond.code mm_257.1 mm_257.2.1 mm_257.2.2.1 mm_257.2.2.2.1 ∈ am_tb := am_at_in (p := 1732) (by decide +kernel)
theorem pk_257 : am_P 257 mm_257 := ⟨ok_257, fun _ => cw_257⟩
theorem cw_258 : Cond.code mm_258.1 mm_258.2.1 mm_258.2.2.1 mm_258.2.2.2.1 ∈ am_tb := am_at_in (p := 1740) (by decide +kernel)
theorem pk_258 : am_P 258 mm_258 := ⟨ok_258, fun _ => cw_258⟩
theorem cw_259 : Cond.code mm_259.1 mm_259.2.1 mm_259.2.2.1 mm_259.2.2.2.1 ∈ am_tb := am_at_in (p := 1736) (by decide +kernel)
theorem pk_259 : am_P 259 mm_259 := ⟨ok_259, fun _ => cw_259⟩
theorem cw_260 : Cond.code mm_260.1 mm_260.2.1 mm_260.2.2.1 mm_260.2.2.2.1 ∈ am_tb := am_at_in (p := 1745) (by decide +kernel)
theorem pk_260 : am_P 260 mm_260 := ⟨ok_260, fun _ => cw_260⟩
theorem cw_261 : Cond.code mm_261.1 mm_261.2.1 mm_261.2.2.1 mm_261.2.2.2.1 ∈ am_tb := am_at_in (p := 1749) (by decide +kernel)
theorem pk_261 : am_P 261 mm_261 := ⟨ok_261, fun _ => cw_261⟩
theorem cw_262 : Cond.code mm_262.1 mm_262.2.1 mm_262.2.2.1 mm_262.2.2.2.1 ∈ am_tb := am_at_in (p := 1757) (by decide +kernel)
theorem pk_262 : am_P 262 mm_262 := ⟨ok_262, fun _ => cw_262⟩
theorem cw_263 : Cond.code mm_263.1 mm_263.2.1 mm_263.2.2.1 mm_263.2.2.2.1 ∈ am_tb := am_at_in (p := 1753) (by decide +kernel)
theorem pk_263 : am_P 263 mm_263 := ⟨ok_263, fun _ => cw_263⟩
theorem cw_264 : Cond.code mm_264.1 mm_264.2.1 mm_264.2.2.1 mm_264.2.2.2.1 ∈ am_tb := am_at_in (p := 1761) (by decide +kernel)
theorem pk_264 : am_P 264 mm_264 := ⟨ok_264, fun _ => cw_264⟩
theorem cw_265 : Cond.code mm_265.1 mm_265.2.1 mm_265.2.2.1 mm_265.2.2.2.1 ∈ am_tb := am_at_in (p := 1765) (by decide +kernel)
theorem pk_265 : am_P 265 mm_265 := ⟨ok_265, fun _ => cw_265⟩
theorem cw_266 : Cond.code mm_266.1 mm_266.2.1 mm_266.2.2.1 mm_266.2.2.2.1 ∈ am_tb := am_at_in (p := 1776) (by decide +kernel)
theorem pk_266 : am_P 266 mm_266 := ⟨ok_266, fun _ => cw_266⟩
theorem cw_267 : Cond.code mm_267.1 mm_267.2.1 mm_267.2.2.1 mm_267.2.2.2.1 ∈ am_tb := am_at_in (p := 1773) (by decide +kernel)
theorem pk_267 : am_P 267 mm_267 := ⟨ok_267, fun _ => cw_267⟩
theorem cw_268 : Cond.code mm_268.1 mm_268.2.1 mm_268.2.2.1 mm_268.2.2.2.1 ∈ am_tb := am_at_in (p := 1783) (by decide +kernel)
theorem pk_268 : am_P 268 mm_268 := ⟨ok_268, fun _ => cw_268⟩
theorem cw_269 : Cond.code mm_269.1 mm_269.2.1 mm_269.2.2.1 mm_269.2.2.2.1 ∈ am_tb := am_at_in (p := 1780) (by decide +kernel)
theorem pk_269 : am_P 269 mm_269 := ⟨ok_269, fun _ => cw_269⟩
theorem cw_270 : Cond.code mm_270.1 mm_270.2.1 mm_270.2.2.1 mm_270.2.2.2.1 ∈ am_tb := am_at_in (p := 1791) (by decide +kernel)
theorem pk_270 : am_P 270 mm_270 := ⟨ok_270, fun _ => cw_270⟩
theorem cw_271 : Cond.code mm_271.1 mm_271.2.1 mm_271.2.2.1 mm_271.2.2.2.1 ∈ am_tb := am_at_in (p := 1787) (by decide +kernel)
theorem pk_271 : am_P 271 mm_271 := ⟨ok_271, fun _ => cw_271⟩
theorem cw_272 : Cond.code mm_272.1 mm_272.2.1 mm_272.2.2.1 mm_272.2.2.2.1 ∈ am_tb := am_at_in (p := 1799) (by decide +kernel)
theorem pk_272 : am_P 272 mm_272 := ⟨ok_272, fun _ => cw_272⟩
theorem cw_273 : Cond.code mm_273.1 mm_273.2.1 mm_273.2.2.1 mm_273.2.2.2.1 ∈ am_tb := am_at_in (p := 1795) (by decide +kernel)
theorem pk_273 : am_P 273 mm_273 := ⟨ok_273, fun _ => cw_273⟩
theorem cw_274 : Cond.code mm_274.1 mm_274.2.1 mm_274.2.2.1 mm_274.2.2.2.1 ∈ am_tb := am_at_in (p := 1803) (by decide +kernel)
theorem pk_274 : am_P 274 mm_274 := ⟨ok_274, fun _ => cw_274⟩
theorem cw_275 : Cond.code mm_275.1 mm_275.2.1 mm_275.2.2.1 mm_275.2.2.2.1 ∈ am_tb := am_at_in (p := 1807) (by decide +kernel)
theorem pk_275 : am_P 275 mm_275 := ⟨ok_275, fun _ => cw_275⟩
theorem cw_276 : Cond.code mm_276.1 mm_276.2.1 mm_276.2.2.1 mm_276.2.2.2.1 ∈ am_tb := am_at_in (p := 1815) (by decide +kernel)
theorem pk_276 : am_P 276 mm_276 := ⟨ok_276, fun _ => cw_276⟩
theorem cw_277 : Cond.code mm_277.1 mm_277.2.1 mm_277.2.2.1 mm_277.2.2.2.1 ∈ am_tb := am_at_in (p := 1811) (by decide +kernel)
theorem pk_277 : am_P 277 mm_277 := ⟨ok_277, fun _ => cw_277⟩
theorem cw_278 : Cond.code mm_278.1 mm_278.2.1 mm_278.2.2.1 mm_278.2.2.2.1 ∈ am_tb := am_at_in (p := 1827) (by decide +kernel)
theorem pk_278 : am_P 278 mm_278 := ⟨ok_278, fun _ => cw_278⟩
theorem cw_279 : Cond.code mm_279.1 mm_279.2.1 mm_279.2.2.1 mm_279.2.2.2.1 ∈ am_tb := am_at_in (p := 1823) (by decide +kernel)
theorem pk_279 : am_P 279 mm_279 := ⟨ok_279, fun _ => cw_279⟩
theorem cw_280 : Cond.code mm_280.1 mm_280.2.1 mm_280.2.2.1 mm_280.2.2.2.1 ∈ am_tb := am_at_in (p := 1831) (by decide +kernel)
theorem pk_280 : am_P 280 mm_280 := ⟨ok_280, fun _ => cw_280⟩
theorem cw_281 : Cond.code mm_281.1 mm_281.2.1 mm_281.2.2.1 mm_281.2.2.2.1 ∈ am_tb := am_at_in (p := 1835) (by decide +kernel)
theorem pk_281 : am_P 281 mm_281 := ⟨ok_281, fun _ => cw_281⟩
theorem cw_282 : Cond.code mm_282.1 mm_282.2.1 mm_282.2.2.1 mm_282.2.2.2.1 ∈ am_tb := am_at_in (p := 1839) (by decide +kernel)
theorem pk_282 : am_P 282 mm_282 := ⟨ok_282, fun _ => cw_282⟩
theorem cw_283 : Cond.code mm_283.1 mm_283.2.1 mm_283.2.2.1 mm_283.2.2.2.1 ∈ am_tb := am_at_in (p := 1819) (by decide +kernel)
theorem pk_283 : am_P 283 mm_283 := ⟨ok_283, fun _ => cw_283⟩
theorem cw_284 : Cond.code mm_284.1 mm_284.2.1 mm_284.2.2.1 mm_284.2.2.2.1 ∈ am_tb := am_at_in (p := 1843) (by decide +kernel)
theorem pk_284 : am_P 284 mm_284 := ⟨ok_284, fun _ => cw_284⟩
theorem cw_285 : Cond.code mm_285.1 mm_285.2.1 mm_285.2.2.1 mm_285.2.2.2.1 ∈ am_tb := am_at_in (p := 1850) (by decide +kernel)
theorem pk_285 : am_P 285 mm_285 := ⟨ok_285, fun _ => cw_285⟩
theorem cw_286 : Cond.code mm_286.1 mm_286.2.1 mm_286.2.2.1 mm_286.2.2.2.1 ∈ am_tb := am_at_in (p := 1847) (by decide +kernel)
theorem pk_286 : am_P 286 mm_286 := ⟨ok_286, fun _ => cw_286⟩
theorem cw_287 : Cond.code mm_287.1 mm_287.2.1 mm_287.2.2.1 mm_287.2.2.2.1 ∈ am_tb := am_at_in (p := 1854) (by decide +kernel)
theorem pk_287 : am_P 287 mm_287 := ⟨ok_287, fun _ => cw_287⟩
theorem cw_288 : Cond.code mm_288.1 mm_288.2.1 mm_288.2.2.1 mm_288.2.2.2.1 ∈ am_tb := am_at_in (p := 1858) (by decide +kernel)
theorem pk_288 : am_P 288 mm_288 := ⟨ok_288, fun _ => cw_288⟩
theorem pk_289 : am_P 289 mm_289 := ⟨ok_289, fun h => absurd rfl h⟩
theorem pl_0 : am_Pl 0 [mm_0, mm_1, mm_2, mm_3, mm_4, mm_5, mm_6, mm_7, mm_8, mm_9, mm_10, mm_11, mm_12, mm_13, mm_14, mm_15] := am_Pl_c pk_0 (am_Pl_c pk_1 (am_Pl_c pk_2 (am_Pl_c pk_3 (am_Pl_c pk_4 (am_Pl_c pk_5 (am_Pl_c pk_6 (am_Pl_c pk_7 (am_Pl_c pk_8 (am_Pl_c pk_9 (am_Pl_c pk_10 (am_Pl_c pk_11 (am_Pl_c pk_12 (am_Pl_c pk_13 (am_Pl_c pk_14 (am_Pl_c pk_15 (am_Pl_n _))))))))))))))))
theorem pl_1 : am_Pl 16 [mm_16, mm_17, mm_18, mm_19, mm_20, mm_21, mm_22, mm_23, mm_24, mm_25, mm_26, mm_27, mm_28, mm_29, mm_30, mm_31] := am_Pl_c pk_16 (am_Pl_c pk_17 (am_Pl_c pk_18 (am_Pl_c pk_19 (am_Pl_c pk_20 (am_Pl_c pk_21 (am_Pl_c pk_22 (am_Pl_c pk_23 (am_Pl_c pk_24 (am_Pl_c pk_25 (am_Pl_c pk_26 (am_Pl_c pk_27 (am_Pl_c pk_28 (am_Pl_c pk_29 (am_Pl_c pk_30 (am_Pl_c pk_31 (am_Pl_n _))))))))))))))))
theorem pl_2 : am_Pl 32 [mm_32, mm_33, mm_34, mm_35, mm_36, mm_37, mm_38, mm_39, mm_40, mm_41, mm_42, mm_43, mm_44, mm_45, mm_46, mm_47] := am_Pl_c pk_32 (am_Pl_c pk_33 (am_Pl_c pk_34 (am_Pl_c pk_35 (am_Pl_c pk_36 (am_Pl_c pk_37 (am_Pl_c pk_38 (am_Pl_c pk_39 (am_Pl_c pk_40 (am_Pl_c pk_41 (am_Pl_c pk_42 (am_Pl_c pk_43 (am_Pl_c pk_44 (am_Pl_c pk_45 (am_Pl_c pk_46 (am_Pl_c pk_47 (am_Pl_n _))))))))))))))))
theorem pl_3 : am_Pl 48 [mm_48, mm_49, mm_50, mm_51, mm_52, mm_53, mm_54, mm_55, mm_56, mm_57, mm_58, mm_59, mm_60, mm_61, mm_62, mm_63] := am_Pl_c pk_48 (am_Pl_c pk_49 (am_Pl_c pk_50 (am_Pl_c pk_51 (am_Pl_c pk_52 (am_Pl_c pk_53 (am_Pl_c pk_54 (am_Pl_c pk_55 (am_Pl_c pk_56 (am_Pl_c pk_57 (am_Pl_c pk_58 (am_Pl_c pk_59 (am_Pl_c pk_60 (am_Pl_c pk_61 (am_Pl_c pk_62 (am_Pl_c pk_63 (am_Pl_n _))))))))))))))))
theorem pl_4 : am_Pl 64 [mm_64, mm_65, mm_66, mm_67, mm_68, mm_69, mm_70, mm_71, mm_72, mm_73, mm_74, mm_75, mm_76, mm_77, mm_78, mm_79] := am_Pl_c pk_64 (am_Pl_c pk_65 (am_Pl_c pk_66 (am_Pl_c pk_67 (am_Pl_c pk_68 (am_Pl_c pk_69 (am_Pl_c pk_70 (am_Pl_c pk_71 (am_Pl_c pk_72 (am_Pl_c pk_73 (am_Pl_c pk_74 (am_Pl_c pk_75 (am_Pl_c pk_76 (am_Pl_c pk_77 (am_Pl_c pk_78 (am_Pl_c pk_79 (am_Pl_n _))))))))))))))))
theorem pl_5 : am_Pl 80 [mm_80, mm_81, mm_82, mm_83, mm_84, mm_85, mm_86, mm_87, mm_88, mm_89, mm_90, mm_91, mm_92, mm_93, mm_94, mm_95] := am_Pl_c pk_80 (am_Pl_c pk_81 (am_Pl_c pk_82 (am_Pl_c pk_83 (am_Pl_c pk_84 (am_Pl_c pk_85 (am_Pl_c pk_86 (am_Pl_c pk_87 (am_Pl_c pk_88 (am_Pl_c pk_89 (am_Pl_c pk_90 (am_Pl_c pk_91 (am_Pl_c pk_92 (am_Pl_c pk_93 (am_Pl_c pk_94 (am_Pl_c pk_95 (am_Pl_n _))))))))))))))))
theorem pl_6 : am_Pl 96 [mm_96, mm_97, mm_98, mm_99, mm_100, mm_101, mm_102, mm_103, mm_104, mm_105, mm_106, mm_107, mm_108, mm_109, mm_110, mm_111] := am_Pl_c pk_96 (am_Pl_c pk_97 (am_Pl_c pk_98 (am_Pl_c pk_99 (am_Pl_c pk_100 (am_Pl_c pk_101 (am_Pl_c pk_102 (am_Pl_c pk_103 (am_Pl_c pk_104 (am_Pl_c pk_105 (am_Pl_c pk_106 (am_Pl_c pk_107 (am_Pl_c pk_108 (am_Pl_c pk_109 (am_Pl_c pk_110 (am_Pl_c pk_111 (am_Pl_n _))))))))))))))))
theorem pl_7 : am_Pl 112 [mm_112, mm_113, mm_114, mm_115, mm_116, mm_117, mm_118, mm_119, mm_120, mm_121, mm_122, mm_123, mm_124, mm_125, mm_126, mm_127] := am_Pl_c pk_112 (am_Pl_c pk_113 (am_Pl_c pk_114 (am_Pl_c pk_115 (am_Pl_c pk_116 (am_Pl_c pk_117 (am_Pl_c pk_118 (am_Pl_c pk_119 (am_Pl_c pk_120 (am_Pl_c pk_121 (am_Pl_c pk_122 (am_Pl_c pk_123 (am_Pl_c pk_124 (am_Pl_c pk_125 (am_Pl_c pk_126 (am_Pl_c pk_127 (am_Pl_n _))))))))))))))))
theorem pl_8 : am_Pl 128 [mm_128, mm_129, mm_130, mm_131, mm_132, mm_133, mm_134, mm_135, mm_136, mm_137, mm_138, mm_139, mm_140, mm_141, mm_142, mm_143] := am_Pl_c pk_128 (am_Pl_c pk_129 (am_Pl_c pk_130 (am_Pl_c pk_131 (am_Pl_c pk_132 (am_Pl_c pk_133 (am_Pl_c pk_134 (am_Pl_c pk_135 (am_Pl_c pk_136 (am_Pl_c pk_137 (am_Pl_c pk_138 (am_Pl_c pk_139 (am_Pl_c pk_140 (am_Pl_c pk_141 (am_Pl_c pk_142 (am_Pl_c pk_143 (am_Pl_n _))))))))))))))))
theorem pl_9 : am_Pl 144 [mm_144, mm_145, mm_146, mm_147, mm_148, mm_149, mm_150, mm_151, mm_152, mm_153, mm_154, mm_155, mm_156, mm_157, mm_158, mm_159] := am_Pl_c pk_144 (am_Pl_c pk_145 (am_Pl_c pk_146 (am_Pl_c pk_147 (am_Pl_c pk_148 (am_Pl_c pk_149 (am_Pl_c pk_150 (am_Pl_c pk_151 (am_Pl_c pk_152 (am_Pl_c pk_153 (am_Pl_c pk_154 (am_Pl_c pk_155 (am_Pl_c pk_156 (am_Pl_c pk_157 (am_Pl_c pk_158 (am_Pl_c pk_159 (am_Pl_n _))))))))))))))))
theorem pl_10 : am_Pl 160 [mm_160, mm_161, mm_162, mm_163, mm_164, mm_165, mm_166, mm_167, mm_168, mm_169, mm_170, mm_171, mm_172, mm_173, mm_174, mm_175] := am_Pl_c pk_160 (am_Pl_c pk_161 (am_Pl_c pk_162 (am_Pl_c pk_163 (am_Pl_c pk_164 (am_Pl_c pk_165 (am_Pl_c pk_166 (am_Pl_c pk_167 (am_Pl_c pk_168 (am_Pl_c pk_169 (am_Pl_c pk_170 (am_Pl_c pk_171 (am_Pl_c pk_172 (am_Pl_c pk_173 (am_Pl_c pk_174 (am_Pl_c pk_175 (am_Pl_n _))))))))))))))))
theorem pl_11 : am_Pl 176 [mm_176, mm_177, mm_178, mm_179, mm_180, mm_181, mm_182, mm_183, mm_184, mm_185, mm_186, mm_187, mm_188, mm_189, mm_190, mm_191] := am_Pl_c pk_176 (am_Pl_c pk_177 (am_Pl_c pk_178 (am_Pl_c pk_179 (am_Pl_c pk_180 (am_Pl_c pk_181 (am_Pl_c pk_182 (am_Pl_c pk_183 (am_Pl_c pk_184 (am_Pl_c pk_185 (am_Pl_c pk_186 (am_Pl_c pk_187 (am_Pl_c pk_188 (am_Pl_c pk_189 (am_Pl_c pk_190 (am_Pl_c pk_191 (am_Pl_n _))))))))))))))))
theorem pl_12 : am_Pl 192 [mm_192, mm_193, mm_194, mm_195, mm_196, mm_197, mm_198, mm_199, mm_200, mm_201, mm_202, mm_203, mm_204, mm_205, mm_206, mm_207] := am_Pl_c pk_192 (am_Pl_c pk_193 (am_Pl_c pk_194 (am_Pl_c pk_195 (am_Pl_c pk_196 (am_Pl_c pk_197 (am_Pl_c pk_198 (am_Pl_c pk_199 (am_Pl_c pk_200 (am_Pl_c pk_201 (am_Pl_c pk_202 (am_Pl_c pk_203 (am_Pl_c pk_204 (am_Pl_c pk_205 (am_Pl_c pk_206 (am_Pl_c pk_207 (am_Pl_n _))))))))))))))))
theorem pl_13 : am_Pl 208 [mm_208, mm_209, mm_210, mm_211, mm_212, mm_213, mm_214, mm_215, mm_216, mm_217, mm_218, mm_219, mm_220, mm_221, mm_222, mm_223] := am_Pl_c pk_208 (am_Pl_c pk_209 (am_Pl_c pk_210 (am_Pl_c pk_211 (am_Pl_c pk_212 (am_Pl_c pk_213 (am_Pl_c pk_214 (am_Pl_c pk_215 (am_Pl_c pk_216 (am_Pl_c pk_217 (am_Pl_c pk_218 (am_Pl_c pk_219 (am_Pl_c pk_220 (am_Pl_c pk_221 (am_Pl_c pk_222 (am_Pl_c pk_223 (am_Pl_n _))))))))))))))))
theorem pl_14 : am_Pl 224 [mm_224, mm_225, mm_226, mm_227, mm_228, mm_229, mm_230, mm_231, mm_232, mm_233, mm_234, mm_235, mm_236, mm_237, mm_238, mm_239] := am_Pl_c pk_224 (am_Pl_c pk_225 (am_Pl_c pk_226 (am_Pl_c pk_227 (am_Pl_c pk_228 (am_Pl_c pk_229 (am_Pl_c pk_230 (am_Pl_c pk_231 (am_Pl_c pk_232 (am_Pl_c pk_233 (am_Pl_c pk_234 (am_Pl_c pk_235 (am_Pl_c pk_236 (am_Pl_c pk_237 (am_Pl_c pk_238 (am_Pl_c pk_239 (am_Pl_n _))))))))))))))))
theorem pl_15 : am_Pl 240 [mm_240, mm_241, mm_242, mm_243, mm_244, mm_245, mm_246, mm_247, mm_248, mm_249, mm_250, mm_251, mm_252, mm_253, mm_254, mm_255] := am_Pl_c pk_240 (am_Pl_c pk_241 (am_Pl_c pk_242 (am_Pl_c pk_243 (am_Pl_c pk_244 (am_Pl_c pk_245 (am_Pl_c pk_246 (am_Pl_c pk_247 (am_Pl_c pk_248 (am_Pl_c pk_249 (am_Pl_c pk_250 (am_Pl_c pk_251 (am_Pl_c pk_252 (am_Pl_c pk_253 (am_Pl_c pk_254 (am_Pl_c pk_255 (am_Pl_n _))))))))))))))))
theorem pl_16 : am_Pl 256 [mm_256, mm_257, mm_258, mm_259, mm_260, mm_261, mm_262, mm_263, mm_264, mm_265, mm_266, mm_267, mm_268, mm_269, mm_270, mm_271] := am_Pl_c pk_256 (am_Pl_c pk_257 (am_Pl_c pk_258 (am_Pl_c pk_259 (am_Pl_c pk_260 (am_Pl_c pk_261 (am_Pl_c pk_262 (am_Pl_c pk_263 (am_Pl_c pk_264 (am_Pl_c pk_265 (am_Pl_c pk_266 (am_Pl_c pk_267 (am_Pl_c pk_268 (am_Pl_c pk_269 (am_Pl_c pk_270 (am_Pl_c pk_271 (am_Pl_n _))))))))))))))))
theorem pl_17 : am_Pl 272 [mm_272, mm_273, mm_274, mm_275, mm_276, mm_277, mm_278, mm_279, mm_280, mm_281, mm_282, mm_283, mm_284, mm_285, mm_286, mm_287] := am_Pl_c pk_272 (am_Pl_c pk_273 (am_Pl_c pk_274 (am_Pl_c pk_275 (am_Pl_c pk_276 (am_Pl_c pk_277 (am_Pl_c pk_278 (am_Pl_c pk_279 (am_Pl_c pk_280 (am_Pl_c pk_281 (am_Pl_c pk_282 (am_Pl_c pk_283 (am_Pl_c pk_284 (am_Pl_c pk_285 (am_Pl_c pk_286 (am_Pl_c pk_287 (am_Pl_n _))))))))))))))))
theorem pl_18 : am_Pl 288 [mm_288, mm_289] := am_Pl_c pk_288 (am_Pl_c pk_289 (am_Pl_n _))
theorem pl_all : am_Pll 0 am_ms := am_Pll_c pl_0 (am_Pll_c pl_1 (am_Pll_c pl_2 (am_Pll_c pl_3 (am_Pll_c pl_4 (am_Pll_c pl_5 (am_Pll_c pl_6 (am_Pll_c pl_7 (am_Pll_c pl_8 (am_Pll_c pl_9 (am_Pll_c pl_10 (am_Pll_c pl_11 (am_Pll_c pl_12 (am_Pll_c pl_13 (am_Pll_c pl_14 (am_Pll_c pl_15 (am_Pll_c pl_16 (am_Pll_c pl_17 (am_Pll_c pl_18 (am_Pll_n _)))))))))))))))))))
theorem am_ok : am_Ok := by
  intro mi M h
  unfold am_meth at h
  split at h
  · next l hl =>
    have h1 := pl_all _ l hl _ M h
    rw [show 16 * (0 + mi / 16) + mi % 16 = mi by omega] at h1
    exact h1
  · cases h
