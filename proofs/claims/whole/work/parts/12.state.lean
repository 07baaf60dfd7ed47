/-! THE STATE OF BOTH: u is the reference's row of numbers; class cells hold it by tables -/
abbrev am_U : Type := Nat → Nat
def upN (u : am_U) (j n : Nat) : am_U := fun i => if i = j then n else u i
theorem upN_s {u : am_U} {j n : Nat} : upN u j n j = n := if_pos rfl
theorem upN_n {u : am_U} {j n i : Nat} (h : i ≠ j) : upN u j n i = u i := if_neg h
def Rel (T : List (Nat × Nat × Nat)) (I : am_I) (u : am_U) : Prop := ∀ t ∈ T, I t.1 t.2.1 = nI (u t.2.2)
theorem Rel.get {T : List (Nat × Nat × Nat)} {I : am_I} {u : am_U} (h : Rel T I u) (o k j : Nat) (ht : (o, k, j) ∈ T) : I o k = nI (u j) := h _ ht
theorem Rel.put {T : List (Nat × Nat × Nat)} {I : am_I} {u : am_U} {n : Nat} {v : Int32} (h : Rel T I u) (o k j : Nat) (hv : v = nI n) (hb : ∀ t ∈ T, (t.1 = o ∧ t.2.1 = k) ↔ t.2.2 = j) : Rel T (am_put I o k v) (upN u j n) := by
  intro t ht
  unfold am_put upN
  by_cases e : t.1 = o ∧ t.2.1 = k
  · rw [if_pos e, if_pos ((hb t ht).mp e), hv]
  · rw [if_neg e, if_neg (fun q => e ((hb t ht).mpr q))]
    exact h t ht
theorem Rel.off {T : List (Nat × Nat × Nat)} {I : am_I} {u : am_U} {v : Int32} (h : Rel T I u) (o k : Nat) (hb : ∀ t ∈ T, ¬ (t.1 = o ∧ t.2.1 = k)) : Rel T (am_put I o k v) u := by
  intro t ht
  unfold am_put
  rw [if_neg (hb t ht)]
  exact h t ht
theorem Rel.offu {T : List (Nat × Nat × Nat)} {I : am_I} {u : am_U} {n : Nat} (h : Rel T I u) (j : Nat) (hb : ∀ t ∈ T, t.2.2 ≠ j) : Rel T I (upN u j n) := by
  intro t ht
  rw [upN_n (hb t ht)]
  exact h t ht
theorem Rel.kept {T : List (Nat × Nat × Nat)} {I I' : am_I} {u : am_U} (h : Rel T I u) (hb : ∀ t ∈ T, I' t.1 = I t.1) : Rel T I' u := by
  intro t ht
  rw [hb t ht]
  exact h t ht
theorem Rel.keptu {T : List (Nat × Nat × Nat)} {I : am_I} {u u' : am_U} (h : Rel T I u) (hb : ∀ t ∈ T, u' t.2.2 = u t.2.2) : Rel T I u' := by
  intro t ht
  rw [hb t ht]
  exact h t ht
/-- a course at cell c; the road at cell b -/
def TC (c : Nat) : List (Nat × Nat × Nat) := [(c, 0, 0), (c, 1, 3), (c, 2, 4), (c, 3, 2)]
def TR (b : Nat) : List (Nat × Nat × Nat) := [(b, 2, 6), (b, 10, 1), (b, 11, 5), (b, 12, 7), (b, 15, 8)]
  ++ (List.range 6).map (fun k => (b + 2, k, 38 + 6 * k)) ++ (List.range 6).map (fun k => (b + 3, k, 39 + 6 * k)) ++ (List.range 6).map (fun k => (b + 4, k, 40 + 6 * k)) ++ (List.range 6).map (fun k => (b + 5, k, 41 + 6 * k))
  ++ (List.range 16).map (fun k => (b + 6, k, 10 + k)) ++ (List.range 6).map (fun k => (b + 7, k, 26 + k)) ++ (List.range 6).map (fun k => (b + 8, k, 32 + k))
  ++ (List.range 6).map (fun k => (b + 11, k, 74 + 4 * k)) ++ (List.range 6).map (fun k => (b + 12, k, 75 + 4 * k)) ++ (List.range 6).map (fun k => (b + 13, k, 76 + 4 * k)) ++ (List.range 6).map (fun k => (b + 14, k, 77 + 4 * k))
/-- how often each was met: four bits each; who is fed: a bit each -/
def am_nib (x k : Int32) : Int32 := (x.toUInt32 >>> ((4 * k).toUInt32 &&& Int32.toUInt32 31)).toInt32 &&& 15
def MetR (x : Int32) (u : am_U) : Prop := ∀ k, k < 6 → am_nib x (nI k) = nI (u (42 + 6 * k))
def fedN (u : am_U) : Nat := u 43 + 2 * u 49 + 4 * u 55 + 8 * u 61 + 16 * u 67 + 32 * u 73
def CRep (I : am_I) (c : Nat) (u : am_U) : Prop := Rel (TC c) I u ∧ MetR (I c 4) u ∧ I c 5 = nI (fedN u)
def MRep (I : am_I) (o : Nat) (u : am_U) : Prop := ∀ j, j < 322 → I o j = nI (u j)
/-- how the reference evaluates the steps from i on to e -/
def sp_known (u : am_U) (st k w : Nat) : Nat := if w = 0 then u 0 else if w = 1 then u (40 + 6 * k) else if w = 2 then st else if w = 3 then u 3 else k
def sp_join (x a b : Nat) : Nat := if x = 10010 then (if a < b then 1 else 0) else if x = 10011 then (if a = b then 1 else 0) else if x = 10012 then (if b < a then 1 else 0) else if x = 10013 then (if a ≠ 0 ∧ b ≠ 0 then 1 else 0) else (if a ≠ 0 ∨ b ≠ 0 then 1 else 0)
/-- F: the five facts. The pile is a list, its top first. -/
def sp_ev (F : Nat → Nat) : List Nat → List Nat → Option (List Nat)
  | [], pl => some pl
  | x :: l, pl => if x < 10010 then sp_ev F l ((if x < 10000 then x else F (x - 10000)) :: pl) else if 10015 < x then none else match pl with
    | [] => none
    | a :: pl => if x = 10015 then (if a ≤ 1 then sp_ev F l ((1 - a) :: pl) else none) else match pl with
      | [] => none
      | b :: pl => sp_ev F l (sp_join x b a :: pl)
def sp_beg (u : am_U) (r : Nat) : Nat := if r = 0 then 0 else u (98 + 3 * (r - 1) + 2)
def sp_end (u : am_U) (r : Nat) : Nat := u (98 + 3 * r + 2)
def sp_steps (u : am_U) (r : Nat) : List Nat := (List.range (sp_end u r - sp_beg u r)).map (fun i => u (122 + (sp_beg u r + i)))
/-- the truth of rule r's condition -/
def sp_holds (u : am_U) (r : Nat) (F : Nat → Nat) : Bool := match sp_ev F (sp_steps u r) [] with
  | some [] => true
  | some (a :: _) => a != 0
  | none => true
/-- how the class evaluates its code: a sign ahead of its two values, a join behind; truths wait as bits, the latest lowest -/
def sp_val (F : Nat → Nat) (x : Nat) : Nat := if 10013 ≤ x ∧ x < 10018 then F (x - 10013) else x
def sp_cmp (F : Nat → Nat) (sg a b : Nat) : Bool := if sg = 20060 then decide (sp_val F a < sp_val F b) else if sg = 20062 then decide (sp_val F b < sp_val F a) else decide (sp_val F a = sp_val F b)
def sp_hc (F : Nat → Nat) : List Nat → List Bool → Option (List Bool)
  | [], pl => some pl
  | x :: l, pl => if x = 10012 then (match pl with
      | a :: pl => sp_hc F l ((!a) :: pl)
      | [] => none)
    else if x = 10011 then (match pl with
      | a :: b :: pl => sp_hc F l ((b && a) :: pl)
      | _ => none)
    else if x = 10010 then (match pl with
      | a :: b :: pl => sp_hc F l ((b || a) :: pl)
      | _ => none)
    else match l with
      | a :: b :: l => if pl.length < 20 then sp_hc F l (sp_cmp F x a b :: pl) else none
      | _ => none
/-- the class's code of a rule and the reference's steps of it say the same of all facts -/
def RuR1 (cd : Nat → Int32) (u : am_U) (r a : Nat) : Prop := ∃ (len : Nat) (cs : List Nat), a + 3 + len ≤ 200 ∧ cs.length = len ∧ cd a = nI (u (98 + 3 * r)) ∧ cd (a + 1) = nI (u (98 + 3 * r + 1)) ∧ cd (a + 2) = nI len ∧ (∀ i, i < len → cd (a + 3 + i) = nI (cs.getD i 0) ∧ cs.getD i 0 < 30000) ∧
  ∀ F : Nat → Nat, (len = 0 ∧ sp_steps u r = []) ∨ ∃ x : Bool, sp_hc F cs [] = some [x] ∧ sp_ev F (sp_steps u r) [] = some [if x then 1 else 0]
def RuR (cd : Nat → Int32) (u : am_U) : Prop := ∃ at' : Nat → Nat, at' 0 = 0 ∧ ∀ r, r < u 7 → RuR1 cd u r (at' r) ∧ cd (at' r + 2) = nI (at' (r + 1) - at' r - 3) ∧ (at' r + 3 ≤ at' (r + 1) ∧ at' (r + 1) ≤ 200) ∧ sp_beg u r ≤ sp_end u r ∧ sp_end u r ≤ 200
def OKb : List (Nat × Nat) := [(0, 16), (1, 16), (3, 9), (4, 999), (6, 6), (7, 8), (8, 6)] ++ (List.range 16).map (fun k => (10 + k, 15)) ++ (List.range 12).map (fun k => (26 + k, 9))
  ++ (List.range 6).map (fun k => (38 + 6 * k, 5)) ++ (List.range 6).map (fun k => (39 + 6 * k, 60)) ++ (List.range 6).map (fun k => (40 + 6 * k, 9)) ++ (List.range 6).map (fun k => (41 + 6 * k, 5)) ++ (List.range 6).map (fun k => (42 + 6 * k, 9)) ++ (List.range 6).map (fun k => (43 + 6 * k, 1))
  ++ (List.range 6).map (fun k => (74 + 4 * k, 15)) ++ (List.range 6).map (fun k => (75 + 4 * k, 1)) ++ (List.range 6).map (fun k => (76 + 4 * k, 999)) ++ (List.range 6).map (fun k => (77 + 4 * k, 999)) ++ (List.range 8).map (fun k => (98 + 3 * k, 5)) ++ (List.range 8).map (fun k => (99 + 3 * k, 2))
/-- what the numbers may be -/
def OKu (u : am_U) : Prop := (∀ q ∈ OKb, u q.1 ≤ q.2) ∧ u 0 ≤ u 1 ∧ 1 ≤ u 1 ∧ (∀ k, k < u 6 → 1 ≤ u (38 + 6 * k)) ∧ ∀ k f, u 6 ≤ k → k < 6 → f < 6 → u (38 + 6 * k + f) = 0
def RRep (I : am_I) (b : Nat) (u : am_U) : Prop := Rel (TR b) I u ∧ RuR (I (b + 9)) u
/-- the state of the road, kept or not, in both -/
def Main (I : am_I) (b c o : Nat) (u : am_U) : Prop := MRep I o u ∧ RRep I b u ∧ CRep I c u ∧ OKu u
def KeptR (I : am_I) (uk : am_U) : Prop := I 0 2 = I 66 3 ∧ (I 0 2 = 0 ∨ (I 0 2 = 1 ∧ Main I 23 24 68 uk))
def TapeR (I : am_I) : Prop := ∃ n, n ≤ 200 ∧ I 38 1 = nI n ∧ I 66 6 = nI n ∧ ∀ j, j < n → ∃ x, x < 256 ∧ I 71 j = nI x ∧ I 39 j = (nI x).toInt8.toInt32
def RowsR (I : am_I) : Prop := ∃ n, n ≤ 4 ∧ I 0 7 = nI n ∧ I 66 29 = nI n ∧ ∀ j, j < 3 * n → I 53 j = I 80 j
def SheetR (I : am_I) : Prop := ∀ h, h < 4 → (I 54 h = -1 ∧ I 81 h = -1) ∨ ∃ so n, so < 5 ∧ n ≤ 40 ∧ I 54 h = nI so ∧ I 81 h = nI so ∧ I 55 h = nI n ∧ I 82 h = nI n ∧ ∀ j, j < 40 → I (57 + h) j = I 83 (40 * h + j)
def ShelfR (I : am_I) : Prop := ∀ h, h < 4 → (I 61 h = 2 ∧ I 84 h = -1) ∨ (I 61 h = 0 ∧ I 84 h = 0 ∧ ∃ k, k < 6 ∧ I 62 h = nI k ∧ I 85 h = nI k) ∨ (I 61 h = 1 ∧ ∃ so n, so < 5 ∧ n ≤ 40 ∧ I 84 h = nI (10 + so) ∧ I 62 h = nI so ∧ I 63 h = nI n ∧ I 85 h = nI n)
def TraceR (I : am_I) : Prop := ∃ n, n ≤ 30 ∧ I 64 4 = nI n ∧ I 66 36 = nI n ∧ ∀ j, j < n → I 65 j = I 86 j
def am_ml : List (List Nat) := [[112, 101, 114, 115, 111, 110, 32, 32], [116, 114, 97, 109, 112, 32, 32, 32], [112, 105, 108, 103, 114, 105, 109, 32], [98, 105, 115, 104, 111, 112, 32, 32], [102, 114, 105, 101, 110, 100, 32, 32], [100, 111, 117, 98, 108, 101, 32, 32], [98, 114, 101, 97, 107, 32, 32, 32], [112, 97, 115, 115, 32, 32, 32, 32], [115, 104, 117, 116, 32, 32, 32, 32], [105, 102, 32, 32, 32, 32, 32, 32], [110, 111, 116, 32, 32, 32, 32, 32], [97, 110, 100, 32, 32, 32, 32, 32], [111, 114, 32, 32, 32, 32, 32, 32], [100, 97, 121, 32, 32, 32, 32, 32], [116, 97, 108, 101, 32, 32, 32, 32], [115, 116, 114, 97, 110, 103, 101, 32], [115, 110, 111, 119, 32, 32, 32, 32], [110, 117, 109, 98, 101, 114, 32, 32]]
def LetR (I : am_I) : Prop := ∀ w k, w < 18 → k < 8 → I 72 (8 * w + k) = nI ((am_ml.getD w []).getD k 0)
def Rest (I : am_I) : Prop := TapeR I ∧ RowsR I ∧ SheetR I ∧ ShelfR I ∧ TraceR I ∧ LetR I
/-- THE INVARIANT -/
def Inv (I : am_I) : Prop := ∃ u uk, Main I 8 9 67 u ∧ KeptR I uk ∧ Rest I
