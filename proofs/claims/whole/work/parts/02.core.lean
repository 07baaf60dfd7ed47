/-! THE ABSTRACT MACHINE: cells by number, ints as functions, methods by number; what one instruction asks (am_step), and what a judgement closed under it gives -/
abbrev am_I : Type := Nat → Nat → Int32
abbrev am_E : Type := Instr × Nat × Nat × Nat × List Nat × Int32
abbrev am_M : Type := MethodName × ByteArray × Nat × Option FieldType × List (List (Option am_E))
abbrev am_Q : Type := Option Value → am_I → Prop
abbrev am_J : Type := Nat → Nat → Nat → List (Option Value) → List Value → am_I → am_Q → Prop
def am_nth {α : Type} : List α → Nat → Option α
  | [], _ => none
  | a :: _, 0 => some a
  | _ :: l, n + 1 => am_nth l n
def am_set : List (Option Value) → Nat → Value → List (Option Value)
  | [], _, _ => []
  | _ :: l, 0, v => some v :: l
  | x :: l, n + 1, v => x :: am_set l n v
/-- locals at a method's entry -/
def am_exp : List Value → List (Option Value)
  | [] => []
  | v :: l => match v with
    | .long x => some (.long x) :: none :: am_exp l
    | w => some w :: am_exp l
def am_pad : Nat → List (Option Value) → List (Option Value)
  | 0, _ => []
  | n + 1, [] => none :: am_pad n []
  | n + 1, x :: l => x :: am_pad n l
def am_pop : Nat → List Value → List Value → Option (List Value × List Value)
  | 0, st, acc => some (acc, st)
  | n + 1, v :: st, acc => am_pop n st (v :: acc)
  | _ + 1, [], _ => none
def am_cs : List Value → Nat
  | [] => 0
  | v :: l => v.category + am_cs l
def am_mx (x y : Int32) : Int32 := if x < y then y else x
def am_mn (x y : Int32) : Int32 := if y < x then y else x
def am_ab (x : Int32) : Int32 := if 0 ≤ x then x else 0 - x
/-- the two methods that take a long, in their second place -/
def am_lg (b : Nat) : Bool := Nat.beq b 103 || Nat.beq b 198
def am_nol : List Value → Bool
  | [] => true
  | .long _ :: _ => false
  | .double _ :: _ => false
  | _ :: l => am_nol l
def am_argok (b : Nat) (args : List Value) : Bool := match args with
  | [.ref _, .long _, .int _] => am_lg b
  | l => am_nol l
def am_put (I : am_I) (o k : Nat) (v : Int32) : am_I := fun o' k' => if o' = o ∧ k' = k then v else I o' k'
def am_cpy (I : am_I) (o1 p1 o2 p2 n : Nat) : am_I := fun o' k' => if o' = o2 ∧ p2 ≤ k' ∧ k' < p2 + n then I o1 (p1 + (k' - p2)) else I o' k'
/-- the cells: objects by class, arrays by type and length -/
abbrev am_S : Type := Nat ⊕ (FieldType × Nat)
def am_Gl : List am_S := [.inl 11, .inr (.object "BrokenLoaves$Person", 6), .inl 4, .inl 9, .inl 5, .inl 0, .inl 3, .inl 10, .inl 7, .inl 1, .inr (.int, 6), .inr (.int, 6), .inr (.int, 6), .inr (.int, 6), .inr (.int, 16), .inr (.int, 6), .inr (.int, 6), .inr (.int, 200), .inr (.int, 5), .inr (.int, 6), .inr (.int, 6), .inr (.int, 6), .inr (.int, 6), .inl 7, .inl 1, .inr (.int, 6), .inr (.int, 6), .inr (.int, 6), .inr (.int, 6), .inr (.int, 16), .inr (.int, 6), .inr (.int, 6), .inr (.int, 200), .inr (.int, 5), .inr (.int, 6), .inr (.int, 6), .inr (.int, 6), .inr (.int, 6), .inl 8, .inr (.byte, 200), .inr (.int, 200), .inr (.int, 200), .inr (.int, 200), .inl 6, .inr (.object "BrokenLoaves$Course", 5), .inr (.int, 4), .inr (.int, 4), .inl 1, .inl 1, .inl 1, .inl 1, .inl 1, .inl 1, .inr (.int, 12), .inr (.int, 4), .inr (.int, 4), .inr (.array .int, 4), .inr (.int, 40), .inr (.int, 40), .inr (.int, 40), .inr (.int, 40), .inr (.int, 4), .inr (.int, 4), .inr (.int, 4), .inl 2, .inr (.int, 30), .inl 12, .inr (.int, 322), .inr (.int, 322), .inr (.int, 74), .inr (.int, 200), .inr (.int, 200), .inr (.char, 144), .inr (.int, 200), .inr (.int, 24), .inr (.int, 370), .inr (.int, 4), .inr (.int, 4), .inr (.int, 16), .inr (.int, 16), .inr (.int, 12), .inr (.int, 4), .inr (.int, 4), .inr (.int, 160), .inr (.int, 4), .inr (.int, 4), .inr (.int, 30)]
def am_G (o : Nat) : Option am_S := am_nth am_Gl o
abbrev am_n : Nat := 87
/-- which cell a place of a cell refers to: never changed once the objects are made -/
def am_Rl : List (List (Option Nat)) := [[some 8, some 23, none, some 38, some 43, some 52, some 53, none, some 54, some 55, some 56, some 61, some 62, some 63, some 64], [some 2, some 3, some 4, some 5, some 6, some 7], [], [], [], [], [], [], [some 1, some 9, none, some 10, some 11, some 12, some 13, some 14, some 15, some 16, none, none, none, some 17, some 18, none, some 19, some 20, some 21, some 22], [], [], [], [], [], [], [], [], [], [], [], [], [], [], [some 1, some 24, none, some 25, some 26, some 27, some 28, some 29, some 30, some 31, none, none, none, some 32, some 33, none, some 34, some 35, some 36, some 37], [], [], [], [], [], [], [], [], [], [], [], [], [], [], [some 39, none, some 40, some 41, none, none, some 42], [], [], [], [], [some 8, some 44, some 45, none, none, none, none, some 46], [some 47, some 48, some 49, some 50, some 51], [], [], [], [], [], [], [], [], [], [], [], [some 57, some 58, some 59, some 60], [], [], [], [], [], [], [], [none, none, none, some 65], [], [some 67, some 68, some 69, none, some 70, some 71, none, some 72, none, none, none, none, none, none, some 73, some 74, none, none, some 75, some 76, some 77, none, none, none, none, some 78, some 79, none, some 80, none, some 81, some 82, some 83, some 84, some 85, some 86]]
def am_R (o k : Nat) : Option Nat := match am_nth am_Rl o with
  | some l => match am_nth l k with
    | some r => r
    | none => none
  | none => none
/-- fields of a class: 0 an int, 1 a reference, 2 a boolean -/
def am_Fl : List (List Nat) := [[], [0, 0, 0, 0, 0, 0], [0, 0, 2, 1, 0], [], [], [], [1, 1, 1, 0, 0, 0, 0, 1, 0, 0, 0], [1, 1, 0, 1, 1, 1, 1, 1, 1, 1, 0, 0, 0, 1, 1, 0, 1, 1, 1, 1], [1, 0, 1, 1, 0, 0, 1, 0, 0], [], [], [1, 1, 2, 1, 1, 1, 1, 0, 1, 1, 1, 1, 1, 1, 1], [1, 1, 1, 2, 1, 1, 0, 1, 0, 0, 0, 0, 0, 0, 1, 1, 0, 0, 1, 1, 1, 0, 0, 0, 0, 1, 1, 0, 1, 0, 1, 1, 1, 1, 1, 1, 0, 0, 2]]
def am_ft (ci k : Nat) : Nat := match am_nth am_Fl ci with
  | some l => match am_nth l k with
    | some r => r
    | none => 0
  | none => 0
abbrev am_scr : Nat := 200
def am_ins (M : am_M) (pc : Nat) : Option am_E := match am_nth M.2.2.2.2 (pc / 16) with
  | some l => match am_nth l (pc % 16) with
    | some x => x
    | none => none
  | none => none
/-- a text's letters, by its number -/
def am_txt : List (List Int32) := [[112, 101, 114, 115, 111, 110], [116, 114, 97, 109, 112], [112, 105, 108, 103, 114, 105, 109], [98, 105, 115, 104, 111, 112], [102, 114, 105, 101, 110, 100], [100, 111, 117, 98, 108, 101], [98, 114, 101, 97, 107], [112, 97, 115, 115], [115, 104, 117, 116], [105, 102], [111, 114], [97, 110, 100], [110, 111, 116], [100, 97, 121], [116, 97, 108, 101], [115, 116, 114, 97, 110, 103, 101], [115, 110, 111, 119], [110, 117, 109, 98, 101, 114]]
def am_txl (w : Nat) : Nat := match am_nth am_txt w with
  | some l => l.length
  | none => 0
def am_txc (w k : Nat) : Int32 := match am_nth am_txt w with
  | some l => l.getD k 0
  | none => 0

section
variable (mt : Nat → Option am_M) (L : Nat) (xs : Nat → Int32) (Y X : am_J)
def am_call (b : Nat) (args rest : List Value) (d mi n : Nat) (lv : List (Option Value)) (I : am_I) (Q : am_Q) : Prop :=
  match d with
  | 0 => False
  | d' + 1 => match mt b with
    | none => False
    | some M => match Nat.ble (am_cs rest) 8 && (Nat.ble (am_cs args) M.2.2.1 && am_argok b args) with
      | false => False
      | true => Y d' b 0 (am_pad M.2.2.1 (am_exp args)) [] I (fun r I' => X (d' + 1) mi n lv (r.toList ++ rest) I' Q)
def am_sw (ts : List Nat) (v x : Int32) (dflt d mi : Nat) (lv : List (Option Value)) (st : List Value) (I : am_I) (Q : am_Q) : Prop :=
  match ts with
  | [] => X d mi dflt lv st I Q
  | t :: ts => (x = v → X d mi t lv st I Q) ∧ (¬ x = v → am_sw ts (v + 1) x dflt d mi lv st I Q)
def am_bin (f : Int32 → Int32 → Int32) (d mi n : Nat) (lv : List (Option Value)) (st : List Value) (I : am_I) (Q : am_Q) : Prop :=
  match st with
  | .int y :: .int x :: st => X d mi n lv (.int (f x y) :: st) I Q
  | _ => False
def am_br2 (c : Int32 → Int32 → Prop) (a d mi n : Nat) (lv : List (Option Value)) (st : List Value) (I : am_I) (Q : am_Q) : Prop :=
  match st with
  | .int y :: .int x :: st => (c x y → X d mi a lv st I Q) ∧ (¬ c x y → X d mi n lv st I Q)
  | _ => False
def am_br1 (c : Int32 → Prop) (a d mi n : Nat) (lv : List (Option Value)) (st : List Value) (I : am_I) (Q : am_Q) : Prop :=
  match st with
  | .int x :: st => (c x → X d mi a lv st I Q) ∧ (¬ c x → X d mi n lv st I Q)
  | _ => False
def am_ild (a d mi n : Nat) (lv : List (Option Value)) (st : List Value) (I : am_I) (Q : am_Q) : Prop :=
  match am_nth lv a with
  | some (some (.int x)) => X d mi n lv (.int x :: st) I Q
  | _ => False
def am_lld (a d mi n : Nat) (lv : List (Option Value)) (st : List Value) (I : am_I) (Q : am_Q) : Prop :=
  match am_nth lv a with
  | some (some (.long x)) => X d mi n lv (.long x :: st) I Q
  | _ => False
def am_ald (a d mi n : Nat) (lv : List (Option Value)) (st : List Value) (I : am_I) (Q : am_Q) : Prop :=
  match am_nth lv a with
  | some (some (.ref x)) => X d mi n lv (.ref x :: st) I Q
  | _ => False
def am_ist (a d mi n : Nat) (lv : List (Option Value)) (st : List Value) (I : am_I) (Q : am_Q) : Prop :=
  match st with
  | .int x :: st => X d mi n (am_set lv a (.int x)) st I Q
  | _ => False
def am_ast (a d mi n : Nat) (lv : List (Option Value)) (st : List Value) (I : am_I) (Q : am_Q) : Prop :=
  match st with
  | .ref x :: st => X d mi n (am_set lv a (.ref x)) st I Q
  | _ => False
def am_inc (a : Nat) (v : Int32) (d mi n : Nat) (lv : List (Option Value)) (st : List Value) (I : am_I) (Q : am_Q) : Prop :=
  match am_nth lv a with
  | some (some (.int x)) => X d mi n (am_set lv a (.int (x + v))) st I Q
  | _ => False
def am_div (f : Int32 → Int32 → Int32) (d mi n : Nat) (lv : List (Option Value)) (st : List Value) (I : am_I) (Q : am_Q) : Prop :=
  match st with
  | .int y :: .int x :: st => ¬ y = 0 ∧ X d mi n lv (.int (f x y) :: st) I Q
  | _ => False
def am_una (f : Int32 → Int32) (d mi n : Nat) (lv : List (Option Value)) (st : List Value) (I : am_I) (Q : am_Q) : Prop :=
  match st with
  | .int x :: st => X d mi n lv (.int (f x) :: st) I Q
  | _ => False
def am_lbin (f : Int64 → Int64 → Int64) (d mi n : Nat) (lv : List (Option Value)) (st : List Value) (I : am_I) (Q : am_Q) : Prop :=
  match st with
  | .long y :: .long x :: st => X d mi n lv (.long (f x y) :: st) I Q
  | _ => False
def am_lsh (f : Int64 → Int32 → Int64) (d mi n : Nat) (lv : List (Option Value)) (st : List Value) (I : am_I) (Q : am_Q) : Prop :=
  match st with
  | .int y :: .long x :: st => X d mi n lv (.long (f x y) :: st) I Q
  | _ => False
def am_getf (ci k : Nat) (d mi n : Nat) (lv : List (Option Value)) (st : List Value) (I : am_I) (Q : am_Q) : Prop :=
  match st with
  | .ref o :: st => match am_G o with
    | some (.inl c) => match Nat.beq c ci with
      | true => match am_ft ci k with
        | 1 => match am_R o k with
          | some r => X d mi n lv (.ref r :: st) I Q
          | none => False
        | _ => X d mi n lv (.int (I o k) :: st) I Q
      | false => False
    | _ => False
  | _ => False
def am_putf (ci k : Nat) (d mi n : Nat) (lv : List (Option Value)) (st : List Value) (I : am_I) (Q : am_Q) : Prop :=
  match st with
  | .int v :: .ref o :: st => match am_G o with
    | some (.inl c) => match Nat.beq c ci with
      | true => match am_ft ci k with
        | 0 => X d mi n lv st (am_put I o k v) Q
        | 2 => (v = 0 ∨ v = 1) ∧ X d mi n lv st (am_put I o k v) Q
        | _ => False
      | false => False
    | _ => False
  | _ => False
/-- t: 0 an int array's load, 1 a byte array's, 2 a char array's -/
def am_ald1 (t : Nat) (d mi n : Nat) (lv : List (Option Value)) (st : List Value) (I : am_I) (Q : am_Q) : Prop :=
  match st with
  | .int i :: .ref o :: st => match am_G o with
    | some (.inr (.int, w)) => match t with
      | 0 => vp_in i w ∧ X d mi n lv (.int (I o i.toNatClampNeg) :: st) I Q
      | _ => False
    | some (.inr (.byte, w)) => match t with
      | 1 => vp_in i w ∧ X d mi n lv (.int (I o i.toNatClampNeg) :: st) I Q
      | _ => False
    | some (.inr (.char, w)) => match t with
      | 2 => vp_in i w ∧ X d mi n lv (.int (I o i.toNatClampNeg) :: st) I Q
      | _ => False
    | none => match t with
      | 0 => match Nat.beq o am_scr with
        | true => vp_in i L ∧ X d mi n lv (.int (xs i.toNatClampNeg) :: st) I Q
        | false => False
      | _ => False
    | _ => False
  | _ => False
def am_ast1 (t : Nat) (d mi n : Nat) (lv : List (Option Value)) (st : List Value) (I : am_I) (Q : am_Q) : Prop :=
  match st with
  | .int v :: .int i :: .ref o :: st => match am_G o with
    | some (.inr (.int, w)) => match t with
      | 0 => vp_in i w ∧ X d mi n lv st (am_put I o i.toNatClampNeg v) Q
      | _ => False
    | some (.inr (.byte, w)) => match t with
      | 1 => vp_in i w ∧ X d mi n lv st (am_put I o i.toNatClampNeg v.toInt8.toInt32) Q
      | _ => False
    | _ => False
  | _ => False
def am_aald (d mi n : Nat) (lv : List (Option Value)) (st : List Value) (I : am_I) (Q : am_Q) : Prop :=
  match st with
  | .int i :: .ref o :: st => match am_G o with
    | some (.inr (.object _, w)) => vp_in i w ∧ match am_R o i.toNatClampNeg with
      | some r => X d mi n lv (.ref r :: st) I Q
      | none => False
    | some (.inr (.array _, w)) => vp_in i w ∧ match am_R o i.toNatClampNeg with
      | some r => X d mi n lv (.ref r :: st) I Q
      | none => False
    | _ => False
  | _ => False
def am_alen (d mi n : Nat) (lv : List (Option Value)) (st : List Value) (I : am_I) (Q : am_Q) : Prop :=
  match st with
  | .ref o :: st => match am_G o with
    | some (.inr (_, w)) => X d mi n lv (.int (nI w) :: st) I Q
    | none => match Nat.beq o am_scr with
      | true => X d mi n lv (.int (nI L) :: st) I Q
      | false => False
    | _ => False
  | _ => False
def am_ret (a : Nat) (st : List Value) (I : am_I) (Q : am_Q) : Prop :=
  match st with
  | [.int v] => match a with
    | 0 => Q (some (.int v)) I
    | _ => (v = 0 ∨ v = 1) ∧ Q (some (.int v)) I
  | _ => False
def am_aret (st : List Value) (I : am_I) (Q : am_Q) : Prop :=
  match st with
  | [.ref v] => Q (some (.ref v)) I
  | _ => False
def am_vret (st : List Value) (I : am_I) (Q : am_Q) : Prop :=
  match st with
  | [] => Q none I
  | _ => False
def am_inv (a b : Nat) (ts : List Nat) (d mi n : Nat) (lv : List (Option Value)) (st : List Value) (I : am_I) (Q : am_Q) : Prop :=
  match a, ts with
  | 0, [np] => match am_pop np st [] with
    | some (args, rest) => am_call mt Y X b args rest d mi n lv I Q
    | none => False
  | 4, [np] => match am_pop np st [] with
    | some (args, rest) => am_call mt Y X b args rest d mi n lv I Q
    | none => False
  | 1, [np, ci] => match am_pop np st [] with
    | some (args, .ref o :: rest) => match am_G o with
      | some (.inl c) => match Nat.beq c ci with
        | true => am_call mt Y X b (.ref o :: args) rest d mi n lv I Q
        | false => False
      | _ => False
    | _ => False
  | 2, np :: tb => match am_pop np st [] with
    | some (args, .ref o :: rest) => match am_G o with
      | some (.inl c) => match am_nth tb c with
        | some (b' + 1) => am_call mt Y X b' (.ref o :: args) rest d mi n lv I Q
        | _ => False
      | _ => False
    | _ => False
  | 3, [np, _] => match am_pop np st [] with
    | some (args, .ref o :: rest) => match am_G o with
      | some (.inl _) => am_call mt Y X b (.ref o :: args) rest d mi n lv I Q
      | _ => False
    | _ => False
  | 5, [] => match st with
    | .int k :: .int dp :: .ref o2 :: .int sp :: .ref o1 :: rest => match am_G o1 with
      | some (.inr (.int, n1)) => match am_G o2 with
        | some (.inr (.int, n2)) => match d with
          | 0 => False
          | d' + 1 => match Nat.ble (am_cs rest) 8 with
            | true => (0 ≤ sp ∧ 0 ≤ dp ∧ 0 ≤ k ∧ sp.toNatClampNeg + k.toNatClampNeg ≤ n1 ∧ dp.toNatClampNeg + k.toNatClampNeg ≤ n2) ∧ X (d' + 1) mi n lv rest (am_cpy I o1 sp.toNatClampNeg o2 dp.toNatClampNeg k.toNatClampNeg) Q
            | false => False
        | _ => False
      | _ => False
    | _ => False
  | 8, [] => match d with
    | d' + 1 => match st with
      | .int y :: .int x :: rest => match Nat.ble (am_cs rest) 8 with
        | true => X (d' + 1) mi n lv (.int (am_mx x y) :: rest) I Q
        | false => False
      | _ => False
    | _ => False
  | 9, [] => match d with
    | d' + 1 => match st with
      | .int y :: .int x :: rest => match Nat.ble (am_cs rest) 8 with
        | true => X (d' + 1) mi n lv (.int (am_mn x y) :: rest) I Q
        | false => False
      | _ => False
    | _ => False
  | 10, [] => match d with
    | d' + 1 => match st with
      | .int x :: rest => match Nat.ble (am_cs rest) 8 with
        | true => X (d' + 1) mi n lv (.int (am_ab x) :: rest) I Q
        | false => False
      | _ => False
    | _ => False
  | 6, [] => match d with
    | d' + 4 => match st with
      | .ref o :: rest => match Nat.ble (am_cs rest) 8 with
        | true => (1000 ≤ o ∧ o < 1018) ∧ X (d' + 4) mi n lv (.int (nI (am_txl (o - 1000))) :: rest) I Q
        | false => False
      | _ => False
    | _ => False
  | 7, [] => match d with
    | d' + 4 => match st with
      | .int i :: .ref o :: rest => match Nat.ble (am_cs rest) 8 with
        | true => (1000 ≤ o ∧ o < 1018 ∧ vp_in i (am_txl (o - 1000))) ∧ X (d' + 4) mi n lv (.int (am_txc (o - 1000) i.toNatClampNeg) :: rest) I Q
        | false => False
      | _ => False
    | _ => False
  | _, _ => False
def am_step (i : Instr) (n a b : Nat) (ts : List Nat) (v : Int32) (d mi : Nat) (lv : List (Option Value)) (st : List Value) (I : am_I) (Q : am_Q) : Prop :=
  match i with
  | .iconst _ => X d mi n lv (.int v :: st) I Q
  | .bipush _ => X d mi n lv (.int v :: st) I Q
  | .sipush _ => X d mi n lv (.int v :: st) I Q
  | .ldc _ => match a with
    | 0 => X d mi n lv (.int v :: st) I Q
    | _ => X d mi n lv (.ref (1000 + b) :: st) I Q
  | .ldc_w _ => X d mi n lv (.int v :: st) I Q
  | .ldc2_w _ => X d mi n lv (.long (Int64.ofNat b) :: st) I Q
  | .iload _ => am_ild X a d mi n lv st I Q
  | .iload_n _ => am_ild X a d mi n lv st I Q
  | .lload_n _ => am_lld X a d mi n lv st I Q
  | .aload _ => am_ald X a d mi n lv st I Q
  | .aload_n _ => am_ald X a d mi n lv st I Q
  | .istore _ => am_ist X a d mi n lv st I Q
  | .istore_n _ => am_ist X a d mi n lv st I Q
  | .astore _ => am_ast X a d mi n lv st I Q
  | .astore_n _ => am_ast X a d mi n lv st I Q
  | .iinc _ _ => am_inc X a v d mi n lv st I Q
  | .iadd => am_bin X (fun x y => x + y) d mi n lv st I Q
  | .isub => am_bin X (fun x y => x - y) d mi n lv st I Q
  | .imul => am_bin X (fun x y => x * y) d mi n lv st I Q
  | .iand => am_bin X (fun x y => x &&& y) d mi n lv st I Q
  | .ior => am_bin X (fun x y => x ||| y) d mi n lv st I Q
  | .ixor => am_bin X (fun x y => x ^^^ y) d mi n lv st I Q
  | .ishl => am_bin X (fun x y => x <<< (y &&& 31)) d mi n lv st I Q
  | .ishr => am_bin X (fun x y => x >>> (y &&& 31)) d mi n lv st I Q
  | .iushr => am_bin X (fun x y => (x.toUInt32 >>> (y.toUInt32 &&& Int32.toUInt32 31)).toInt32) d mi n lv st I Q
  | .idiv => am_div X (fun x y => x / y) d mi n lv st I Q
  | .irem => am_div X (fun x y => x - x / y * y) d mi n lv st I Q
  | .ineg => am_una X (fun x => -x) d mi n lv st I Q
  | .i2b => am_una X (fun x => x.toInt8.toInt32) d mi n lv st I Q
  | .i2s => am_una X (fun x => x.toInt16.toInt32) d mi n lv st I Q
  | .i2l => match st with
    | .int x :: st => X d mi n lv (.long x.toInt64 :: st) I Q
    | _ => False
  | .l2i => match st with
    | .long x :: st => X d mi n lv (.int x.toInt32 :: st) I Q
    | _ => False
  | .land => am_lbin X (fun x y => x &&& y) d mi n lv st I Q
  | .lor => am_lbin X (fun x y => x ||| y) d mi n lv st I Q
  | .lshl => am_lsh X (fun x y => x <<< (y.toInt64 &&& 63)) d mi n lv st I Q
  | .lshr => am_lsh X (fun x y => x >>> (y.toInt64 &&& 63)) d mi n lv st I Q
  | .lushr => am_lsh X (fun x y => (x.toUInt64 >>> (y.toInt64.toUInt64 &&& Int64.toUInt64 63)).toInt64) d mi n lv st I Q
  | .dup => match st with
    | .int x :: st => X d mi n lv (.int x :: .int x :: st) I Q
    | .ref x :: st => X d mi n lv (.ref x :: .ref x :: st) I Q
    | _ => False
  | .dup2 => match st with
    | .int y :: .ref x :: st => X d mi n lv (.int y :: .ref x :: .int y :: .ref x :: st) I Q
    | _ => False
  | .pop => match st with
    | .int _ :: st => X d mi n lv st I Q
    | .ref _ :: st => X d mi n lv st I Q
    | _ => False
  | .goto _ => X d mi a lv st I Q
  | .ifCond .eq _ => am_br1 X (fun x => x = 0) a d mi n lv st I Q
  | .ifCond .ne _ => am_br1 X (fun x => x = 0) n d mi a lv st I Q
  | .ifCond .lt _ => am_br1 X (fun x => x < 0) a d mi n lv st I Q
  | .ifCond .ge _ => am_br1 X (fun x => 0 ≤ x) a d mi n lv st I Q
  | .ifCond .gt _ => am_br1 X (fun x => 0 < x) a d mi n lv st I Q
  | .ifCond .le _ => am_br1 X (fun x => x ≤ 0) a d mi n lv st I Q
  | .if_icmp .eq _ => am_br2 X (fun x y => x = y) a d mi n lv st I Q
  | .if_icmp .ne _ => am_br2 X (fun x y => x = y) n d mi a lv st I Q
  | .if_icmp .lt _ => am_br2 X (fun x y => x < y) a d mi n lv st I Q
  | .if_icmp .ge _ => am_br2 X (fun x y => y ≤ x) a d mi n lv st I Q
  | .if_icmp .gt _ => am_br2 X (fun x y => y < x) a d mi n lv st I Q
  | .if_icmp .le _ => am_br2 X (fun x y => x ≤ y) a d mi n lv st I Q
  | .tableswitch _ _ _ _ => match st with
    | .int x :: st => am_sw X ts v x a d mi lv st I Q
    | _ => False
  | .getfield _ => am_getf X a b d mi n lv st I Q
  | .putfield _ => am_putf X a b d mi n lv st I Q
  | .iaload => am_ald1 L xs X 0 d mi n lv st I Q
  | .baload => am_ald1 L xs X 1 d mi n lv st I Q
  | .caload => am_ald1 L xs X 2 d mi n lv st I Q
  | .iastore => am_ast1 X 0 d mi n lv st I Q
  | .bastore => am_ast1 X 1 d mi n lv st I Q
  | .aaload => am_aald X d mi n lv st I Q
  | .arraylength => am_alen L X d mi n lv st I Q
  | .ireturn => am_ret a st I Q
  | .areturn => am_aret st I Q
  | .return_ => am_vret st I Q
  | .invokestatic _ => am_inv mt Y X a b ts d mi n lv st I Q
  | .invokevirtual _ => am_inv mt Y X a b ts d mi n lv st I Q
  | .invokespecial _ => am_inv mt Y X a b ts d mi n lv st I Q
  | _ => False
def am_F : am_J := fun d mi pc lv st I Q =>
  match mt mi with
  | none => False
  | some M => match am_ins M pc with
    | none => False
    | some (i, n, a, b, ts, v) => am_step mt L xs Y X i n a b ts v d mi lv st I Q
end
/-- n instructions on -/
def am_N (mt : Nat → Option am_M) (L : Nat) (xs : Nat → Int32) (J : am_J) : Nat → am_J
  | 0 => J
  | n + 1 => am_F mt L xs J (am_N mt L xs J n)
/-- a judgement that is closed: what one instruction asks is enough, and an end may be weakened -/
def am_Cl (mt : Nat → Option am_M) (L : Nat) (xs : Nat → Int32) (J : am_J) : Prop :=
  (∀ d mi pc lv st I Q, am_F mt L xs J J d mi pc lv st I Q → J d mi pc lv st I Q) ∧
  ∀ d mi pc lv st I (Q Q' : am_Q), (∀ r I', Q r I' → Q' r I') → J d mi pc lv st I Q → J d mi pc lv st I Q'
