/-! calls among the constructors -/
def cm_args : List Value → Option cm_L
  | [.ref a] => some [(0, .ref a)]
  | [.ref a, .ref b] => some [(0, .ref a), (1, .ref b)]
  | [.ref a, .int x] => some [(0, .ref a), (1, .int x)]
  | _ => none
def cm_mna (nx a b : Nat) : cm_C := (nx, .inl (.array .int, a, (List.range a).map fun i => .ref (nx + 1 + i))) :: (List.range a).map fun i => (nx + 1 + i, .inl (.int, b, List.replicate b (.int 0)))
def cm_lp (call : Nat → cm_S → Option cm_S) (M : cm_M) : Nat → cm_S → Option cm_S
  | 0, S => some S
  | f + 1, (pc, lv, st, C, nx, k, n) => match Nat.beq pc M.2.2.1 with
    | true => some (pc, lv, st, C, nx, k, n)
    | false => match decode M.2.1.2.1 pc with
      | .ok (.invokespecial j, w) => match cm_lf M.2.2.2.2.2.2 j with
        | some (0, _) => match st with
          | .ref _ :: st' => match Nat.beq w 3 && Nat.ble (am_cs st') 8 with
            | true => cm_lp call M f (pc + 3, lv, st', C, nx, k, n)
            | false => none
          | _ => none
        | some (kd, b) => match am_nth cm_mt b with
          | some M' => match am_pop (M'.2.2.2.2.2.1 + 1) st [] with
            | some (as, rest) => match cm_args as with
              | some lv' => match call b (0, lv', [], C, nx, 0, 0) with
                | some (_, _, [], C', nx', _, _) => match Nat.beq w 3 && (decide (kd = 1 ∨ kd = 2) && (Nat.ble (am_cs rest) 8 && (Nat.ble nx nx' && (cm_fresh nx lv rest [] && (Nat.ble (k + M'.2.2.2.1) M.2.2.2.1 && Nat.ble (n + M'.2.2.2.2.1) M.2.2.2.2.1))))) with
                  | true => cm_lp call M f (pc + 3, lv, rest, C', nx', k + M'.2.2.2.1, n + M'.2.2.2.2.1)
                  | false => none
                | _ => none
              | none => none
            | none => none
          | none => none
        | none => none
      | .ok (.invokestatic j, w) => match cm_lf M.2.2.2.2.2.2 j with
        | some (kd, b) => match am_nth cm_mt b with
          | some M' => match am_pop M'.2.2.2.2.2.1 st [] with
            | some (as, rest) => match cm_args as with
              | some lv' => match call b (0, lv', [], C, nx, 0, 0) with
                | some (_, _, [], C', nx', _, _) => match Nat.beq w 3 && (Nat.beq kd 3 && (Nat.ble (am_cs rest) 8 && (Nat.ble nx nx' && (cm_fresh nx lv rest [] && (Nat.ble (k + M'.2.2.2.1) M.2.2.2.1 && Nat.ble (n + M'.2.2.2.2.1) M.2.2.2.2.1))))) with
                  | true => cm_lp call M f (pc + 3, lv, rest, C', nx', k + M'.2.2.2.1, n + M'.2.2.2.2.1)
                  | false => none
                | _ => none
              | none => none
            | none => none
          | none => none
        | none => none
      | .ok (.multianewarray j dm, w) => match st with
        | .int b :: .int a :: st' => match Nat.beq w 4 && (Nat.beq j 78 && (Nat.beq dm 2 && (cm_pos a 1000 && (cm_pos b 1000 && (decide (M.1.cls = RX11) && (cm_fresh nx lv st' C && (Nat.ble (k + (1 + a.toNatClampNeg)) M.2.2.2.1 && Nat.ble (n + (a.toNatClampNeg + a.toNatClampNeg * b.toNatClampNeg)) M.2.2.2.2.1))))))) with
          | true => cm_lp call M f (pc + 4, lv, .ref nx :: st', C ++ cm_mna nx a.toNatClampNeg b.toNatClampNeg, nx + 1 + a.toNatClampNeg, k + (1 + a.toNatClampNeg), n + (a.toNatClampNeg + a.toNatClampNeg * b.toNatClampNeg))
          | false => none
        | _ => none
      | .ok (i, w) => match cm_ex M.2.1 M.2.2.2.1 M.2.2.2.2.1 i w (pc, lv, st, C, nx, k, n) with
        | some S' => match Nat.ble nx S'.2.2.2.2.1 with
          | true => cm_lp call M f S'
          | false => none
        | none => none
      | _ => none
def cm_go : Nat → Nat → cm_S → Option cm_S
  | 0, _, _ => none
  | d + 1, b, S => match am_nth cm_mt b with
    | some M => match cm_lp (cm_go d) M 2000 S with
      | some S' => cm_c (Nat.beq S'.1 M.2.2.1 && Nat.ble S'.2.2.2.2.2.1 M.2.2.2.1 && (Nat.ble S'.2.2.2.2.2.2 M.2.2.2.2.1 && (Nat.ble S.2.1.length M.2.1.2.2.1 && Nat.ble S.2.2.2.2.1 S'.2.2.2.2.1))) S'
      | none => none
    | none => none
/-- what is checked of a method -/
def cm_okK (M : cm_M) (x : Nat × Nat × Nat) : Bool := match x.2.1 with
  | 0 => cm_inb (.methodLink M.1.cls x.1 objectInit)
  | kd => match am_nth cm_mt x.2.2 with
    | some M' => cm_inb (.initialized M'.1.cls) && ((decide (M'.1.cls ≠ "java/lang/invoke/MethodHandle" ∧ M'.1.cls ≠ "java/lang/invoke/VarHandle" ∧ (parseMethodDescriptor M'.1.desc).map (fun d => d.parameters.length) = some M'.2.2.2.2.2.1) && (Nat.ble M'.2.1.2.2.1 45 && (match kd with
      | 1 => decide ((M.1.cls, x.1, M'.1) ∈ cm_nw) && (decide (M'.1.name = "<init>") && cm_inb (.instanceMethod M'.1))
      | 2 => cm_inb (.methodLink M.1.cls x.1 M'.1) && (decide (M'.1.name = "<init>") && cm_inb (.instanceMethod M'.1))
      | 3 => cm_inb (.methodLink M.1.cls x.1 M'.1) && cm_inb (.static M'.1)
      | _ => false))))
    | none => false
def cm_okM (M : cm_M) : Bool := cm_okT M.2.1 && (decide (M.1.cls = M.2.1.1) && M.2.2.2.2.2.2.all (cm_okK M))
def cm_okE (M : cm_M) : Bool := plainName M.1.cls && (decide (decode M.2.1.2.1 M.2.2.1 = .ok (.return_, 1)) && (decide (M.2.1.2.2.2.1 = [] ∨ M.1.name = "<init>") && Nat.ble (M.2.2.2.2.2.1 + 1) M.2.1.2.2.1))
theorem cm_okE_all : cm_mt.all cm_okE = true := by decide +kernel
theorem cm_okM_all : cm_mt.all cm_okM = true := by decide +kernel
def cm_S0 : cm_S := (0, [(0, .ref 0)], [], [], 1, 0, 0)
theorem tb_pos {p : Nat} {w : Cond} (h : lw_tbl[p]? = some w) (hg : goodWord w = true) : w ∈ am_tb := List.mem_filter.mpr ⟨List.mem_of_getElem? h, hg⟩
set_option maxRecDepth 100000 in
theorem cm_code : ∀ (b : Nat) (M : cm_M), am_nth cm_mt b = some M → Cond.code M.1 M.2.1.2.1 M.2.1.2.2.1 none ∈ am_tb := by
  intro b M h
  match b, h with
  | 0, h => cases h; exact tb_pos (p := 151) rfl rfl
  | 1, h => cases h; exact tb_pos (p := 178) rfl rfl
  | 2, h => cases h; exact tb_pos (p := 392) rfl rfl
  | 3, h => cases h; exact tb_pos (p := 158) rfl rfl
  | 4, h => cases h; exact tb_pos (p := 130) rfl rfl
  | 5, h => cases h; exact tb_pos (p := 144) rfl rfl
  | 6, h => cases h; exact tb_pos (p := 337) rfl rfl
  | 7, h => cases h; exact tb_pos (p := 172) rfl rfl
  | 8, h => cases h; exact tb_pos (p := 299) rfl rfl
  | 9, h => cases h; exact tb_pos (p := 137) rfl rfl
  | 10, h => cases h; exact tb_pos (p := 165) rfl rfl
  | 11, h => cases h; exact tb_pos (p := 121) rfl rfl
  | 12, h => cases h; exact tb_pos (p := 1246) rfl rfl
  | 13, h => cases h; exact tb_pos (p := 213) rfl rfl
  | n + 14, h => cases h
theorem cm_okM_law : cm_okM cm_m14 = true := by decide +kernel
