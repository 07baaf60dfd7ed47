/-! THE TABLES ARE THE CODE: each row decodes, its words stand in lw_tbl -/
def am_at (p : Nat) (w : Cond) : Bool := decide (lw_tbl[p]? = some w) && goodWord w
theorem am_at_in {p : Nat} {w : Cond} (h : am_at p w = true) : w ∈ am_tb := by
  unfold am_at at h
  rw [Bool.and_eq_true] at h
  exact List.mem_filter.mpr ⟨List.mem_of_getElem? (of_decide_eq_true h.1), h.2⟩
def am_okst (M : am_M) (mi a : Nat) : Bool := decide (a < M.2.2.1) && (!(am_lg mi) || decide (a ≠ 2))
def am_okf (M : am_M) (idx a b : Nat) (ps : List Nat) : Bool := match vwCl[a]?, ps with
  | some q, [p0] => decide (b < q.2.2) && am_at p0 (.fieldLink M.1.cls idx (q.2.1 b).1 (q.2.1 b).2.1 (q.2.1 b).2.2.1)
  | _, _ => false
def am_okput (a b : Nat) : Bool := match vwCl[a]? with
  | some q => !(q.2.1 b).2.2.2
  | none => false
def am_cname (ci : Nat) : String := match vwCl[ci]? with
  | some q => q.1
  | none => ""
def am_okd (M' : am_M) (np : Nat) : Bool := decide (M'.1.cls ≠ "java/lang/invoke/MethodHandle") && decide (M'.1.cls ≠ "java/lang/invoke/VarHandle") && decide ((parseMethodDescriptor M'.1.desc).map (fun d => d.parameters.length) = some np) && decide (M'.2.2.1 ≤ 45) && decide (M'.1.cls ≠ "BrokenLoavesLaw")
/-- the row of one class in a call that its object selects -/
def am_oksel (x : MethodName) (np c b' : Nat) (ps : List Nat) : Bool := match b', ps with
  | 0, _ => true
  | b' + 1, [p0, p1, p2] => match am_meth b' with
    | some M' => am_okd M' np && am_at p0 (.selects (am_cname c) x M'.1) && am_at p1 (.instanceMethod M'.1) && am_at p2 (.initialized M'.1.cls)
    | none => false
  | _, _ => false
def am_oksels (x : MethodName) (np : Nat) : Nat → List Nat → List Nat → Bool
  | _, [], _ => true
  | c, b' :: tb, p0 :: p1 :: p2 :: ps => am_oksel x np c b' [p0, p1, p2] && am_oksels x np (c + 1) tb ps
  | _, _, _ => false
def am_okow (bo : Nat) (y : MethodName) : Bool := match am_meth bo with
  | some Mo => decide (Mo.1 = y) && decide (Mo.1.cls ≠ "BrokenLoavesLaw")
  | none => false
def am_okinv (M : am_M) (i : Instr) (a b : Nat) (ts ps : List Nat) : Bool := match i, a, ts, ps with
  | .invokestatic idx, 0, [np], [p0, p1, p2] => match am_meth b with
    | some M' => am_okd M' np && am_at p0 (.methodLink M.1.cls idx M'.1) && am_at p1 (.static M'.1) && am_at p2 (.initialized M'.1.cls)
    | none => false
  | .invokestatic idx, 4, [np], [_, p1, p2] => match am_meth b with
    | some M' => am_okd M' np && decide ((M.1.cls, idx, M'.1, "BrokenLoaves") ∈ am_nest) && am_at p1 (.static M'.1) && am_at p2 (.initialized M'.1.cls)
    | none => false
  | .invokevirtual idx, 1, [np, ci], [p0, p1, p2, p3] => match am_meth b with
    | some M' => am_okd M' np && decide (M'.1.cls = am_cname ci) && am_at p0 (.methodLink M.1.cls idx M'.1) && am_at p1 (.instanceMethod M'.1) && am_at p2 (.selects (am_cname ci) M'.1 M'.1) && am_at p3 (.initialized (am_cname ci))
    | none => false
  | .invokevirtual idx, 2, np :: tb, p0 :: p1 :: p2 :: bo :: ps => match tb.find? (fun t => t != 0) with
    | some (b' + 1) => match am_meth b' with
      | some M' => am_okow bo ⟨am_cname (b % 100), M'.1.name, M'.1.desc⟩ && am_at p0 (.methodLink M.1.cls idx ⟨am_cname (b / 100), M'.1.name, M'.1.desc⟩) && am_at p1 (.sameMethod (am_cname (b / 100)) (am_cname (b % 100)) M'.1.name M'.1.desc) && am_at p2 (.instanceMethod ⟨am_cname (b % 100), M'.1.name, M'.1.desc⟩) && am_oksels ⟨am_cname (b / 100), M'.1.name, M'.1.desc⟩ np 0 tb ps && decide ((parseMethodDescriptor M'.1.desc).map (fun d => d.parameters.length) = some np) && decide (am_cname (b % 100) ≠ "java/lang/invoke/MethodHandle") && decide (am_cname (b % 100) ≠ "java/lang/invoke/VarHandle")
      | none => false
    | _ => false
  | .invokespecial idx, 3, [np, xc], [p0, p1, p2, p3, p4, p5] => match am_meth b with
    | some M' => am_okd M' np && decide (M'.1.name ≠ "<init>") && am_at p0 (.methodLink M.1.cls idx ⟨am_cname xc, M'.1.name, M'.1.desc⟩) && am_at p1 (.sameMethod (am_cname xc) M'.1.cls M'.1.name M'.1.desc) && am_at p2 (.superclass M.1.cls (am_cname xc)) && am_at p3 (.instanceMethod M'.1) && am_at p4 (.initialized M'.1.cls) && (decide (am_cname xc = M'.1.cls) || am_at p5 (.superclass (am_cname xc) M'.1.cls))
    | none => false
  | .invokestatic idx, 5, [], [p0, p1, p2, p3] => am_at p0 (.methodLink M.1.cls idx arraycopyName) && am_at p1 (.native arraycopyName) && am_at p2 (.static arraycopyName) && am_at p3 (.initialized "java/lang/System")
  | .invokestatic idx, 8, [], [p0, p1, p2, p3] => am_at p0 (.methodLink M.1.cls idx Lib.Math.max.name) && am_at p1 (.static Lib.Math.max.name) && am_at p2 (.initialized "java/lang/Math") && am_at p3 (.code Lib.Math.max.name Lib.Math.max.code 2 (some .int))
  | .invokestatic idx, 9, [], [p0, p1, p2, p3] => am_at p0 (.methodLink M.1.cls idx Lib.Math.min.name) && am_at p1 (.static Lib.Math.min.name) && am_at p2 (.initialized "java/lang/Math") && am_at p3 (.code Lib.Math.min.name Lib.Math.min.code 2 (some .int))
  | .invokestatic idx, 10, [], [p0, p1, p2, p3] => am_at p0 (.methodLink M.1.cls idx Lib.Math.abs.name) && am_at p1 (.static Lib.Math.abs.name) && am_at p2 (.initialized "java/lang/Math") && am_at p3 (.code Lib.Math.abs.name Lib.Math.abs.code 1 (some .int))
  | .invokevirtual idx, 6, [], [p0] => am_at p0 (.methodLink M.1.cls idx ⟨"java/lang/String", "length", "()I"⟩)
  | .invokevirtual idx, 7, [], [p0] => am_at p0 (.methodLink M.1.cls idx ⟨"java/lang/String", "charAt", "(I)C"⟩)
  | _, _, _, _ => false
def am_isRo : Option FieldType → Bool
  | some (.object _) => true
  | some (.array _) => true
  | _ => false
def am_okI (M : am_M) (mi pc : Nat) (i : Instr) (n a b : Nat) (ts : List Nat) (v : Int32) (ps : List Nat) : Bool := match i with
  | .iconst k => decide (n = pc + 1) && decide (Int32.ofInt k = v)
  | .bipush k => decide (n = pc + 2) && decide ((Int8.ofInt k).toInt32 = v)
  | .sipush k => decide (n = pc + 3) && decide ((Int16.ofInt k).toInt32 = v)
  | .ldc idx => decide (n = pc + 2) && (match a, ps with
    | 0, [p0] => am_at p0 (.constant M.1.cls idx v)
    | _ + 1, _ => decide (b < 18) && decide (am_sx.getD b 0 = idx) && decide (M.1.cls = "BrokenLoaves$RuleText")
    | _, _ => false)
  | .ldc_w idx => decide (n = pc + 3) && (match ps with
    | [p0] => am_at p0 (.constant M.1.cls idx v)
    | _ => false)
  | .ldc2_w idx => decide (n = pc + 3) && (match ps with
    | [p0] => am_at p0 (.constantLong M.1.cls idx (Int64.ofNat b))
    | _ => false)
  | .iload k => decide (n = pc + 2) && decide (a = k)
  | .iload_n k => decide (n = pc + 1) && decide (a = k.val)
  | .lload_n k => decide (n = pc + 1) && decide (a = k.val)
  | .aload k => decide (n = pc + 2) && decide (a = k)
  | .aload_n k => decide (n = pc + 1) && decide (a = k.val)
  | .istore k => decide (n = pc + 2) && decide (a = k) && am_okst M mi a
  | .istore_n k => decide (n = pc + 1) && decide (a = k.val) && am_okst M mi a
  | .astore k => decide (n = pc + 2) && decide (a = k) && am_okst M mi a
  | .astore_n k => decide (n = pc + 1) && decide (a = k.val) && am_okst M mi a
  | .iinc k q => decide (n = pc + 3) && decide (a = k) && decide (Int32.ofInt q = v) && am_okst M mi a
  | .goto off => decide (n = pc + 3) && decide ((pc : Int) + off = (a : Int))
  | .ifCond _ off => decide (n = pc + 3) && decide ((pc : Int) + off = (a : Int))
  | .if_icmp _ off => decide (n = pc + 3) && decide ((pc : Int) + off = (a : Int))
  | .tableswitch df lo hi offs => decide ((pc : Int) + df = (a : Int)) && decide (v.toInt = lo) && decide (offs.toList.map (fun o => (pc : Int) + o) = ts.map (fun (t : Nat) => (t : Int))) && decide (hi = lo + ts.length - 1) && decide (0 ≤ lo ∧ lo < 50000) && decide (ts.length < 1000)
  | .getfield idx => decide (n = pc + 3) && am_okf M idx a b ps
  | .putfield idx => decide (n = pc + 3) && am_okf M idx a b ps && am_okput a b
  | .ireturn => decide (n = pc + 1) && ((decide (a = 0) && decide (M.2.2.2.1 = some .int)) || (decide (a ≠ 0) && decide (M.2.2.2.1 = some .boolean)))
  | .areturn => decide (n = pc + 1) && am_isRo M.2.2.2.1
  | .return_ => decide (n = pc + 1) && decide (M.2.2.2.1 = none)
  | .invokestatic k => decide (n = pc + 3) && am_okinv M (.invokestatic k) a b ts ps
  | .invokevirtual k => decide (n = pc + 3) && am_okinv M (.invokevirtual k) a b ts ps
  | .invokespecial k => decide (n = pc + 3) && am_okinv M (.invokespecial k) a b ts ps
  | _ => decide (n = pc + 1)
def am_okE (M : am_M) (mi pc : Nat) (e : Option am_E) (ps : List Nat) : Bool := match e with
  | none => true
  | some (i, n, a, b, ts, v) => decide (decode M.2.1 pc = .ok (i, n - pc)) && am_okI M mi pc i n a b ts v ps
def am_okR (M : am_M) (mi : Nat) : Nat → List (Option am_E) → List (List Nat) → Bool
  | _, [], _ => true
  | pc, e :: l, [] => am_okE M mi pc e [] && am_okR M mi (pc + 1) l []
  | pc, e :: l, ps :: pl => am_okE M mi pc e ps && am_okR M mi (pc + 1) l pl
def am_okC (M : am_M) (mi : Nat) : Nat → List (List (Option am_E)) → List (List (List Nat)) → Bool
  | _, [], _ => true
  | q, l :: ls, [] => am_okR M mi (16 * q) l [] && decide (l.length ≤ 16) && am_okC M mi (q + 1) ls []
  | q, l :: ls, pl :: pls => am_okR M mi (16 * q) l pl && decide (l.length ≤ 16) && am_okC M mi (q + 1) ls pls
theorem am_okR_at {M : am_M} {mi : Nat} : ∀ (l : List (Option am_E)) (pc : Nat) (pl : List (List Nat)), am_okR M mi pc l pl = true → ∀ (k : Nat) (e : Option am_E), am_nth l k = some e → ∃ ps, am_okE M mi (pc + k) e ps = true
  | [], _, _, _, _, _, h => by simp [am_nth] at h
  | x :: l, pc, [], h, 0, e, hk => by
    simp only [am_okR, Bool.and_eq_true] at h
    simp only [am_nth, Option.some.injEq] at hk
    subst hk
    exact ⟨_, h.1⟩
  | x :: l, pc, ps :: pl, h, 0, e, hk => by
    simp only [am_okR, Bool.and_eq_true] at h
    simp only [am_nth, Option.some.injEq] at hk
    subst hk
    exact ⟨_, h.1⟩
  | x :: l, pc, [], h, k + 1, e, hk => by
    simp only [am_okR, Bool.and_eq_true] at h
    have := am_okR_at l (pc + 1) [] h.2 k e hk
    rw [show pc + (k + 1) = pc + 1 + k by omega]
    exact this
  | x :: l, pc, ps :: pl, h, k + 1, e, hk => by
    simp only [am_okR, Bool.and_eq_true] at h
    have := am_okR_at l (pc + 1) pl h.2 k e hk
    rw [show pc + (k + 1) = pc + 1 + k by omega]
    exact this
theorem am_okC_at {M : am_M} {mi : Nat} : ∀ (ls : List (List (Option am_E))) (q : Nat) (pls : List (List (List Nat))), am_okC M mi q ls pls = true → ∀ (k : Nat) (l : List (Option am_E)), am_nth ls k = some l → ∃ pl, am_okR M mi (16 * (q + k)) l pl = true
  | [], _, _, _, _, _, h => by simp [am_nth] at h
  | x :: ls, q, [], h, 0, l, hk => by
    simp only [am_okC, Bool.and_eq_true] at h
    simp only [am_nth, Option.some.injEq] at hk
    subst hk
    exact ⟨_, h.1.1⟩
  | x :: ls, q, ps :: pl, h, 0, l, hk => by
    simp only [am_okC, Bool.and_eq_true] at h
    simp only [am_nth, Option.some.injEq] at hk
    subst hk
    exact ⟨_, h.1.1⟩
  | x :: ls, q, [], h, k + 1, l, hk => by
    simp only [am_okC, Bool.and_eq_true] at h
    have := am_okC_at ls (q + 1) [] h.2 k l hk
    rw [show q + (k + 1) = q + 1 + k by omega]
    exact this
  | x :: ls, q, ps :: pl, h, k + 1, l, hk => by
    simp only [am_okC, Bool.and_eq_true] at h
    have := am_okC_at ls (q + 1) pl h.2 k l hk
    rw [show q + (k + 1) = q + 1 + k by omega]
    exact this
/-- a method's table is checked -/
def am_okM (mi : Nat) (M : am_M) : Prop := (∃ pls, am_okC M mi 0 M.2.2.2.2 pls = true) ∧ plainName M.1.cls = true ∧ M.2.2.1 ≤ 45
theorem am_ok_ins {M : am_M} {mi pc : Nat} (h : am_okM mi M) {e : am_E} (hi : am_ins M pc = some e) : ∃ ps, am_okE M mi pc (some e) ps = true := by
  obtain ⟨⟨pls, h⟩, -⟩ := h
  unfold am_ins at hi
  split at hi
  · next l hl =>
    split at hi
    · next x hx =>
      subst hi
      obtain ⟨pl, h2⟩ := am_okC_at _ _ _ h _ _ hl
      obtain ⟨ps, h3⟩ := am_okR_at _ _ _ h2 _ _ hx
      rw [show 16 * (0 + pc / 16) + pc % 16 = pc by omega] at h3
      exact ⟨ps, h3⟩
    · cases hi
  · cases hi
