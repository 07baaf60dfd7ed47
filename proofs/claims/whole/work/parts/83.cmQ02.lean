/-! the model's constructor, step 2: written by mk82.py -/
def cm_Q2 : cm_S := (480, [(0, .ref 67)], [.ref 73, .ref 67], [(67, .inr (12, [.ref 68, .ref 69, .ref 70, .int 0, .ref 71, .ref 72, .int 0, .null, .int 0, .int 0, .int 0, .int 0, .int 0, .int 0, .null, .null, .int 0, .int 0, .null, .null, .null, .int 0, .int 0, .int 0, .int 0, .null, .null, .int 0, .null, .int 0, .null, .null, .null, .null, .null, .null, .int 0, .int 0, .int 0])),
  (68, .inl (.int, 322, List.replicate 322 (.int 0))),
  (69, .inl (.int, 322, List.replicate 322 (.int 0))),
  (70, .inl (.int, 74, List.replicate 74 (.int 0))),
  (71, .inl (.int, 200, List.replicate 200 (.int 0))),
  (72, .inl (.int, 200, List.replicate 200 (.int 0))),
  (73, .inl (.char, 144, [.int 112, .int 101, .int 114, .int 115, .int 111, .int 110, .int 32, .int 32, .int 116, .int 114, .int 97, .int 109, .int 112, .int 32, .int 32, .int 32, .int 112, .int 105, .int 108, .int 103, .int 114, .int 105, .int 109, .int 32, .int 98, .int 105, .int 115, .int 104, .int 111, .int 112, .int 32, .int 32, .int 102, .int 114, .int 105, .int 101, .int 110, .int 100, .int 32, .int 32, .int 100, .int 111, .int 117, .int 98, .int 108, .int 101, .int 32, .int 32, .int 98, .int 114, .int 101, .int 97, .int 107, .int 32, .int 32, .int 32, .int 112, .int 97, .int 115, .int 115, .int 32, .int 32, .int 32, .int 32, .int 115, .int 104, .int 117, .int 116, .int 32, .int 32, .int 32, .int 32] ++ List.replicate 72 (.int 0)))], 74, 6, 1262)
set_option maxRecDepth 100000 in
theorem cm_Q2_ok : cm_lp (cm_go 3) (cm_msp cm_m12 480) 2000 cm_Q1 = some cm_Q2 := cm_beq_eq (by decide +kernel)
