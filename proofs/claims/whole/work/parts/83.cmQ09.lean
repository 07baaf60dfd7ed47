/-! the model's constructor, step 9: written by mk82.py -/
def cm_Q9 : cm_S := (1113, [(1, .int 7), (0, .ref 67)], [], [(67, .inr (12, [.ref 68, .ref 69, .ref 70, .int 0, .ref 71, .ref 72, .int 0, .ref 73, .int 0, .int 0, .int 0, .int 0, .int 0, .int 0, .ref 74, .ref 75, .int 0, .int 0, .ref 76, .ref 77, .ref 78, .int 0, .int 0, .int 0, .int 0, .ref 79, .ref 80, .int 0, .ref 81, .int 0, .ref 82, .ref 83, .ref 84, .ref 85, .ref 86, .ref 87, .int 0, .int 0, .int 0])),
  (68, .inl (.int, 322, [.int 0, .int 12, .int 0, .int 0, .int 12, .int 1, .int 0, .int 0, .int 0, .int 0, .int 4, .int 4, .int 4, .int 4, .int 4, .int 4, .int 4, .int 4] ++ List.replicate 304 (.int 0))),
  (69, .inl (.int, 322, List.replicate 322 (.int 0))),
  (70, .inl (.int, 74, List.replicate 74 (.int 0))),
  (71, .inl (.int, 200, List.replicate 200 (.int 0))),
  (72, .inl (.int, 200, List.replicate 200 (.int 0))),
  (73, .inl (.char, 144, [.int 112, .int 101, .int 114, .int 115, .int 111, .int 110, .int 32, .int 32, .int 116, .int 114, .int 97, .int 109, .int 112, .int 32, .int 32, .int 32, .int 112, .int 105, .int 108, .int 103, .int 114, .int 105, .int 109, .int 32, .int 98, .int 105, .int 115, .int 104, .int 111, .int 112, .int 32, .int 32, .int 102, .int 114, .int 105, .int 101, .int 110, .int 100, .int 32, .int 32, .int 100, .int 111, .int 117, .int 98, .int 108, .int 101, .int 32, .int 32, .int 98, .int 114, .int 101, .int 97, .int 107, .int 32, .int 32, .int 32, .int 112, .int 97, .int 115, .int 115, .int 32, .int 32, .int 32, .int 32, .int 115, .int 104, .int 117, .int 116, .int 32, .int 32, .int 32, .int 32, .int 105, .int 102, .int 32, .int 32, .int 32, .int 32, .int 32, .int 32, .int 110, .int 111, .int 116, .int 32, .int 32, .int 32, .int 32, .int 32, .int 97, .int 110, .int 100, .int 32, .int 32, .int 32, .int 32, .int 32, .int 111, .int 114, .int 32, .int 32, .int 32, .int 32, .int 32, .int 32, .int 100, .int 97, .int 121, .int 32, .int 32, .int 32, .int 32, .int 32, .int 116, .int 97, .int 108, .int 101, .int 32, .int 32, .int 32, .int 32, .int 115, .int 116, .int 114, .int 97, .int 110, .int 103, .int 101, .int 32, .int 115, .int 110, .int 111, .int 119, .int 32, .int 32, .int 32, .int 32, .int 110, .int 117, .int 109, .int 98, .int 101, .int 114, .int 32, .int 32])),
  (74, .inl (.int, 200, List.replicate 200 (.int 0))),
  (75, .inl (.int, 24, List.replicate 24 (.int 0))),
  (76, .inl (.int, 370, List.replicate 370 (.int 0))),
  (77, .inl (.int, 4, [.int 0, .int 0, .int 0, .int 0])),
  (78, .inl (.int, 4, [.int 0, .int 0, .int 0, .int 0])),
  (79, .inl (.int, 16, List.replicate 16 (.int 0))),
  (80, .inl (.int, 16, List.replicate 16 (.int 0))),
  (81, .inl (.int, 12, List.replicate 12 (.int 0))),
  (82, .inl (.int, 4, [.int (-1), .int (-1), .int (-1), .int (-1)])),
  (83, .inl (.int, 4, [.int 0, .int 0, .int 0, .int 0])),
  (84, .inl (.int, 160, List.replicate 160 (.int 0))),
  (85, .inl (.int, 4, [.int (-1), .int (-1), .int (-1), .int (-1)])),
  (86, .inl (.int, 4, [.int 0, .int 0, .int 0, .int 0])),
  (87, .inl (.int, 30, List.replicate 30 (.int 0)))], 88, 20, 2114)
set_option maxRecDepth 100000 in
theorem cm_Q9_ok : cm_lp (cm_go 3) (cm_msp cm_m12 1143) 40 cm_Q8 = some cm_Q9 := cm_beq_eq (by decide +kernel)
