/-! The reference's reading of tasks, stretch by stretch, at any depth -/
set_option maxRecDepth 4000 in
theorem e_M_unit  {S : ZSt} {Q : ZOut → ZSt → Prop} {d : Nat} (hd : 50 ≤ d) (hS : zSh S) (h : zcl d m_M_unit m_M_fine 1 1 [some (.ref 130), none, none] [] [.ref 130] S Q) : zW d m_M_unit 0 [some (.ref 130), none, none] [] S Q := zFq_W 7 (cs := []) (dy := []) hd hS h
set_option maxRecDepth 4000 in
theorem e_M_unit_2 {s0 : Int32} {S : ZSt} {Q : ZOut → ZSt → Prop} {d : Nat} (hd : 50 ≤ d) (hS : zSh S) (h : ((¬ s0 = 0 → zcl d m_M_unit m_M_here 9 5 [some (.ref 130), none, none] [] [.ref 130] S Q) ∧ (¬ (¬ s0 = 0) → Q (.inl none) S))) : zW d m_M_unit 2 [some (.ref 130), none, none] [.int s0] S Q := zFq_W 9 (cs := []) (dy := []) hd hS h
set_option maxRecDepth 4000 in
theorem e_M_unit_6 {s0 : Int32} {S : ZSt} {Q : ZOut → ZSt → Prop} {d : Nat} (hd : 50 ≤ d) (hS : zSh S) (h : zcl d m_M_unit m_M_isDigit 14 8 [some (.ref 130), some (.int s0), none] [] [.int s0] S Q) : zW d m_M_unit 6 [some (.ref 130), none, none] [.int s0] S Q := zFq_W 8 (cs := []) (dy := []) hd hS h
set_option maxRecDepth 4000 in
theorem e_M_unit_9 {x1 : Int32} {s0 : Int32} {S : ZSt} {Q : ZOut → ZSt → Prop} {d : Nat} (hd : 50 ≤ d) (hS : zSh S) (h : ((s0 = 0 → ((¬ x1 = (nI 40) → zcl d m_M_unit m_M_word 67 37 [some (.ref 130), some (.int x1), none] [] [.ref 130] S Q) ∧ (¬ (¬ x1 = (nI 40)) → zcl d m_M_unit m_M_opensOne 42 23 [some (.ref 130), some (.int x1), none] [] [.ref 130, .int (nI 1)] S Q))) ∧ (¬ (s0 = 0) → zcl d m_M_unit m_M_readNumber 27 15 [some (.ref 130), some (.int x1), none] [.int (nI 0), .ref 130] [.ref 130, .int (nI 0), .int (nI 9999)] S Q))) : zW d m_M_unit 9 [some (.ref 130), some (.int x1), none] [.int s0] S Q := zFq_W 20 (cs := []) (dy := []) hd hS h
set_option maxRecDepth 4000 in
theorem e_M_unit_16 {x1 : Int32} {s0 : Int32} {s1 : Int32} {S : ZSt} {Q : ZOut → ZSt → Prop} {d : Nat} (hd : 50 ≤ d) (hS : zSh S) (h : zcl d m_M_unit m_M_emit 30 16 [some (.ref 130), some (.int x1), none] [] [.ref 130, .int s1, .int s0] S Q) : zW d m_M_unit 16 [some (.ref 130), some (.int x1), none] [.int s0, .int s1, .ref 130] S Q := zFq_W 6 (cs := []) (dy := []) hd hS h
set_option maxRecDepth 4000 in
theorem e_M_unit_17 {x1 : Int32} {S : ZSt} {Q : ZOut → ZSt → Prop} {d : Nat} (hd : 50 ≤ d) (hS : zSh S) (h : Q (.inl none) S) : zW d m_M_unit 17 [some (.ref 130), some (.int x1), none] [] S Q := zFq_W 6 (cs := []) (dy := []) hd hS h
set_option maxRecDepth 4000 in
theorem e_M_unit_24 {x1 : Int32} {S : ZSt} {Q : ZOut → ZSt → Prop} {d : Nat} (hd : 50 ≤ d) (hS : zSh S) (h : zcl d m_M_unit m_M_sum 46 25 [some (.ref 130), some (.int x1), none] [] [.ref 130] S Q) : zW d m_M_unit 24 [some (.ref 130), some (.int x1), none] [] S Q := zFq_W 7 (cs := []) (dy := []) hd hS h
set_option maxRecDepth 4000 in
theorem e_M_unit_26 {x1 : Int32} {S : ZSt} {Q : ZOut → ZSt → Prop} {d : Nat} (hd : 50 ≤ d) (hS : zSh S) (h : zcl d m_M_unit m_M_sign 52 28 [some (.ref 130), some (.int x1), none] [] [.ref 130, .int (nI 41)] S Q) : zW d m_M_unit 26 [some (.ref 130), some (.int x1), none] [] S Q := zFq_W 8 (cs := []) (dy := []) hd hS h
set_option maxRecDepth 4000 in
theorem e_M_unit_29 {x1 : Int32} {S : ZSt} {Q : ZOut → ZSt → Prop} {d : Nat} (hd : 50 ≤ d) (hS : zSh S) (h : Q (.inl none) (zsI S 130 10 ((zI S 130 10) - (nI 1)))) : zW d m_M_unit 29 [some (.ref 130), some (.int x1), none] [] S Q := zFq_W 12 (cs := []) (dy := []) hd hS h
set_option maxRecDepth 4000 in
theorem e_M_unit_38 {x1 : Int32} {s0 : Int32} {S : ZSt} {Q : ZOut → ZSt → Prop} {d : Nat} (hd : 50 ≤ d) (hS : zSh S) (h : zcl d m_M_unit m_M_of 74 41 [some (.ref 130), some (.int x1), some (.int s0)] [.int s0] [.ref 61] S Q) : zW d m_M_unit 38 [some (.ref 130), some (.int x1), none] [.int s0] S Q := zFq_W 9 (cs := []) (dy := []) hd hS h
set_option maxRecDepth 4000 in
theorem e_M_unit_42 {x1 : Int32} {x2 : Int32} {s0 : Int32} {s1 : Int32} {S : ZSt} {Q : ZOut → ZSt → Prop} {d : Nat} (hd : 50 ≤ d) (hS : zSh S) (h : ((s1 = s0 → zcl d m_M_unit m_M_pass 90 48 [some (.ref 130), some (.int x1), some (.int x2)] [] [.ref 130] S Q) ∧ (¬ (s1 = s0) → zcl d m_M_unit m_M_of 83 45 [some (.ref 130), some (.int x1), some (.int x2)] [.int x2] [.ref 63] S Q))) : zW d m_M_unit 42 [some (.ref 130), some (.int x1), some (.int x2)] [.int s0, .int s1] S Q := zFq_W 11 (cs := []) (dy := []) hd hS h
set_option maxRecDepth 4000 in
theorem e_M_unit_46 {x1 : Int32} {x2 : Int32} {s0 : Int32} {s1 : Int32} {S : ZSt} {Q : ZOut → ZSt → Prop} {d : Nat} (hd : 50 ≤ d) (hS : zSh S) (h : ((¬ s1 = s0 → zcl d m_M_unit m_M_of 124 65 [some (.ref 130), some (.int x1), some (.int x2)] [.int x2] [.ref 65] S Q) ∧ (¬ (¬ s1 = s0) → zcl d m_M_unit m_M_pass 90 48 [some (.ref 130), some (.int x1), some (.int x2)] [] [.ref 130] S Q))) : zW d m_M_unit 46 [some (.ref 130), some (.int x1), some (.int x2)] [.int s0, .int s1] S Q := zFq_W 11 (cs := []) (dy := []) hd hS h
set_option maxRecDepth 4000 in
theorem e_M_unit_49 {x1 : Int32} {x2 : Int32} {S : ZSt} {Q : ZOut → ZSt → Prop} {d : Nat} (hd : 50 ≤ d) (hS : zSh S) (h : zcl d m_M_unit m_M_of 97 52 [some (.ref 130), some (.int x1), some (.int x2)] [.int x2, .ref 130] [.ref 61] S Q) : zW d m_M_unit 49 [some (.ref 130), some (.int x1), some (.int x2)] [] S Q := zFq_W 9 (cs := []) (dy := []) hd hS h
set_option maxRecDepth 4000 in
theorem e_M_unit_53 {x1 : Int32} {x2 : Int32} {s0 : Int32} {s1 : Int32} {S : ZSt} {Q : ZOut → ZSt → Prop} {d : Nat} (hd : 50 ≤ d) (hS : zSh S) (h : ((¬ s1 = s0 → zcl d m_M_unit m_M_readNumber 112 60 [some (.ref 130), some (.int x1), some (.int x2)] [.int (nI 2), .ref 130] [.ref 130, .int (nI 0), .int (nI 11)] S Q) ∧ (¬ (¬ s1 = s0) → zcl d m_M_unit m_M_readNumber 112 60 [some (.ref 130), some (.int x1), some (.int x2)] [.int (nI 1), .ref 130] [.ref 130, .int (nI 0), .int (nI 11)] S Q))) : zW d m_M_unit 53 [some (.ref 130), some (.int x1), some (.int x2)] [.int s0, .int s1, .ref 130] S Q := zFq_W 17 (cs := []) (dy := []) hd hS h
set_option maxRecDepth 4000 in
theorem e_M_unit_61 {x1 : Int32} {x2 : Int32} {s0 : Int32} {s1 : Int32} {S : ZSt} {Q : ZOut → ZSt → Prop} {d : Nat} (hd : 50 ≤ d) (hS : zSh S) (h : zcl d m_M_unit m_M_emit 115 61 [some (.ref 130), some (.int x1), some (.int x2)] [] [.ref 130, .int s1, .int s0] S Q) : zW d m_M_unit 61 [some (.ref 130), some (.int x1), some (.int x2)] [.int s0, .int s1, .ref 130] S Q := zFq_W 6 (cs := []) (dy := []) hd hS h
set_option maxRecDepth 4000 in
theorem e_M_unit_62 {x1 : Int32} {x2 : Int32} {S : ZSt} {Q : ZOut → ZSt → Prop} {d : Nat} (hd : 50 ≤ d) (hS : zSh S) (h : Q (.inl none) S) : zW d m_M_unit 62 [some (.ref 130), some (.int x1), some (.int x2)] [] S Q := zFq_W 7 (cs := []) (dy := []) hd hS h
set_option maxRecDepth 4000 in
theorem e_M_unit_66 {x1 : Int32} {x2 : Int32} {s0 : Int32} {s1 : Int32} {S : ZSt} {Q : ZOut → ZSt → Prop} {d : Nat} (hd : 50 ≤ d) (hS : zSh S) (h : ((¬ s1 = s0 → zcl d m_M_unit m_M_of 152 79 [some (.ref 130), some (.int x1), some (.int x2)] [.int x2] [.ref 67] S Q) ∧ (¬ (¬ s1 = s0) → zcl d m_M_unit m_M_pass 131 68 [some (.ref 130), some (.int x1), some (.int x2)] [] [.ref 130] S Q))) : zW d m_M_unit 66 [some (.ref 130), some (.int x1), some (.int x2)] [.int s0, .int s1] S Q := zFq_W 11 (cs := []) (dy := []) hd hS h
set_option maxRecDepth 4000 in
theorem e_M_unit_69 {x1 : Int32} {x2 : Int32} {S : ZSt} {Q : ZOut → ZSt → Prop} {d : Nat} (hd : 50 ≤ d) (hS : zSh S) (h : zcl d m_M_unit m_M_readNumber 140 74 [some (.ref 130), some (.int x1), some (.int x2)] [.int (nI 3), .ref 130] [.ref 130, .int (nI 0), .int (nI 23)] S Q) : zW d m_M_unit 69 [some (.ref 130), some (.int x1), some (.int x2)] [] S Q := zFq_W 11 (cs := []) (dy := []) hd hS h
set_option maxRecDepth 4000 in
theorem e_M_unit_75 {x1 : Int32} {x2 : Int32} {s0 : Int32} {s1 : Int32} {S : ZSt} {Q : ZOut → ZSt → Prop} {d : Nat} (hd : 50 ≤ d) (hS : zSh S) (h : zcl d m_M_unit m_M_emit 143 75 [some (.ref 130), some (.int x1), some (.int x2)] [] [.ref 130, .int s1, .int s0] S Q) : zW d m_M_unit 75 [some (.ref 130), some (.int x1), some (.int x2)] [.int s0, .int s1, .ref 130] S Q := zFq_W 6 (cs := []) (dy := []) hd hS h
set_option maxRecDepth 4000 in
theorem e_M_unit_76 {x1 : Int32} {x2 : Int32} {S : ZSt} {Q : ZOut → ZSt → Prop} {d : Nat} (hd : 50 ≤ d) (hS : zSh S) (h : Q (.inl none) S) : zW d m_M_unit 76 [some (.ref 130), some (.int x1), some (.int x2)] [] S Q := zFq_W 7 (cs := []) (dy := []) hd hS h
set_option maxRecDepth 4000 in
theorem e_M_unit_80 {x1 : Int32} {x2 : Int32} {s0 : Int32} {s1 : Int32} {S : ZSt} {Q : ZOut → ZSt → Prop} {d : Nat} (hd : 50 ≤ d) (hS : zSh S) (h : ((¬ s1 = s0 → zcl d m_M_unit m_M_wrong 177 92 [some (.ref 130), some (.int x1), some (.int x2)] [] [.ref 130, .int (nI 1), .int (zI S 130 7)] S Q) ∧ (¬ (¬ s1 = s0) → zcl d m_M_unit m_M_pass 159 82 [some (.ref 130), some (.int x1), some (.int x2)] [] [.ref 130] S Q))) : zW d m_M_unit 80 [some (.ref 130), some (.int x1), some (.int x2)] [.int s0, .int s1] S Q := zFq_W 13 (cs := []) (dy := []) hd hS h
set_option maxRecDepth 4000 in
theorem e_M_unit_83 {x1 : Int32} {x2 : Int32} {S : ZSt} {Q : ZOut → ZSt → Prop} {d : Nat} (hd : 50 ≤ d) (hS : zSh S) (h : zcl d m_M_unit m_M_emit 165 86 [some (.ref 130), some (.int x1), some (.int x2)] [] [.ref 130, .int (nI 4), .int (nI 0)] S Q) : zW d m_M_unit 83 [some (.ref 130), some (.int x1), some (.int x2)] [] S Q := zFq_W 9 (cs := []) (dy := []) hd hS h
set_option maxRecDepth 4000 in
theorem e_M_unit_87 {x1 : Int32} {x2 : Int32} {S : ZSt} {Q : ZOut → ZSt → Prop} {d : Nat} (hd : 50 ≤ d) (hS : zSh S) (h : Q (.inl none) S) : zW d m_M_unit 87 [some (.ref 130), some (.int x1), some (.int x2)] [] S Q := zFq_W 7 (cs := []) (dy := []) hd hS h
set_option maxRecDepth 4000 in
theorem e_M_unit_93 {x1 : Int32} {x2 : Int32} {S : ZSt} {Q : ZOut → ZSt → Prop} {d : Nat} (hd : 50 ≤ d) (hS : zSh S) (h : Q (.inl none) S) : zW d m_M_unit 93 [some (.ref 130), some (.int x1), some (.int x2)] [] S Q := zFq_W 6 (cs := []) (dy := []) hd hS h
set_option maxRecDepth 4000 in
theorem e_M_product  {S : ZSt} {Q : ZOut → ZSt → Prop} {d : Nat} (hd : 50 ≤ d) (hS : zSh S) (h : zcl d m_M_product m_M_unit 1 1 [some (.ref 130), none] [] [.ref 130] S Q) : zW d m_M_product 0 [some (.ref 130), none] [] S Q := zFq_W 7 (cs := [2]) (dy := []) hd hS h
set_option maxRecDepth 4000 in
theorem e_M_product_2 {u1 : Option Value} {S : ZSt} {Q : ZOut → ZSt → Prop} {d : Nat} (hd : 50 ≤ d) (hS : zSh S) (h : zcl d m_M_product m_M_fine 5 3 [some (.ref 130), u1] [] [.ref 130] S Q) : zW d m_M_product 2 [some (.ref 130), u1] [] S Q := zFq_W 7 (cs := [2]) (dy := []) hd hS h
set_option maxRecDepth 4000 in
theorem e_M_product_4 {u1 : Option Value} {s0 : Int32} {S : ZSt} {Q : ZOut → ZSt → Prop} {d : Nat} (hd : 50 ≤ d) (hS : zSh S) (h : ((s0 = 0 → Q (.inl none) S) ∧ (¬ (s0 = 0) → zcl d m_M_product m_M_here 12 6 [some (.ref 130), u1] [] [.ref 130] S Q))) : zW d m_M_product 4 [some (.ref 130), u1] [.int s0] S Q := zFq_W 9 (cs := [2]) (dy := []) hd hS h
set_option maxRecDepth 4000 in
theorem e_M_product_7 {u1 : Option Value} {s0 : Int32} {S : ZSt} {Q : ZOut → ZSt → Prop} {d : Nat} (hd : 50 ≤ d) (hS : zSh S) (h : ((s0 = (nI 42) → zcl d m_M_product m_M_here 30 14 [some (.ref 130), u1] [] [.ref 130] S Q) ∧ (¬ (s0 = (nI 42)) → zcl d m_M_product m_M_here 21 10 [some (.ref 130), u1] [] [.ref 130] S Q))) : zW d m_M_product 7 [some (.ref 130), u1] [.int s0] S Q := zFq_W 11 (cs := [2]) (dy := []) hd hS h
set_option maxRecDepth 4000 in
theorem e_M_product_11 {u1 : Option Value} {s0 : Int32} {S : ZSt} {Q : ZOut → ZSt → Prop} {d : Nat} (hd : 50 ≤ d) (hS : zSh S) (h : ((¬ s0 = (nI 47) → Q (.inl none) S) ∧ (¬ (¬ s0 = (nI 47)) → zcl d m_M_product m_M_here 30 14 [some (.ref 130), u1] [] [.ref 130] S Q))) : zW d m_M_product 11 [some (.ref 130), u1] [.int s0] S Q := zFq_W 10 (cs := [2]) (dy := []) hd hS h
set_option maxRecDepth 4000 in
theorem e_M_product_15 {u1 : Option Value} {s0 : Int32} {S : ZSt} {Q : ZOut → ZSt → Prop} {d : Nat} (hd : 50 ≤ d) (hS : zSh S) (h : zcl d m_M_product m_M_unit 45 23 [some (.ref 130), some (.int s0)] [] [.ref 130] (zsI S 130 7 ((zI S 130 7) + (nI 1))) Q) : zW d m_M_product 15 [some (.ref 130), u1] [.int s0] S Q := zFq_W 14 (cs := [2]) (dy := []) hd hS h
set_option maxRecDepth 4000 in
theorem e_M_product_24 {x1 : Int32} {S : ZSt} {Q : ZOut → ZSt → Prop} {d : Nat} (hd : 50 ≤ d) (hS : zSh S) (h : ((¬ x1 = (nI 42) → zcl d m_M_product m_M_emit 63 32 [some (.ref 130), some (.int x1)] [] [.ref 130, .int (nI 8), .int (nI 0)] S Q) ∧ (¬ (¬ x1 = (nI 42)) → zcl d m_M_product m_M_emit 63 32 [some (.ref 130), some (.int x1)] [] [.ref 130, .int (nI 7), .int (nI 0)] S Q))) : zW d m_M_product 24 [some (.ref 130), some (.int x1)] [] S Q := zFq_W 16 (cs := [2]) (dy := []) hd hS h
set_option maxRecDepth 4000 in
theorem e_M_product_33 {x1 : Int32} {S : ZSt} {Q : ZOut → ZSt → Prop} {d : Nat} (hd : 50 ≤ d) (hS : zSh S) (h : zW d m_M_product 2 [some (.ref 130), some (.int x1)] [] S Q) : zW d m_M_product 33 [some (.ref 130), some (.int x1)] [] S Q := zFq_W 6 (cs := [2]) (dy := []) hd hS h
set_option maxRecDepth 4000 in
theorem e_M_sum  {S : ZSt} {Q : ZOut → ZSt → Prop} {d : Nat} (hd : 50 ≤ d) (hS : zSh S) (h : zcl d m_M_sum m_M_product 1 1 [some (.ref 130), none] [] [.ref 130] S Q) : zW d m_M_sum 0 [some (.ref 130), none] [] S Q := zFq_W 7 (cs := [2]) (dy := []) hd hS h
set_option maxRecDepth 4000 in
theorem e_M_sum_2 {u1 : Option Value} {S : ZSt} {Q : ZOut → ZSt → Prop} {d : Nat} (hd : 50 ≤ d) (hS : zSh S) (h : zcl d m_M_sum m_M_fine 5 3 [some (.ref 130), u1] [] [.ref 130] S Q) : zW d m_M_sum 2 [some (.ref 130), u1] [] S Q := zFq_W 7 (cs := [2]) (dy := []) hd hS h
set_option maxRecDepth 4000 in
theorem e_M_sum_4 {u1 : Option Value} {s0 : Int32} {S : ZSt} {Q : ZOut → ZSt → Prop} {d : Nat} (hd : 50 ≤ d) (hS : zSh S) (h : ((s0 = 0 → Q (.inl none) S) ∧ (¬ (s0 = 0) → zcl d m_M_sum m_M_here 12 6 [some (.ref 130), u1] [] [.ref 130] S Q))) : zW d m_M_sum 4 [some (.ref 130), u1] [.int s0] S Q := zFq_W 9 (cs := [2]) (dy := []) hd hS h
set_option maxRecDepth 4000 in
theorem e_M_sum_7 {u1 : Option Value} {s0 : Int32} {S : ZSt} {Q : ZOut → ZSt → Prop} {d : Nat} (hd : 50 ≤ d) (hS : zSh S) (h : ((s0 = (nI 43) → zcl d m_M_sum m_M_here 30 14 [some (.ref 130), u1] [] [.ref 130] S Q) ∧ (¬ (s0 = (nI 43)) → zcl d m_M_sum m_M_here 21 10 [some (.ref 130), u1] [] [.ref 130] S Q))) : zW d m_M_sum 7 [some (.ref 130), u1] [.int s0] S Q := zFq_W 11 (cs := [2]) (dy := []) hd hS h
set_option maxRecDepth 4000 in
theorem e_M_sum_11 {u1 : Option Value} {s0 : Int32} {S : ZSt} {Q : ZOut → ZSt → Prop} {d : Nat} (hd : 50 ≤ d) (hS : zSh S) (h : ((¬ s0 = (nI 45) → Q (.inl none) S) ∧ (¬ (¬ s0 = (nI 45)) → zcl d m_M_sum m_M_here 30 14 [some (.ref 130), u1] [] [.ref 130] S Q))) : zW d m_M_sum 11 [some (.ref 130), u1] [.int s0] S Q := zFq_W 10 (cs := [2]) (dy := []) hd hS h
set_option maxRecDepth 4000 in
theorem e_M_sum_15 {u1 : Option Value} {s0 : Int32} {S : ZSt} {Q : ZOut → ZSt → Prop} {d : Nat} (hd : 50 ≤ d) (hS : zSh S) (h : zcl d m_M_sum m_M_product 45 23 [some (.ref 130), some (.int s0)] [] [.ref 130] (zsI S 130 7 ((zI S 130 7) + (nI 1))) Q) : zW d m_M_sum 15 [some (.ref 130), u1] [.int s0] S Q := zFq_W 14 (cs := [2]) (dy := []) hd hS h
set_option maxRecDepth 4000 in
theorem e_M_sum_24 {x1 : Int32} {S : ZSt} {Q : ZOut → ZSt → Prop} {d : Nat} (hd : 50 ≤ d) (hS : zSh S) (h : ((¬ x1 = (nI 43) → zcl d m_M_sum m_M_emit 62 32 [some (.ref 130), some (.int x1)] [] [.ref 130, .int (nI 6), .int (nI 0)] S Q) ∧ (¬ (¬ x1 = (nI 43)) → zcl d m_M_sum m_M_emit 62 32 [some (.ref 130), some (.int x1)] [] [.ref 130, .int (nI 5), .int (nI 0)] S Q))) : zW d m_M_sum 24 [some (.ref 130), some (.int x1)] [] S Q := zFq_W 16 (cs := [2]) (dy := []) hd hS h
set_option maxRecDepth 4000 in
theorem e_M_sum_33 {x1 : Int32} {S : ZSt} {Q : ZOut → ZSt → Prop} {d : Nat} (hd : 50 ≤ d) (hS : zSh S) (h : zW d m_M_sum 2 [some (.ref 130), some (.int x1)] [] S Q) : zW d m_M_sum 33 [some (.ref 130), some (.int x1)] [] S Q := zFq_W 6 (cs := [2]) (dy := []) hd hS h
set_option maxRecDepth 4000 in
theorem e_M_oneOf  {S : ZSt} {Q : ZOut → ZSt → Prop} {d : Nat} (hd : 50 ≤ d) (hS : zSh S) (h : zcl d m_M_oneOf m_M_fine 1 1 [some (.ref 130), none] [] [.ref 130] S Q) : zW d m_M_oneOf 0 [some (.ref 130), none] [] S Q := zFq_W 7 (cs := []) (dy := []) hd hS h
set_option maxRecDepth 4000 in
theorem e_M_oneOf_2 {s0 : Int32} {S : ZSt} {Q : ZOut → ZSt → Prop} {d : Nat} (hd : 50 ≤ d) (hS : zSh S) (h : ((¬ s0 = 0 → zcl d m_M_oneOf m_M_here 9 5 [some (.ref 130), none] [] [.ref 130] S Q) ∧ (¬ (¬ s0 = 0) → Q (.inl none) S))) : zW d m_M_oneOf 2 [some (.ref 130), none] [.int s0] S Q := zFq_W 9 (cs := []) (dy := []) hd hS h
set_option maxRecDepth 4000 in
theorem e_M_oneOf_6 {s0 : Int32} {S : ZSt} {Q : ZOut → ZSt → Prop} {d : Nat} (hd : 50 ≤ d) (hS : zSh S) (h : ((¬ s0 = (nI 91) → zcl d m_M_oneOf m_M_word 44 24 [some (.ref 130), none] [] [.ref 130] S Q) ∧ (¬ (¬ s0 = (nI 91)) → zcl d m_M_oneOf m_M_opensOne 19 10 [some (.ref 130), none] [] [.ref 130, .int (nI 1)] S Q))) : zW d m_M_oneOf 6 [some (.ref 130), none] [.int s0] S Q := zFq_W 12 (cs := []) (dy := []) hd hS h
set_option maxRecDepth 4000 in
theorem e_M_oneOf_11  {S : ZSt} {Q : ZOut → ZSt → Prop} {d : Nat} (hd : 50 ≤ d) (hS : zSh S) (h : zcl d m_M_oneOf m_M_anyOf 23 12 [some (.ref 130), none] [] [.ref 130] S Q) : zW d m_M_oneOf 11 [some (.ref 130), none] [] S Q := zFq_W 7 (cs := []) (dy := []) hd hS h
set_option maxRecDepth 4000 in
theorem e_M_oneOf_13  {S : ZSt} {Q : ZOut → ZSt → Prop} {d : Nat} (hd : 50 ≤ d) (hS : zSh S) (h : zcl d m_M_oneOf m_M_sign 29 15 [some (.ref 130), none] [] [.ref 130, .int (nI 93)] S Q) : zW d m_M_oneOf 13 [some (.ref 130), none] [] S Q := zFq_W 8 (cs := []) (dy := []) hd hS h
set_option maxRecDepth 4000 in
theorem e_M_oneOf_16  {S : ZSt} {Q : ZOut → ZSt → Prop} {d : Nat} (hd : 50 ≤ d) (hS : zSh S) (h : Q (.inl none) (zsI S 130 10 ((zI S 130 10) - (nI 1)))) : zW d m_M_oneOf 16 [some (.ref 130), none] [] S Q := zFq_W 12 (cs := []) (dy := []) hd hS h
set_option maxRecDepth 4000 in
theorem e_M_oneOf_25 {s0 : Int32} {S : ZSt} {Q : ZOut → ZSt → Prop} {d : Nat} (hd : 50 ≤ d) (hS : zSh S) (h : zcl d m_M_oneOf m_M_of 50 26 [some (.ref 130), none] [.int s0] [.ref 69] S Q) : zW d m_M_oneOf 25 [some (.ref 130), none] [.int s0] S Q := zFq_W 7 (cs := []) (dy := []) hd hS h
set_option maxRecDepth 4000 in
theorem e_M_oneOf_27 {s0 : Int32} {s1 : Int32} {S : ZSt} {Q : ZOut → ZSt → Prop} {d : Nat} (hd : 50 ≤ d) (hS : zSh S) (h : ((¬ s1 = s0 → zcl d m_M_oneOf m_M_sum 84 45 [some (.ref 130), none] [] [.ref 130] S Q) ∧ (¬ (¬ s1 = s0) → zcl d m_M_oneOf m_M_opensOne 58 30 [some (.ref 130), none] [] [.ref 130, .int (nI 3)] S Q))) : zW d m_M_oneOf 27 [some (.ref 130), none] [.int s0, .int s1] S Q := zFq_W 11 (cs := []) (dy := []) hd hS h
set_option maxRecDepth 4000 in
theorem e_M_oneOf_31  {S : ZSt} {Q : ZOut → ZSt → Prop} {d : Nat} (hd : 50 ≤ d) (hS : zSh S) (h : zcl d m_M_oneOf m_M_oneOf 62 32 [some (.ref 130), none] [] [.ref 130] S Q) : zW d m_M_oneOf 31 [some (.ref 130), none] [] S Q := zFq_W 7 (cs := []) (dy := []) hd hS h
set_option maxRecDepth 4000 in
theorem e_M_oneOf_33  {S : ZSt} {Q : ZOut → ZSt → Prop} {d : Nat} (hd : 50 ≤ d) (hS : zSh S) (h : zcl d m_M_oneOf m_M_emit 79 42 [some (.ref 130), none] [] [.ref 130, .int (nI 12), .int (nI 0)] (zsI S 130 10 ((zI S 130 10) - (nI 1))) Q) : zW d m_M_oneOf 33 [some (.ref 130), none] [] S Q := zFq_W 15 (cs := []) (dy := []) hd hS h
set_option maxRecDepth 4000 in
theorem e_M_oneOf_43  {S : ZSt} {Q : ZOut → ZSt → Prop} {d : Nat} (hd : 50 ≤ d) (hS : zSh S) (h : Q (.inl none) S) : zW d m_M_oneOf 43 [some (.ref 130), none] [] S Q := zFq_W 6 (cs := []) (dy := []) hd hS h
set_option maxRecDepth 4000 in
theorem e_M_oneOf_46  {S : ZSt} {Q : ZOut → ZSt → Prop} {d : Nat} (hd : 50 ≤ d) (hS : zSh S) (h : zcl d m_M_oneOf m_M_fine 88 47 [some (.ref 130), none] [] [.ref 130] S Q) : zW d m_M_oneOf 46 [some (.ref 130), none] [] S Q := zFq_W 7 (cs := []) (dy := []) hd hS h
set_option maxRecDepth 4000 in
theorem e_M_oneOf_48 {s0 : Int32} {S : ZSt} {Q : ZOut → ZSt → Prop} {d : Nat} (hd : 50 ≤ d) (hS : zSh S) (h : ((¬ s0 = 0 → zcl d m_M_oneOf m_M_here 96 51 [some (.ref 130), none] [] [.ref 130] S Q) ∧ (¬ (¬ s0 = 0) → Q (.inl none) S))) : zW d m_M_oneOf 48 [some (.ref 130), none] [.int s0] S Q := zFq_W 9 (cs := []) (dy := []) hd hS h
set_option maxRecDepth 4000 in
theorem e_M_oneOf_52 {s0 : Int32} {S : ZSt} {Q : ZOut → ZSt → Prop} {d : Nat} (hd : 50 ≤ d) (hS : zSh S) (h : ((s0 = (nI 60) → zcl d m_M_oneOf m_M_sum 139 75 [some (.ref 130), some (.int s0)] [] [.ref 130] (zsI S 130 7 ((zI S 130 7) + (nI 1))) Q) ∧ (¬ (s0 = (nI 60)) → ((s0 = (nI 62) → zcl d m_M_oneOf m_M_sum 139 75 [some (.ref 130), some (.int s0)] [] [.ref 130] (zsI S 130 7 ((zI S 130 7) + (nI 1))) Q) ∧ (¬ (s0 = (nI 62)) → ((s0 = (nI 61) → zcl d m_M_oneOf m_M_sum 139 75 [some (.ref 130), some (.int s0)] [] [.ref 130] (zsI S 130 7 ((zI S 130 7) + (nI 1))) Q) ∧ (¬ (s0 = (nI 61)) → zcl d m_M_oneOf m_M_wrong 124 66 [some (.ref 130), some (.int s0)] [] [.ref 130, .int (nI 1), .int (zI S 130 7)] S Q))))))) : zW d m_M_oneOf 52 [some (.ref 130), none] [.int s0] S Q := zFq_W 44 (cs := []) (dy := []) hd hS h
set_option maxRecDepth 4000 in
theorem e_M_oneOf_67 {x1 : Int32} {S : ZSt} {Q : ZOut → ZSt → Prop} {d : Nat} (hd : 50 ≤ d) (hS : zSh S) (h : Q (.inl none) S) : zW d m_M_oneOf 67 [some (.ref 130), some (.int x1)] [] S Q := zFq_W 6 (cs := []) (dy := []) hd hS h
set_option maxRecDepth 4000 in
theorem e_M_oneOf_76 {x1 : Int32} {S : ZSt} {Q : ZOut → ZSt → Prop} {d : Nat} (hd : 50 ≤ d) (hS : zSh S) (h : ((¬ x1 = (nI 60) → ((¬ x1 = (nI 62) → zcl d m_M_oneOf m_M_emit 168 89 [some (.ref 130), some (.int x1)] [] [.ref 130, .int (nI 11), .int (nI 0)] S Q) ∧ (¬ (¬ x1 = (nI 62)) → zcl d m_M_oneOf m_M_emit 168 89 [some (.ref 130), some (.int x1)] [] [.ref 130, .int (nI 10), .int (nI 0)] S Q))) ∧ (¬ (¬ x1 = (nI 60)) → zcl d m_M_oneOf m_M_emit 168 89 [some (.ref 130), some (.int x1)] [] [.ref 130, .int (nI 9), .int (nI 0)] S Q))) : zW d m_M_oneOf 76 [some (.ref 130), some (.int x1)] [] S Q := zFq_W 23 (cs := []) (dy := []) hd hS h
set_option maxRecDepth 4000 in
theorem e_M_oneOf_90 {x1 : Int32} {S : ZSt} {Q : ZOut → ZSt → Prop} {d : Nat} (hd : 50 ≤ d) (hS : zSh S) (h : Q (.inl none) S) : zW d m_M_oneOf 90 [some (.ref 130), some (.int x1)] [] S Q := zFq_W 6 (cs := []) (dy := []) hd hS h
set_option maxRecDepth 4000 in
theorem e_M_allOf  {S : ZSt} {Q : ZOut → ZSt → Prop} {d : Nat} (hd : 50 ≤ d) (hS : zSh S) (h : zcl d m_M_allOf m_M_oneOf 1 1 [some (.ref 130)] [] [.ref 130] S Q) : zW d m_M_allOf 0 [some (.ref 130)] [] S Q := zFq_W 7 (cs := [2]) (dy := []) hd hS h
set_option maxRecDepth 4000 in
theorem e_M_allOf_2  {S : ZSt} {Q : ZOut → ZSt → Prop} {d : Nat} (hd : 50 ≤ d) (hS : zSh S) (h : zcl d m_M_allOf m_M_fine 5 3 [some (.ref 130)] [] [.ref 130] S Q) : zW d m_M_allOf 2 [some (.ref 130)] [] S Q := zFq_W 7 (cs := [2]) (dy := []) hd hS h
set_option maxRecDepth 4000 in
theorem e_M_allOf_4 {s0 : Int32} {S : ZSt} {Q : ZOut → ZSt → Prop} {d : Nat} (hd : 50 ≤ d) (hS : zSh S) (h : ((s0 = 0 → Q (.inl none) S) ∧ (¬ (s0 = 0) → zcl d m_M_allOf m_M_word 12 6 [some (.ref 130)] [] [.ref 130] S Q))) : zW d m_M_allOf 4 [some (.ref 130)] [.int s0] S Q := zFq_W 9 (cs := [2]) (dy := []) hd hS h
set_option maxRecDepth 4000 in
theorem e_M_allOf_7 {s0 : Int32} {S : ZSt} {Q : ZOut → ZSt → Prop} {d : Nat} (hd : 50 ≤ d) (hS : zSh S) (h : zcl d m_M_allOf m_M_of 18 8 [some (.ref 130)] [.int s0] [.ref 71] S Q) : zW d m_M_allOf 7 [some (.ref 130)] [.int s0] S Q := zFq_W 7 (cs := [2]) (dy := []) hd hS h
set_option maxRecDepth 4000 in
theorem e_M_allOf_9 {s0 : Int32} {s1 : Int32} {S : ZSt} {Q : ZOut → ZSt → Prop} {d : Nat} (hd : 50 ≤ d) (hS : zSh S) (h : ((¬ s1 = s0 → Q (.inl none) S) ∧ (¬ (¬ s1 = s0) → zcl d m_M_allOf m_M_pass 25 11 [some (.ref 130)] [] [.ref 130] S Q))) : zW d m_M_allOf 9 [some (.ref 130)] [.int s0, .int s1] S Q := zFq_W 9 (cs := [2]) (dy := []) hd hS h
set_option maxRecDepth 4000 in
theorem e_M_allOf_12  {S : ZSt} {Q : ZOut → ZSt → Prop} {d : Nat} (hd : 50 ≤ d) (hS : zSh S) (h : zcl d m_M_allOf m_M_oneOf 29 13 [some (.ref 130)] [] [.ref 130] S Q) : zW d m_M_allOf 12 [some (.ref 130)] [] S Q := zFq_W 7 (cs := [2]) (dy := []) hd hS h
set_option maxRecDepth 4000 in
theorem e_M_allOf_14  {S : ZSt} {Q : ZOut → ZSt → Prop} {d : Nat} (hd : 50 ≤ d) (hS : zSh S) (h : zcl d m_M_allOf m_M_emit 36 17 [some (.ref 130)] [] [.ref 130, .int (nI 13), .int (nI 0)] S Q) : zW d m_M_allOf 14 [some (.ref 130)] [] S Q := zFq_W 9 (cs := [2]) (dy := []) hd hS h
set_option maxRecDepth 4000 in
theorem e_M_allOf_18  {S : ZSt} {Q : ZOut → ZSt → Prop} {d : Nat} (hd : 50 ≤ d) (hS : zSh S) (h : zW d m_M_allOf 2 [some (.ref 130)] [] S Q) : zW d m_M_allOf 18 [some (.ref 130)] [] S Q := zFq_W 6 (cs := [2]) (dy := []) hd hS h
set_option maxRecDepth 4000 in
theorem e_M_anyOf  {S : ZSt} {Q : ZOut → ZSt → Prop} {d : Nat} (hd : 50 ≤ d) (hS : zSh S) (h : zcl d m_M_anyOf m_M_allOf 1 1 [some (.ref 130)] [] [.ref 130] S Q) : zW d m_M_anyOf 0 [some (.ref 130)] [] S Q := zFq_W 7 (cs := [2]) (dy := []) hd hS h
set_option maxRecDepth 4000 in
theorem e_M_anyOf_2  {S : ZSt} {Q : ZOut → ZSt → Prop} {d : Nat} (hd : 50 ≤ d) (hS : zSh S) (h : zcl d m_M_anyOf m_M_fine 5 3 [some (.ref 130)] [] [.ref 130] S Q) : zW d m_M_anyOf 2 [some (.ref 130)] [] S Q := zFq_W 7 (cs := [2]) (dy := []) hd hS h
set_option maxRecDepth 4000 in
theorem e_M_anyOf_4 {s0 : Int32} {S : ZSt} {Q : ZOut → ZSt → Prop} {d : Nat} (hd : 50 ≤ d) (hS : zSh S) (h : ((s0 = 0 → Q (.inl none) S) ∧ (¬ (s0 = 0) → zcl d m_M_anyOf m_M_word 12 6 [some (.ref 130)] [] [.ref 130] S Q))) : zW d m_M_anyOf 4 [some (.ref 130)] [.int s0] S Q := zFq_W 9 (cs := [2]) (dy := []) hd hS h
set_option maxRecDepth 4000 in
theorem e_M_anyOf_7 {s0 : Int32} {S : ZSt} {Q : ZOut → ZSt → Prop} {d : Nat} (hd : 50 ≤ d) (hS : zSh S) (h : zcl d m_M_anyOf m_M_of 18 8 [some (.ref 130)] [.int s0] [.ref 73] S Q) : zW d m_M_anyOf 7 [some (.ref 130)] [.int s0] S Q := zFq_W 7 (cs := [2]) (dy := []) hd hS h
set_option maxRecDepth 4000 in
theorem e_M_anyOf_9 {s0 : Int32} {s1 : Int32} {S : ZSt} {Q : ZOut → ZSt → Prop} {d : Nat} (hd : 50 ≤ d) (hS : zSh S) (h : ((¬ s1 = s0 → Q (.inl none) S) ∧ (¬ (¬ s1 = s0) → zcl d m_M_anyOf m_M_pass 25 11 [some (.ref 130)] [] [.ref 130] S Q))) : zW d m_M_anyOf 9 [some (.ref 130)] [.int s0, .int s1] S Q := zFq_W 9 (cs := [2]) (dy := []) hd hS h
set_option maxRecDepth 4000 in
theorem e_M_anyOf_12  {S : ZSt} {Q : ZOut → ZSt → Prop} {d : Nat} (hd : 50 ≤ d) (hS : zSh S) (h : zcl d m_M_anyOf m_M_allOf 29 13 [some (.ref 130)] [] [.ref 130] S Q) : zW d m_M_anyOf 12 [some (.ref 130)] [] S Q := zFq_W 7 (cs := [2]) (dy := []) hd hS h
set_option maxRecDepth 4000 in
theorem e_M_anyOf_14  {S : ZSt} {Q : ZOut → ZSt → Prop} {d : Nat} (hd : 50 ≤ d) (hS : zSh S) (h : zcl d m_M_anyOf m_M_emit 36 17 [some (.ref 130)] [] [.ref 130, .int (nI 14), .int (nI 0)] S Q) : zW d m_M_anyOf 14 [some (.ref 130)] [] S Q := zFq_W 9 (cs := [2]) (dy := []) hd hS h
set_option maxRecDepth 4000 in
theorem e_M_anyOf_18  {S : ZSt} {Q : ZOut → ZSt → Prop} {d : Nat} (hd : 50 ≤ d) (hS : zSh S) (h : zW d m_M_anyOf 2 [some (.ref 130)] [] S Q) : zW d m_M_anyOf 18 [some (.ref 130)] [] S Q := zFq_W 6 (cs := [2]) (dy := []) hd hS h
