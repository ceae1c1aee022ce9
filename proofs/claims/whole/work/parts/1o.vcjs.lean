/-! Strings, stretch by stretch -/
set_option maxRecDepth 4000 in
theorem b_JS_length {o : Nat} {S : ZSt} {Q : ZOut → ZSt → Prop} (hS : zSh S) (h : (zc S o = 15 ∧ ∃ r1, zR S o 0 = some r1 ∧ (zc S r1 = 103 ∧ (zc S o = 15 ∧ zcl 2 m_JS_length m_JS_coder 6 4 [some (.ref o)] [.int (nI (zn S r1))] [.ref o] S Q)))) : zC m_JS_length [.ref o] S Q := zF_W 10 (cs := []) (dy := [1, 2, 4]) hS h
set_option maxRecDepth 4000 in
theorem b_JS_length_5 {s0 : Int32} {s1 : Int32} {o : Nat} {S : ZSt} {Q : ZOut → ZSt → Prop} (hS : zSh S) (h : Q (.inl (some (.int (zShr s1 s0)))) S) : zW 2 m_JS_length 5 [some (.ref o)] [.int s0, .int s1] S Q := zF_W 7 (cs := []) (dy := [1, 2, 4]) hS h
set_option maxRecDepth 4000 in
theorem b_JS_charAt {o : Nat} {v1 : Int32} {S : ZSt} {Q : ZOut → ZSt → Prop} (hS : zSh S) (h : (zc S o = 15 ∧ zcl 4 m_JS_charAt m_JS_isLatin1 1 1 [some (.ref o), some (.int v1)] [] [.ref o] S Q)) : zC m_JS_charAt [.ref o, .int v1] S Q := zF_W 7 (cs := []) (dy := [1, 4, 9]) hS h
set_option maxRecDepth 4000 in
theorem b_JS_charAt_2 {x1 : Int32} {s0 : Int32} {o : Nat} {S : ZSt} {Q : ZOut → ZSt → Prop} (hS : zSh S) (h : ((s0 = 0 → (zc S o = 15 ∧ ∃ r9, zR S o 0 = some r9 ∧ False)) ∧ (¬ (s0 = 0) → (zc S o = 15 ∧ ∃ r4, zR S o 0 = some r4 ∧ zcl 4 m_JS_charAt m_JL_charAt 12 6 [some (.ref o), some (.int x1)] [] [.ref r4, .int x1] S Q)))) : zW 4 m_JS_charAt 2 [some (.ref o), some (.int x1)] [.int s0] S Q := zF_W 14 (cs := []) (dy := [1, 4, 9]) hS h
set_option maxRecDepth 4000 in
theorem b_JS_charAt_7 {x1 : Int32} {s0 : Int32} {o : Nat} {S : ZSt} {Q : ZOut → ZSt → Prop} (hS : zSh S) (h : (narrow .char (.int s0) = .int s0 ∧ Q (.inl (some (.int s0))) S)) : zW 4 m_JS_charAt 7 [some (.ref o), some (.int x1)] [.int s0] S Q := zF_W 6 (cs := []) (dy := [1, 4, 9]) hS h
set_option maxRecDepth 4000 in
theorem b_JS_coder {o : Nat} {S : ZSt} {Q : ZOut → ZSt → Prop} (hS : zSh S) (h : (((nI 1) = 0 → (narrow .byte (.int (nI 1)) = .int (nI 1) ∧ Q (.inl (some (.int (nI 1)))) S)) ∧ (¬ ((nI 1) = 0) → (zc S o = 15 ∧ (narrow .byte (.int (zI S o 1)) = .int (zI S o 1) ∧ Q (.inl (some (.int (zI S o 1)))) S))))) : zC m_JS_coder [.ref o] S Q := zF_W 13 (cs := []) (dy := [3]) hS h
set_option maxRecDepth 4000 in
theorem b_JS_isLatin1 {o : Nat} {S : ZSt} {Q : ZOut → ZSt → Prop} (hS : zSh S) (h : (((nI 1) = 0 → (narrow .boolean (.int (nI 0)) = .int (nI 0) ∧ Q (.inl (some (.int (nI 0)))) S)) ∧ (¬ ((nI 1) = 0) → (zc S o = 15 ∧ ((¬ (zI S o 1) = 0 → (narrow .boolean (.int (nI 0)) = .int (nI 0) ∧ Q (.inl (some (.int (nI 0)))) S)) ∧ (¬ (¬ (zI S o 1) = 0) → (narrow .boolean (.int (nI 1)) = .int (nI 1) ∧ Q (.inl (some (.int (nI 1)))) S))))))) : zC m_JS_isLatin1 [.ref o] S Q := zF_W 17 (cs := []) (dy := [3]) hS h
set_option maxRecDepth 4000 in
theorem b_JS_checkIndex {v0 : Int32} {v1 : Int32} {S : ZSt} {Q : ZOut → ZSt → Prop} (hS : zSh S) (h : zcl 2 m_JS_checkIndex m_JP_checkIndex 5 3 [some (.int v0), some (.int v1)] [] [.int v0, .int v1, .float 0] S Q) : zC m_JS_checkIndex [.int v0, .int v1] S Q := zF_W 9 (cs := []) (dy := []) hS h
set_option maxRecDepth 4000 in
theorem b_JS_checkIndex_4 {x0 : Int32} {x1 : Int32} {s0 : Int32} {S : ZSt} {Q : ZOut → ZSt → Prop} (hS : zSh S) (h : Q (.inl none) S) : zW 2 m_JS_checkIndex 4 [some (.int x0), some (.int x1)] [.int s0] S Q := zF_W 7 (cs := []) (dy := []) hS h
set_option maxRecDepth 4000 in
theorem b_JL_charAt {o : Nat} {v1 : Int32} {S : ZSt} {Q : ZOut → ZSt → Prop} (hS : zSh S) (h : (zc S o = 103 ∧ zcl 3 m_JL_charAt m_JS_checkIndex 3 3 [some (.ref o), some (.int v1)] [] [.int v1, .int (nI (zn S o))] S Q)) : zC m_JL_charAt [.ref o, .int v1] S Q := zF_W 9 (cs := []) (dy := [2, 6]) hS h
set_option maxRecDepth 4000 in
theorem b_JL_charAt_4 {x1 : Int32} {o : Nat} {S : ZSt} {Q : ZOut → ZSt → Prop} (hS : zSh S) (h : (zc S o = 103 ∧ vp_in x1 (zn S o) ∧ (narrow .char (.int ((((zI S o (x1.toNatClampNeg)) &&& (nI 255)).toUInt32 % 65536).toInt32)) = .int ((((zI S o (x1.toNatClampNeg)) &&& (nI 255)).toUInt32 % 65536).toInt32) ∧ Q (.inl (some (.int ((((zI S o (x1.toNatClampNeg)) &&& (nI 255)).toUInt32 % 65536).toInt32)))) S))) : zW 3 m_JL_charAt 4 [some (.ref o), some (.int x1)] [] S Q := zF_W 12 (cs := []) (dy := [2, 6]) hS h
set_option maxRecDepth 4000 in
theorem b_JP_checkIndex {v0 : Int32} {v1 : Int32} {S : ZSt} {Q : ZOut → ZSt → Prop} (hS : zSh S) (h : ((v0 < 0 → False) ∧ (¬ (v0 < 0) → ((v0 < v1 → Q (.inl (some (.int v0))) S) ∧ (¬ (v0 < v1) → False))))) : zC m_JP_checkIndex [.int v0, .int v1, .float 0] S Q := zF_W 20 (cs := []) (dy := []) hS h
