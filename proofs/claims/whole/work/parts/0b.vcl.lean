/-! The law's tries, stretch by stretch -/
set_option maxRecDepth 4000 in
theorem b_L_valley {v1 : Int32} {S : ZSt} {Q : ZOut → ZSt → Prop} (hS : zSh S) (h : zcl 10 m_L_valley m_N_valley 4 4 [some (.ref 75), some (.int v1), some (.ref 161), none] [.int (nI 0), .ref 161] [.ref 75, .int v1] S Q) : zC m_L_valley [.ref 75, .int v1, .ref 161] S Q := zF_W 10 (cs := []) (dy := []) hS h
set_option maxRecDepth 4000 in
theorem b_L_valley_5 {x1 : Int32} {s0 : Int32} {s1 : Int32} {S : ZSt} {Q : ZOut → ZSt → Prop} (hS : zSh S) (h : (vp_in s1 1 ∧ Q (.inl (some (.int (nI 0)))) (zsL S 161 (s1.toNatClampNeg) (s0.toInt64)))) : zW 10 m_L_valley 5 [some (.ref 75), some (.int x1), some (.ref 161), none] [.int s0, .int s1, .ref 161] S Q := zF_W 10 (cs := []) (dy := []) hS h
set_option maxRecDepth 4000 in
theorem b_L_valley_8 {x1 : Int32} {S : ZSt} {Q : ZOut → ZSt → Prop} (hS : zSh S) (h : Q (.inl (some (.int (nI 1)))) S) : zW 10 m_L_valley 8 [some (.ref 75), some (.int x1), some (.ref 161), none] [.float 0] S Q := zF_W 8 (cs := []) (dy := []) hS h
set_option maxRecDepth 4000 in
theorem b_L_way {v1 : Int32} {S : ZSt} {Q : ZOut → ZSt → Prop} (hS : zSh S) (h : zcl 9 m_L_way m_N_way 4 4 [some (.ref 75), some (.int v1), some (.ref 161), none] [.int (nI 0), .ref 161] [.ref 75, .int v1] S Q) : zC m_L_way [.ref 75, .int v1, .ref 161] S Q := zF_W 10 (cs := []) (dy := []) hS h
set_option maxRecDepth 4000 in
theorem b_L_way_5 {x1 : Int32} {s0 : Int32} {s1 : Int32} {S : ZSt} {Q : ZOut → ZSt → Prop} (hS : zSh S) (h : (vp_in s1 1 ∧ Q (.inl (some (.int (nI 0)))) (zsL S 161 (s1.toNatClampNeg) (s0.toInt64)))) : zW 9 m_L_way 5 [some (.ref 75), some (.int x1), some (.ref 161), none] [.int s0, .int s1, .ref 161] S Q := zF_W 10 (cs := []) (dy := []) hS h
set_option maxRecDepth 4000 in
theorem b_L_way_8 {x1 : Int32} {S : ZSt} {Q : ZOut → ZSt → Prop} (hS : zSh S) (h : Q (.inl (some (.int (nI 1)))) S) : zW 9 m_L_way 8 [some (.ref 75), some (.int x1), some (.ref 161), none] [.float 0] S Q := zF_W 8 (cs := []) (dy := []) hS h
set_option maxRecDepth 4000 in
theorem b_L_task {v1 : Int32} {S : ZSt} {Q : ZOut → ZSt → Prop} (hS : zSh S) (h : zcl 11 m_L_task m_N_task 4 4 [some (.ref 75), some (.int v1), some (.ref 161), none] [.int (nI 0), .ref 161] [.ref 75, .int v1] S Q) : zC m_L_task [.ref 75, .int v1, .ref 161] S Q := zF_W 10 (cs := []) (dy := []) hS h
set_option maxRecDepth 4000 in
theorem b_L_task_5 {x1 : Int32} {s0 : Int32} {s1 : Int32} {S : ZSt} {Q : ZOut → ZSt → Prop} (hS : zSh S) (h : (vp_in s1 1 ∧ Q (.inl (some (.int (nI 0)))) (zsL S 161 (s1.toNatClampNeg) (s0.toInt64)))) : zW 11 m_L_task 5 [some (.ref 75), some (.int x1), some (.ref 161), none] [.int s0, .int s1, .ref 161] S Q := zF_W 10 (cs := []) (dy := []) hS h
set_option maxRecDepth 4000 in
theorem b_L_task_8 {x1 : Int32} {S : ZSt} {Q : ZOut → ZSt → Prop} (hS : zSh S) (h : Q (.inl (some (.int (nI 1)))) S) : zW 11 m_L_task 8 [some (.ref 75), some (.int x1), some (.ref 161), none] [.float 0] S Q := zF_W 8 (cs := []) (dy := []) hS h
set_option maxRecDepth 4000 in
theorem b_L_told {v1 : Int32} {S : ZSt} {Q : ZOut → ZSt → Prop} (hS : zSh S) (h : zcl 3 m_L_told m_N_told 4 4 [some (.ref 75), some (.int v1), some (.ref 161), none] [.int (nI 0), .ref 161] [.ref 75, .int v1] S Q) : zC m_L_told [.ref 75, .int v1, .ref 161] S Q := zF_W 10 (cs := []) (dy := []) hS h
set_option maxRecDepth 4000 in
theorem b_L_told_5 {x1 : Int32} {s0 : Int32} {s1 : Int32} {S : ZSt} {Q : ZOut → ZSt → Prop} (hS : zSh S) (h : (vp_in s1 1 ∧ Q (.inl (some (.int (nI 0)))) (zsL S 161 (s1.toNatClampNeg) (s0.toInt64)))) : zW 3 m_L_told 5 [some (.ref 75), some (.int x1), some (.ref 161), none] [.int s0, .int s1, .ref 161] S Q := zF_W 10 (cs := []) (dy := []) hS h
set_option maxRecDepth 4000 in
theorem b_L_told_8 {x1 : Int32} {S : ZSt} {Q : ZOut → ZSt → Prop} (hS : zSh S) (h : Q (.inl (some (.int (nI 1)))) S) : zW 3 m_L_told 8 [some (.ref 75), some (.int x1), some (.ref 161), none] [.float 0] S Q := zF_W 8 (cs := []) (dy := []) hS h
set_option maxRecDepth 4000 in
theorem b_L_act {v1 : Int32} {v2 : Int32} {v3 : Int32} {S : ZSt} {Q : ZOut → ZSt → Prop} (hS : zSh S) (h : zcl 4 m_L_act m_N_act 7 6 [some (.ref 75), some (.int v1), some (.int v2), some (.int v3), some (.ref 161), none] [.int (nI 0), .ref 161] [.ref 75, .int v1, .int v2, .int v3] S Q) : zC m_L_act [.ref 75, .int v1, .int v2, .int v3, .ref 161] S Q := zF_W 12 (cs := []) (dy := []) hS h
set_option maxRecDepth 4000 in
theorem b_L_act_7 {x1 : Int32} {x2 : Int32} {x3 : Int32} {s0 : Int32} {s1 : Int32} {S : ZSt} {Q : ZOut → ZSt → Prop} (hS : zSh S) (h : (vp_in s1 1 ∧ Q (.inl (some (.int (nI 0)))) (zsL S 161 (s1.toNatClampNeg) (s0.toInt64)))) : zW 4 m_L_act 7 [some (.ref 75), some (.int x1), some (.int x2), some (.int x3), some (.ref 161), none] [.int s0, .int s1, .ref 161] S Q := zF_W 10 (cs := []) (dy := []) hS h
set_option maxRecDepth 4000 in
theorem b_L_act_10 {x1 : Int32} {x2 : Int32} {x3 : Int32} {S : ZSt} {Q : ZOut → ZSt → Prop} (hS : zSh S) (h : Q (.inl (some (.int (nI 1)))) S) : zW 4 m_L_act 10 [some (.ref 75), some (.int x1), some (.int x2), some (.int x3), some (.ref 161), none] [.float 0] S Q := zF_W 8 (cs := []) (dy := []) hS h
set_option maxRecDepth 4000 in
theorem b_L_act_13 {x1 : Int32} {x2 : Int32} {x3 : Int32} {S : ZSt} {Q : ZOut → ZSt → Prop} (hS : zSh S) (h : Q (.inl (some (.int (nI 2)))) S) : zW 4 m_L_act 13 [some (.ref 75), some (.int x1), some (.int x2), some (.int x3), some (.ref 161), none] [.float 0] S Q := zF_W 8 (cs := []) (dy := []) hS h
set_option maxRecDepth 4000 in
theorem b_L_act_16 {x1 : Int32} {x2 : Int32} {x3 : Int32} {S : ZSt} {Q : ZOut → ZSt → Prop} (hS : zSh S) (h : Q (.inl (some (.int (nI 3)))) S) : zW 4 m_L_act 16 [some (.ref 75), some (.int x1), some (.int x2), some (.int x3), some (.ref 161), none] [.float 0] S Q := zF_W 8 (cs := []) (dy := []) hS h
set_option maxRecDepth 4000 in
theorem b_L_judge {v1 : Int32} {S : ZSt} {Q : ZOut → ZSt → Prop} (hS : zSh S) (h : zcl 4 m_L_judge m_N_judge 4 4 [some (.ref 75), some (.int v1), some (.ref 161), none] [.int (nI 0), .ref 161] [.ref 75, .int v1] S Q) : zC m_L_judge [.ref 75, .int v1, .ref 161] S Q := zF_W 10 (cs := []) (dy := []) hS h
set_option maxRecDepth 4000 in
theorem b_L_judge_5 {x1 : Int32} {s0 : Int32} {s1 : Int32} {S : ZSt} {Q : ZOut → ZSt → Prop} (hS : zSh S) (h : (vp_in s1 1 ∧ Q (.inl (some (.int (nI 0)))) (zsL S 161 (s1.toNatClampNeg) (s0.toInt64)))) : zW 4 m_L_judge 5 [some (.ref 75), some (.int x1), some (.ref 161), none] [.int s0, .int s1, .ref 161] S Q := zF_W 10 (cs := []) (dy := []) hS h
set_option maxRecDepth 4000 in
theorem b_L_judge_8 {x1 : Int32} {S : ZSt} {Q : ZOut → ZSt → Prop} (hS : zSh S) (h : Q (.inl (some (.int (nI 1)))) S) : zW 4 m_L_judge 8 [some (.ref 75), some (.int x1), some (.ref 161), none] [.float 0] S Q := zF_W 8 (cs := []) (dy := []) hS h
set_option maxRecDepth 4000 in
theorem b_L_heap {v1 : Int32} {v2 : Int32} {S : ZSt} {Q : ZOut → ZSt → Prop} (hS : zSh S) (h : zcl 4 m_L_heap m_N_heap 5 5 [some (.ref 75), some (.int v1), some (.int v2), some (.ref 161), none] [.int (nI 0), .ref 161] [.ref 75, .int v1, .int v2] S Q) : zC m_L_heap [.ref 75, .int v1, .int v2, .ref 161] S Q := zF_W 11 (cs := []) (dy := []) hS h
set_option maxRecDepth 4000 in
theorem b_L_heap_6 {x1 : Int32} {x2 : Int32} {s0 : Int32} {s1 : Int32} {S : ZSt} {Q : ZOut → ZSt → Prop} (hS : zSh S) (h : (vp_in s1 1 ∧ Q (.inl (some (.int (nI 0)))) (zsL S 161 (s1.toNatClampNeg) (s0.toInt64)))) : zW 4 m_L_heap 6 [some (.ref 75), some (.int x1), some (.int x2), some (.ref 161), none] [.int s0, .int s1, .ref 161] S Q := zF_W 10 (cs := []) (dy := []) hS h
set_option maxRecDepth 4000 in
theorem b_L_heap_9 {x1 : Int32} {x2 : Int32} {S : ZSt} {Q : ZOut → ZSt → Prop} (hS : zSh S) (h : Q (.inl (some (.int (nI 1)))) S) : zW 4 m_L_heap 9 [some (.ref 75), some (.int x1), some (.int x2), some (.ref 161), none] [.float 0] S Q := zF_W 8 (cs := []) (dy := []) hS h
set_option maxRecDepth 4000 in
theorem b_L_place {v1 : Int32} {v2 : Int32} {S : ZSt} {Q : ZOut → ZSt → Prop} (hS : zSh S) (h : zcl 4 m_L_place m_N_place 5 5 [some (.ref 75), some (.int v1), some (.int v2), some (.ref 161), none] [.int (nI 0), .ref 161] [.ref 75, .int v1, .int v2] S Q) : zC m_L_place [.ref 75, .int v1, .int v2, .ref 161] S Q := zF_W 11 (cs := []) (dy := []) hS h
set_option maxRecDepth 4000 in
theorem b_L_place_6 {x1 : Int32} {x2 : Int32} {s0 : Int32} {s1 : Int32} {S : ZSt} {Q : ZOut → ZSt → Prop} (hS : zSh S) (h : (vp_in s1 1 ∧ Q (.inl (some (.int (nI 0)))) (zsL S 161 (s1.toNatClampNeg) (s0.toInt64)))) : zW 4 m_L_place 6 [some (.ref 75), some (.int x1), some (.int x2), some (.ref 161), none] [.int s0, .int s1, .ref 161] S Q := zF_W 10 (cs := []) (dy := []) hS h
set_option maxRecDepth 4000 in
theorem b_L_place_9 {x1 : Int32} {x2 : Int32} {S : ZSt} {Q : ZOut → ZSt → Prop} (hS : zSh S) (h : Q (.inl (some (.int (nI 1)))) S) : zW 4 m_L_place 9 [some (.ref 75), some (.int x1), some (.int x2), some (.ref 161), none] [.float 0] S Q := zF_W 8 (cs := []) (dy := []) hS h
set_option maxRecDepth 4000 in
theorem b_L_run {v1 : Int32} {v2 : Int32} {S : ZSt} {Q : ZOut → ZSt → Prop} (hS : zSh S) (h : zcl 6 m_L_run m_N_run 5 5 [some (.ref 75), some (.int v1), some (.int v2), some (.ref 161), none] [.int (nI 0), .ref 161] [.ref 75, .int v1, .int v2] S Q) : zC m_L_run [.ref 75, .int v1, .int v2, .ref 161] S Q := zF_W 11 (cs := []) (dy := []) hS h
set_option maxRecDepth 4000 in
theorem b_L_run_6 {x1 : Int32} {x2 : Int32} {s0 : Int32} {s1 : Int32} {S : ZSt} {Q : ZOut → ZSt → Prop} (hS : zSh S) (h : (vp_in s1 1 ∧ Q (.inl (some (.int (nI 0)))) (zsL S 161 (s1.toNatClampNeg) (s0.toInt64)))) : zW 6 m_L_run 6 [some (.ref 75), some (.int x1), some (.int x2), some (.ref 161), none] [.int s0, .int s1, .ref 161] S Q := zF_W 10 (cs := []) (dy := []) hS h
set_option maxRecDepth 4000 in
theorem b_L_run_9 {x1 : Int32} {x2 : Int32} {S : ZSt} {Q : ZOut → ZSt → Prop} (hS : zSh S) (h : Q (.inl (some (.int (nI 1)))) S) : zW 6 m_L_run 9 [some (.ref 75), some (.int x1), some (.int x2), some (.ref 161), none] [.float 0] S Q := zF_W 8 (cs := []) (dy := []) hS h
set_option maxRecDepth 4000 in
theorem b_L_run_12 {x1 : Int32} {x2 : Int32} {S : ZSt} {Q : ZOut → ZSt → Prop} (hS : zSh S) (h : Q (.inl (some (.int (nI 2)))) S) : zW 6 m_L_run 12 [some (.ref 75), some (.int x1), some (.int x2), some (.ref 161), none] [.float 0] S Q := zF_W 8 (cs := []) (dy := []) hS h
set_option maxRecDepth 4000 in
theorem b_L_run_15 {x1 : Int32} {x2 : Int32} {S : ZSt} {Q : ZOut → ZSt → Prop} (hS : zSh S) (h : Q (.inl (some (.int (nI 3)))) S) : zW 6 m_L_run 15 [some (.ref 75), some (.int x1), some (.int x2), some (.ref 161), none] [.float 0] S Q := zF_W 8 (cs := []) (dy := []) hS h
set_option maxRecDepth 4000 in
theorem b_L_ends {v1 : Int32} {S : ZSt} {Q : ZOut → ZSt → Prop} (hS : zSh S) (h : zcl 3 m_L_ends m_N_ends 4 4 [some (.ref 75), some (.int v1), some (.ref 161), none] [.int (nI 0), .ref 161] [.ref 75, .int v1] S Q) : zC m_L_ends [.ref 75, .int v1, .ref 161] S Q := zF_W 10 (cs := []) (dy := []) hS h
set_option maxRecDepth 4000 in
theorem b_L_ends_5 {x1 : Int32} {s0 : Int32} {s1 : Int32} {S : ZSt} {Q : ZOut → ZSt → Prop} (hS : zSh S) (h : (vp_in s1 1 ∧ Q (.inl (some (.int (nI 0)))) (zsL S 161 (s1.toNatClampNeg) (s0.toInt64)))) : zW 3 m_L_ends 5 [some (.ref 75), some (.int x1), some (.ref 161), none] [.int s0, .int s1, .ref 161] S Q := zF_W 10 (cs := []) (dy := []) hS h
set_option maxRecDepth 4000 in
theorem b_L_ends_8 {x1 : Int32} {S : ZSt} {Q : ZOut → ZSt → Prop} (hS : zSh S) (h : Q (.inl (some (.int (nI 1)))) S) : zW 3 m_L_ends 8 [some (.ref 75), some (.int x1), some (.ref 161), none] [.float 0] S Q := zF_W 8 (cs := []) (dy := []) hS h
set_option maxRecDepth 4000 in
theorem b_L_row {v1 : Int32} {S : ZSt} {Q : ZOut → ZSt → Prop} (hS : zSh S) (h : zcl 4 m_L_row m_N_row 4 4 [some (.ref 75), some (.int v1), some (.ref 161), none] [.int (nI 0), .ref 161] [.ref 75, .int v1] S Q) : zC m_L_row [.ref 75, .int v1, .ref 161] S Q := zF_W 10 (cs := []) (dy := []) hS h
set_option maxRecDepth 4000 in
theorem b_L_row_5 {x1 : Int32} {s0 : Int32} {s1 : Int32} {S : ZSt} {Q : ZOut → ZSt → Prop} (hS : zSh S) (h : (vp_in s1 1 ∧ Q (.inl (some (.int (nI 0)))) (zsL S 161 (s1.toNatClampNeg) (s0.toInt64)))) : zW 4 m_L_row 5 [some (.ref 75), some (.int x1), some (.ref 161), none] [.int s0, .int s1, .ref 161] S Q := zF_W 10 (cs := []) (dy := []) hS h
set_option maxRecDepth 4000 in
theorem b_L_row_8 {x1 : Int32} {S : ZSt} {Q : ZOut → ZSt → Prop} (hS : zSh S) (h : Q (.inl (some (.int (nI 1)))) S) : zW 4 m_L_row 8 [some (.ref 75), some (.int x1), some (.ref 161), none] [.float 0] S Q := zF_W 8 (cs := []) (dy := []) hS h
set_option maxRecDepth 4000 in
theorem b_L_left {v1 : Int32} {S : ZSt} {Q : ZOut → ZSt → Prop} (hS : zSh S) (h : zcl 4 m_L_left m_N_left 4 4 [some (.ref 75), some (.int v1), some (.ref 161), none] [.int (nI 0), .ref 161] [.ref 75, .int v1] S Q) : zC m_L_left [.ref 75, .int v1, .ref 161] S Q := zF_W 10 (cs := []) (dy := []) hS h
set_option maxRecDepth 4000 in
theorem b_L_left_5 {x1 : Int32} {s0 : Int32} {s1 : Int32} {S : ZSt} {Q : ZOut → ZSt → Prop} (hS : zSh S) (h : (vp_in s1 1 ∧ Q (.inl (some (.int (nI 0)))) (zsL S 161 (s1.toNatClampNeg) (s0.toInt64)))) : zW 4 m_L_left 5 [some (.ref 75), some (.int x1), some (.ref 161), none] [.int s0, .int s1, .ref 161] S Q := zF_W 10 (cs := []) (dy := []) hS h
set_option maxRecDepth 4000 in
theorem b_L_left_8 {x1 : Int32} {S : ZSt} {Q : ZOut → ZSt → Prop} (hS : zSh S) (h : Q (.inl (some (.int (nI 1)))) S) : zW 4 m_L_left 8 [some (.ref 75), some (.int x1), some (.ref 161), none] [.float 0] S Q := zF_W 8 (cs := []) (dy := []) hS h
set_option maxRecDepth 4000 in
theorem b_L_holds {v1 : Int32} {v2 : Int32} {S : ZSt} {Q : ZOut → ZSt → Prop} (hS : zSh S) (h : zcl 6 m_L_holds m_N_holds 5 5 [some (.ref 75), some (.int v1), some (.int v2), some (.ref 161), none] [.int (nI 0), .ref 161] [.ref 75, .int v1, .int v2] S Q) : zC m_L_holds [.ref 75, .int v1, .int v2, .ref 161] S Q := zF_W 11 (cs := []) (dy := []) hS h
set_option maxRecDepth 4000 in
theorem b_L_holds_6 {x1 : Int32} {x2 : Int32} {s0 : Int32} {s1 : Int32} {S : ZSt} {Q : ZOut → ZSt → Prop} (hS : zSh S) (h : ((s0 = 0 → (vp_in s1 1 ∧ Q (.inl (some (.int (nI 0)))) (zsL S 161 (s1.toNatClampNeg) (lN 0)))) ∧ (¬ (s0 = 0) → (vp_in s1 1 ∧ Q (.inl (some (.int (nI 0)))) (zsL S 161 (s1.toNatClampNeg) (lN 1)))))) : zW 6 m_L_holds 6 [some (.ref 75), some (.int x1), some (.int x2), some (.ref 161), none] [.int s0, .int s1, .ref 161] S Q := zF_W 17 (cs := []) (dy := []) hS h
set_option maxRecDepth 4000 in
theorem b_L_holds_12 {x1 : Int32} {x2 : Int32} {S : ZSt} {Q : ZOut → ZSt → Prop} (hS : zSh S) (h : Q (.inl (some (.int (nI 1)))) S) : zW 6 m_L_holds 12 [some (.ref 75), some (.int x1), some (.int x2), some (.ref 161), none] [.float 0] S Q := zF_W 8 (cs := []) (dy := []) hS h
set_option maxRecDepth 4000 in
theorem b_L_holds_15 {x1 : Int32} {x2 : Int32} {S : ZSt} {Q : ZOut → ZSt → Prop} (hS : zSh S) (h : Q (.inl (some (.int (nI 2)))) S) : zW 6 m_L_holds 15 [some (.ref 75), some (.int x1), some (.int x2), some (.ref 161), none] [.float 0] S Q := zF_W 8 (cs := []) (dy := []) hS h
set_option maxRecDepth 4000 in
theorem b_L_holds_18 {x1 : Int32} {x2 : Int32} {S : ZSt} {Q : ZOut → ZSt → Prop} (hS : zSh S) (h : Q (.inl (some (.int (nI 3)))) S) : zW 6 m_L_holds 18 [some (.ref 75), some (.int x1), some (.int x2), some (.ref 161), none] [.float 0] S Q := zF_W 8 (cs := []) (dy := []) hS h
set_option maxRecDepth 4000 in
theorem b_L_right {v1 : Int32} {v2 : Int32} {v3 : Int32} {v4 : Int32} {S : ZSt} {Q : ZOut → ZSt → Prop} (hS : zSh S) (h : zcl 7 m_L_right m_N_right 9 7 [some (.ref 75), some (.int v1), some (.int v2), some (.int v3), some (.int v4), some (.ref 161), none] [.int (nI 0), .ref 161] [.ref 75, .int v1, .int v2, .int v3, .int v4] S Q) : zC m_L_right [.ref 75, .int v1, .int v2, .int v3, .int v4, .ref 161] S Q := zF_W 13 (cs := []) (dy := []) hS h
set_option maxRecDepth 4000 in
theorem b_L_right_8 {x1 : Int32} {x2 : Int32} {x3 : Int32} {x4 : Int32} {s0 : Int32} {s1 : Int32} {S : ZSt} {Q : ZOut → ZSt → Prop} (hS : zSh S) (h : (vp_in s1 1 ∧ Q (.inl (some (.int (nI 0)))) (zsL S 161 (s1.toNatClampNeg) (s0.toInt64)))) : zW 7 m_L_right 8 [some (.ref 75), some (.int x1), some (.int x2), some (.int x3), some (.int x4), some (.ref 161), none] [.int s0, .int s1, .ref 161] S Q := zF_W 10 (cs := []) (dy := []) hS h
set_option maxRecDepth 4000 in
theorem b_L_right_11 {x1 : Int32} {x2 : Int32} {x3 : Int32} {x4 : Int32} {S : ZSt} {Q : ZOut → ZSt → Prop} (hS : zSh S) (h : Q (.inl (some (.int (nI 1)))) S) : zW 7 m_L_right 11 [some (.ref 75), some (.int x1), some (.int x2), some (.int x3), some (.int x4), some (.ref 161), none] [.float 0] S Q := zF_W 8 (cs := []) (dy := []) hS h
set_option maxRecDepth 4000 in
theorem b_L_right_14 {x1 : Int32} {x2 : Int32} {x3 : Int32} {x4 : Int32} {S : ZSt} {Q : ZOut → ZSt → Prop} (hS : zSh S) (h : Q (.inl (some (.int (nI 2)))) S) : zW 7 m_L_right 14 [some (.ref 75), some (.int x1), some (.int x2), some (.int x3), some (.int x4), some (.ref 161), none] [.float 0] S Q := zF_W 8 (cs := []) (dy := []) hS h
set_option maxRecDepth 4000 in
theorem b_L_right_17 {x1 : Int32} {x2 : Int32} {x3 : Int32} {x4 : Int32} {S : ZSt} {Q : ZOut → ZSt → Prop} (hS : zSh S) (h : Q (.inl (some (.int (nI 3)))) S) : zW 7 m_L_right 17 [some (.ref 75), some (.int x1), some (.int x2), some (.int x3), some (.int x4), some (.ref 161), none] [.float 0] S Q := zF_W 8 (cs := []) (dy := []) hS h
set_option maxRecDepth 4000 in
theorem b_L_right_20 {x1 : Int32} {x2 : Int32} {x3 : Int32} {x4 : Int32} {S : ZSt} {Q : ZOut → ZSt → Prop} (hS : zSh S) (h : Q (.inl (some (.int (nI 4)))) S) : zW 7 m_L_right 20 [some (.ref 75), some (.int x1), some (.int x2), some (.int x3), some (.int x4), some (.ref 161), none] [.float 0] S Q := zF_W 8 (cs := []) (dy := []) hS h
set_option maxRecDepth 4000 in
theorem b_L_least {v1 : Int32} {v2 : Int32} {v3 : Int32} {v4 : Int32} {S : ZSt} {Q : ZOut → ZSt → Prop} (hS : zSh S) (h : zcl 7 m_L_least m_N_least 9 7 [some (.ref 75), some (.int v1), some (.int v2), some (.int v3), some (.int v4), some (.ref 161), none] [.int (nI 0), .ref 161] [.ref 75, .int v1, .int v2, .int v3, .int v4] S Q) : zC m_L_least [.ref 75, .int v1, .int v2, .int v3, .int v4, .ref 161] S Q := zF_W 13 (cs := []) (dy := []) hS h
set_option maxRecDepth 4000 in
theorem b_L_least_8 {x1 : Int32} {x2 : Int32} {x3 : Int32} {x4 : Int32} {s0 : Int32} {s1 : Int32} {S : ZSt} {Q : ZOut → ZSt → Prop} (hS : zSh S) (h : (vp_in s1 1 ∧ Q (.inl (some (.int (nI 0)))) (zsL S 161 (s1.toNatClampNeg) (s0.toInt64)))) : zW 7 m_L_least 8 [some (.ref 75), some (.int x1), some (.int x2), some (.int x3), some (.int x4), some (.ref 161), none] [.int s0, .int s1, .ref 161] S Q := zF_W 10 (cs := []) (dy := []) hS h
set_option maxRecDepth 4000 in
theorem b_L_least_11 {x1 : Int32} {x2 : Int32} {x3 : Int32} {x4 : Int32} {S : ZSt} {Q : ZOut → ZSt → Prop} (hS : zSh S) (h : Q (.inl (some (.int (nI 1)))) S) : zW 7 m_L_least 11 [some (.ref 75), some (.int x1), some (.int x2), some (.int x3), some (.int x4), some (.ref 161), none] [.float 0] S Q := zF_W 8 (cs := []) (dy := []) hS h
set_option maxRecDepth 4000 in
theorem b_L_least_14 {x1 : Int32} {x2 : Int32} {x3 : Int32} {x4 : Int32} {S : ZSt} {Q : ZOut → ZSt → Prop} (hS : zSh S) (h : Q (.inl (some (.int (nI 2)))) S) : zW 7 m_L_least 14 [some (.ref 75), some (.int x1), some (.int x2), some (.int x3), some (.int x4), some (.ref 161), none] [.float 0] S Q := zF_W 8 (cs := []) (dy := []) hS h
set_option maxRecDepth 4000 in
theorem b_L_least_17 {x1 : Int32} {x2 : Int32} {x3 : Int32} {x4 : Int32} {S : ZSt} {Q : ZOut → ZSt → Prop} (hS : zSh S) (h : Q (.inl (some (.int (nI 3)))) S) : zW 7 m_L_least 17 [some (.ref 75), some (.int x1), some (.int x2), some (.int x3), some (.int x4), some (.ref 161), none] [.float 0] S Q := zF_W 8 (cs := []) (dy := []) hS h
set_option maxRecDepth 4000 in
theorem b_L_least_20 {x1 : Int32} {x2 : Int32} {x3 : Int32} {x4 : Int32} {S : ZSt} {Q : ZOut → ZSt → Prop} (hS : zSh S) (h : Q (.inl (some (.int (nI 4)))) S) : zW 7 m_L_least 20 [some (.ref 75), some (.int x1), some (.int x2), some (.int x3), some (.int x4), some (.ref 161), none] [.float 0] S Q := zF_W 8 (cs := []) (dy := []) hS h
set_option maxRecDepth 4000 in
theorem b_L_find {v1 : Int32} {v2 : Int32} {v3 : Int32} {v4 : Int32} {v5 : Int32} {v6 : Int32} {S : ZSt} {Q : ZOut → ZSt → Prop} (hS : zSh S) (h : zcl 8 m_L_find m_N_find 13 9 [some (.ref 75), some (.int v1), some (.int v2), some (.int v3), some (.int v4), some (.int v5), some (.int v6), some (.ref 161), none] [.int (nI 0), .ref 161] [.ref 75, .int v1, .int v2, .int v3, .int v4, .int v5, .int v6] S Q) : zC m_L_find [.ref 75, .int v1, .int v2, .int v3, .int v4, .int v5, .int v6, .ref 161] S Q := zF_W 15 (cs := []) (dy := []) hS h
set_option maxRecDepth 4000 in
theorem b_L_find_10 {x1 : Int32} {x2 : Int32} {x3 : Int32} {x4 : Int32} {x5 : Int32} {x6 : Int32} {s0 : Int32} {s1 : Int32} {S : ZSt} {Q : ZOut → ZSt → Prop} (hS : zSh S) (h : (vp_in s1 1 ∧ Q (.inl (some (.int (nI 0)))) (zsL S 161 (s1.toNatClampNeg) (s0.toInt64)))) : zW 8 m_L_find 10 [some (.ref 75), some (.int x1), some (.int x2), some (.int x3), some (.int x4), some (.int x5), some (.int x6), some (.ref 161), none] [.int s0, .int s1, .ref 161] S Q := zF_W 10 (cs := []) (dy := []) hS h
set_option maxRecDepth 4000 in
theorem b_L_find_13 {x1 : Int32} {x2 : Int32} {x3 : Int32} {x4 : Int32} {x5 : Int32} {x6 : Int32} {S : ZSt} {Q : ZOut → ZSt → Prop} (hS : zSh S) (h : Q (.inl (some (.int (nI 1)))) S) : zW 8 m_L_find 13 [some (.ref 75), some (.int x1), some (.int x2), some (.int x3), some (.int x4), some (.int x5), some (.int x6), some (.ref 161), none] [.float 0] S Q := zF_W 8 (cs := []) (dy := []) hS h
set_option maxRecDepth 4000 in
theorem b_L_find_16 {x1 : Int32} {x2 : Int32} {x3 : Int32} {x4 : Int32} {x5 : Int32} {x6 : Int32} {S : ZSt} {Q : ZOut → ZSt → Prop} (hS : zSh S) (h : Q (.inl (some (.int (nI 2)))) S) : zW 8 m_L_find 16 [some (.ref 75), some (.int x1), some (.int x2), some (.int x3), some (.int x4), some (.int x5), some (.int x6), some (.ref 161), none] [.float 0] S Q := zF_W 8 (cs := []) (dy := []) hS h
set_option maxRecDepth 4000 in
theorem b_L_keep {v1 : Int32} {v2 : Int32} {v3 : Int32} {v4 : Int32} {v5 : Int32} {S : ZSt} {Q : ZOut → ZSt → Prop} (hS : zSh S) (h : zcl 8 m_L_keep m_N_keep 11 8 [some (.ref 75), some (.int v1), some (.int v2), some (.int v3), some (.int v4), some (.int v5), some (.ref 161), none] [.int (nI 0), .ref 161] [.ref 75, .int v1, .int v2, .int v3, .int v4, .int v5] S Q) : zC m_L_keep [.ref 75, .int v1, .int v2, .int v3, .int v4, .int v5, .ref 161] S Q := zF_W 14 (cs := []) (dy := []) hS h
set_option maxRecDepth 4000 in
theorem b_L_keep_9 {x1 : Int32} {x2 : Int32} {x3 : Int32} {x4 : Int32} {x5 : Int32} {s0 : Int32} {s1 : Int32} {S : ZSt} {Q : ZOut → ZSt → Prop} (hS : zSh S) (h : (vp_in s1 1 ∧ Q (.inl (some (.int (nI 0)))) (zsL S 161 (s1.toNatClampNeg) (s0.toInt64)))) : zW 8 m_L_keep 9 [some (.ref 75), some (.int x1), some (.int x2), some (.int x3), some (.int x4), some (.int x5), some (.ref 161), none] [.int s0, .int s1, .ref 161] S Q := zF_W 10 (cs := []) (dy := []) hS h
set_option maxRecDepth 4000 in
theorem b_L_keep_12 {x1 : Int32} {x2 : Int32} {x3 : Int32} {x4 : Int32} {x5 : Int32} {S : ZSt} {Q : ZOut → ZSt → Prop} (hS : zSh S) (h : Q (.inl (some (.int (nI 1)))) S) : zW 8 m_L_keep 12 [some (.ref 75), some (.int x1), some (.int x2), some (.int x3), some (.int x4), some (.int x5), some (.ref 161), none] [.float 0] S Q := zF_W 8 (cs := []) (dy := []) hS h
set_option maxRecDepth 4000 in
theorem b_L_keep_15 {x1 : Int32} {x2 : Int32} {x3 : Int32} {x4 : Int32} {x5 : Int32} {S : ZSt} {Q : ZOut → ZSt → Prop} (hS : zSh S) (h : Q (.inl (some (.int (nI 2)))) S) : zW 8 m_L_keep 15 [some (.ref 75), some (.int x1), some (.int x2), some (.int x3), some (.int x4), some (.int x5), some (.ref 161), none] [.float 0] S Q := zF_W 8 (cs := []) (dy := []) hS h
set_option maxRecDepth 4000 in
theorem b_L_can {v1 : Int32} {v2 : Int32} {v3 : Int32} {S : ZSt} {Q : ZOut → ZSt → Prop} (hS : zSh S) (h : zcl 8 m_L_can m_N_can 7 6 [some (.ref 75), some (.int v1), some (.int v2), some (.int v3), some (.ref 161), none] [.int (nI 0), .ref 161] [.ref 75, .int v1, .int v2, .int v3] S Q) : zC m_L_can [.ref 75, .int v1, .int v2, .int v3, .ref 161] S Q := zF_W 12 (cs := []) (dy := []) hS h
set_option maxRecDepth 4000 in
theorem b_L_can_7 {x1 : Int32} {x2 : Int32} {x3 : Int32} {s0 : Int32} {s1 : Int32} {S : ZSt} {Q : ZOut → ZSt → Prop} (hS : zSh S) (h : ((s0 = 0 → (vp_in s1 1 ∧ Q (.inl (some (.int (nI 0)))) (zsL S 161 (s1.toNatClampNeg) (lN 0)))) ∧ (¬ (s0 = 0) → (vp_in s1 1 ∧ Q (.inl (some (.int (nI 0)))) (zsL S 161 (s1.toNatClampNeg) (lN 1)))))) : zW 8 m_L_can 7 [some (.ref 75), some (.int x1), some (.int x2), some (.int x3), some (.ref 161), none] [.int s0, .int s1, .ref 161] S Q := zF_W 17 (cs := []) (dy := []) hS h
set_option maxRecDepth 4000 in
theorem b_L_can_13 {x1 : Int32} {x2 : Int32} {x3 : Int32} {S : ZSt} {Q : ZOut → ZSt → Prop} (hS : zSh S) (h : Q (.inl (some (.int (nI 1)))) S) : zW 8 m_L_can 13 [some (.ref 75), some (.int x1), some (.int x2), some (.int x3), some (.ref 161), none] [.float 0] S Q := zF_W 8 (cs := []) (dy := []) hS h
set_option maxRecDepth 4000 in
theorem b_L_why {v1 : Int32} {v2 : Int32} {S : ZSt} {Q : ZOut → ZSt → Prop} (hS : zSh S) (h : zcl 8 m_L_why m_N_why 5 5 [some (.ref 75), some (.int v1), some (.int v2), some (.ref 161), none] [.int (nI 0), .ref 161] [.ref 75, .int v1, .int v2] S Q) : zC m_L_why [.ref 75, .int v1, .int v2, .ref 161] S Q := zF_W 11 (cs := []) (dy := []) hS h
set_option maxRecDepth 4000 in
theorem b_L_why_6 {x1 : Int32} {x2 : Int32} {s0 : Int32} {s1 : Int32} {S : ZSt} {Q : ZOut → ZSt → Prop} (hS : zSh S) (h : (vp_in s1 1 ∧ Q (.inl (some (.int (nI 0)))) (zsL S 161 (s1.toNatClampNeg) (s0.toInt64)))) : zW 8 m_L_why 6 [some (.ref 75), some (.int x1), some (.int x2), some (.ref 161), none] [.int s0, .int s1, .ref 161] S Q := zF_W 10 (cs := []) (dy := []) hS h
set_option maxRecDepth 4000 in
theorem b_L_why_9 {x1 : Int32} {x2 : Int32} {S : ZSt} {Q : ZOut → ZSt → Prop} (hS : zSh S) (h : Q (.inl (some (.int (nI 1)))) S) : zW 8 m_L_why 9 [some (.ref 75), some (.int x1), some (.int x2), some (.ref 161), none] [.float 0] S Q := zF_W 8 (cs := []) (dy := []) hS h
set_option maxRecDepth 4000 in
theorem b_L_cheat {v1 : Int32} {v2 : Int32} {v3 : Int32} {v4 : Int32} {S : ZSt} {Q : ZOut → ZSt → Prop} (hS : zSh S) (h : zcl 8 m_L_cheat m_N_cheat 9 7 [some (.ref 75), some (.int v1), some (.int v2), some (.int v3), some (.int v4), some (.ref 161), none] [.int (nI 0), .ref 161] [.ref 75, .int v1, .int v2, .int v3, .int v4] S Q) : zC m_L_cheat [.ref 75, .int v1, .int v2, .int v3, .int v4, .ref 161] S Q := zF_W 13 (cs := []) (dy := []) hS h
set_option maxRecDepth 4000 in
theorem b_L_cheat_8 {x1 : Int32} {x2 : Int32} {x3 : Int32} {x4 : Int32} {s0 : Int32} {s1 : Int32} {S : ZSt} {Q : ZOut → ZSt → Prop} (hS : zSh S) (h : ((s0 = 0 → (vp_in s1 1 ∧ Q (.inl (some (.int (nI 0)))) (zsL S 161 (s1.toNatClampNeg) (lN 0)))) ∧ (¬ (s0 = 0) → (vp_in s1 1 ∧ Q (.inl (some (.int (nI 0)))) (zsL S 161 (s1.toNatClampNeg) (lN 1)))))) : zW 8 m_L_cheat 8 [some (.ref 75), some (.int x1), some (.int x2), some (.int x3), some (.int x4), some (.ref 161), none] [.int s0, .int s1, .ref 161] S Q := zF_W 17 (cs := []) (dy := []) hS h
set_option maxRecDepth 4000 in
theorem b_L_cheat_14 {x1 : Int32} {x2 : Int32} {x3 : Int32} {x4 : Int32} {S : ZSt} {Q : ZOut → ZSt → Prop} (hS : zSh S) (h : Q (.inl (some (.int (nI 1)))) S) : zW 8 m_L_cheat 14 [some (.ref 75), some (.int x1), some (.int x2), some (.int x3), some (.int x4), some (.ref 161), none] [.float 0] S Q := zF_W 8 (cs := []) (dy := []) hS h
set_option maxRecDepth 4000 in
theorem b_L_cheat_17 {x1 : Int32} {x2 : Int32} {x3 : Int32} {x4 : Int32} {S : ZSt} {Q : ZOut → ZSt → Prop} (hS : zSh S) (h : Q (.inl (some (.int (nI 2)))) S) : zW 8 m_L_cheat 17 [some (.ref 75), some (.int x1), some (.int x2), some (.int x3), some (.int x4), some (.ref 161), none] [.float 0] S Q := zF_W 8 (cs := []) (dy := []) hS h
set_option maxRecDepth 4000 in
theorem b_L_cheat_20 {x1 : Int32} {x2 : Int32} {x3 : Int32} {x4 : Int32} {S : ZSt} {Q : ZOut → ZSt → Prop} (hS : zSh S) (h : Q (.inl (some (.int (nI 3)))) S) : zW 8 m_L_cheat 20 [some (.ref 75), some (.int x1), some (.int x2), some (.int x3), some (.int x4), some (.ref 161), none] [.float 0] S Q := zF_W 8 (cs := []) (dy := []) hS h
set_option maxRecDepth 4000 in
theorem b_L_cheat_23 {x1 : Int32} {x2 : Int32} {x3 : Int32} {x4 : Int32} {S : ZSt} {Q : ZOut → ZSt → Prop} (hS : zSh S) (h : Q (.inl (some (.int (nI 4)))) S) : zW 8 m_L_cheat 23 [some (.ref 75), some (.int x1), some (.int x2), some (.int x3), some (.int x4), some (.ref 161), none] [.float 0] S Q := zF_W 8 (cs := []) (dy := []) hS h
set_option maxRecDepth 4000 in
theorem b_L_soon {v1 : Int32} {v2 : Int32} {v3 : Int32} {S : ZSt} {Q : ZOut → ZSt → Prop} (hS : zSh S) (h : zcl 7 m_L_soon m_N_soon 7 6 [some (.ref 75), some (.int v1), some (.int v2), some (.int v3), some (.ref 161), none] [.int (nI 0), .ref 161] [.ref 75, .int v1, .int v2, .int v3] S Q) : zC m_L_soon [.ref 75, .int v1, .int v2, .int v3, .ref 161] S Q := zF_W 12 (cs := []) (dy := []) hS h
set_option maxRecDepth 4000 in
theorem b_L_soon_7 {x1 : Int32} {x2 : Int32} {x3 : Int32} {s0 : Int32} {s1 : Int32} {S : ZSt} {Q : ZOut → ZSt → Prop} (hS : zSh S) (h : (vp_in s1 1 ∧ Q (.inl (some (.int (nI 0)))) (zsL S 161 (s1.toNatClampNeg) (s0.toInt64)))) : zW 7 m_L_soon 7 [some (.ref 75), some (.int x1), some (.int x2), some (.int x3), some (.ref 161), none] [.int s0, .int s1, .ref 161] S Q := zF_W 10 (cs := []) (dy := []) hS h
set_option maxRecDepth 4000 in
theorem b_L_soon_10 {x1 : Int32} {x2 : Int32} {x3 : Int32} {S : ZSt} {Q : ZOut → ZSt → Prop} (hS : zSh S) (h : Q (.inl (some (.int (nI 1)))) S) : zW 7 m_L_soon 10 [some (.ref 75), some (.int x1), some (.int x2), some (.int x3), some (.ref 161), none] [.float 0] S Q := zF_W 8 (cs := []) (dy := []) hS h
set_option maxRecDepth 4000 in
theorem b_L_soon_13 {x1 : Int32} {x2 : Int32} {x3 : Int32} {S : ZSt} {Q : ZOut → ZSt → Prop} (hS : zSh S) (h : Q (.inl (some (.int (nI 2)))) S) : zW 7 m_L_soon 13 [some (.ref 75), some (.int x1), some (.int x2), some (.int x3), some (.ref 161), none] [.float 0] S Q := zF_W 8 (cs := []) (dy := []) hS h
set_option maxRecDepth 4000 in
theorem b_L_soon_16 {x1 : Int32} {x2 : Int32} {x3 : Int32} {S : ZSt} {Q : ZOut → ZSt → Prop} (hS : zSh S) (h : Q (.inl (some (.int (nI 3)))) S) : zW 7 m_L_soon 16 [some (.ref 75), some (.int x1), some (.int x2), some (.int x3), some (.ref 161), none] [.float 0] S Q := zF_W 8 (cs := []) (dy := []) hS h
set_option maxRecDepth 4000 in
theorem b_L_hidden {v1 : Int32} {v2 : Int32} {v3 : Int32} {S : ZSt} {Q : ZOut → ZSt → Prop} (hS : zSh S) (h : zcl 8 m_L_hidden m_N_hidden 7 6 [some (.ref 75), some (.int v1), some (.int v2), some (.int v3), some (.ref 161), none] [.int (nI 0), .ref 161] [.ref 75, .int v1, .int v2, .int v3] S Q) : zC m_L_hidden [.ref 75, .int v1, .int v2, .int v3, .ref 161] S Q := zF_W 12 (cs := []) (dy := []) hS h
set_option maxRecDepth 4000 in
theorem b_L_hidden_7 {x1 : Int32} {x2 : Int32} {x3 : Int32} {s0 : Int32} {s1 : Int32} {S : ZSt} {Q : ZOut → ZSt → Prop} (hS : zSh S) (h : (vp_in s1 1 ∧ Q (.inl (some (.int (nI 0)))) (zsL S 161 (s1.toNatClampNeg) (s0.toInt64)))) : zW 8 m_L_hidden 7 [some (.ref 75), some (.int x1), some (.int x2), some (.int x3), some (.ref 161), none] [.int s0, .int s1, .ref 161] S Q := zF_W 10 (cs := []) (dy := []) hS h
set_option maxRecDepth 4000 in
theorem b_L_hidden_10 {x1 : Int32} {x2 : Int32} {x3 : Int32} {S : ZSt} {Q : ZOut → ZSt → Prop} (hS : zSh S) (h : Q (.inl (some (.int (nI 1)))) S) : zW 8 m_L_hidden 10 [some (.ref 75), some (.int x1), some (.int x2), some (.int x3), some (.ref 161), none] [.float 0] S Q := zF_W 8 (cs := []) (dy := []) hS h
set_option maxRecDepth 4000 in
theorem b_L_hidden_13 {x1 : Int32} {x2 : Int32} {x3 : Int32} {S : ZSt} {Q : ZOut → ZSt → Prop} (hS : zSh S) (h : Q (.inl (some (.int (nI 2)))) S) : zW 8 m_L_hidden 13 [some (.ref 75), some (.int x1), some (.int x2), some (.int x3), some (.ref 161), none] [.float 0] S Q := zF_W 8 (cs := []) (dy := []) hS h
set_option maxRecDepth 4000 in
theorem b_L_hidden_16 {x1 : Int32} {x2 : Int32} {x3 : Int32} {S : ZSt} {Q : ZOut → ZSt → Prop} (hS : zSh S) (h : Q (.inl (some (.int (nI 3)))) S) : zW 8 m_L_hidden 16 [some (.ref 75), some (.int x1), some (.int x2), some (.int x3), some (.ref 161), none] [.float 0] S Q := zF_W 8 (cs := []) (dy := []) hS h
set_option maxRecDepth 4000 in
theorem b_L_hidden_19 {x1 : Int32} {x2 : Int32} {x3 : Int32} {S : ZSt} {Q : ZOut → ZSt → Prop} (hS : zSh S) (h : Q (.inl (some (.int (nI 4)))) S) : zW 8 m_L_hidden 19 [some (.ref 75), some (.int x1), some (.int x2), some (.int x3), some (.ref 161), none] [.float 0] S Q := zF_W 8 (cs := []) (dy := []) hS h
set_option maxRecDepth 4000 in
theorem b_L_places {v1 : Int32} {S : ZSt} {Q : ZOut → ZSt → Prop} (hS : zSh S) (h : zcl 3 m_L_places m_N_places 4 4 [some (.ref 75), some (.int v1), some (.ref 161), none] [.int (nI 0), .ref 161] [.ref 75, .int v1] S Q) : zC m_L_places [.ref 75, .int v1, .ref 161] S Q := zF_W 10 (cs := []) (dy := []) hS h
set_option maxRecDepth 4000 in
theorem b_L_places_5 {x1 : Int32} {s0 : Int32} {s1 : Int32} {S : ZSt} {Q : ZOut → ZSt → Prop} (hS : zSh S) (h : (vp_in s1 1 ∧ Q (.inl (some (.int (nI 0)))) (zsL S 161 (s1.toNatClampNeg) (s0.toInt64)))) : zW 3 m_L_places 5 [some (.ref 75), some (.int x1), some (.ref 161), none] [.int s0, .int s1, .ref 161] S Q := zF_W 10 (cs := []) (dy := []) hS h
set_option maxRecDepth 4000 in
theorem b_L_places_8 {x1 : Int32} {S : ZSt} {Q : ZOut → ZSt → Prop} (hS : zSh S) (h : Q (.inl (some (.int (nI 1)))) S) : zW 3 m_L_places 8 [some (.ref 75), some (.int x1), some (.ref 161), none] [.float 0] S Q := zF_W 8 (cs := []) (dy := []) hS h
set_option maxRecDepth 4000 in
theorem b_L_pebbles {v1 : Int32} {S : ZSt} {Q : ZOut → ZSt → Prop} (hS : zSh S) (h : zcl 3 m_L_pebbles m_N_pebbles 4 4 [some (.ref 75), some (.int v1), some (.ref 161), none] [.int (nI 0), .ref 161] [.ref 75, .int v1] S Q) : zC m_L_pebbles [.ref 75, .int v1, .ref 161] S Q := zF_W 10 (cs := []) (dy := []) hS h
set_option maxRecDepth 4000 in
theorem b_L_pebbles_5 {x1 : Int32} {s0 : Int32} {s1 : Int32} {S : ZSt} {Q : ZOut → ZSt → Prop} (hS : zSh S) (h : (vp_in s1 1 ∧ Q (.inl (some (.int (nI 0)))) (zsL S 161 (s1.toNatClampNeg) (s0.toInt64)))) : zW 3 m_L_pebbles 5 [some (.ref 75), some (.int x1), some (.ref 161), none] [.int s0, .int s1, .ref 161] S Q := zF_W 10 (cs := []) (dy := []) hS h
set_option maxRecDepth 4000 in
theorem b_L_pebbles_8 {x1 : Int32} {S : ZSt} {Q : ZOut → ZSt → Prop} (hS : zSh S) (h : Q (.inl (some (.int (nI 1)))) S) : zW 3 m_L_pebbles 8 [some (.ref 75), some (.int x1), some (.ref 161), none] [.float 0] S Q := zF_W 8 (cs := []) (dy := []) hS h
set_option maxRecDepth 4000 in
theorem b_L_fewest {v1 : Int32} {S : ZSt} {Q : ZOut → ZSt → Prop} (hS : zSh S) (h : zcl 4 m_L_fewest m_N_fewest 4 4 [some (.ref 75), some (.int v1), some (.ref 161), none] [.int (nI 0), .ref 161] [.ref 75, .int v1] S Q) : zC m_L_fewest [.ref 75, .int v1, .ref 161] S Q := zF_W 10 (cs := []) (dy := []) hS h
set_option maxRecDepth 4000 in
theorem b_L_fewest_5 {x1 : Int32} {s0 : Int32} {s1 : Int32} {S : ZSt} {Q : ZOut → ZSt → Prop} (hS : zSh S) (h : (vp_in s1 1 ∧ Q (.inl (some (.int (nI 0)))) (zsL S 161 (s1.toNatClampNeg) (s0.toInt64)))) : zW 4 m_L_fewest 5 [some (.ref 75), some (.int x1), some (.ref 161), none] [.int s0, .int s1, .ref 161] S Q := zF_W 10 (cs := []) (dy := []) hS h
set_option maxRecDepth 4000 in
theorem b_L_fewest_8 {x1 : Int32} {S : ZSt} {Q : ZOut → ZSt → Prop} (hS : zSh S) (h : Q (.inl (some (.int (nI 1)))) S) : zW 4 m_L_fewest 8 [some (.ref 75), some (.int x1), some (.ref 161), none] [.float 0] S Q := zF_W 8 (cs := []) (dy := []) hS h
set_option maxRecDepth 4000 in
theorem b_L_tell {v1 : Int32} {v2 : Int32} {S : ZSt} {Q : ZOut → ZSt → Prop} (hS : zSh S) (h : zcl 3 m_L_tell m_N_tell 5 5 [some (.ref 75), some (.int v1), some (.int v2), some (.ref 161), none] [.int (nI 0), .ref 161] [.ref 75, .int v1, .int v2] S Q) : zC m_L_tell [.ref 75, .int v1, .int v2, .ref 161] S Q := zF_W 11 (cs := []) (dy := []) hS h
set_option maxRecDepth 4000 in
theorem b_L_tell_6 {x1 : Int32} {x2 : Int32} {s0 : Int32} {s1 : Int32} {S : ZSt} {Q : ZOut → ZSt → Prop} (hS : zSh S) (h : (vp_in s1 1 ∧ Q (.inl (some (.int (nI 0)))) (zsL S 161 (s1.toNatClampNeg) (s0.toInt64)))) : zW 3 m_L_tell 6 [some (.ref 75), some (.int x1), some (.int x2), some (.ref 161), none] [.int s0, .int s1, .ref 161] S Q := zF_W 10 (cs := []) (dy := []) hS h
set_option maxRecDepth 4000 in
theorem b_L_tell_9 {x1 : Int32} {x2 : Int32} {S : ZSt} {Q : ZOut → ZSt → Prop} (hS : zSh S) (h : Q (.inl (some (.int (nI 1)))) S) : zW 3 m_L_tell 9 [some (.ref 75), some (.int x1), some (.int x2), some (.ref 161), none] [.float 0] S Q := zF_W 8 (cs := []) (dy := []) hS h
set_option maxRecDepth 4000 in
theorem b_L_word {v1 : Int32} {v2 : Int32} {S : ZSt} {Q : ZOut → ZSt → Prop} (hS : zSh S) (h : zcl 3 m_L_word m_N_word 5 5 [some (.ref 75), some (.int v1), some (.int v2), some (.ref 161), none] [.int (nI 0), .ref 161] [.ref 75, .int v1, .int v2] S Q) : zC m_L_word [.ref 75, .int v1, .int v2, .ref 161] S Q := zF_W 11 (cs := []) (dy := []) hS h
set_option maxRecDepth 4000 in
theorem b_L_word_6 {x1 : Int32} {x2 : Int32} {s0 : Int32} {s1 : Int32} {S : ZSt} {Q : ZOut → ZSt → Prop} (hS : zSh S) (h : (vp_in s1 1 ∧ Q (.inl (some (.int (nI 0)))) (zsL S 161 (s1.toNatClampNeg) (s0.toInt64)))) : zW 3 m_L_word 6 [some (.ref 75), some (.int x1), some (.int x2), some (.ref 161), none] [.int s0, .int s1, .ref 161] S Q := zF_W 10 (cs := []) (dy := []) hS h
set_option maxRecDepth 4000 in
theorem b_L_word_9 {x1 : Int32} {x2 : Int32} {S : ZSt} {Q : ZOut → ZSt → Prop} (hS : zSh S) (h : Q (.inl (some (.int (nI 1)))) S) : zW 3 m_L_word 9 [some (.ref 75), some (.int x1), some (.int x2), some (.ref 161), none] [.float 0] S Q := zF_W 8 (cs := []) (dy := []) hS h
set_option maxRecDepth 4000 in
theorem b_L_stranger {v1 : Int32} {v2 : Int32} {v3 : Int32} {v4 : Int32} {S : ZSt} {Q : ZOut → ZSt → Prop} (hS : zSh S) (h : zcl 3 m_L_stranger m_N_stranger 9 7 [some (.ref 75), some (.int v1), some (.int v2), some (.int v3), some (.int v4), some (.ref 161), none] [.int (nI 0), .ref 161] [.ref 75, .int v1, .int v2, .int v3, .int v4] S Q) : zC m_L_stranger [.ref 75, .int v1, .int v2, .int v3, .int v4, .ref 161] S Q := zF_W 13 (cs := []) (dy := []) hS h
set_option maxRecDepth 4000 in
theorem b_L_stranger_8 {x1 : Int32} {x2 : Int32} {x3 : Int32} {x4 : Int32} {s0 : Int32} {s1 : Int32} {S : ZSt} {Q : ZOut → ZSt → Prop} (hS : zSh S) (h : (vp_in s1 1 ∧ Q (.inl (some (.int (nI 0)))) (zsL S 161 (s1.toNatClampNeg) (s0.toInt64)))) : zW 3 m_L_stranger 8 [some (.ref 75), some (.int x1), some (.int x2), some (.int x3), some (.int x4), some (.ref 161), none] [.int s0, .int s1, .ref 161] S Q := zF_W 10 (cs := []) (dy := []) hS h
set_option maxRecDepth 4000 in
theorem b_L_stranger_11 {x1 : Int32} {x2 : Int32} {x3 : Int32} {x4 : Int32} {S : ZSt} {Q : ZOut → ZSt → Prop} (hS : zSh S) (h : Q (.inl (some (.int (nI 1)))) S) : zW 3 m_L_stranger 11 [some (.ref 75), some (.int x1), some (.int x2), some (.int x3), some (.int x4), some (.ref 161), none] [.float 0] S Q := zF_W 8 (cs := []) (dy := []) hS h
set_option maxRecDepth 4000 in
theorem b_L_field {v1 : Int32} {v2 : Int32} {v3 : Int32} {S : ZSt} {Q : ZOut → ZSt → Prop} (hS : zSh S) (h : zcl 3 m_L_field m_N_field 7 6 [some (.ref 75), some (.int v1), some (.int v2), some (.int v3), some (.ref 161), none] [.int (nI 0), .ref 161] [.ref 75, .int v1, .int v2, .int v3] S Q) : zC m_L_field [.ref 75, .int v1, .int v2, .int v3, .ref 161] S Q := zF_W 12 (cs := []) (dy := []) hS h
set_option maxRecDepth 4000 in
theorem b_L_field_7 {x1 : Int32} {x2 : Int32} {x3 : Int32} {s0 : Int32} {s1 : Int32} {S : ZSt} {Q : ZOut → ZSt → Prop} (hS : zSh S) (h : (vp_in s1 1 ∧ Q (.inl (some (.int (nI 0)))) (zsL S 161 (s1.toNatClampNeg) (s0.toInt64)))) : zW 3 m_L_field 7 [some (.ref 75), some (.int x1), some (.int x2), some (.int x3), some (.ref 161), none] [.int s0, .int s1, .ref 161] S Q := zF_W 10 (cs := []) (dy := []) hS h
set_option maxRecDepth 4000 in
theorem b_L_field_10 {x1 : Int32} {x2 : Int32} {x3 : Int32} {S : ZSt} {Q : ZOut → ZSt → Prop} (hS : zSh S) (h : Q (.inl (some (.int (nI 1)))) S) : zW 3 m_L_field 10 [some (.ref 75), some (.int x1), some (.int x2), some (.int x3), some (.ref 161), none] [.float 0] S Q := zF_W 8 (cs := []) (dy := []) hS h
set_option maxRecDepth 4000 in
theorem b_L_share {v1 : Int32} {v2 : Int32} {v3 : Int32} {S : ZSt} {Q : ZOut → ZSt → Prop} (hS : zSh S) (h : zcl 5 m_L_share m_N_share 7 6 [some (.ref 75), some (.int v1), some (.int v2), some (.int v3), some (.ref 161), none] [.int (nI 0), .ref 161] [.ref 75, .int v1, .int v2, .int v3] S Q) : zC m_L_share [.ref 75, .int v1, .int v2, .int v3, .ref 161] S Q := zF_W 12 (cs := []) (dy := []) hS h
set_option maxRecDepth 4000 in
theorem b_L_share_7 {x1 : Int32} {x2 : Int32} {x3 : Int32} {s0 : Int32} {s1 : Int32} {S : ZSt} {Q : ZOut → ZSt → Prop} (hS : zSh S) (h : (vp_in s1 1 ∧ Q (.inl (some (.int (nI 0)))) (zsL S 161 (s1.toNatClampNeg) (s0.toInt64)))) : zW 5 m_L_share 7 [some (.ref 75), some (.int x1), some (.int x2), some (.int x3), some (.ref 161), none] [.int s0, .int s1, .ref 161] S Q := zF_W 10 (cs := []) (dy := []) hS h
set_option maxRecDepth 4000 in
theorem b_L_share_10 {x1 : Int32} {x2 : Int32} {x3 : Int32} {S : ZSt} {Q : ZOut → ZSt → Prop} (hS : zSh S) (h : Q (.inl (some (.int (nI 1)))) S) : zW 5 m_L_share 10 [some (.ref 75), some (.int x1), some (.int x2), some (.int x3), some (.ref 161), none] [.float 0] S Q := zF_W 8 (cs := []) (dy := []) hS h
set_option maxRecDepth 4000 in
theorem b_L_even {v1 : Int32} {v2 : Int32} {S : ZSt} {Q : ZOut → ZSt → Prop} (hS : zSh S) (h : zcl 5 m_L_even m_N_even 5 5 [some (.ref 75), some (.int v1), some (.int v2), some (.ref 161), none] [.int (nI 0), .ref 161] [.ref 75, .int v1, .int v2] S Q) : zC m_L_even [.ref 75, .int v1, .int v2, .ref 161] S Q := zF_W 11 (cs := []) (dy := []) hS h
set_option maxRecDepth 4000 in
theorem b_L_even_6 {x1 : Int32} {x2 : Int32} {s0 : Int32} {s1 : Int32} {S : ZSt} {Q : ZOut → ZSt → Prop} (hS : zSh S) (h : (vp_in s1 1 ∧ Q (.inl (some (.int (nI 0)))) (zsL S 161 (s1.toNatClampNeg) (s0.toInt64)))) : zW 5 m_L_even 6 [some (.ref 75), some (.int x1), some (.int x2), some (.ref 161), none] [.int s0, .int s1, .ref 161] S Q := zF_W 10 (cs := []) (dy := []) hS h
set_option maxRecDepth 4000 in
theorem b_L_even_9 {x1 : Int32} {x2 : Int32} {S : ZSt} {Q : ZOut → ZSt → Prop} (hS : zSh S) (h : Q (.inl (some (.int (nI 1)))) S) : zW 5 m_L_even 9 [some (.ref 75), some (.int x1), some (.int x2), some (.ref 161), none] [.float 0] S Q := zF_W 8 (cs := []) (dy := []) hS h
set_option maxRecDepth 4000 in
theorem b_L_envy {v1 : Int32} {v2 : Int32} {v3 : Int32} {S : ZSt} {Q : ZOut → ZSt → Prop} (hS : zSh S) (h : zcl 4 m_L_envy m_N_envy 7 6 [some (.ref 75), some (.int v1), some (.int v2), some (.int v3), some (.ref 161), none] [.int (nI 0), .ref 161] [.ref 75, .int v1, .int v2, .int v3] S Q) : zC m_L_envy [.ref 75, .int v1, .int v2, .int v3, .ref 161] S Q := zF_W 12 (cs := []) (dy := []) hS h
set_option maxRecDepth 4000 in
theorem b_L_envy_7 {x1 : Int32} {x2 : Int32} {x3 : Int32} {s0 : Int32} {s1 : Int32} {S : ZSt} {Q : ZOut → ZSt → Prop} (hS : zSh S) (h : (vp_in s1 1 ∧ Q (.inl (some (.int (nI 0)))) (zsL S 161 (s1.toNatClampNeg) (s0.toInt64)))) : zW 4 m_L_envy 7 [some (.ref 75), some (.int x1), some (.int x2), some (.int x3), some (.ref 161), none] [.int s0, .int s1, .ref 161] S Q := zF_W 10 (cs := []) (dy := []) hS h
set_option maxRecDepth 4000 in
theorem b_L_envy_10 {x1 : Int32} {x2 : Int32} {x3 : Int32} {S : ZSt} {Q : ZOut → ZSt → Prop} (hS : zSh S) (h : Q (.inl (some (.int (nI 1)))) S) : zW 4 m_L_envy 10 [some (.ref 75), some (.int x1), some (.int x2), some (.int x3), some (.ref 161), none] [.float 0] S Q := zF_W 8 (cs := []) (dy := []) hS h
set_option maxRecDepth 4000 in
theorem b_L_mind {v1 : Int64} {v2 : Int32} {v3 : Int32} {S : ZSt} {Q : ZOut → ZSt → Prop} (hS : zSh S) (h : zcl 4 m_L_mind m_N_mind 8 6 [some (.ref 75), some (.long v1), none, some (.int v2), some (.int v3), some (.ref 161), none] [.int (nI 0), .ref 161] [.ref 75, .long v1, .int v2, .int v3] S Q) : zC m_L_mind [.ref 75, .long v1, .int v2, .int v3, .ref 161] S Q := zF_W 12 (cs := []) (dy := []) hS h
set_option maxRecDepth 4000 in
theorem b_L_mind_7 {x1 : Int64} {x3 : Int32} {x4 : Int32} {s0 : Int32} {s1 : Int32} {S : ZSt} {Q : ZOut → ZSt → Prop} (hS : zSh S) (h : (vp_in s1 1 ∧ Q (.inl (some (.int (nI 0)))) (zsL S 161 (s1.toNatClampNeg) (s0.toInt64)))) : zW 4 m_L_mind 7 [some (.ref 75), some (.long x1), none, some (.int x3), some (.int x4), some (.ref 161), none] [.int s0, .int s1, .ref 161] S Q := zF_W 10 (cs := []) (dy := []) hS h
set_option maxRecDepth 4000 in
theorem b_L_mind_10 {x1 : Int64} {x3 : Int32} {x4 : Int32} {S : ZSt} {Q : ZOut → ZSt → Prop} (hS : zSh S) (h : Q (.inl (some (.int (nI 1)))) S) : zW 4 m_L_mind 10 [some (.ref 75), some (.long x1), none, some (.int x3), some (.int x4), some (.ref 161), none] [.float 0] S Q := zF_W 8 (cs := []) (dy := []) hS h
set_option maxRecDepth 4000 in
theorem b_L_mark {v1 : Int32} {v2 : Int32} {v3 : Int32} {S : ZSt} {Q : ZOut → ZSt → Prop} (hS : zSh S) (h : zcl 3 m_L_mark m_N_mark 7 6 [some (.ref 75), some (.int v1), some (.int v2), some (.int v3), some (.ref 161), none] [.int (nI 0), .ref 161] [.ref 75, .int v1, .int v2, .int v3] S Q) : zC m_L_mark [.ref 75, .int v1, .int v2, .int v3, .ref 161] S Q := zF_W 12 (cs := []) (dy := []) hS h
set_option maxRecDepth 4000 in
theorem b_L_mark_7 {x1 : Int32} {x2 : Int32} {x3 : Int32} {s0 : Int32} {s1 : Int32} {S : ZSt} {Q : ZOut → ZSt → Prop} (hS : zSh S) (h : ((s0 = 0 → (vp_in s1 1 ∧ Q (.inl (some (.int (nI 0)))) (zsL S 161 (s1.toNatClampNeg) (lN 0)))) ∧ (¬ (s0 = 0) → (vp_in s1 1 ∧ Q (.inl (some (.int (nI 0)))) (zsL S 161 (s1.toNatClampNeg) (lN 1)))))) : zW 3 m_L_mark 7 [some (.ref 75), some (.int x1), some (.int x2), some (.int x3), some (.ref 161), none] [.int s0, .int s1, .ref 161] S Q := zF_W 17 (cs := []) (dy := []) hS h
set_option maxRecDepth 4000 in
theorem b_L_mark_13 {x1 : Int32} {x2 : Int32} {x3 : Int32} {S : ZSt} {Q : ZOut → ZSt → Prop} (hS : zSh S) (h : Q (.inl (some (.int (nI 1)))) S) : zW 3 m_L_mark 13 [some (.ref 75), some (.int x1), some (.int x2), some (.int x3), some (.ref 161), none] [.float 0] S Q := zF_W 8 (cs := []) (dy := []) hS h
set_option maxRecDepth 4000 in
theorem b_L_agree {v1 : Int32} {v2 : Int32} {S : ZSt} {Q : ZOut → ZSt → Prop} (hS : zSh S) (h : zcl 6 m_L_agree m_N_agree 5 5 [some (.ref 75), some (.int v1), some (.int v2), some (.ref 161), none] [.int (nI 0), .ref 161] [.ref 75, .int v1, .int v2] S Q) : zC m_L_agree [.ref 75, .int v1, .int v2, .ref 161] S Q := zF_W 11 (cs := []) (dy := []) hS h
set_option maxRecDepth 4000 in
theorem b_L_agree_6 {x1 : Int32} {x2 : Int32} {s0 : Int32} {s1 : Int32} {S : ZSt} {Q : ZOut → ZSt → Prop} (hS : zSh S) (h : (vp_in s1 1 ∧ Q (.inl (some (.int (nI 0)))) (zsL S 161 (s1.toNatClampNeg) (s0.toInt64)))) : zW 6 m_L_agree 6 [some (.ref 75), some (.int x1), some (.int x2), some (.ref 161), none] [.int s0, .int s1, .ref 161] S Q := zF_W 10 (cs := []) (dy := []) hS h
set_option maxRecDepth 4000 in
theorem b_L_agree_9 {x1 : Int32} {x2 : Int32} {S : ZSt} {Q : ZOut → ZSt → Prop} (hS : zSh S) (h : Q (.inl (some (.int (nI 1)))) S) : zW 6 m_L_agree 9 [some (.ref 75), some (.int x1), some (.int x2), some (.ref 161), none] [.float 0] S Q := zF_W 8 (cs := []) (dy := []) hS h
set_option maxRecDepth 4000 in
theorem b_L_kept {v1 : Int32} {v2 : Int32} {v3 : Int32} {v4 : Int32} {v5 : Int32} {S : ZSt} {Q : ZOut → ZSt → Prop} (hS : zSh S) (h : zcl 7 m_L_kept m_N_kept 11 8 [some (.ref 75), some (.int v1), some (.int v2), some (.int v3), some (.int v4), some (.int v5), some (.ref 161), none] [.int (nI 0), .ref 161] [.ref 75, .int v1, .int v2, .int v3, .int v4, .int v5] S Q) : zC m_L_kept [.ref 75, .int v1, .int v2, .int v3, .int v4, .int v5, .ref 161] S Q := zF_W 14 (cs := []) (dy := []) hS h
set_option maxRecDepth 4000 in
theorem b_L_kept_9 {x1 : Int32} {x2 : Int32} {x3 : Int32} {x4 : Int32} {x5 : Int32} {s0 : Int32} {s1 : Int32} {S : ZSt} {Q : ZOut → ZSt → Prop} (hS : zSh S) (h : (vp_in s1 1 ∧ Q (.inl (some (.int (nI 0)))) (zsL S 161 (s1.toNatClampNeg) (s0.toInt64)))) : zW 7 m_L_kept 9 [some (.ref 75), some (.int x1), some (.int x2), some (.int x3), some (.int x4), some (.int x5), some (.ref 161), none] [.int s0, .int s1, .ref 161] S Q := zF_W 10 (cs := []) (dy := []) hS h
set_option maxRecDepth 4000 in
theorem b_L_kept_12 {x1 : Int32} {x2 : Int32} {x3 : Int32} {x4 : Int32} {x5 : Int32} {S : ZSt} {Q : ZOut → ZSt → Prop} (hS : zSh S) (h : Q (.inl (some (.int (nI 1)))) S) : zW 7 m_L_kept 12 [some (.ref 75), some (.int x1), some (.int x2), some (.int x3), some (.int x4), some (.int x5), some (.ref 161), none] [.float 0] S Q := zF_W 8 (cs := []) (dy := []) hS h
set_option maxRecDepth 4000 in
theorem b_L_kept_15 {x1 : Int32} {x2 : Int32} {x3 : Int32} {x4 : Int32} {x5 : Int32} {S : ZSt} {Q : ZOut → ZSt → Prop} (hS : zSh S) (h : Q (.inl (some (.int (nI 2)))) S) : zW 7 m_L_kept 15 [some (.ref 75), some (.int x1), some (.int x2), some (.int x3), some (.int x4), some (.int x5), some (.ref 161), none] [.float 0] S Q := zF_W 8 (cs := []) (dy := []) hS h
set_option maxRecDepth 4000 in
theorem b_L_kept_18 {x1 : Int32} {x2 : Int32} {x3 : Int32} {x4 : Int32} {x5 : Int32} {S : ZSt} {Q : ZOut → ZSt → Prop} (hS : zSh S) (h : Q (.inl (some (.int (nI 3)))) S) : zW 7 m_L_kept 18 [some (.ref 75), some (.int x1), some (.int x2), some (.int x3), some (.int x4), some (.int x5), some (.ref 161), none] [.float 0] S Q := zF_W 8 (cs := []) (dy := []) hS h
set_option maxRecDepth 4000 in
theorem b_L_kept_21 {x1 : Int32} {x2 : Int32} {x3 : Int32} {x4 : Int32} {x5 : Int32} {S : ZSt} {Q : ZOut → ZSt → Prop} (hS : zSh S) (h : Q (.inl (some (.int (nI 4)))) S) : zW 7 m_L_kept 21 [some (.ref 75), some (.int x1), some (.int x2), some (.int x3), some (.int x4), some (.int x5), some (.ref 161), none] [.float 0] S Q := zF_W 8 (cs := []) (dy := []) hS h
set_option maxRecDepth 4000 in
theorem b_L_rate {v1 : Int32} {v2 : Int32} {v3 : Int32} {v4 : Int32} {S : ZSt} {Q : ZOut → ZSt → Prop} (hS : zSh S) (h : zcl 3 m_L_rate m_N_rate 9 7 [some (.ref 75), some (.int v1), some (.int v2), some (.int v3), some (.int v4), some (.ref 161), none] [.int (nI 0), .ref 161] [.ref 75, .int v1, .int v2, .int v3, .int v4] S Q) : zC m_L_rate [.ref 75, .int v1, .int v2, .int v3, .int v4, .ref 161] S Q := zF_W 13 (cs := []) (dy := []) hS h
set_option maxRecDepth 4000 in
theorem b_L_rate_8 {x1 : Int32} {x2 : Int32} {x3 : Int32} {x4 : Int32} {s0 : Int32} {s1 : Int32} {S : ZSt} {Q : ZOut → ZSt → Prop} (hS : zSh S) (h : (vp_in s1 1 ∧ Q (.inl (some (.int (nI 0)))) (zsL S 161 (s1.toNatClampNeg) (s0.toInt64)))) : zW 3 m_L_rate 8 [some (.ref 75), some (.int x1), some (.int x2), some (.int x3), some (.int x4), some (.ref 161), none] [.int s0, .int s1, .ref 161] S Q := zF_W 10 (cs := []) (dy := []) hS h
set_option maxRecDepth 4000 in
theorem b_L_rate_11 {x1 : Int32} {x2 : Int32} {x3 : Int32} {x4 : Int32} {S : ZSt} {Q : ZOut → ZSt → Prop} (hS : zSh S) (h : Q (.inl (some (.int (nI 1)))) S) : zW 3 m_L_rate 11 [some (.ref 75), some (.int x1), some (.int x2), some (.int x3), some (.int x4), some (.ref 161), none] [.float 0] S Q := zF_W 8 (cs := []) (dy := []) hS h
set_option maxRecDepth 4000 in
theorem b_L_trade {v1 : Int32} {v2 : Int32} {S : ZSt} {Q : ZOut → ZSt → Prop} (hS : zSh S) (h : zcl 5 m_L_trade m_N_trade 5 5 [some (.ref 75), some (.int v1), some (.int v2), some (.ref 161), none] [.int (nI 0), .ref 161] [.ref 75, .int v1, .int v2] S Q) : zC m_L_trade [.ref 75, .int v1, .int v2, .ref 161] S Q := zF_W 11 (cs := []) (dy := []) hS h
set_option maxRecDepth 4000 in
theorem b_L_trade_6 {x1 : Int32} {x2 : Int32} {s0 : Int32} {s1 : Int32} {S : ZSt} {Q : ZOut → ZSt → Prop} (hS : zSh S) (h : (vp_in s1 1 ∧ Q (.inl (some (.int (nI 0)))) (zsL S 161 (s1.toNatClampNeg) (s0.toInt64)))) : zW 5 m_L_trade 6 [some (.ref 75), some (.int x1), some (.int x2), some (.ref 161), none] [.int s0, .int s1, .ref 161] S Q := zF_W 10 (cs := []) (dy := []) hS h
set_option maxRecDepth 4000 in
theorem b_L_trade_9 {x1 : Int32} {x2 : Int32} {S : ZSt} {Q : ZOut → ZSt → Prop} (hS : zSh S) (h : Q (.inl (some (.int (nI 1)))) S) : zW 5 m_L_trade 9 [some (.ref 75), some (.int x1), some (.int x2), some (.ref 161), none] [.float 0] S Q := zF_W 8 (cs := []) (dy := []) hS h
set_option maxRecDepth 4000 in
theorem b_L_whole {v1 : Int32} {v2 : Int32} {S : ZSt} {Q : ZOut → ZSt → Prop} (hS : zSh S) (h : zcl 5 m_L_whole m_N_whole 5 5 [some (.ref 75), some (.int v1), some (.int v2), some (.ref 161), none] [.int (nI 0), .ref 161] [.ref 75, .int v1, .int v2] S Q) : zC m_L_whole [.ref 75, .int v1, .int v2, .ref 161] S Q := zF_W 11 (cs := []) (dy := []) hS h
set_option maxRecDepth 4000 in
theorem b_L_whole_6 {x1 : Int32} {x2 : Int32} {s0 : Int32} {s1 : Int32} {S : ZSt} {Q : ZOut → ZSt → Prop} (hS : zSh S) (h : (vp_in s1 1 ∧ Q (.inl (some (.int (nI 0)))) (zsL S 161 (s1.toNatClampNeg) (s0.toInt64)))) : zW 5 m_L_whole 6 [some (.ref 75), some (.int x1), some (.int x2), some (.ref 161), none] [.int s0, .int s1, .ref 161] S Q := zF_W 10 (cs := []) (dy := []) hS h
set_option maxRecDepth 4000 in
theorem b_L_whole_9 {x1 : Int32} {x2 : Int32} {S : ZSt} {Q : ZOut → ZSt → Prop} (hS : zSh S) (h : Q (.inl (some (.int (nI 1)))) S) : zW 5 m_L_whole 9 [some (.ref 75), some (.int x1), some (.int x2), some (.ref 161), none] [.float 0] S Q := zF_W 8 (cs := []) (dy := []) hS h
set_option maxRecDepth 4000 in
theorem b_L_knows {v1 : Int32} {v2 : Int32} {S : ZSt} {Q : ZOut → ZSt → Prop} (hS : zSh S) (h : zcl 3 m_L_knows m_N_knows 5 5 [some (.ref 75), some (.int v1), some (.int v2), some (.ref 161), none] [.int (nI 0), .ref 161] [.ref 75, .int v1, .int v2] S Q) : zC m_L_knows [.ref 75, .int v1, .int v2, .ref 161] S Q := zF_W 11 (cs := []) (dy := []) hS h
set_option maxRecDepth 4000 in
theorem b_L_knows_6 {x1 : Int32} {x2 : Int32} {s0 : Int32} {s1 : Int32} {S : ZSt} {Q : ZOut → ZSt → Prop} (hS : zSh S) (h : (vp_in s1 1 ∧ Q (.inl (some (.int (nI 0)))) (zsL S 161 (s1.toNatClampNeg) (s0.toInt64)))) : zW 3 m_L_knows 6 [some (.ref 75), some (.int x1), some (.int x2), some (.ref 161), none] [.int s0, .int s1, .ref 161] S Q := zF_W 10 (cs := []) (dy := []) hS h
set_option maxRecDepth 4000 in
theorem b_L_knows_9 {x1 : Int32} {x2 : Int32} {S : ZSt} {Q : ZOut → ZSt → Prop} (hS : zSh S) (h : Q (.inl (some (.int (nI 1)))) S) : zW 3 m_L_knows 9 [some (.ref 75), some (.int x1), some (.int x2), some (.ref 161), none] [.float 0] S Q := zF_W 8 (cs := []) (dy := []) hS h
set_option maxRecDepth 4000 in
theorem b_L_woman {v1 : Int32} {v2 : Int32} {S : ZSt} {Q : ZOut → ZSt → Prop} (hS : zSh S) (h : zcl 4 m_L_woman m_N_woman 5 5 [some (.ref 75), some (.int v1), some (.int v2), some (.ref 161), none] [.int (nI 0), .ref 161] [.ref 75, .int v1, .int v2] S Q) : zC m_L_woman [.ref 75, .int v1, .int v2, .ref 161] S Q := zF_W 11 (cs := []) (dy := []) hS h
set_option maxRecDepth 4000 in
theorem b_L_woman_6 {x1 : Int32} {x2 : Int32} {s0 : Int32} {s1 : Int32} {S : ZSt} {Q : ZOut → ZSt → Prop} (hS : zSh S) (h : (vp_in s1 1 ∧ Q (.inl (some (.int (nI 0)))) (zsL S 161 (s1.toNatClampNeg) (s0.toInt64)))) : zW 4 m_L_woman 6 [some (.ref 75), some (.int x1), some (.int x2), some (.ref 161), none] [.int s0, .int s1, .ref 161] S Q := zF_W 10 (cs := []) (dy := []) hS h
set_option maxRecDepth 4000 in
theorem b_L_woman_9 {x1 : Int32} {x2 : Int32} {S : ZSt} {Q : ZOut → ZSt → Prop} (hS : zSh S) (h : Q (.inl (some (.int (nI 1)))) S) : zW 4 m_L_woman 9 [some (.ref 75), some (.int x1), some (.int x2), some (.ref 161), none] [.float 0] S Q := zF_W 8 (cs := []) (dy := []) hS h
