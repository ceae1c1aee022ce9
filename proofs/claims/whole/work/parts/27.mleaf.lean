/-! A TASK's text, the reference's side: what it uses, over one state -/
def zMt (F0 : Nat) (S S' : ZSt) : Prop := zJ [130, 140, 141] S S' ∧ (∀ j, zmem j [7, 8, 9, 10, 20] = false → zI S' 130 j = zI S 130 j) ∧ ∀ j, j < F0 → zI S' 140 j = zI S 140 j ∧ zI S' 141 j = zI S 141 j
theorem zMt.rf {F0 : Nat} {S : ZSt} : zMt F0 S S := ⟨zJ.rf, fun _ _ => rfl, fun _ _ => ⟨rfl, rfl⟩⟩
theorem zMt.tr {F0 : Nat} {S S1 S2 : ZSt} (h1 : zMt F0 S S1) (h2 : zMt F0 S1 S2) : zMt F0 S S2 := ⟨h1.1.tr h2.1, fun j hj => (h2.2.1 j hj).trans (h1.2.1 j hj), fun j hj => ⟨(h2.2.2 j hj).1.trans (h1.2.2 j hj).1, (h2.2.2 j hj).2.trans (h1.2.2 j hj).2⟩⟩
theorem zKB.t {F0 : Nat} {S S' : ZSt} (h : zKB S S') : zMt F0 S S' := ⟨⟨h.1.1, fun c hc => h.1.2 c (zsub_of rfl c hc)⟩, fun j hj => h.2 j (fun e => by rw [e] at hj; cases hj) (fun e => by rw [e] at hj; cases hj) (fun e => by rw [e] at hj; cases hj), fun j _ => by rw [h.1.2 140 rfl, h.1.2 141 rfl]; exact ⟨rfl, rfl⟩⟩
theorem zMt.o {F0 : Nat} {S : ZSt} {v : Int32} : zMt F0 S (zsI S 130 10 v) := ⟨zJ.rf.I rfl, fun j hj => zI_o (fun e => by rw [e] at hj; cases hj), fun j _ => by rw [zI_ne _ _ (by omega), zI_ne _ _ (by omega)]; exact ⟨rfl, rfl⟩⟩
def jEm (S : ZSt) (F0 : Nat) (o : List (Nat × Nat)) : Prop := zI S 130 20 = nI (F0 + o.length) ∧ patM (zI S 140) (zI S 141) F0 o
theorem patM_a {fa fb : Nat → Int32} {c v : Nat} : ∀ (l : List (Nat × Nat)) (i : Nat), patM fa fb i l → fa (i + l.length) = nI (cM c) → fb (i + l.length) = nI v → patM fa fb i (l ++ [(c, v)])
  | [], i, _, h1, h2 => ⟨h1, h2, trivial⟩
  | (x, y) :: r, i, h, h1, h2 => by
    have e : i + 1 + r.length = i + ((x, y) :: r).length := by
      show i + 1 + r.length = i + (r.length + 1)
      omega
    rw [← e] at h1 h2
    exact ⟨h.1, h.2.1, patM_a r (i + 1) h.2.2 h1 h2⟩
theorem patM_c {fa fb ga gb : Nat → Int32} : ∀ (l : List (Nat × Nat)) (i : Nat), (∀ j, i ≤ j → j < i + l.length → ga j = fa j ∧ gb j = fb j) → patM fa fb i l → patM ga gb i l
  | [], _, _, _ => trivial
  | (x, y) :: r, i, e, h => by
    have el : ((x, y) :: r).length = r.length + 1 := rfl
    obtain ⟨e1, e2⟩ := e i (Nat.le_refl _) (by omega)
    exact ⟨e1.trans h.1, e2.trans h.2.1, patM_c r (i + 1) (fun j h1 h2 => e j (by omega) (by omega)) h.2.2⟩
/-- where the reading of one C stands: at, how many are open, what was written from F0 on; n more may come -/
def jRd (S : ZSt) (b : Nat → Nat) (e p op F0 : Nat) (o : List (Nat × Nat)) (n : Nat) : Prop := zSh S ∧ zCst S ∧ jMx S b e ∧ p ≤ e ∧ zI S 130 7 = nI p ∧ jFn S ∧ (zI S 130 10 = nI op ∧ op ≤ 6) ∧ jEm S F0 o ∧ F0 + o.length + n ≤ 2000 + p
theorem jRd.K {S S' : ZSt} {b : Nat → Nat} {e p p' op F0 n : Nat} {o : List (Nat × Nat)} (h : jRd S b e p op F0 o n) (j : zK7 S S') (h7 : zI S' 130 7 = nI p') (hp : p ≤ p' ∧ p' ≤ e) : jRd S' b e p' op F0 o n := by
  obtain ⟨h1, h2, h3, h4, h5, h6, ⟨h8, h9⟩, ⟨ha, hb⟩, hc⟩ := h
  refine ⟨j.sh h1, h2.J j.1 rfl, h3.J j, hp.2, h7, h6.K j, ⟨(j.2 10 (by omega)).trans h8, h9⟩, ⟨(j.2 20 (by omega)).trans ha, ?_⟩, by omega⟩
  rw [j.1.2 140 rfl, j.1.2 141 rfl]
  exact hb
theorem r_here {S : ZSt} {b : Nat → Nat} {e p op F0 n : Nat} {o : List (Nat × Nat)} {Q : ZOut → ZSt → Prop} (h : jRd S b e p op F0 o n) (hQ : ∀ S', zMt F0 S S' → jRd S' b e (tkS b e p) op F0 o n → Q (.inl (some (.int (nI (hr b e p))))) S') : zC m_M_here [.ref 130] S Q := w_M_here h.1 h.2.2.1 h.2.2.2.1 h.2.2.2.2.1 (fun S' j a => hQ S' j.B.t (h.K j a (tkS_le h.2.2.2.1)))
theorem r_word {S : ZSt} {b : Nat → Nat} {e p op F0 n : Nat} {o : List (Nat × Nat)} {Q : ZOut → ZSt → Prop} (h : jRd S b e p op F0 o n) (hQ : ∀ S', zMt F0 S S' → jRd S' b e (tkS b e p) op F0 o n → Q (.inl (some (.int (nI (tkW b e p))))) S') : zC m_M_word [.ref 130] S Q := w_M_word h.1 h.2.2.1 h.2.2.2.1 h.2.2.2.2.1 (fun S' j a => hQ S' j.B.t (h.K j a (tkS_le h.2.2.2.1)))
theorem r_pass {S : ZSt} {b : Nat → Nat} {e p op F0 n : Nat} {o : List (Nat × Nat)} {Q : ZOut → ZSt → Prop} (h : jRd S b e (tkS b e p) op F0 o n) (hp : p ≤ e) (k1 : tkK b e p = 1) (hQ : ∀ S', zMt F0 S S' → jRd S' b e (tkE b e p) op F0 o n → Q (.inl none) S') : zC m_M_pass [.ref 130] S Q := w_M_pass h.1 h.2.2.1 hp h.2.2.2.2.1 k1 (fun S' j a => hQ S' j.B.t (h.K j a ⟨tkE_ge, tkE_le hp⟩))
theorem r_num {S : ZSt} {b : Nat → Nat} {e p op F0 n lo hi : Nat} {o : List (Nat × Nat)} {Q : ZOut → ZSt → Prop} (hM : (Nat.ble lo 9999 && Nat.ble hi 9999) = true) (h : jRd S b e p op F0 o n) (ok : tkK b e p = 2 → lo ≤ tkV b e p → tkV b e p ≤ hi → ∀ S', zMt F0 S S' → jRd S' b e (tkE b e p) op F0 o n → Q (.inl (some (.int (nI (tkV b e p))))) S') (no1 : tkK b e p ≠ 2 → ∀ S', zMt F0 S S' → zSh S' → jBd S' 1 (tkS b e p) → Q (.inl (some (.int (nI 0)))) S') (no2 : tkK b e p = 2 → ¬ (lo ≤ tkV b e p ∧ tkV b e p ≤ hi) → ∀ S', zMt F0 S S' → zSh S' → jBd S' 2 (tkS b e p) → Q (.inl (some (.int (nI 0)))) S') : zC m_M_readNumber [.ref 130, .int (nI lo), .int (nI hi)] S Q := w_M_readNumber hM h.1 h.2.2.1 h.2.2.2.1 h.2.2.2.2.1 h.2.2.2.2.2.1 (fun a1 a2 a3 S' j a => ok a1 a2 a3 S' j.B.t (h.K j a ⟨Nat.le_trans (tkS_le h.2.2.2.1).1 tkE_ge, tkE_le h.2.2.2.1⟩)) (fun a1 S' j d => no1 a1 S' j.t (j.sh h.1) d) (fun a1 a2 S' j d => no2 a1 a2 S' j.t (j.sh h.1) d)
theorem r_sign {S : ZSt} {b : Nat → Nat} {e p op F0 n c : Nat} {o : List (Nat × Nat)} {Q : ZOut → ZSt → Prop} (hc : (Nat.blt c 256 && (Nat.beq (kOf c) 3 && Nat.blt 0 c)) = true) (h : jRd S b e p op F0 o n) (ok : hr b e p = c → ∀ S', zMt F0 S S' → jRd S' b e (tkE b e p) op F0 o n → Q (.inl none) S') (no : hr b e p ≠ c → ∀ S', zMt F0 S S' → zSh S' → jBd S' 1 (tkS b e p) → Q (.inl none) S') : zC m_M_sign [.ref 130, .int (nI c)] S Q := by
  obtain ⟨c1, c2⟩ := zand hc
  obtain ⟨c2, c3⟩ := zand c2
  have d1 : c < 256 := Nat.le_of_ble_eq_true c1
  have d2 := Nat.eq_of_beq_eq_true c2
  have d3 : 0 < c := Nat.le_of_ble_eq_true c3
  refine w_M_sign d1 h.1 h.2.2.1 h.2.2.2.1 h.2.2.2.2.1 h.2.2.2.2.2.1 (fun a1 S' j a => ok a1 S' j.B.t (h.K j ?_ ⟨Nat.le_trans (tkS_le h.2.2.2.1).1 tkE_ge, tkE_le h.2.2.2.1⟩)) (fun a1 S' j d => no a1 S' j.t (j.sh h.1) d)
  rw [tkE_3 ((hr_is d2 (by omega)).mp a1).1]
  exact a
theorem r_wrong {S : ZSt} {b : Nat → Nat} {e p op F0 n k : Nat} {o : List (Nat × Nat)} {Q : ZOut → ZSt → Prop} (h : jRd S b e p op F0 o n) (hQ : ∀ S', zMt F0 S S' → zSh S' → jBd S' k p → Q (.inl none) S') : zC m_M_wrong [.ref 130, .int (nI k), .int (zI S 130 7)] S Q := by
  rw [h.2.2.2.2.1]
  exact w_M_wrong h.1 h.2.2.2.2.2.1 (fun S' j d => hQ S' j.t (j.sh h.1) d)
theorem r_fine {S : ZSt} {b : Nat → Nat} {e p op F0 n : Nat} {o : List (Nat × Nat)} {Q : ZOut → ZSt → Prop} (h : jRd S b e p op F0 o n) (hQ : Q (.inl (some (.int (nI 1)))) S) : zC m_M_fine [.ref 130] S Q := w_M_fine1 h.1 h.2.2.2.2.2.1 hQ
theorem r_emit {S : ZSt} {b : Nat → Nat} {e p op F0 n c v k : Nat} {o : List (Nat × Nat)} {Q : ZOut → ZSt → Prop} (hk : k = cM c) (h : jRd S b e p op F0 o (n + 1)) (hQ : ∀ S', zMt F0 S S' → jRd S' b e p op F0 (o ++ [(c, v)]) n → Q (.inl none) S') : zC m_M_emit [.ref 130, .int (nI k), .int (nI v)] S Q := by
  have h' := h
  obtain ⟨h1, h2, h3, h4, h5, h6, ⟨h8, h9⟩, ⟨ha, hb⟩, hc⟩ := h
  have he := h3.1
  subst hk
  refine b_M_emit h1 (w_M_fine1 h1 h6 (b_M_emit_2 h1 ⟨fun _ => ?_, fun h9 => absurd (by decide) h9⟩))
  rw [ha, zcl9 (by omega), nI_add]
  refine ⟨zin (by omega) (by omega), zin (by omega) (by omega), ?_⟩
  have el : (o ++ [(c, v)]).length = o.length + 1 := by rw [List.length_append]; rfl
  have e130 : ∀ j, j ≠ 20 → zI (zsI (zsI (zsI S 140 (F0 + o.length) (nI (cM c))) 141 (F0 + o.length) (nI v)) 130 20 (nI (F0 + o.length + 1))) 130 j = zI S 130 j := fun j hj => by rw [zI_o hj, zI_ne _ _ (by omega), zI_ne _ _ (by omega)]
  have e140 : ∀ j, j ≠ F0 + o.length → zI (zsI (zsI (zsI S 140 (F0 + o.length) (nI (cM c))) 141 (F0 + o.length) (nI v)) 130 20 (nI (F0 + o.length + 1))) 140 j = zI S 140 j := fun j hj => by rw [zI_ne _ _ (by omega), zI_ne _ _ (by omega), zI_o hj]
  have e141 : ∀ j, j ≠ F0 + o.length → zI (zsI (zsI (zsI S 140 (F0 + o.length) (nI (cM c))) 141 (F0 + o.length) (nI v)) 130 20 (nI (F0 + o.length + 1))) 141 j = zI S 141 j := fun j hj => by rw [zI_ne _ _ (by omega), zI_o hj, zI_ne _ _ (by omega)]
  have J : zJ [130, 140, 141] S (zsI (zsI (zsI S 140 (F0 + o.length) (nI (cM c))) 141 (F0 + o.length) (nI v)) 130 20 (nI (F0 + o.length + 1))) := ((zJ.rf.I rfl).I rfl).I rfl
  refine hQ _ ⟨J, fun j hj => e130 j (fun e => by rw [e] at hj; cases hj), fun j hj => ⟨e140 j (by omega), e141 j (by omega)⟩⟩ ⟨J.sh h1, h2.J J rfl, h3.K (e130 6 (by omega)) (J.2 134 rfl), h4, (e130 7 (by omega)).trans h5, (e130 8 (by omega)).trans h6, ⟨(e130 10 (by omega)).trans h8, h9⟩, ⟨?_, ?_⟩, by omega⟩
  · rw [zI_s, el]
    rfl
  · refine patM_a o F0 (patM_c o F0 (fun j g1 g2 => ⟨e140 j (by omega), e141 j (by omega)⟩) hb) ?_ ?_
    · rw [zI_ne _ _ (by omega), zI_ne _ _ (by omega), zI_s]
    · rw [zI_ne _ _ (by omega), zI_s]
/-- how many are open, told anew -/
theorem jRd.op {S : ZSt} {b : Nat → Nat} {e p op F0 n op' n' : Nat} {o : List (Nat × Nat)} {v : Int32} (h : jRd S b e p op F0 o n) (hv : v = nI op') (h6 : op' ≤ 6) (hn : n' ≤ n) : jRd (zsI S 130 10 v) b e p op' F0 o n' := by
  obtain ⟨h1, h2, h3, h4, h5, h6', ⟨h8, h9⟩, ⟨ha, hb⟩, hc⟩ := h
  subst hv
  have J : zJ [130] S (zsI S 130 10 (nI op')) := zJ.rf.I rfl
  refine ⟨J.sh h1, h2.J J rfl, h3.K (zI_o (by omega)) (zI_ne _ _ (by omega)), h4, (zI_o (by omega)).trans h5, (zI_o (by omega)).trans h6', ⟨zI_s, h6⟩, ⟨(zI_o (by omega)).trans ha, ?_⟩, by omega⟩
  rw [zI_ne _ _ (by omega), zI_ne _ _ (by omega)]
  exact hb
theorem jBd.o {S : ZSt} {k t : Nat} {v : Int32} (h : jBd S k t) : jBd (zsI S 130 10 v) k t := ⟨(zI_o (by omega)).trans h.1, (zI_o (by omega)).trans h.2⟩
theorem zSh.o {S : ZSt} {v : Int32} (h : zSh S) : zSh (zsI S 130 10 v) := h
/-- one more is open; or there are six -/
theorem r_opens {S : ZSt} {b : Nat → Nat} {e p op F0 n s : Nat} {o : List (Nat × Nat)} {Q : ZOut → ZSt → Prop} (h : jRd S b e p op F0 o n) (hs : p + s = tkE b e p) (hlt : p < tkE b e p) (hm : jRd S b e p op F0 o n → F0 + o.length + (n + 1) ≤ 2000 + tkE b e p) (ok : op < 6 → ∀ S', zMt F0 S S' → jRd S' b e (tkE b e p) (op + 1) F0 o (n + 1) → Q (.inl none) S') (no : 6 ≤ op → ∀ S', zMt F0 S S' → zSh S' → jBd S' 3 p → Q (.inl none) S') : zC m_M_opensOne [.ref 130, .int (nI s)] S Q := by
  have h' := h
  obtain ⟨h1, h2, h3, h4, h5, h6, ⟨h8, h9⟩, ⟨ha, hb⟩, hc⟩ := h
  have he := h3.1
  refine b_M_opensOne h1 (w_M_fine1 h1 h6 (b_M_opensOne_2 h1 ⟨fun z => absurd z (by decide), fun _ => ?_⟩))
  rw [h8]
  refine ⟨fun z => w_M_fine1 h1 h6 (b_M_opensOne_14 h1 ⟨fun z => absurd z (by decide), fun _ => ?_⟩), fun z => r_wrong h' (fun S3 j3 s3 d3 => b_M_opensOne_12 s3 (w_M_fine0 s3 d3 (by omega) (b_M_opensOne_14 s3 ⟨fun _ => no ?_ _ (j3.tr zMt.o) (zSh.o s3) d3.o, fun z => absurd rfl z⟩)))⟩
  · have h7 : op < 6 := by
      have : op ≠ 6 := fun y => z (by rw [y])
      omega
    rw [h5, h8, nI_add, nI_add, hs]
    have J : zK7 S (zsI S 130 7 (nI (tkE b e p))) := zK7.I
    have R1 := h'.K (p' := tkE b e p) J zI_s ⟨by omega, tkE_le h4⟩
    have R2 : jRd (zsI S 130 7 (nI (tkE b e p))) b e (tkE b e p) op F0 o (n + 1) := by
      obtain ⟨g1, g2, g3, g4, g5, g6, g8, g9, g10⟩ := R1
      exact ⟨g1, g2, g3, g4, g5, g6, g8, g9, hm h'⟩
    exact ok h7 _ (J.B.t.tr zMt.o) (R2.op rfl (by omega) (Nat.le_refl _))
  · have := nEq (by omega) (by omega) (Classical.not_not.mp z)
    omega
/-! behind a fault -/
theorem q_emit {S : ZSt} {k t : Nat} {x y : Int32} {Q : ZOut → ZSt → Prop} (hS : zSh S) (h : jBd S k t) (ht : t < 1000) (hQ : Q (.inl none) S) : zC m_M_emit [.ref 130, .int x, .int y] S Q := b_M_emit hS (w_M_fine0 hS h ht (b_M_emit_2 hS ⟨fun z => absurd rfl z, fun _ => hQ⟩))
theorem q_unit {d : Nat} {S : ZSt} {k t : Nat} {Q : ZOut → ZSt → Prop} (hd : 50 ≤ d) (hS : zSh S) (h : jBd S k t) (ht : t < 1000) (hQ : Q (.inl none) S) : zW d m_M_unit 0 [some (.ref 130), none, none] [] S Q := e_M_unit hd hS (w_M_fine0 hS h ht (e_M_unit_2 hd hS ⟨fun z => absurd rfl z, fun _ => hQ⟩))
theorem q_prod2 {d : Nat} {S : ZSt} {k t : Nat} {u1 : Option Value} {Q : ZOut → ZSt → Prop} (hd : 50 ≤ d) (hS : zSh S) (h : jBd S k t) (ht : t < 1000) (hQ : Q (.inl none) S) : zW d m_M_product 2 [some (.ref 130), u1] [] S Q := e_M_product_2 hd hS (w_M_fine0 hS h ht (e_M_product_4 hd hS ⟨fun _ => hQ, fun z => absurd rfl z⟩))
theorem q_prod {d : Nat} {S : ZSt} {k t : Nat} {Q : ZOut → ZSt → Prop} (hd : 51 ≤ d) (hS : zSh S) (h : jBd S k t) (ht : t < 1000) (hQ : Q (.inl none) S) : zW d m_M_product 0 [some (.ref 130), none] [] S Q := e_M_product (by omega) hS (q_unit (d := d - 1) (by omega) hS h ht (q_prod2 (by omega) hS h ht hQ))
theorem q_sum2 {d : Nat} {S : ZSt} {k t : Nat} {u1 : Option Value} {Q : ZOut → ZSt → Prop} (hd : 50 ≤ d) (hS : zSh S) (h : jBd S k t) (ht : t < 1000) (hQ : Q (.inl none) S) : zW d m_M_sum 2 [some (.ref 130), u1] [] S Q := e_M_sum_2 hd hS (w_M_fine0 hS h ht (e_M_sum_4 hd hS ⟨fun _ => hQ, fun z => absurd rfl z⟩))
theorem q_sum {d : Nat} {S : ZSt} {k t : Nat} {Q : ZOut → ZSt → Prop} (hd : 52 ≤ d) (hS : zSh S) (h : jBd S k t) (ht : t < 1000) (hQ : Q (.inl none) S) : zW d m_M_sum 0 [some (.ref 130), none] [] S Q := e_M_sum (by omega) hS (q_prod (d := d - 1) (by omega) hS h ht (q_sum2 (by omega) hS h ht hQ))
theorem q_one {d : Nat} {S : ZSt} {k t : Nat} {Q : ZOut → ZSt → Prop} (hd : 50 ≤ d) (hS : zSh S) (h : jBd S k t) (ht : t < 1000) (hQ : Q (.inl none) S) : zW d m_M_oneOf 0 [some (.ref 130), none] [] S Q := e_M_oneOf hd hS (w_M_fine0 hS h ht (e_M_oneOf_2 hd hS ⟨fun z => absurd rfl z, fun _ => hQ⟩))
theorem q_all2 {d : Nat} {S : ZSt} {k t : Nat} {Q : ZOut → ZSt → Prop} (hd : 50 ≤ d) (hS : zSh S) (h : jBd S k t) (ht : t < 1000) (hQ : Q (.inl none) S) : zW d m_M_allOf 2 [some (.ref 130)] [] S Q := e_M_allOf_2 hd hS (w_M_fine0 hS h ht (e_M_allOf_4 hd hS ⟨fun _ => hQ, fun z => absurd rfl z⟩))
theorem q_all {d : Nat} {S : ZSt} {k t : Nat} {Q : ZOut → ZSt → Prop} (hd : 51 ≤ d) (hS : zSh S) (h : jBd S k t) (ht : t < 1000) (hQ : Q (.inl none) S) : zW d m_M_allOf 0 [some (.ref 130)] [] S Q := e_M_allOf (by omega) hS (q_one (d := d - 1) (by omega) hS h ht (q_all2 (by omega) hS h ht hQ))
theorem q_any2 {d : Nat} {S : ZSt} {k t : Nat} {Q : ZOut → ZSt → Prop} (hd : 50 ≤ d) (hS : zSh S) (h : jBd S k t) (ht : t < 1000) (hQ : Q (.inl none) S) : zW d m_M_anyOf 2 [some (.ref 130)] [] S Q := e_M_anyOf_2 hd hS (w_M_fine0 hS h ht (e_M_anyOf_4 hd hS ⟨fun _ => hQ, fun z => absurd rfl z⟩))
theorem q_any {d : Nat} {S : ZSt} {k t : Nat} {Q : ZOut → ZSt → Prop} (hd : 52 ≤ d) (hS : zSh S) (h : jBd S k t) (ht : t < 1000) (hQ : Q (.inl none) S) : zW d m_M_anyOf 0 [some (.ref 130)] [] S Q := e_M_anyOf (by omega) hS (q_all (d := d - 1) (by omega) hS h ht (q_any2 (by omega) hS h ht hQ))
