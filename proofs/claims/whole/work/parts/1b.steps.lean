/-! From call to call: the calls that change no structure -/
theorem zOnly.fk {l : List Nat} {n : Nat} {S S2 : ZSt} (h : zOnly l n S S2) (hl : l.all (fun x => zmem x lX) = true) (n0 : (zmem 136 l || (zmem 137 l || (zmem 138 l || zmem 139 l))) = false) : zFK S S2 := by
  obtain ⟨a, b⟩ := Bool.or_eq_false_iff.mp n0
  obtain ⟨b, c⟩ := Bool.or_eq_false_iff.mp b
  obtain ⟨c, d⟩ := Bool.or_eq_false_iff.mp c
  obtain ⟨h1, h2, -, h4, h5, h6, h7, -⟩ := h
  exact ⟨fun c hc _ => h1 c (zsub_of hl c hc), ⟨fun j hj => h2 j (by have := zkey hj; omega), fun q _ => by rw [h1 136 a], fun q _ => ⟨by rw [h1 137 b], by rw [h1 138 c], by rw [h1 139 d]⟩⟩, fun c _ => by rw [h4], fun h9 => by rw [h4]; exact h9, h5, h6, h7⟩
theorem zOnly3.fk {l : List Nat} {n : Nat} {S S2 : ZSt} (h : zOnly3 l n S S2) (hl : l.all (fun x => zmem x lX) = true) (n0 : (zmem 136 l || (zmem 137 l || (zmem 138 l || zmem 139 l))) = false) : zFK S S2 := by
  obtain ⟨a, b⟩ := Bool.or_eq_false_iff.mp n0
  obtain ⟨b, c⟩ := Bool.or_eq_false_iff.mp b
  obtain ⟨c, d⟩ := Bool.or_eq_false_iff.mp c
  obtain ⟨h1, h2, -, h4, h5, h6, h7, -⟩ := h
  exact ⟨fun c hc _ => h1 c (zsub_of hl c hc), ⟨h2, fun q _ => by rw [h1 136 a], fun q _ => ⟨by rw [h1 137 b], by rw [h1 138 c], by rw [h1 139 d]⟩⟩, fun c _ => by rw [h4], fun h9 => by rw [h4]; exact h9, h5, h6, h7⟩
theorem zPost.fk {S S2 : ZSt} (h : zPost S S2) : zFK S S2 := by
  obtain ⟨h1, h2, h3, h4, h5, h6, h7, -⟩ := h
  exact ⟨fun c hc hs => h1 c (zsub_of rfl c hc) hs, h2, h3, h4, h5, h6, h7⟩
theorem zSh_same {S S2 : ZSt} (hS : zSh S) (hR : zR S2 = zR S) (hn : zn S2 = zn S) (hc : zc S2 = zc S) (hx : zx S2 = zx S) : zSh S2 := by
  unfold zSh
  rw [hR, hn, hc, hx]
  exact hS
theorem zInv.next {L n : Nat} {S S2 : ZSt} (h : zInv L n S) (k : zFK S S2) (hS : zSh S2) (hJ : jCore S2) (hu : zu S2 ≤ zu S + 1) (hz : zz S2 ≤ zz S + 50) : zInv L (n + 1) S2 := by
  obtain ⟨-, -, h3, h4, h5, h6, h7⟩ := h
  exact ⟨hS, hJ, k.base h3, by rw [k.2.2.2.2.2.1]; exact h4, by rw [k.2.2.2.2.1]; exact h5, by omega, by omega⟩
theorem zTwoR.imp {S S1 : ZSt} {CM : ZMt} {av : List Value} {R R' : Int32 → Value → ZSt → Prop} {o : ZOut} (h : zTwoR S CM av R o S1) (hR : ∀ kk b S2, R kk b S2 → R' kk b S2) : zTwoR S CM av R' o S1 := by
  obtain ⟨kk, e, kp, c⟩ := h
  exact ⟨kk, e, kp, zC.imp c (fun o2 S2 ⟨b, e2, r⟩ => ⟨b, e2, hR _ _ _ r⟩)⟩
theorem zAns.P {L n : Nat} {l : List Nat} {S S2 : ZSt} {kk : Int32} {b : Value} (h : zInv L n S) (hl : l.all (fun x => zmem x lX) = true) (n0 : (zmem 136 l || (zmem 137 l || (zmem 138 l || zmem 139 l))) = false) (a : zAns l S jCore kk b S2) : zAnsP (zInv L (n + 1)) kk b S2 := by
  obtain ⟨b', e, e0, eL, o, j⟩ := a
  have hS2 := zSh_same h.1 o.2.2.2.1 o.2.2.2.2.1 o.2.2.2.2.2.1 o.2.2.2.2.2.2.1
  exact ⟨b', e, e0, eL, hS2, h.next (o.fk hl n0) hS2 j o.2.2.2.2.2.2.2.1.2 o.2.2.2.2.2.2.2.2.2⟩
theorem zAns3.P {L n : Nat} {l : List Nat} {S S2 : ZSt} {kk : Int32} {b : Value} (h : zInv L n S) (hl : l.all (fun x => zmem x lX) = true) (n0 : (zmem 136 l || (zmem 137 l || (zmem 138 l || zmem 139 l))) = false) (a : zAns3 l S jCore kk b S2) : zAnsP (zInv L (n + 1)) kk b S2 := by
  obtain ⟨b', e, e0, eL, o, j⟩ := a
  have hS2 := zSh_same h.1 o.2.2.2.1 o.2.2.2.2.1 o.2.2.2.2.2.1 o.2.2.2.2.2.2.1
  exact ⟨b', e, e0, eL, hS2, h.next (o.fk hl n0) hS2 j o.2.2.2.2.2.2.2.1.2 o.2.2.2.2.2.2.2.2.2⟩
theorem zAnsB.P {L n : Nat} {l : List Nat} {S S2 : ZSt} {kk : Int32} {b : Value} (h : zInv L n S) (hl : l.all (fun x => zmem x lX) = true) (n0 : (zmem 136 l || (zmem 137 l || (zmem 138 l || zmem 139 l))) = false) (a : zAnsB l S jCore kk b S2) : zAnsPB (zInv L (n + 1)) kk b S2 := by
  obtain ⟨-, a, hb⟩ := a
  obtain ⟨b', e, e0, eL, o, j⟩ := zAns.P h hl n0 a
  refine ⟨b', e, ?_, e0, eL, o, j⟩
  rcases hb with hb | hb
  · rw [e] at hb
    exact Or.inl (by injection hb)
  · rw [e] at hb
    exact Or.inr (by injection hb)
theorem zSay.P {L n : Nat} {l : List Nat} {S S2 : ZSt} {kk : Int32} {b : Value} (h : zInv L n S) (hl : l.all (fun x => zmem x lX) = true) (n0 : (zmem 136 l || (zmem 137 l || (zmem 138 l || zmem 139 l))) = false) (a : zSay l S jCore kk b S2) : zSayP (zInv L (n + 1)) kk b S2 := by
  obtain ⟨-, e, o, j⟩ := a
  have hS2 := zSh_same h.1 o.2.2.2.1 o.2.2.2.2.1 o.2.2.2.2.2.1 o.2.2.2.2.2.2.1
  exact ⟨e, hS2, h.next (o.fk hl n0) hS2 j o.2.2.2.2.2.2.2.1.2 o.2.2.2.2.2.2.2.2.2⟩
theorem zPost.inv {L n : Nat} {S S2 : ZSt} (h : zInv L n S) (p : zPost S S2) : zInv L (n + 1) S2 := h.next p.fk p.2.2.2.2.2.2.2.2.2.1 p.2.2.2.2.2.2.2.2.2.2 p.2.2.2.2.2.2.2.1 p.2.2.2.2.2.2.2.2.1
theorem zAns4.P {L n : Nat} {S S2 : ZSt} {kk : Int32} {b : Value} (h : zInv L n S) (a : zAns4 S kk b S2) : zAnsP (zInv L (n + 1)) kk b S2 := by
  obtain ⟨b', e, e0, eL, p⟩ := a
  exact ⟨b', e, e0, eL, (zPost.inv h p).1, zPost.inv h p⟩
theorem zAns4B.P {L n : Nat} {S S2 : ZSt} {kk : Int32} {b : Value} (h : zInv L n S) (a : zAns4B S kk b S2) : zAnsPB (zInv L (n + 1)) kk b S2 := by
  obtain ⟨b', e, eb, e0, eL, p⟩ := a
  exact ⟨b', e, eb, e0, eL, (zPost.inv h p).1, zPost.inv h p⟩
theorem zInv.h6 {L n : Nat} {S : ZSt} (h : zInv L n S) : zI S 75 6 = zI S 130 14 := by
  obtain ⟨wc, -, a, b, -⟩ := h.2.2.1.2.2.2.1
  rw [a, b]
theorem zInv.h7 {L n : Nat} {S : ZSt} (h : zInv L n S) : zI S 75 7 = zI S 130 15 := by
  obtain ⟨wc, st, -, -, a, b, -⟩ := h.2.2.1.2.2.2.2.1
  rw [a, b]
theorem zInv.h10 {L n : Nat} {S : ZSt} (h : zInv L n S) : zI S 75 10 = zI S 130 4 := by
  obtain ⟨wc, -, a, b, -⟩ := h.2.2.1.2.2.2.2.2.1
  rw [a, b]
theorem zInv.h5 {L n : Nat} {S : ZSt} (h : zInv L n S) : zI S 76 1 = zI S 130 5 := by
  obtain ⟨wc, -, a, b, -⟩ := h.2.2.1.2.1
  rw [a, b]
theorem zInv.hf {L n : Nat} {S : ZSt} (h : zInv L n S) : zI S 76 8 = zI S 130 11 := h.2.2.1.2.2.1
theorem zInv.W {L n : Nat} {S : ZSt} (h : zInv L n S) : jWays S := h.2.2.1.2.2.2.1
theorem zInv.T {L n : Nat} {S : ZSt} (h : zInv L n S) : jTasks S := h.2.2.1.2.2.2.2.1.to
theorem zInv.k {L n : Nat} {S : ZSt} (h : zInv L n S) : zI S 130 34 = - nI 1 := h.2.2.1.2.2.2.2.2.2.1
theorem zInv.Z {L n : Nat} {S : ZSt} (h : zInv L n S) : zSwp (zR S 125) := h.2.2.1.2.2.2.2.2.2.2.1
theorem zInv.D {L n : Nat} {S : ZSt} (h : zInv L n S) : zStD S := h.2.2.1.2.2.2.2.2.2.2.2.2.1
theorem zInv.N {L n : Nat} {S : ZSt} (h : zInv L n S) : zWn S := by
  obtain ⟨tg, g⟩ := h.2.2.1.2.2.2.2.2.2.2.2.1
  exact g.wn
theorem s_told {L : Nat} : t_told (zInv L) := fun n S _ h => zC.imp (p_told h.1 h.2.1 h.h6 h.h7) (fun o S1 r => r.imp (fun kk b S2 a => zAns.P h rfl rfl a))
theorem s_heap {L : Nat} : t_heap (zInv L) := fun n S _ _ h => zC.imp (p_heap h.1 h.2.1) (fun o S1 r => r.imp (fun kk b S2 a => zAns.P h rfl rfl a))
theorem s_place {L : Nat} : t_place (zInv L) := fun n S _ _ h => zC.imp (p_place h.1 h.2.1) (fun o S1 r => r.imp (fun kk b S2 a => zAns.P h rfl rfl a))
theorem s_ends {L : Nat} : t_ends (zInv L) := fun n S _ h => zC.imp (p_ends h.1 h.2.1) (fun o S1 r => r.imp (fun kk b S2 a => zAns.P h rfl rfl a))
theorem s_row {L : Nat} : t_row (zInv L) := fun n S _ h => zC.imp (p_row h.1 h.2.1) (fun o S1 r => r.imp (fun kk b S2 a => zAns.P h rfl rfl a))
theorem s_left {L : Nat} : t_left (zInv L) := fun n S _ h => zC.imp (p_left h.1 h.2.1) (fun o S1 r => r.imp (fun kk b S2 a => zAns.P h rfl rfl a))
theorem s_knows {L : Nat} : t_knows (zInv L) := fun n S _ _ h => zC.imp (p_knows h.1 h.2.1) (fun o S1 r => r.imp (fun kk b S2 a => zAns.P h rfl rfl a))
theorem s_field {L : Nat} : t_field (zInv L) := fun n S _ _ _ h => zC.imp (p_field h.1 h.2.1) (fun o S1 r => r.imp (fun kk b S2 a => zAns.P h rfl rfl a))
theorem s_mark {L : Nat} : t_mark (zInv L) := fun n S _ _ _ h => zC.imp (p_mark h.1 h.2.1) (fun o S1 r => r.imp (fun kk b S2 a => zAnsB.P h rfl rfl a))
theorem s_fault {L : Nat} : t_fault (zInv L) := fun n S  h => zC.imp (p_fault h.1 h.2.1 h.hf) (fun o S1 r => r.imp (fun kk b S2 a => zSay.P h rfl rfl a))
theorem s_status {L : Nat} : t_status (zInv L) := fun n S _ h => zC.imp (p_status h.1 h.2.1) (fun o S1 r => r.imp (fun kk b S2 a => zSay.P h rfl rfl a))
theorem s_count {L : Nat} : t_count (zInv L) := fun n S _ h => zC.imp (p_count h.1 h.2.1 h.h6 h.h7 h.h10 h.h5) (fun o S1 r => r.imp (fun kk b S2 a => zSay.P h rfl rfl a))
theorem s_rate {L : Nat} : t_rate (zInv L) := fun n S _ _ _ _ h => zC.imp (p_rate h.1 h.2.1) (fun o S1 r => r.imp (fun kk b S2 a => zAns.P h rfl rfl a))
theorem s_places {L : Nat} : t_places (zInv L) := fun n S _ h => zC.imp (p_places h.1 h.2.1) (fun o S1 r => r.imp (fun kk b S2 a => zAns.P h rfl rfl a))
theorem s_pebbles {L : Nat} : t_pebbles (zInv L) := fun n S _ h => zC.imp (p_pebbles h.1 h.2.1) (fun o S1 r => r.imp (fun kk b S2 a => zAns.P h rfl rfl a))
theorem s_tell {L : Nat} : t_tell (zInv L) := fun n S _ _ h => zC.imp (p_tell h.1 h.2.1) (fun o S1 r => r.imp (fun kk b S2 a => zAns.P h rfl rfl a))
theorem s_stranger {L : Nat} : t_stranger (zInv L) := fun n S _ _ _ _ h => zC.imp (p_stranger h.1 h.2.1) (fun o S1 r => r.imp (fun kk b S2 a => zAns.P h rfl rfl a))
theorem s_word {L : Nat} : t_word (zInv L) := fun n S _ _ h => zC.imp (p_word h.1 h.2.1) (fun o S1 r => r.imp (fun kk b S2 a => zAns.P h rfl rfl a))
theorem s_fewest {L : Nat} : t_fewest (zInv L) := fun n S _ h => zC.imp (p_fewest h.1 h.2.1) (fun o S1 r => r.imp (fun kk b S2 a => zAns.P h rfl rfl a))
theorem s_mind {L : Nat} : t_mind (zInv L) := fun n S _ _ _ h => zC.imp (p_mind h.1 h.2.1) (fun o S1 r => r.imp (fun kk b S2 a => zAns.P h rfl rfl a))
theorem s_on {L : Nat} : t_on (zInv L) := fun n S  h => zC.imp (p_on h.1 h.2.1) (fun o S1 r => r.imp (fun kk b S2 a => zSay.P h rfl rfl a))
theorem s_judge {L : Nat} : t_judge (zInv L) := fun n S _ h => zC.imp (p_judge h.1 h.2.1 h.W) (fun o S1 r => r.imp (fun kk b S2 a => zAns.P h rfl rfl a))
theorem s_act {L : Nat} : t_act (zInv L) := fun n S _ _ _ h => zC.imp (p_act h.1 h.2.1 h.W) (fun o S1 r => r.imp (fun kk b S2 a => zAns.P h rfl rfl a))
theorem s_run {L : Nat} : t_run (zInv L) := fun n S _ _ h => zC.imp (p_run h.1 h.2.1 h.W h.k) (fun o S1 r => r.imp (fun kk b S2 a => zAns3.P h rfl rfl a))
theorem s_soon {L : Nat} : t_soon (zInv L) := fun n S _ _ _ h => zC.imp (p_soon h.1 h.2.1 h.W h.k) (fun o S1 r => r.imp (fun kk b S2 a => zAns3.P h rfl rfl a))
theorem s_holds {L : Nat} : t_holds (zInv L) := fun n S _ _ h => zC.imp (p_holds h.1 h.D h.2.1 h.W h.N h.T h.k) (fun o S1 r => r.imp (fun kk b S2 a => zAns4B.P h a))
theorem s_cheat {L : Nat} : t_cheat (zInv L) := fun n S _ _ _ _ h => zC.imp (p_cheat h.1 h.D h.2.1 h.W h.N h.T h.k) (fun o S1 r => r.imp (fun kk b S2 a => zAns4B.P h a))
theorem s_hidden {L : Nat} : t_hidden (zInv L) := fun n S _ _ _ h => zC.imp (p_hidden h.1 h.D h.2.1 h.W h.N h.T h.k) (fun o S1 r => r.imp (fun kk b S2 a => zAns4.P h a))
theorem s_right {L : Nat} : t_right (zInv L) := fun n S _ _ _ _ h => zC.imp (p_right h.1 h.D h.2.1 h.W h.N h.T h.k) (fun o S1 r => r.imp (fun kk b S2 a => zAns4.P h a))
theorem s_least {L : Nat} : t_least (zInv L) := fun n S _ _ _ _ h => zC.imp (p_least h.1 h.D h.2.1 h.W h.N h.T h.k) (fun o S1 r => r.imp (fun kk b S2 a => zAns4.P h a))
theorem s_kept {L : Nat} : t_kept (zInv L) := fun n S _ _ _ _ _ h => zC.imp (p_kept h.1 h.D h.2.1 h.W h.N h.T h.k) (fun o S1 r => r.imp (fun kk b S2 a => zAns4.P h a))
theorem s_envy {L : Nat} : t_envy (zInv L) := fun n S _ _ _ h => zC.imp (p_envy h.1 h.D h.2.1) (fun o S1 r => r.imp (fun kk b S2 a => zAns4.P h a))
theorem s_even {L : Nat} : t_even (zInv L) := fun n S _ _ h => zC.imp (p_even h.1 h.D h.2.1) (fun o S1 r => r.imp (fun kk b S2 a => zAns4.P h a))
theorem s_share {L : Nat} : t_share (zInv L) := fun n S _ _ _ h => zC.imp (p_share h.1 h.D h.2.1) (fun o S1 r => r.imp (fun kk b S2 a => zAns4.P h a))
theorem s_woman {L : Nat} : t_woman (zInv L) := fun n S _ _ h => zC.imp (p_woman h.1 h.D h.2.1) (fun o S1 r => r.imp (fun kk b S2 a => zAns4.P h a))
theorem s_agree {L : Nat} : t_agree (zInv L) := fun n S _ _ h => zC.imp (p_agree h.1 h.D h.2.1) (fun o S1 r => r.imp (fun kk b S2 a => zAns4.P h a))
theorem s_trade {L : Nat} : t_trade (zInv L) := fun n S _ _ h => zC.imp (p_trade h.1 h.D h.2.1) (fun o S1 r => r.imp (fun kk b S2 a => zAns4.P h a))
theorem s_whole {L : Nat} : t_whole (zInv L) := fun n S _ _ h => zC.imp (p_whole h.1 h.D h.2.1 h.Z) (fun o S1 r => r.imp (fun kk b S2 a => zAns4.P h a))
theorem s_can {L : Nat} : t_can (zInv L) := fun n S _ _ _ h => zC.imp (p_can h.1 h.D h.2.1 h.k) (fun o S1 r => r.imp (fun kk b S2 a => zAns4B.P h a))
theorem s_why {L : Nat} : t_why (zInv L) := fun n S _ _ h => zC.imp (p_why h.1 h.D h.2.1 h.k) (fun o S1 r => r.imp (fun kk b S2 a => zAns4.P h a))
theorem s_find {L : Nat} : t_find (zInv L) := fun n S _ _ _ _ _ _ h => zC.imp (p_find h.1 h.D h.2.1 h.T h.k) (fun o S1 r => r.imp (fun kk b S2 a => zAns4.P h a))
