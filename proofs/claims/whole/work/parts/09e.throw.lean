/-! A method's throw -/
def znms : List String := ["java/lang/RuntimeException", "java/lang/Exception"]
def zthl : List (Nat × Nat) := [(0, 391), (1, 394), (2, 397), (3, 400)]
set_option maxRecDepth 100000 in
theorem zthr_words : zthl.all (fun q => (vx_at0 RX11 q.2 (zexn.getD q.1 "") znms).all (fun w => decide (w ∈ lw_tbl) && (goodWord w || zbw w))) = true := by decide +kernel
set_option maxRecDepth 100000 in
theorem zthr_ot : zthl.all (fun q => (vx_at0 RX11 q.2 (zexn.getD q.1 "") znms).all (fun w => vx_ot w)) = true := by decide +kernel
set_option maxRecDepth 100000 in
theorem zthr_ini : zthl.all (fun q => decide (Cond.initialized (zexn.getD q.1 "") ∈ lw_tbl) && (goodWord (.initialized (zexn.getD q.1 "")) && Bundle.fit (zexn.getD q.1 ""))) = true := by decide +kernel
theorem znms_fit : ∀ n ∈ znms, Bundle.fit n = true := by decide +kernel
section ZThrow
variable {p : Program} {l : Launch} {e : Env} {R : Room} {s : State} {m : MethodId} {args : Array Value} {below : List Frame} {meth : Method} {c : Code} {M : ZMt} {cad : Nat → Nat} {tc : Nat → ClassId} {D : va_G} {S0 : ZSt} {A : Nat → Prop} {ws0 : va_W} {c0 z0 : Nat}
variable {i pc len : Nat} {ls : ZLo} {S : ZSt}
theorem zs_throw {x y k : Nat} (C : zCx p l R s m args meth c M cad S0 A) (hp : zpcOf M i = pc) (d0 : decode (zmCode M) pc = .ok (.new x, 3)) (d3 : decode (zmCode M) (pc + 3) = .ok (.dup, 1)) (d4 : decode (zmCode M) (pc + 4) = .ok (.invokespecial y, 3)) (d7 : decode (zmCode M) (pc + 7) = .ok (.athrow, 1))
    (hk : (k, y) ∈ zthl) (hk4 : k < 4) (ho : zmOwn M = 11) (ht0 : zmTab M = []) (hw : zcl? (zmOwn M) x (1000 + k) = true) (hcell : zu S + 1 - c0 ≤ R.cells) (hslot : zz S + 6 - z0 ≤ R.slots) :
    zGo p l e R s m args below meth c (vx_MQ below (zQc cad tc D S0 A ws0 (.inr k) (zThr S)) (zXC cad tc D S0 A ws0 (.inr k) (zThr S)) args s (zu (zThr S) - c0) (zz (zThr S) - z0) A) M cad tc D S0 A ws0 c0 z0 i ls [] S := by
  obtain ⟨hx, hb, hml, hown, hts, hlk, hrt, hin, htr, hA, hKc, hKw, htab, hRf, hRl⟩ := C
  intro ws H locs ar sr hW hL hl hS hc hz
  obtain ⟨hK, hP, hD, hSS, hR, hKn, hX⟩ := hW
  cases hS.nil
  rw [hp]
  have hlink : Cond.classLink (zcn (zmOwn M)) x (zexn.getD k "") ∈ zTB := by
    have := zcl_spec hw
    rwa [show zclnm (1000 + k) = zexn.getD k "" by unfold zclnm; rw [if_neg (by omega), if_pos (by omega), show 1000 + k - 1000 = k by omega]] at this
  rw [ho] at hown hlink
  have hi9 := List.all_eq_true.mp zthr_ini _ hk
  have hini : Cond.initialized (zexn.getD k "") ∈ zTB := List.mem_filter.mpr ⟨of_decide_eq_true (zand hi9).1, (zand (zand hi9).2).1⟩
  have hw9 := List.all_eq_true.mp (List.all_eq_true.mp zthr_words _ hk)
  have hot := List.all_eq_true.mp (List.all_eq_true.mp zthr_ot _ hk)
  have hat : ∀ w ∈ vx_at0 RX11 y (zexn.getD k "") znms, w.before args s = true := fun w h9 => by
    have h8 := zand (hw9 w h9)
    have h7 := of_decide_eq_true h8.1
    rcases zor h8.2 with h | h
    · exact hts w (List.mem_filter.mpr ⟨h7, h⟩)
    · have h6 := hKw.2.2.2.2.2.2.2.2 w h7 h
      refine va_Nw.use ?_ h6
      cases w <;> first
        | rfl
        | cases h
  have e1 : zu (zThr S) = zu S + 1 := rfl
  have e2 : zz (zThr S) = zz S + 6 := rfl
  exact vx_throw0 (names := znms) (ik := x) (ic := y) (A := A) hx hb htr hown (zand (zand hi9).2).2 znms_fit (hts _ hlink) (hts _ hini) hat
    (fun w h9 => by
      rcases List.mem_cons.mp h9 with rfl | h9
      · rfl
      · rcases List.mem_cons.mp h9 with rfl | h9
        · rfl
        · exact hot w h9) hKc.2.2.2.2.2.2.2.2.1 hKc.2.2.2.2.2.2.2.2.2 hSS (by rw [hL.1, hl, hml]) d0 d3 d4 d7 (by rw [htab, ht0]; exact fun z hz => nomatch hz) (by show 2 + 3 < R.frames; omega) (by show 0 + (13 * (2 + 1) + 42) ≤ R.locals; omega) (by omega) (by omega) hlk
    (fun t hvm hsz hkeep => ⟨ws, k, rfl, hk4, rfl, hP.kept (fun j y9 hy9 => hkeep _ (hP j y9 hy9).lt), hD, ⟨hR.1, fun j q hq => (hR.2 j q hq).same rfl rfl rfl rfl rfl⟩, fun j hj => hKn j hj, hX, Nat.le_trans hSS.1 hsz, fun q g1 g2 => by
      rw [hkeep q (Nat.lt_of_lt_of_le g1 hSS.1)]
      exact hSS.2.1 q g1 g2⟩) hSS.2.2 (by omega) (by omega)
end ZThrow
