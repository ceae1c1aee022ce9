/-! A VALLEY's text: the object's loop -/
theorem zWo {S : ZSt} {a c : Nat} {f : Nat → Int32} (h : c ≠ a) : zI (zwI S a f) c = zI S c := (zwI_o h).1
theorem zWs {S : ZSt} {a : Nat} {f : Nat → Int32} : zI (zwI S a f) a = f := va_up_self (zI S) a f
def zSn (sn : Nat → Nat) (m : Nat) : Prop := (∀ j, j < 6 → sn j ≤ 1) ∧ sn 0 + sn 1 + sn 2 + sn 3 + sn 4 + sn 5 = m
theorem zSn.le {sn : Nat → Nat} {m : Nat} (h : zSn sn m) : m ≤ 6 := by
  have h0 := h.1 0 (by omega)
  have h1 := h.1 1 (by omega)
  have h2 := h.1 2 (by omega)
  have h3 := h.1 3 (by omega)
  have h4 := h.1 4 (by omega)
  have h5 := h.1 5 (by omega)
  have := h.2
  omega
theorem zSn.put {sn : Nat → Nat} {m i : Nat} (h : zSn sn m) (hi : i < 6) (h0 : sn i = 0) : zSn (upN sn i 1) (m + 1) := by
  refine ⟨fun j hj => ?_, ?_⟩
  · unfold upN
    split
    · omega
    · exact h.1 j hj
  · have := h.2
    unfold upN
    rcases (show i = 0 ∨ i = 1 ∨ i = 2 ∨ i = 3 ∨ i = 4 ∨ i = 5 by omega) with rfl | rfl | rfl | rfl | rfl | rfl <;> simp <;> omega
def vmx (i : Nat) : Nat := if i < 4 then vhi i else 1
def zTd (td : Nat → Nat) : Prop := ∀ i, i < 6 → vlo i ≤ td i ∧ td i ≤ vmx i
theorem vcl_r {b : Nat → Nat} {e p : Nat} {sn : Nat → Nat} {i v q : Nat} (h : vcl b e p sn = .inr (i, v, q)) : vlo i ≤ v ∧ v ≤ vmx i := by
  cases hi : ixN (sW 21) (tkW b e p) 0 with
  | none =>
    rw [vcl_n hi] at h
    cases h
  | some k =>
    have V := vcl_s (b := b) (e := e) (p := p) (sn := sn) hi
    rw [V] at h
    split at h
    · cases h
    · split at h
      · rename_i k4
        split at h
        · split at h
          · rename_i hv
            split at h
            · cases h
              unfold vmx
              rw [if_pos k4]
              exact hv
            · cases h
          · cases h
        · cases h
      · rename_i k4
        split at h
        · cases h
          unfold vmx vlo
          rw [if_neg k4, if_neg (by omega)]
          omega
        · cases h
theorem zTd.put {td : Nat → Nat} {i v : Nat} (h : zTd td) (hv : vlo i ≤ v ∧ v ≤ vmx i) : zTd (upN td i v) := fun j hj => by
  unfold upN
  by_cases e : j = i
  · rw [if_pos e, e]
    exact hv
  · rw [if_neg e]
    exact h j hj
theorem vlp_s {b : Nat → Nat} {e f p : Nat} {sn td : Nat → Nat} {m : Nat} : vlp b e (f + 1) p sn td m = if tkK b e p = 0 then .inr (td, m) else match vcl b e p sn with
    | .inl x => .inl x
    | .inr y => vlp b e f y.2.2 (upN sn y.1 1) (upN td y.1 y.2.1) (m + 1) := rfl
theorem w_VR_r24 {b : Nat → Nat} {e : Nat} {Q : ZOut → ZSt → Prop} : ∀ (f m p : Nat) (sn td : Nat → Nat) {S : ZSt}, f + m = 7 → zSh S → zCst S → jTx S b e → p ≤ e → jTo S b e p → jRw S 80 sn → zSn sn m → jRw S 79 td → zTd td → zI S 78 2 = nI m → (∀ k t, vlp b e f p sn td m = .inl (k, t) → ∀ S', zVr S S' → zI S' 76 7 = nI k → zI S' 76 8 = nI t → Q (.inl (some (.int (nI 0)))) S') → (∀ d c, vlp b e f p sn td m = .inr (d, c) → c ≤ 6 → zTd d → ∀ S', zVr S S' → jRw S' 79 d → zI S' 78 2 = nI c → zI S' 76 8 = zI S 76 8 → Q (.inl (some (.int (nI 1)))) S') → zW 8 m_VR_reads 24 [some (.ref 78), some (.ref 76), some (.int (nI m))] [] S Q
  | 0, m, p, sn, td, S, hf, hS, hC, hx, hp, ht, hs, hn, hd, hz, h2, bad, ok => by
    have := hn.le
    omega
  | f + 1, m, p, sn, td, S, hf, hS, hC, hx, hp, ht, hs, hn, hd, hz, h2, bad, ok => by
    have hm := hn.le
    have kl := tkK_le (b := b) (e := e) (p := p)
    rw [vlp_s] at bad ok
    refine b_VR_reads_24 hS ⟨fun h9 => absurd h9 (nI_nlt (by omega) (by omega)), fun _ => ?_⟩
    rw [ht.2.2.1]
    refine ⟨fun h9 => ⟨by decide, ?_⟩, fun h9 => ?_⟩
    · have k0 : tkK b e p = 0 := (nI_z (by omega)).mp h9
      rw [if_pos k0] at ok
      exact ok td m rfl hm hz S zVr.rf hd h2 rfl
    · rw [if_neg (fun z => h9 (by rw [z]; rfl))] at bad ok
      refine w_VR_clause hS hC hx hp ht hs hn.1 hd (fun k t hv S1 j1 a7 a8 => b_VR_reads_33 (j1.1.sh hS) ⟨fun h8 => absurd rfl h8, fun _ => ⟨by decide, ?_⟩⟩) (fun i v q hv i6 s0 hq S1 j1 t1 r80 r79 a8 a78 => b_VR_reads_33 (j1.1.sh hS) ⟨fun _ => ?_, fun h8 => absurd (by decide) h8⟩)
      · rw [hv] at bad
        exact bad k t rfl S1 j1 a7 a8
      · rw [hv] at bad ok
        rw [a78, h2, nI_add]
        have j2 : zVr S1 (zsI S1 78 2 (nI (m + 1))) := zVr.I rfl
        have e76 : zI (zsI S1 78 2 (nI (m + 1))) 76 = zI S1 76 := zI_ne _ _ (by omega)
        exact w_VR_r24 f (m + 1) q (upN sn i 1) (upN td i v) (by omega) (j2.1.sh (j1.1.sh hS)) ((hC.J j1.1 rfl).J j2.1 rfl) ((hx.V j1).V j2) hq (t1.c e76) (r80.c (zI_ne _ _ (by omega))) (hn.put i6 s0) (r79.c (zI_ne _ _ (by omega))) (hz.put (vcl_r hv)) zI_s (fun k t h S' j => bad k t h S' ((j1.tr j2).tr j)) (fun d c h h6 hz' S' j r c2 c8 => ok d c h h6 hz' S' ((j1.tr j2).tr j) r c2 (by rw [c8, e76]; exact a8))
theorem w_VR_r9 {b : Nat → Nat} {e : Nat} {Q : ZOut → ZSt → Prop} : ∀ (f k : Nat) {S : ZSt}, f + k = 6 → zSh S → (∀ j, j < k → zI S 80 j = nI 0) → (∀ S', zVr S S' → (∀ c, c ≠ 78 → c ≠ 80 → zI S' c = zI S c) → (∀ j, j < 6 → zI S' 80 j = nI 0) → zI S' 78 2 = nI 0 → zW 8 m_VR_reads 24 [some (.ref 78), some (.ref 76), some (.int (nI 0))] [] S' Q) → zW 8 m_VR_reads 9 [some (.ref 78), some (.ref 76), some (.int (nI k))] [] S Q
  | 0, k, S, hf, hS, h0, hQ => b_VR_reads_9 hS ⟨fun _ => hQ _ (zVr.I rfl) (fun c a1 a2 => zI_ne _ _ a1) (fun j hj => by rw [zI_ne _ _ (by omega)]; exact h0 j (by omega)) zI_s, fun h9 => absurd (nI_le (show 6 ≤ k by omega) (by omega)) h9⟩
  | f + 1, k, S, hf, hS, h0, hQ => by
    refine b_VR_reads_9 hS ⟨fun h9 => absurd h9 (nI_ge (by omega) (by omega)), fun _ => ⟨zin (by omega) (by omega), ?_⟩⟩
    rw [nar0, zcl9 (by omega), nI_add]
    have j1 : zVr S (zsI S 80 k (nI 0)) := zVr.I rfl
    refine w_VR_r9 (b := b) (e := e) f (k + 1) (by omega) (j1.1.sh hS) (fun j hj => ?_) (fun S' j' c' r' s' => hQ S' (j1.tr j') (fun c a1 a2 => (c' c a1 a2).trans (zI_ne _ _ a2)) r' s')
    by_cases c : j = k
    · rw [c, zI_s]
    · rw [zI_o c]
      exact h0 j (by omega)
def tdW (i : Nat) : Nat := if i = 0 then 2 else if i = 2 then 24 else if i = 3 then 3 else 0
theorem tdW_c : ∀ i, i < 6 → (zcon.getD 1 []).getD i 0 = nI (tdW i) ∧ vlo i ≤ tdW i ∧ tdW i ≤ vmx i := by decide +kernel
theorem w_VR_reads {b : Nat → Nat} {e : Nat} {S : ZSt} {Q : ZOut → ZSt → Prop} (hS : zSh S) (hC : zCst S) (hx : jTx S b e) (ht : jTo S b e 0)
    (bad : ∀ k t, vlp b e 7 0 (fun _ => 0) tdW 0 = .inl (k, t) → ∀ S', zVr S S' → zI S' 76 7 = nI k → zI S' 76 8 = nI t → Q (.inl (some (.int (nI 0)))) S')
    (ok : ∀ d c, vlp b e 7 0 (fun _ => 0) tdW 0 = .inr (d, c) → c ≤ 6 → zTd d → ∀ S', zVr S S' → jRw S' 79 d → zI S' 78 2 = nI c → zI S' 76 8 = zI S 76 8 → Q (.inl (some (.int (nI 1)))) S') : zC m_VR_reads [.ref 78, .ref 76] S Q := by
  have n1 : zn S 1 = 6 := (hS.2.1 1 (by omega) (by omega)).trans rfl
  have n79 : zn S 79 = 6 := (hS.2.1 79 (by omega) (by omega)).trans rfl
  refine b_VR_reads hS ⟨(hS.1 1 (by omega)).trans rfl, (hS.1 79 (by omega)).trans rfl, by decide, by decide, by decide, ?_, ?_, ?_⟩
  · rw [n1]
    decide
  · rw [n79]
    decide
  · have j1 : zVr S (zwI S 79 (va_cpy (zI S 1) (zI S 79) (nI 0).toNatClampNeg (nI 0).toNatClampNeg (nI 6).toNatClampNeg)) := ⟨zJ.rf.W rfl, fun j hj => by
      have : zI (zwI S 79 (va_cpy (zI S 1) (zI S 79) (nI 0).toNatClampNeg (nI 0).toNatClampNeg (nI 6).toNatClampNeg)) 76 = zI S 76 := zWo (by omega)
      rw [this]⟩
    have e79 : jRw (zwI S 79 (va_cpy (zI S 1) (zI S 79) (nI 0).toNatClampNeg (nI 0).toNatClampNeg (nI 6).toNatClampNeg)) 79 tdW := fun j hj => by
      have : zI (zwI S 79 (va_cpy (zI S 1) (zI S 79) (nI 0).toNatClampNeg (nI 0).toNatClampNeg (nI 6).toNatClampNeg)) 79 = va_cpy (zI S 1) (zI S 79) 0 0 6 := zWs
      rw [this]
      unfold va_cpy
      rw [if_pos (by omega), show 0 + (j - 0) = j by omega, hC 1 j (by omega) (by omega)]
      exact (tdW_c j hj).1
    have e76 : zI (zwI S 79 (va_cpy (zI S 1) (zI S 79) (nI 0).toNatClampNeg (nI 0).toNatClampNeg (nI 6).toNatClampNeg)) 76 = zI S 76 := zWo (by omega)
    revert j1 e79 e76
    generalize zwI S 79 (va_cpy (zI S 1) (zI S 79) (nI 0).toNatClampNeg (nI 0).toNatClampNeg (nI 6).toNatClampNeg) = S1
    intro j1 e79 e76
    exact w_VR_r9 (b := b) (e := e) 6 0 (by omega) (j1.1.sh hS) (fun j hj => absurd hj (Nat.not_lt_zero j)) (fun S2 j2 c2 r2 s2 => w_VR_r24 7 0 0 (fun _ => 0) tdW (by omega) (j2.1.sh (j1.1.sh hS)) ((hC.J j1.1 rfl).J j2.1 rfl) ((hx.V j1).V j2) (Nat.zero_le _) (ht.c ((c2 76 (by omega) (by omega)).trans e76)) r2 ⟨fun _ _ => Nat.zero_le _, rfl⟩ (e79.c (c2 79 (by omega) (by omega))) (fun i hi => (tdW_c i hi).2) s2 (fun k t h S' j => bad k t h S' ((j1.tr j2).tr j)) (fun d c h h6 hz S' j r a2 a8 => ok d c h h6 hz S' ((j1.tr j2).tr j) r a2 (by rw [a8, c2 76 (by omega) (by omega), e76])))
/-- a new valley is taken over -/
theorem w_St_settle {d : Nat → Nat} {S : ZSt} {Q : ZOut → ZSt → Prop} (hS : zSh S) (hd : jRw S 79 d) (hQ : ∀ S', zJ [92, 93, 94, 95] S S' → jRw S' 93 d → (∀ j, j < 12 → zI S' 94 j = nI 0) → (∀ j, j < 24 → zI S' 95 j = nI 0) → zI S' 92 3 = nI 0 → Q (.inl none) S') : zC m_St_settle [.ref 92, .ref 79] S Q := by
  have n93 : zn S 93 = 6 := (hS.2.1 93 (by omega) (by omega)).trans rfl
  have n79 : zn S 79 = 6 := (hS.2.1 79 (by omega) (by omega)).trans rfl
  refine b_St_settle hS ⟨(hS.1 79 (by omega)).trans rfl, (hS.1 93 (by omega)).trans rfl, by decide, by decide, by decide, ?_, ?_, ?_⟩
  · rw [n79]
    decide
  · rw [n93]
    decide
  · have j1 : zJ [92, 93, 94, 95] S (zwI S 93 (va_cpy (zI S 79) (zI S 93) (nI 0).toNatClampNeg (nI 0).toNatClampNeg (nI 6).toNatClampNeg)) := zJ.rf.W rfl
    have e93 : jRw (zwI S 93 (va_cpy (zI S 79) (zI S 93) (nI 0).toNatClampNeg (nI 0).toNatClampNeg (nI 6).toNatClampNeg)) 93 d := fun j hj => by
      have : zI (zwI S 93 (va_cpy (zI S 79) (zI S 93) (nI 0).toNatClampNeg (nI 0).toNatClampNeg (nI 6).toNatClampNeg)) 93 = va_cpy (zI S 79) (zI S 93) 0 0 6 := zWs
      rw [this]
      unfold va_cpy
      rw [if_pos (by omega), show 0 + (j - 0) = j by omega]
      exact hd j hj
    revert j1 e93
    generalize zwI S 93 (va_cpy (zI S 79) (zI S 93) (nI 0).toNatClampNeg (nI 0).toNatClampNeg (nI 6).toNatClampNeg) = S1
    intro j1 e93
    have hS1 := j1.sh hS
    refine w_JA_fill hS1 (N := 12) ⟨(hS1.1 94 (by omega)).trans rfl, (hS1.2.1 94 (by omega) (by omega)).trans rfl⟩ (by omega) (fun S2 j2 a2 => b_St_settle_11 (j2.sh hS1) ?_)
    have hS2 := j2.sh hS1
    refine w_JA_fill hS2 (N := 24) ⟨(hS2.1 95 (by omega)).trans rfl, (hS2.2.1 95 (by omega) (by omega)).trans rfl⟩ (by omega) (fun S3 j3 a3 => b_St_settle_15 (j3.sh hS2) ⟨Or.inl rfl, hQ _ (((j1.tr ⟨j2.1, fun c hc => j2.2 c (zsub_of rfl c hc)⟩).tr ⟨j3.1, fun c hc => j3.2 c (zsub_of rfl c hc)⟩).I rfl) ?_ (fun j hj => ?_) (fun j hj => ?_) zI_s⟩)
    · refine e93.c ?_
      rw [zI_ne _ _ (by omega), j3.2 93 rfl, j2.2 93 rfl]
    · rw [zI_ne _ _ (by omega), j3.2 94 rfl]
      exact a2 j hj
    · rw [zI_ne _ _ (by omega)]
      exact a3 j hj
