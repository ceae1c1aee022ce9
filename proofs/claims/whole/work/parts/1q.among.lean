/-! The object's tape: which word, which sign -/
theorem pkS_cg {g h : Nat → Nat} : ∀ (m p q v : Nat), (∀ j, j < m → g (p + j) = h (q + j)) → pkS g p m v = pkS h q m v
  | 0, _, _, _, _ => rfl
  | m + 1, p, q, v, e => by
    show pkS g (p + 1) m (32 * v + (g p - 96)) = pkS h (q + 1) m (32 * v + (h q - 96))
    have e0 := e 0 (by omega)
    rw [Nat.add_zero, Nat.add_zero] at e0
    rw [e0]
    refine pkS_cg m (p + 1) (q + 1) _ (fun j hj => ?_)
    have := e (j + 1) (by omega)
    rw [show p + 1 + j = p + (j + 1) by omega, show q + 1 + j = q + (j + 1) by omega]
    exact this
theorem tkE_1 {b : Nat → Nat} {e p : Nat} (h : tkK b e p = 1) : tkE b e p = rnE b e 1 (e - tkS b e p) (tkS b e p) := by
  unfold tkE
  rw [if_neg (by omega), h]
theorem tkE_ge {b : Nat → Nat} {e p : Nat} : tkS b e p ≤ tkE b e p := by
  unfold tkE
  split
  · omega
  · exact (rnE_ge _ _).1
theorem tkW_eq {b : Nat → Nat} {e p : Nat} : tkW b e p = if rnE b e 1 (e - tkS b e p) (tkS b e p) - tkS b e p ≤ 6 then pkS b (tkS b e p) (rnE b e 1 (e - tkS b e p) (tkS b e p) - tkS b e p) 0 else 0 := by
  unfold tkW
  rw [wv_eq (e := e), Nat.zero_add]
theorem tkW_is {b g : Nat → Nat} {e p fr m : Nat} (hg : ∀ j, j < m → isL (g (fr + j))) (hm : 1 ≤ m ∧ m ≤ 6) : tkW b e p = pkS g fr m 0 ↔ (tkK b e p = 1 ∧ tkE b e p - tkS b e p = m ∧ ∀ j, j < m → g (fr + j) = b (tkS b e p + j)) := by
  have hge := rnE_ge (b := b) (e := e) (kd := 1) (e - tkS b e p) (tkS b e p)
  have hL : ∀ j, j < rnE b e 1 (e - tkS b e p) (tkS b e p) - tkS b e p → isL (b (tkS b e p + j)) := fun j hj => kOf_1.mp (rnE_k (e := e) (e - tkS b e p) (tkS b e p) (tkS b e p + j) (by omega) (by omega))
  rw [tkW_eq]
  refine ⟨fun h => ?_, fun ⟨h1, h2, h3⟩ => ?_⟩
  · by_cases c : rnE b e 1 (e - tkS b e p) (tkS b e p) - tkS b e p ≤ 6
    · rw [if_pos c] at h
      obtain ⟨e1, e2⟩ := pkS_inj _ _ hL hg h
      have lt : tkS b e p < e := by omega
      have k1 : tkK b e p = 1 := by
        unfold tkK
        rw [if_pos lt]
        exact kOf_1.mpr (hL 0 (by omega))
      refine ⟨k1, by rw [tkE_1 k1]; exact e1, fun j hj => (e2 j (by omega)).symm⟩
    · rw [if_neg c] at h
      obtain ⟨e1, e2⟩ := pkS_inj (g := g) (h := g) (p := fr) (q := 0) m 0 hg (fun j hj => absurd hj (Nat.not_lt_zero j)) h.symm
      omega
  · rw [tkE_1 h1] at h2
    rw [h2, if_pos hm.2]
    exact pkS_cg _ _ _ _ (fun j hj => (h3 j hj).symm)
theorem w_Ta_isW17 {S : ZSt} {r n fr to : Nat} {b g : Nat → Nat} {e p : Nat} {Q : ZOut → ZSt → Prop} (hS : zSh S) (hg : zStg S r n g) (hx : jTx S b e) (ht : jTo S b e p) (h2 : to ≤ n) (hl : tkS b e p + (to - fr) ≤ e) (ok : (∀ j, j < to - fr → g (fr + j) = b (tkS b e p + j)) → Q (.inl (some (.int (nI 1)))) S) (no : ¬ (∀ j, j < to - fr → g (fr + j) = b (tkS b e p + j)) → Q (.inl (some (.int (nI 0)))) S) : ∀ (f i : Nat), f + i = to → fr ≤ i → (∀ j, j < i - fr → g (fr + j) = b (tkS b e p + j)) → zW 5 m_Ta_isWord 17 [some (.ref 76), some (.ref r), some (.int (nI fr)), some (.int (nI to)), some (.int (nI i))] [] S Q
  | 0, i, hf, hi, hj => by
    have he := hx.1
    have hn := hg.2.1.2.2
    exact b_Ta_isWord_17 hS ⟨fun _ => ⟨by decide, ok (fun j h9 => hj j (by omega))⟩, fun h9 => absurd (nI_le (show to ≤ i by omega) (by omega)) h9⟩
  | f + 1, i, hf, hi, hj => by
    have he := hx.1
    have hn := hg.2.1.2.2
    have hb := hx.2.2 (tkS b e p + (i - fr)) (by omega)
    have hc := (hg.2.2 i (by omega)).2
    refine b_Ta_isWord_17 hS ⟨fun h9 => absurd h9 (nI_ge (by omega) (by omega)), fun _ => ⟨hg.1.1, w_JS_charAt hS hg (by omega) (b_Ta_isWord_23 hS ?_)⟩⟩
    rw [ht.1, nI_add, pk_sub (by omega), show tkS b e p + i - fr = tkS b e p + (i - fr) by omega, zcl9 (by omega), hb.2, nI_add]
    refine ⟨zin (by omega) (by omega), fun h9 => w_Ta_isW17 hS hg hx ht h2 hl ok no f (i + 1) (by omega) (by omega) (fun j h8 => ?_), fun h9 => ⟨by decide, no (fun z => h9 ?_)⟩⟩
    · by_cases c : j < i - fr
      · exact hj j c
      · have e1 : j = i - fr := by omega
        subst e1
        rw [show fr + (i - fr) = i by omega]
        exact nEq (by omega) (by omega) h9
    · have := z (i - fr) (by omega)
      rw [show fr + (i - fr) = i by omega] at this
      rw [this]
theorem w_Ta_isWord {S : ZSt} {r n fr to : Nat} {b g : Nat → Nat} {e p : Nat} {Q : ZOut → ZSt → Prop} (hS : zSh S) (hg : zStg S r n g) (hx : jTx S b e) (hp : p ≤ e) (ht : jTo S b e p) (h2 : to ≤ n) (hL : ∀ j, j < to - fr → isL (g (fr + j))) (hm : fr + 1 ≤ to ∧ to ≤ fr + 6) (ok : tkW b e p = pkS g fr (to - fr) 0 → Q (.inl (some (.int (nI 1)))) S) (no : ¬ tkW b e p = pkS g fr (to - fr) 0 → Q (.inl (some (.int (nI 0)))) S) : zC m_Ta_isWord [.ref 76, .ref r, .int (nI fr), .int (nI to)] S Q := by
  have he := hx.1
  have hn := hg.2.1.2.2
  have kl := tkK_le (b := b) (e := e) (p := p)
  obtain ⟨s1, s2⟩ := tkS_le (b := b) hp
  have g1 := tkE_ge (b := b) (e := e) (p := p)
  have g2 := tkE_le (b := b) hp
  have I := tkW_is (b := b) (g := g) (e := e) (p := p) (fr := fr) (m := to - fr) hL (by omega)
  refine b_Ta_isWord hS ?_
  rw [ht.2.2.1, ht.2.1, ht.1, pk_sub g1, pk_sub (show fr ≤ to by omega)]
  refine ⟨fun h9 => ⟨by decide, no (fun z => h9 (by rw [(I.mp z).1]))⟩, fun h9 => ⟨fun h8 => ?_, fun h8 => ⟨by decide, no (fun z => h8 (by rw [(I.mp z).2.1]))⟩⟩⟩
  have k1 : tkK b e p = 1 := nEq (by omega) (by omega) (Classical.not_not.mp h9)
  have e1 : tkE b e p - tkS b e p = to - fr := nEq (by omega) (by omega) h8
  exact w_Ta_isW17 hS hg hx ht h2 (by omega) (fun z => ok (I.mpr ⟨k1, e1, z⟩)) (fun z => no (fun y => z (I.mp y).2.2)) (to - fr) fr (by omega) (by omega) (fun j hj => absurd hj (by omega))
/-- the words of a list -/
def wcs (g : Nat → Nat) : Nat → Nat → Nat → List Nat
  | 0, _, _ => []
  | f + 1, fr, i => if f = 0 ∨ g i = 32 then pkS g fr (i - fr) 0 :: wcs g f (i + 1) (i + 1) else wcs g f fr (i + 1)
def wok (g : Nat → Nat) : Nat → Nat → Nat → Bool
  | 0, _, _ => true
  | f + 1, fr, i => if f = 0 ∨ g i = 32 then ((Nat.ble (fr + 1) i && Nat.ble i (fr + 6)) && (List.range (i - fr)).all (fun j => Nat.ble 97 (g (fr + j)) && Nat.ble (g (fr + j)) 122)) && wok g f (i + 1) (i + 1) else wok g f fr (i + 1)
def wix : List Nat → Nat → Nat → Int32
  | [], _, _ => - nI 1
  | c :: r, w, k => if w = c then nI k else wix r w (k + 1)
theorem w_Ta_wa6 {S : ZSt} {r n : Nat} {b g : Nat → Nat} {e p : Nat} {Q : ZOut → ZSt → Prop} (hS : zSh S) (hg : zStg S r n g) (hx : jTx S b e) (hp : p ≤ e) (ht : jTo S b e p) : ∀ (f fr i k : Nat), f + i = n + 1 → fr ≤ i → k ≤ i → wok g f fr i = true → Q (.inl (some (.int (wix (wcs g f fr i) (tkW b e p) k)))) S → zW 6 m_Ta_wordAmong 6 [some (.ref 76), some (.ref r), some (.int (nI k)), some (.int (nI fr)), some (.int (nI i))] [] S Q
  | 0, fr, i, k, hf, hi, hk, ho, hQ => by
    have hn := hg.2.1.2.2
    exact b_Ta_wordAmong_6 hS ⟨hg.1.1, w_JS_length hS hg (b_Ta_wordAmong_9 hS ⟨fun _ => hQ, fun h9 => absurd (nI_lt (show n < i by omega) (by omega)) h9⟩)⟩
  | f + 1, fr, i, k, hf, hi, hk, ho, hQ => by
    have hn := hg.2.1.2.2
    have e1 : wcs g (f + 1) fr i = if f = 0 ∨ g i = 32 then pkS g fr (i - fr) 0 :: wcs g f (i + 1) (i + 1) else wcs g f fr (i + 1) := rfl
    have e2 : wok g (f + 1) fr i = if f = 0 ∨ g i = 32 then ((Nat.ble (fr + 1) i && Nat.ble i (fr + 6)) && (List.range (i - fr)).all (fun j => Nat.ble 97 (g (fr + j)) && Nat.ble (g (fr + j)) 122)) && wok g f (i + 1) (i + 1) else wok g f fr (i + 1) := rfl
    rw [e1] at hQ
    rw [e2] at ho
    have W : (f = 0 ∨ g i = 32) → zcl 6 m_Ta_wordAmong m_Ta_isWord 41 23 [some (.ref 76), some (.ref r), some (.int (nI k)), some (.int (nI fr)), some (.int (nI i))] [] [.ref 76, .ref r, .int (nI fr), .int (nI i)] S Q := fun c => by
      rw [if_pos c] at hQ ho
      obtain ⟨h1, h2⟩ := zand ho
      obtain ⟨h11, h12⟩ := zand h1
      obtain ⟨h13, h14⟩ := zand h11
      have a1 := Nat.le_of_ble_eq_true h13
      have a2 := Nat.le_of_ble_eq_true h14
      have e3 : wix (pkS g fr (i - fr) 0 :: wcs g f (i + 1) (i + 1)) (tkW b e p) k = if tkW b e p = pkS g fr (i - fr) 0 then nI k else wix (wcs g f (i + 1) (i + 1)) (tkW b e p) (k + 1) := rfl
      rw [e3] at hQ
      refine w_Ta_isWord hS hg hx hp ht (by omega) (fun j hj => ?_) ⟨a1, a2⟩ (fun z => b_Ta_wordAmong_24 hS ⟨fun h9 => absurd h9 (by decide), fun _ => ?_⟩) (fun z => b_Ta_wordAmong_24 hS ⟨fun _ => ?_, fun h9 => absurd (by decide) h9⟩)
      · obtain ⟨b1, b2⟩ := zand (List.all_eq_true.mp h12 j (List.mem_range.mpr hj))
        exact ⟨Nat.le_of_ble_eq_true b1, Nat.le_of_ble_eq_true b2⟩
      · rw [if_pos z] at hQ
        exact hQ
      · rw [if_neg z] at hQ
        rw [nI_add, nI_add]
        exact w_Ta_wa6 hS hg hx hp ht f (i + 1) (i + 1) (k + 1) (by omega) (by omega) (by omega) h2 hQ
    refine b_Ta_wordAmong_6 hS ⟨hg.1.1, w_JS_length hS hg (b_Ta_wordAmong_9 hS ⟨fun h9 => absurd h9 (nI_nlt (by omega) (by omega)), fun _ => ⟨hg.1.1, w_JS_length hS hg (b_Ta_wordAmong_13 hS ⟨fun h9 => W (Or.inl ?_), fun h9 => ⟨hg.1.1, w_JS_charAt hS hg ?_ (b_Ta_wordAmong_17 hS ⟨fun h8 => ?_, fun h8 => W (Or.inr ?_)⟩)⟩⟩)⟩⟩)⟩
    · have : i = n := nEq (by omega) (by omega) h9
      omega
    · by_cases c : i = n
      · exact absurd (by rw [c]) h9
      · omega
    · have c1 : ¬ (f = 0 ∨ g i = 32) := by
        rintro (c | c)
        · exact h9 (by rw [show i = n by omega])
        · exact h8 (by rw [c])
      rw [if_neg c1] at hQ ho
      rw [nI_add]
      exact w_Ta_wa6 hS hg hx hp ht f fr (i + 1) k (by omega) (by omega) (by omega) ho hQ
    · by_cases c : i = n
      · exact absurd (by rw [c]) h9
      · have := (hg.2.2 i (by omega)).2
        exact nEq (by omega) (by omega) (Classical.not_not.mp h8)
def sW (r : Nat) : List Nat := wcs (sG r) ((sB r).length + 1) 0 0
theorem sW_ok : [7, 11, 13, 19, 21, 23].all (fun r => wok (sG r) ((sB r).length + 1) 0 0) = true := by decide +kernel
theorem w_Ta_wordAmong {S : ZSt} {r : Nat} {b : Nat → Nat} {e p : Nat} {Q : ZOut → ZSt → Prop} (hr : ((List.range 34).any (fun k => Nat.beq r (7 + 2 * k)) && [7, 11, 13, 19, 21, 23].contains r) = true) (hS : zSh S) (hC : zCst S) (hx : jTx S b e) (hp : p ≤ e) (ht : jTo S b e p) (hQ : Q (.inl (some (.int (wix (sW r) (tkW b e p) 0)))) S) : zC m_Ta_wordAmong [.ref 76, .ref r] S Q := by
  obtain ⟨h1, h2⟩ := zand hr
  exact b_Ta_wordAmong hS (w_Ta_wa6 hS (zstg hS hC h1) hx hp ht ((sB r).length + 1) 0 0 0 (by omega) (by omega) (by omega) (List.all_eq_true.mp sW_ok r (List.contains_iff_mem.mp h2)) hQ)
/-- what stands at p, blanks passed; 0 at the end -/
def hr (b : Nat → Nat) (e p : Nat) : Nat := if tkS b e p < e then b (tkS b e p) else 0
theorem hr_is {b : Nat → Nat} {e p c : Nat} (h3 : kOf c = 3) (h0 : c ≠ 0) : hr b e p = c ↔ (tkK b e p = 3 ∧ b (tkS b e p) = c) := by
  unfold hr tkK
  by_cases lt : tkS b e p < e
  · rw [if_pos lt, if_pos lt]
    exact ⟨fun h => ⟨by rw [h]; exact h3, h⟩, fun h => h.2⟩
  · rw [if_neg lt, if_neg lt]
    omega
def six (g : Nat → Nat) : Nat → Nat → Nat → Int32
  | 0, _, _ => - nI 1
  | f + 1, i, c => if c = g i then nI i else six g f (i + 1) c
theorem w_Ta_sa2 {S : ZSt} {r n : Nat} {b g : Nat → Nat} {e p : Nat} {Q : ZOut → ZSt → Prop} (hS : zSh S) (hg : zStg S r n g) (h3 : ∀ j, j < n → kOf (g j) = 3 ∧ g j ≠ 0) (hx : jTx S b e) (hp : p ≤ e) (ht : jTo S b e p) : ∀ (f i : Nat), f + i = n → Q (.inl (some (.int (six g f i (hr b e p))))) S → zW 5 m_Ta_signAmong 2 [some (.ref 76), some (.ref r), some (.int (nI i))] [] S Q
  | 0, i, hf, hQ => by
    have hn := hg.2.1.2.2
    exact b_Ta_signAmong_2 hS ⟨hg.1.1, w_JS_length hS hg (b_Ta_signAmong_5 hS ⟨fun _ => hQ, fun h9 => absurd (nI_le (show n ≤ i by omega) (by omega)) h9⟩)⟩
  | f + 1, i, hf, hQ => by
    have hn := hg.2.1.2.2
    have e1 : six g (f + 1) i (hr b e p) = if hr b e p = g i then nI i else six g f (i + 1) (hr b e p) := rfl
    rw [e1] at hQ
    obtain ⟨k3, k0⟩ := h3 i (by omega)
    have I := hr_is (b := b) (e := e) (p := p) k3 k0
    have gl := (hg.2.2 i (by omega)).2
    refine b_Ta_signAmong_2 hS ⟨hg.1.1, w_JS_length hS hg (b_Ta_signAmong_5 hS ⟨fun h9 => absurd h9 (nI_ge (by omega) (by omega)), fun _ => ⟨hg.1.1, w_JS_charAt hS hg (by omega) (b_Ta_signAmong_10 hS (w_Ta_isSign (by omega) hS hx hp ht (fun a1 a2 => b_Ta_signAmong_11 hS ⟨fun h9 => absurd h9 (by decide), fun _ => ?_⟩) (fun a1 => b_Ta_signAmong_11 hS ⟨fun _ => ?_, fun h9 => absurd (by decide) h9⟩)))⟩⟩)⟩
    · rw [if_pos (I.mpr ⟨a1, a2⟩)] at hQ
      exact hQ
    · rw [if_neg (fun z => a1 (I.mp z))] at hQ
      rw [nI_add]
      exact w_Ta_sa2 hS hg h3 hx hp ht f (i + 1) (by omega) hQ
theorem sS_ok : [9, 15, 17].all (fun r => (List.range (sB r).length).all (fun j => Nat.beq (kOf (sG r j)) 3 && Nat.blt 0 (sG r j))) = true := by decide +kernel
theorem w_Ta_signAmong {S : ZSt} {r : Nat} {b : Nat → Nat} {e p : Nat} {Q : ZOut → ZSt → Prop} (hr' : ((List.range 34).any (fun k => Nat.beq r (7 + 2 * k)) && [9, 15, 17].contains r) = true) (hS : zSh S) (hC : zCst S) (hx : jTx S b e) (hp : p ≤ e) (ht : jTo S b e p) (hQ : Q (.inl (some (.int (six (sG r) (sB r).length 0 (hr b e p))))) S) : zC m_Ta_signAmong [.ref 76, .ref r] S Q := by
  obtain ⟨h1, h2⟩ := zand hr'
  refine b_Ta_signAmong hS (w_Ta_sa2 hS (zstg hS hC h1) (fun j hj => ?_) hx hp ht (sB r).length 0 (by omega) hQ)
  obtain ⟨a1, a2⟩ := zand (List.all_eq_true.mp (List.all_eq_true.mp sS_ok r (List.contains_iff_mem.mp h2)) j (List.mem_range.mpr hj))
  have b1 := Nat.eq_of_beq_eq_true a1
  have b2 : 0 < sG r j := Nat.le_of_ble_eq_true a2
  exact ⟨b1, by omega⟩
