/-! The law's entry: the constants have addresses -/
theorem zcls0_k : (List.range 75).all (fun k => decide (zcls0 k = 104 ∨ zcls0 k = 105 ∨ zcls0 k = 103 ∨ zcls0 k = 15)) = true := by decide +kernel
theorem zcls0_104 {k : Nat} (h : zcls0 k = 104) : 0 < k ∧ k < 7 := by
  unfold zcls0 at h
  split at h
  · omega
  · split at h
    · omega
    · split at h
      · split at h <;> omega
      · omega
theorem zcls0_105 {k : Nat} (h : zcls0 k = 105) : k = 0 := by
  unfold zcls0 at h
  split at h
  · assumption
  · split at h
    · omega
    · split at h
      · split at h <;> omega
      · omega
theorem zcls0_103 {k : Nat} (h : zcls0 k = 103) : ∃ j, j < 34 ∧ k = 8 + 2 * j := by
  unfold zcls0 at h
  split at h
  · omega
  · split at h
    · omega
    · split at h
      · split at h
        · omega
        · exact ⟨(k - 8) / 2, by omega, by omega⟩
      · omega
theorem zcls0_15 {k : Nat} (h : zcls0 k = 15) : ∃ j, j < 34 ∧ k = 7 + 2 * j := by
  unfold zcls0 at h
  split at h
  · omega
  · split at h
    · omega
    · split at h
      · split at h
        · exact ⟨(k - 7) / 2, by omega, by omega⟩
        · omega
      · omega
theorem zSTR_len : zSTR.length = 34 := by decide +kernel
section ZEntry2
variable {s : State} {b L : Nat} {xs : Nat → Int32}
theorem zentryK {args : Array Value} (hts : ∀ w ∈ lw_tbl, w.before args s = true) : ∃ (tc : Nat → ClassId) (D : va_G), va_K D vwCl (ztys tc) s := by
  have ht9 : ∀ w ∈ zTB, w.before args s = true := fun w hw => hts w (List.mem_filter.mp hw).1
  have hl : ∀ {j : Nat} {w : Cond}, lw_tbl[j]? = some w → w.before args s = true := fun e => hts _ (List.mem_of_getElem? e)
  have h0 : ∀ ci : Nat, ∃ q : ClassId × (Nat → Nat), ci < 13 → u_Kn s (zcn ci) (zT ci) (zfn ci) q.1 q.2 := fun ci => by
    by_cases hci : ci < 13
    · obtain ⟨cC, iS, h⟩ := u_known (T := zT ci) (N := zfn ci) ht9 (zlay_at hci) (ht9 _ (zin_at hci).1)
      exact ⟨(cC, iS), fun _ => h⟩
    · exact ⟨(0, fun _ => 0), fun h => absurd h hci⟩
  obtain ⟨f, hf⟩ := Classical.axiomOfChoice h0
  have hpr : ∀ ty : FieldType, Cond.arrayClass ty ∈ zTB → (∀ C, ty ≠ .object C) → ∃ c : ClassId, ArrOfT s c ty ∧ va_RA s c ty := fun ty hty hno => by
    obtain ⟨c, k, comp, h1, h2, h3⟩ := Cond.arrayClass_spec (args := args) (first := s) (o := none) (s := s) (idx := []) (ht9 _ hty)
    refine ⟨c, fun N z => ⟨(fun k h => by cases h), k, h2, comp, h3⟩, ?_⟩
    cases ty with
    | object C => exact absurd rfl (hno C)
    | _ => exact h1
  have hrf : ∀ C : String, (Cond.arrayOver (.object C)).before args s = true → ∃ c : ClassId, ArrOfT s c (.object C) ∧ va_RA s c (.object C) := fun C hC => by
    obtain ⟨comp, c, k, h1, h2, h3, h4, h5⟩ := Cond.arrayOver_spec (args := args) (first := s) (o := none) (s := s) (idx := []) hC
    exact ⟨c, fun N z => ⟨(fun k h => by cases h), k, h3, comp, h4⟩, k, comp, h3, h4, h1, h5⟩
  obtain ⟨cI, hI⟩ := hpr .int zx_int (fun C h => by cases h)
  obtain ⟨cL, hLg⟩ := hpr .long zx_long (fun C h => by cases h)
  obtain ⟨cZ, hZ⟩ := hpr .boolean zx_bool (fun C h => by cases h)
  obtain ⟨c3, h3⟩ := hrf RX3 (hl zy_overRX3)
  obtain ⟨c5, h5⟩ := hrf RX5 (hl zy_overRX5)
  obtain ⟨c9, h9⟩ := hrf RX9 (hl zy_overRX9)
  refine ⟨fun t => if t = 100 then cI else if t = 101 then cL else if t = 102 then cZ else if t = 113 then c3 else if t = 115 then c5 else c9, (fun ci => (f ci).1, fun ci => (f ci).2), fun c q hq => ?_, fun k q hq => ?_⟩
  · by_cases hc : c < 13
    · rw [zcl_at hc] at hq
      cases hq
      exact hf c hc
    · have : c < 13 := (List.getElem?_eq_some_iff.mp hq).1
      exact absurd this hc
  · match k, hq with
    | 0, hq => cases hq; exact hI
    | 1, hq => cases hq; exact hLg
    | 2, hq => cases hq; exact hZ
    | 3, hq => cases hq; exact h3
    | 4, hq => cases hq; exact h5
    | 5, hq => cases hq; exact h9
    | k + 6, hq => cases hq
theorem zentry (hts : ∀ w ∈ lw_tbl, w.before #[Value.ref b] s = true) (hX : va_X b L xs s s.heap) (hbl : b < s.heap.size) (hgv : (Jvm.Cond.and given_1 narrow_1).before #[Value.ref b] s = true) :
    ∃ cad : Nat → Nat, cad 0 = b ∧ zKc cad (zS0 L xs) (fun q => s.heap.size ≤ q) s s.heap ∧ zKw cad s := by
  have hs : ∀ w ∈ zfl, w.before #[Value.ref b] s = true := flat_of_before _ hgv
  have hl : ∀ {j : Nat} {w : Cond}, lw_tbl[j]? = some w → w.before #[Value.ref b] s = true := fun e => hts _ (List.mem_of_getElem? e)
  have hf : ∀ {j : Nat} {w : Cond}, zfl[j]? = some w → w.before #[Value.ref b] s = true := fun e => hs _ (List.mem_of_getElem? e)
  have hA : ∀ a : Nat, a < s.heap.size → ¬ (fun q => s.heap.size ≤ q) a := fun a h => Nat.not_le.mpr h
  have h1 : ∀ k : Nat, ∃ t : Nat, k ∈ [1, 2, 3, 4, 5, 6] → va_Z (zstat.getD k ("", "")).1 (zstat.getD k ("", "")).2 "[I" (.ref t) (fun q => s.heap.size ≤ q) s s.heap ∧ va_T .int t (zcon.getD k []).length (fun j => .int ((zcon.getD k []).getD j 0)) (fun q => s.heap.size ≤ q) s s.heap ∧ ∃ cell : Cell, s.heap[t]? = some cell ∧ s.vm.findClass "[I" = some cell.cls ∧ cell.slots.size = (zcon.getD k []).length ∧ ¬ s.heap.size ≤ t := fun k => by
    by_cases hk : k ∈ [1, 2, 3, 4, 5, 6]
    · obtain ⟨t, ht⟩ := zst_facts hts hs hA hk
      exact ⟨t, fun _ => ht⟩
    · exact ⟨0, fun h => absurd h hk⟩
  obtain ⟨ad, had⟩ := Classical.axiomOfChoice h1
  have h2 : ∀ j : Nat, ∃ q : Nat × Nat, j < 34 → (∃ r, zSTR[j]? = some r ∧ r.2.2.1 = 7 + 2 * j ∧ vk_R (zcn r.1) r.2.1 r.2.2.2 q.1 s) ∧ va_O "java/lang/String" q.1 (fun q => s.heap.size ≤ q) s s.heap ∧ va_OF "java/lang/String" "coder" "B" (.int 0) q.1 (fun q => s.heap.size ≤ q) s s.heap ∧ va_OF "java/lang/String" "value" "[B" (.ref q.2) q.1 (fun q => s.heap.size ≤ q) s s.heap ∧ va_T .byte q.2 (zcon.getD (8 + 2 * j) []).length (fun i => .int ((zcon.getD (8 + 2 * j) []).getD i 0)) (fun q => s.heap.size ≤ q) s s.heap := fun j => by
    by_cases hj : j < 34
    · obtain ⟨q, hq⟩ := zstr_facts hts hs hA hj
      exact ⟨q, fun _ => hq⟩
    · exact ⟨(0, 0), fun h => absurd h hj⟩
  obtain ⟨sd, hsd⟩ := Classical.axiomOfChoice h2
  have hk6 : ∀ k, 0 < k → k < 7 → k ∈ [1, 2, 3, 4, 5, 6] := fun k a9 b9 => by
    simp only [List.mem_cons, List.not_mem_nil, or_false]
    omega
  obtain ⟨cad, hcad⟩ : ∃ cad : Nat → Nat, cad = fun k => if k = 0 then b else if k < 7 then ad k else if k % 2 = 1 then (sd ((k - 7) / 2)).1 else (sd ((k - 8) / 2)).2 := ⟨_, rfl⟩
  have c0 : cad 0 = b := by rw [hcad]; rfl
  have c1 : ∀ k, 0 < k → k < 7 → cad k = ad k := fun k a9 b9 => by
    rw [hcad]
    dsimp only
    rw [if_neg (by omega), if_pos b9]
  have c2 : ∀ j, cad (7 + 2 * j) = (sd j).1 := fun j => by
    rw [hcad]
    dsimp only
    rw [if_neg (by omega), if_neg (by omega), if_pos (by omega), show (7 + 2 * j - 7) / 2 = j by omega]
  have c3 : ∀ j, cad (8 + 2 * j) = (sd j).2 := fun j => by
    rw [hcad]
    dsimp only
    rw [if_neg (by omega), if_neg (by omega), if_neg (by omega), show (8 + 2 * j - 8) / 2 = j by omega]
  refine ⟨cad, c0, ⟨fun k hk => ?_, fun k hk hc => ?_, fun k hk hc => ?_, fun k hk hc => ?_, fun k hk0 hk7 => ?_, fun k hk hc => ?_, ?_, ?_, ?_, ?_⟩, fun q hq => ?_, fun q hq => ?_, ?_, ?_, ?_, ?_, fun x hx => ?_, fun x y hx hy hxy => ?_, fun w hw hbw => ?_⟩
  · exact of_decide_eq_true (List.all_eq_true.mp zcls0_k k (List.mem_range.mpr hk))
  · rcases hc with hc | hc
    · obtain ⟨a9, b9⟩ := zcls0_104 hc
      rw [c1 k a9 b9]
      have := (had k (hk6 k a9 b9)).2.1
      cases k with
      | zero => omega
      | succ n => exact this
    · obtain rfl := zcls0_105 hc
      rw [c0]
      obtain ⟨scr, g1, g2, g3, g4, g5⟩ := hX
      exact ⟨scr, g1, g2, g3, by show L ≤ scr.slots.size; omega, by show scr.slots.size.toInt32 = Int32.ofNat L; rw [g4], g5, hA b hbl⟩
  · obtain ⟨j, hj, rfl⟩ := zcls0_103 hc
    rw [c3]
    have := (hsd j hj).2.2.2.2
    rw [show 8 + 2 * j = 7 + 2 * j + 1 by omega] at this ⊢
    exact this
  · obtain ⟨j, hj, rfl⟩ := zcls0_15 hc
    obtain ⟨-, g2, g3, g4, -⟩ := hsd j hj
    rw [c2]
    have hz : (zcon.getD (7 + 2 * j) []).getD 1 0 = (0 : Int32) := by
      have hall : (List.range 34).all (fun j => decide ((zcon.getD (7 + 2 * j) []).getD 1 0 = (0 : Int32))) = true := by decide +kernel
      exact of_decide_eq_true (List.all_eq_true.mp hall j (List.mem_range.mpr hj))
    refine ⟨g2, ?_, 8 + 2 * j, by omega, ?_, ?_⟩
    · have e : zI (zS0 L xs) (7 + 2 * j) 1 = (zcon.getD (7 + 2 * j) []).getD 1 0 := by
        rw [show 7 + 2 * j = 6 + 2 * j + 1 by omega]
        rfl
      rw [e, hz]
      exact g3
    · show (if zcls0 (7 + 2 * j) = 15 ∧ 0 = 0 then some (7 + 2 * j + 1) else none) = _
      rw [if_pos ⟨hc, rfl⟩]
      congr 1
      omega
    · rw [c3]
      exact g4
  · rw [c1 k hk0 hk7]
    exact (had k (hk6 k hk0 hk7)).1
  · obtain ⟨a9, b9⟩ := zcls0_104 hc
    rw [c1 k a9 b9]
    obtain ⟨-, -, cell, g1, g2, g3, g4⟩ := had k (hk6 k a9 b9)
    refine ⟨cell, g1, g2, ?_, g4⟩
    cases k with
    | zero => omega
    | succ n => exact g3
  · exact va_Zof (hl zy_compL) (hl zy_strI) (va_eqt (hf zy_compV)) hA
  · exact va_Zqof (hl zy_fmtL) (hl zy_fmtI) (hf zy_fmtV) hA
  · exact vx_Zqof (hl zy_thrUL) (hl zy_thrI) (hf zy_thrUV) hA
  · exact vx_Zqof (hl zy_thrNL) (hl zy_thrI) (hf zy_thrNV) hA
  · obtain ⟨j, hj, he⟩ := List.mem_iff_getElem.mp hq
    have hj34 : j < 34 := by rw [← zSTR_len]; exact hj
    obtain ⟨⟨r, r1, r2, r3⟩, -⟩ := hsd j hj34
    have hqr : q = r := by
      rw [List.getElem?_eq_getElem hj, he] at r1
      exact Option.some.inj r1
    subst hqr
    rw [r2, c2]
    exact r3
  · have hm : some (zNLw q) ∈ zNLj.map (fun j => lw_tbl[j]?) := by
      rw [← zNL_in]
      exact List.mem_map.mpr ⟨q, hq, rfl⟩
    obtain ⟨j, -, hj⟩ := List.mem_map.mp hm
    exact va_Nw.of rfl (hl hj)
  · exact va_AO.of (hl zy_overRX3)
  · exact va_AO.of (hl zy_overRX5)
  · exact va_AO.of (hl zy_overRX9)
  · exact va_Nw.of rfl (hl zy_clon)
  · exact va_Nw.of rfl (hl (of_decide_eq_true (List.all_eq_true.mp zcs_ok x (List.mem_range.mpr hx))))
  · have h9 := List.all_eq_true.mp (List.all_eq_true.mp znc_ok x (List.mem_range.mpr hx)) y (List.mem_range.mpr hy)
    rcases zor h9 with h | h
    · exact absurd (Nat.eq_of_beq_eq_true h) hxy
    · exact va_Nc.of (hf (of_decide_eq_true h))
  · refine va_Nw.of ?_ (hts w hw)
    cases w <;> first
      | rfl
      | cases hbw
end ZEntry2
