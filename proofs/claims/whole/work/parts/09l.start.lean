/-! The law's entry: the store, and what the Statement gives of the constants -/
def zcon : List (List Int32) := [[], [2, 0, 24, 3, 0, 0], [1, 0, 1, 0], [12, 24, 24, 3], [11, 11, 11, 11, 11, 23, 23, 23, 23, 24, 3, (-1)], [(-1), (-1), 11, 11, 24, (-1), (-1), 24, 24, (-1), (-1), (-1)], [0, 0, 0, 0, 0, 5, 5, 6, 6, 4, 4, 4, 1, 2, 3, 0, 0, 0], [], [119, 97, 115, 32, 110, 111, 119, 32, 97, 116, 32, 115, 97, 105, 100, 32, 110, 111, 116], [], [40, 91], [], [110, 111, 116], [], [119, 97, 115, 32, 110, 111, 119, 32, 97, 116, 32, 115, 97, 105, 100], [], [43, 45, 42, 47], [], [60, 62, 61], [], [111, 114, 32, 97, 110, 100], [], [104, 101, 97, 112, 115, 32, 112, 108, 97, 99, 101, 115, 32, 109, 105, 110, 100, 32, 119, 111, 114, 100, 115, 32, 112, 97, 105, 114, 115, 32, 109, 111, 118, 101, 115], [], [112, 117, 116, 32, 116, 97, 107, 101, 32, 109, 111, 118, 101, 32, 112, 97, 105, 114, 32, 101, 109, 112, 116, 121, 32, 117, 112, 32, 100, 111, 119, 110, 32, 110, 111, 110, 101, 32, 116, 104, 114, 101, 101, 32, 103, 111, 32, 115, 97, 121, 32, 101, 110, 100], [], [104, 101, 97, 112, 115], [], [112, 108, 97, 99, 101, 115], [], [109, 105, 110, 100], [], [119, 111, 114, 100, 115], [], [112, 97, 105, 114, 115], [], [109, 111, 118, 101, 115], [], [112, 117, 116], [], [116, 97, 107, 101], [], [109, 111, 118, 101], [], [112, 97, 105, 114], [], [101, 109, 112, 116, 121], [], [117, 112], [], [100, 111, 119, 110], [], [110, 111, 110, 101], [], [116, 104, 114, 101, 101], [], [103, 111], [], [115, 97, 121], [], [101, 110, 100], [], [119, 97, 115], [], [110, 111, 119], [], [97, 116], [], [115, 97, 105, 100], [], [110, 111, 116], [], [97, 110, 100], [], [111, 114]]
def zcls0 (k : Nat) : Nat := if k = 0 then 105 else if k < 7 then 104 else if k < 75 then (if k % 2 = 1 then 15 else 103) else 0
def zS0 (L : Nat) (xs : Nat → Int32) : ZSt := (fun k j => (match k with
    | 0 => xs j
    | n + 1 => (zcon.getD (n + 1) []).getD j 0), fun _ _ => 0, fun k j => if zcls0 k = 15 ∧ j = 0 then some (k + 1) else none, fun k => (match k with
    | 0 => L
    | n + 1 => (zcon.getD (n + 1) []).length), zcls0, 75, 0, 0)
def zfl : List Cond := flatC (Jvm.Cond.and given_1 narrow_1)
def zstm (k : Nat) : Term := .static (zstat.getD k ("", "")).1 (zstat.getD k ("", "")).2 "[I"
def zstj : List (Nat × Nat × Nat × Nat) := [(0, 0, 0, 0), (5, 580, 295, 111), (28, 582, 762, 111), (21, 581, 760, 111), (35, 583, 807, 112), (50, 584, 809, 112), (65, 585, 899, 114)]
def zstq (k : Nat) : Bool := (decide (zfl[(zstj.getD k (0, 0, 0, 0)).1]? = some (.arrayOf (zstm k) .int)) && (decide (zfl[(zstj.getD k (0, 0, 0, 0)).1 + 1]? = some (.eq (.length (zstm k)) (.int (Int32.ofNat (zcon.getD k []).length)))) && ((List.range (zcon.getD k []).length).all (fun j => decide (zfl[(zstj.getD k (0, 0, 0, 0)).1 + 2 + j]? = some (.eq (.elem (zstm k) (.int (Int32.ofNat j))) (.int ((zcon.getD k []).getD j 0))))) &&
  (decide (zfl[(zstj.getD k (0, 0, 0, 0)).2.1]? = some (.exactly (zstm k) "[I")) && (decide (lw_tbl[(zstj.getD k (0, 0, 0, 0)).2.2.1]? = some (.laysStatic (zstat.getD k ("", "")).1 (zstat.getD k ("", "")).2 "[I")) && decide (lw_tbl[(zstj.getD k (0, 0, 0, 0)).2.2.2]? = some (.initialized (zstat.getD k ("", "")).1)))))))
set_option maxRecDepth 100000 in
theorem zstq_ok : [1, 2, 3, 4, 5, 6].all zstq = true := by decide +kernel
def ztm (j : Nat) : Term := match zSTR[j]? with
  | some q => .string (zcn q.1) q.2.1
  | none => .null
def zsj : List (Nat × Nat) := [(300, 846), (323, 848), (329, 875), (336, 876), (355, 890), (363, 916), (370, 917), (203, 696), (242, 798), (380, 1811), (389, 1817), (399, 1818), (407, 1819), (416, 1820), (425, 1821), (434, 1852), (441, 1853), (449, 1854), (457, 1855), (465, 1856), (474, 1857), (480, 1858), (488, 1859), (496, 1860), (505, 1861), (511, 1862), (518, 1863), (533, 1877), (540, 1878), (547, 1879), (553, 1880), (525, 1876), (561, 1913), (568, 1914)]
def zsq9 (j : Nat) : Bool := match zSTR[j]?, zsj[j]? with
  | some q, some r => Nat.beq q.2.2.1 (7 + 2 * j) && (decide (zfl[r.1]? = some (.exactly (.string (zcn q.1) q.2.1) "java/lang/String")) && (decide (zfl[r.1 + 1]? = some (.eq (.field (.string (zcn q.1) q.2.1) "java/lang/String" "coder" "B") (.int 0))) && (decide (zfl[r.1 + 2]? = some (.arrayOf (.field (.string (zcn q.1) q.2.1) "java/lang/String" "value" "[B") .byte)) &&
      (decide (zfl[r.1 + 3]? = some (.eq (.length (.field (.string (zcn q.1) q.2.1) "java/lang/String" "value" "[B")) (.int (Int32.ofNat (zcon.getD (8 + 2 * j) []).length)))) && ((List.range (zcon.getD (8 + 2 * j) []).length).all (fun i => decide (zfl[r.1 + 4 + i]? = some (.eq (.elem (.field (.string (zcn q.1) q.2.1) "java/lang/String" "value" "[B") (.int (Int32.ofNat i))) (.int ((zcon.getD (8 + 2 * j) []).getD i 0))))) && decide (lw_tbl[r.2]? = some (.stringRef (zcn q.1) q.2.1 q.2.2.2)))))))
  | _, _ => false
set_option maxRecDepth 100000 in
theorem zsq9_ok : (List.range 34).all zsq9 = true := by decide +kernel
def zncj : List (List Nat) := [[0, 129, 145, 113], [99, 0, 148, 115], [100, 132, 0, 116], [98, 131, 147, 0]]
set_option maxRecDepth 100000 in
theorem znc_ok : (List.range 4).all (fun x => (List.range 4).all (fun y => Nat.beq x y || decide (zfl[(zncj.getD x []).getD y 0]? = some (.not (.castable (zexn.getD x "") (zexn.getD y "")))))) = true := by decide +kernel
def zcsj : List Nat := [606, 990, 1055, 971]
set_option maxRecDepth 100000 in
theorem zcs_ok : (List.range 4).all (fun x => decide (lw_tbl[zcsj.getD x 0]? = some (.castable (zexn.getD x "") (zexn.getD x "")))) = true := by decide +kernel
set_option maxRecDepth 100000 in
theorem zy_compL : lw_tbl[710]? = some (.laysStatic "java/lang/String" "COMPACT_STRINGS" "Z") := by decide +kernel
set_option maxRecDepth 100000 in
theorem zy_strI : lw_tbl[128]? = some (.initialized "java/lang/String") := by decide +kernel
set_option maxRecDepth 100000 in
theorem zy_compV : zfl[15]? = some (.eq (.static "java/lang/String" "COMPACT_STRINGS" "Z") (.int 1)) := by decide +kernel
set_option maxRecDepth 100000 in
theorem zy_fmtL : lw_tbl[726]? = some (.laysStatic "jdk/internal/util/Preconditions" "SIOOBE_FORMATTER" "Ljava/util/function/BiFunction;") := by decide +kernel
set_option maxRecDepth 100000 in
theorem zy_fmtI : lw_tbl[130]? = some (.initialized "jdk/internal/util/Preconditions") := by decide +kernel
set_option maxRecDepth 100000 in
theorem zy_fmtV : zfl[16]? = some (.isRef (.static "jdk/internal/util/Preconditions" "SIOOBE_FORMATTER" "Ljava/util/function/BiFunction;")) := by decide +kernel
set_option maxRecDepth 100000 in
theorem zy_thrI : lw_tbl[122]? = some (.initialized Bundle.tN) := by decide +kernel
set_option maxRecDepth 100000 in
theorem zy_thrUL : lw_tbl[631]? = some (.laysStatic Bundle.tN "UNASSIGNED_STACK" Bundle.steD) := by decide +kernel
set_option maxRecDepth 100000 in
theorem zy_thrUV : zfl[13]? = some (.isRef (.static Bundle.tN "UNASSIGNED_STACK" Bundle.steD)) := by decide +kernel
set_option maxRecDepth 100000 in
theorem zy_thrNL : lw_tbl[633]? = some (.laysStatic Bundle.tN "SUPPRESSED_SENTINEL" Bundle.listD) := by decide +kernel
set_option maxRecDepth 100000 in
theorem zy_thrNV : zfl[14]? = some (.isRef (.static Bundle.tN "SUPPRESSED_SENTINEL" Bundle.listD)) := by decide +kernel
set_option maxRecDepth 100000 in
theorem zy_overRX3 : lw_tbl[359]? = some (.arrayOver (.object RX3)) := by decide +kernel
set_option maxRecDepth 100000 in
theorem zy_overRX5 : lw_tbl[287]? = some (.arrayOver (.object RX5)) := by decide +kernel
set_option maxRecDepth 100000 in
theorem zy_overRX9 : lw_tbl[285]? = some (.arrayOver (.object RX9)) := by decide +kernel
set_option maxRecDepth 100000 in
theorem zy_clon : lw_tbl[301]? = some (.castable "[I" "java/lang/Cloneable") := by decide +kernel
section ZEntry
variable {s : State} {b L : Nat} {xs : Nat → Int32} {args : Array Value} {A : Nat → Prop}
/-- an int array that stays: its address, its cell -/
theorem zarr_of {tm : Term} {N : Nat} {f : Nat → Int32} (hN : N < 2 ^ 31) (harr : (Cond.arrayOf tm .int).before args s = true) (hlen : (Cond.eq (.length tm) (.int (Int32.ofNat N))).before args s = true) (hel : ∀ j, j < N → (Cond.eq (.elem tm (.int (Int32.ofNat j))) (.int (f j))).before args s = true) (hex : (Cond.exactly tm "[I").before args s = true) (hA : ∀ a : Nat, a < s.heap.size → ¬ A a) :
    ∃ t : Nat, tm.eval args s none [] s = some (.ref t) ∧ va_T .int t N (fun j => .int (f j)) A s s.heap ∧ ∃ cell : Cell, s.heap[t]? = some cell ∧ s.vm.findClass "[I" = some cell.cls ∧ cell.slots.size = N ∧ ¬ A t := by
  have hl := va_eqt hlen
  obtain ⟨t, ht, hT⟩ := va_Tof (f := fun j => .int (f j)) (A := A) hN harr hl (fun j hj => va_eqt (hel j hj)) hA
  obtain ⟨a, c, cell, k, q1, q2, q3, q4, q5, q6, -⟩ := Cond.exactly_spec (args := args) (first := s) (o := none) (s := s) (idx := []) (t := tm) (cls := "[I") hex
  cases Option.some.inj (q1.symm.trans ht)
  refine ⟨t, ht, hT, cell, q3, by rw [q6]; exact q2, ?_, hA _ (Array.getElem?_eq_some_iff.mp q3).1⟩
  obtain ⟨b9, cell9, hb9, harr9, -⟩ := Term.length_spec hl
  cases Option.some.inj (hb9.symm.trans ht)
  have hsz : cell9.slots.size < 2 ^ 31 := by
    simp only [Term.eval, ht, harr9, Option.bind_eq_bind, Option.bind_some] at hl
    by_cases hlt : cell9.slots.size < 2147483648
    · exact hlt
    · simp [hlt] at hl
  obtain ⟨hc9, -, -, -⟩ := State.arrayAt?_spec harr9
  cases Option.some.inj (hc9.symm.trans q3)
  obtain ⟨cell8, g1, g2, g3, g4, g5, g6, g7⟩ := hT
  cases Option.some.inj (g1.symm.trans q3)
  exact (nI_eq hsz hN).mp g5
theorem zstr_of {tm : Term} {N : Nat} {f : Nat → Int32} (hN : N < 2 ^ 31) (hex : (Cond.exactly tm "java/lang/String").before args s = true) (hco : (Cond.eq (.field tm "java/lang/String" "coder" "B") (.int 0)).before args s = true) (har : (Cond.arrayOf (.field tm "java/lang/String" "value" "[B") .byte).before args s = true)
    (hle : (Cond.eq (.length (.field tm "java/lang/String" "value" "[B")) (.int (Int32.ofNat N))).before args s = true) (hel : ∀ j, j < N → (Cond.eq (.elem (.field tm "java/lang/String" "value" "[B") (.int (Int32.ofNat j))) (.int (f j))).before args s = true) (hA : ∀ a : Nat, a < s.heap.size → ¬ A a) :
    ∃ q : Nat × Nat, tm.eval args s none [] s = some (.ref q.1) ∧ va_O "java/lang/String" q.1 A s s.heap ∧ va_OF "java/lang/String" "coder" "B" (.int 0) q.1 A s s.heap ∧ va_OF "java/lang/String" "value" "[B" (.ref q.2) q.1 A s s.heap ∧ va_T .byte q.2 N (fun j => .int (f j)) A s s.heap := by
  obtain ⟨a, c, cA, kA, q1, q2, q3, q4, q5, q6, -⟩ := Cond.exactly_spec (args := args) (first := s) (o := none) (s := s) (idx := []) (t := tm) (cls := "java/lang/String") hex
  obtain ⟨t, ht, hT⟩ := va_Tof (f := fun j => .int (f j)) (A := A) hN har (va_eqt hle) (fun j hj => va_eqt (hel j hj)) hA
  exact ⟨(a, t), q1, ⟨cA, q3, q5, by rw [q6]; exact q2, hA a (Array.getElem?_eq_some_iff.mp q3).1⟩, vk_OFof q1 (va_eqt hco) hA, vk_OFof q1 ht hA, hT⟩
theorem zcon_len : zcon.all (fun l => Nat.blt l.length 1000) = true := by decide +kernel
theorem zcon_lt (k : Nat) : (zcon.getD k []).length < 2 ^ 31 := by
  rw [List.getD_eq_getElem?_getD]
  cases h : zcon[k]? with
  | none => exact Nat.zero_lt_succ _
  | some l =>
    have h1 : l.length < 1000 := Nat.le_of_ble_eq_true (List.all_eq_true.mp zcon_len l (List.mem_of_getElem? h))
    show l.length < 2 ^ 31
    omega
theorem zst_facts (hts : ∀ w ∈ lw_tbl, w.before args s = true) (hs : ∀ w ∈ zfl, w.before args s = true) (hA : ∀ a : Nat, a < s.heap.size → ¬ A a) {k : Nat} (hk : k ∈ [1, 2, 3, 4, 5, 6]) :
    ∃ t : Nat, va_Z (zstat.getD k ("", "")).1 (zstat.getD k ("", "")).2 "[I" (.ref t) A s s.heap ∧ va_T .int t (zcon.getD k []).length (fun j => .int ((zcon.getD k []).getD j 0)) A s s.heap ∧ ∃ cell : Cell, s.heap[t]? = some cell ∧ s.vm.findClass "[I" = some cell.cls ∧ cell.slots.size = (zcon.getD k []).length ∧ ¬ A t := by
  have h := List.all_eq_true.mp zstq_ok k hk
  unfold zstq at h
  obtain ⟨h1, c2⟩ := zand h
  obtain ⟨h2, c3⟩ := zand c2
  obtain ⟨h3, c4⟩ := zand c3
  obtain ⟨h4, c5⟩ := zand c4
  obtain ⟨h5, h6⟩ := zand c5
  have hf : ∀ {j : Nat} {w : Cond}, zfl[j]? = some w → w.before args s = true := fun e => hs _ (List.mem_of_getElem? e)
  have hl : ∀ {j : Nat} {w : Cond}, lw_tbl[j]? = some w → w.before args s = true := fun e => hts _ (List.mem_of_getElem? e)
  obtain ⟨t, ht, hT, hc⟩ := zarr_of (f := fun j => (zcon.getD k []).getD j 0) (A := A) (zcon_lt k) (hf (of_decide_eq_true h1)) (hf (of_decide_eq_true h2)) (fun j hj => hf (of_decide_eq_true (List.all_eq_true.mp h3 j (List.mem_range.mpr hj)))) (hf (of_decide_eq_true h4)) hA
  exact ⟨t, va_Zof (hl (of_decide_eq_true h5)) (hl (of_decide_eq_true h6)) ht hA, hT, hc⟩
theorem zstr_facts (hts : ∀ w ∈ lw_tbl, w.before args s = true) (hs : ∀ w ∈ zfl, w.before args s = true) (hA : ∀ a : Nat, a < s.heap.size → ¬ A a) {j : Nat} (hj : j < 34) :
    ∃ q : Nat × Nat, (∃ r, zSTR[j]? = some r ∧ r.2.2.1 = 7 + 2 * j ∧ vk_R (zcn r.1) r.2.1 r.2.2.2 q.1 s) ∧ va_O "java/lang/String" q.1 A s s.heap ∧ va_OF "java/lang/String" "coder" "B" (.int 0) q.1 A s s.heap ∧ va_OF "java/lang/String" "value" "[B" (.ref q.2) q.1 A s s.heap ∧ va_T .byte q.2 (zcon.getD (8 + 2 * j) []).length (fun i => .int ((zcon.getD (8 + 2 * j) []).getD i 0)) A s s.heap := by
  have h := List.all_eq_true.mp zsq9_ok j (List.mem_range.mpr hj)
  unfold zsq9 at h
  split at h
  · rename_i q r e1 e2
    obtain ⟨h0, c1⟩ := zand h
    obtain ⟨h1, c2⟩ := zand c1
    obtain ⟨h2, c3⟩ := zand c2
    obtain ⟨h3, c4⟩ := zand c3
    obtain ⟨h4, c5⟩ := zand c4
    obtain ⟨h5, h6⟩ := zand c5
    have hf : ∀ {j : Nat} {w : Cond}, zfl[j]? = some w → w.before args s = true := fun e => hs _ (List.mem_of_getElem? e)
    have hl : ∀ {j : Nat} {w : Cond}, lw_tbl[j]? = some w → w.before args s = true := fun e => hts _ (List.mem_of_getElem? e)
    obtain ⟨ad, g1, g2, g3, g4, g5⟩ := zstr_of (f := fun i => (zcon.getD (8 + 2 * j) []).getD i 0) (A := A) (zcon_lt (8 + 2 * j)) (hf (of_decide_eq_true h1)) (hf (of_decide_eq_true h2)) (hf (of_decide_eq_true h3)) (hf (of_decide_eq_true h4)) (fun i hi => hf (of_decide_eq_true (List.all_eq_true.mp h5 i (List.mem_range.mpr hi)))) hA
    exact ⟨ad, ⟨q, e1, Nat.eq_of_beq_eq_true h0, vk_R.of (hl (of_decide_eq_true h6)) g1⟩, g2, g3, g4, g5⟩
  · cases h
end ZEntry
