/-! woman: alike -/
theorem w_M_woman_41 {x : Nat} {c : Nat → Int32} {x1 x2 x3 x4 x5 : Int32} {u9 : Option Value} (hx : x < 2 ^ 31) {S : ZSt} {Q : ZOut → ZSt → Prop} (hS : zSh S) (hc : ∀ j, j < 10 → zI S 132 (215 + j) = c j) (h1 : satB c x = true → zW 2 m_M_woman 41 [some (.ref 130), some (.int x1), some (.int x2), some (.int x3), some (.int x4), some (.int x5), some (.int (nI x)), some (.int (nI 1)), some (.int (nI 10)), u9] [] S Q) (h0 : satB c x = false → zW 2 m_M_woman 41 [some (.ref 130), some (.int x1), some (.int x2), some (.int x3), some (.int x4), some (.int x5), some (.int (nI x)), some (.int (nI 0)), some (.int (nI 10)), u9] [] S Q) : ∀ (f b : Nat) (fl : Bool), f + b = 10 → 2 ≤ b → ((fl && allF (stB c x) f b) = satB c x) → zW 2 m_M_woman 41 [some (.ref 130), some (.int x1), some (.int x2), some (.int x3), some (.int x4), some (.int x5), some (.int (nI x)), some (.int (zBo fl)), some (.int (nI b)), u9] [] S Q
  | 0, b, fl, hb, h2, e => by
    obtain rfl : b = 10 := by omega
    rw [show (fl && allF (stB c x) 0 10) = fl from Bool.and_true fl] at e
    cases fl with
    | false => exact h0 e.symm
    | true => exact h1 e.symm
  | f + 1, b, fl, hb, h2, e => by
    refine b_M_woman_41 hS ⟨fun h9 => absurd h9 (nI_ge (by omega) (by omega)), fun _ => ?_⟩
    rw [nI_add, nI_add, zcl9 (by omega), hc b (by omega), zrem hx (by omega) (by omega)]
    have e' : (fl && allF (stB c x) (f + 1) b) = ((fl && stB c x b) && allF (stB c x) f (b + 1)) := by
      show (fl && (stB c x b && allF (stB c x) f (b + 1))) = _
      rw [Bool.and_assoc]
    rw [e'] at e
    have ih := fun fl' => w_M_woman_41 (x1 := x1) (x2 := x2) (x3 := x3) (x4 := x4) (x5 := x5) (u9 := u9) hx (Q := Q) hS hc h1 h0 f (b + 1) fl' (by omega) (by omega)
    cases fl with
    | false => exact ⟨fun _ => ih false e, fun h9 => absurd rfl h9⟩
    | true =>
      rw [Bool.true_and] at e
      refine ⟨fun h9 => absurd h9 (by decide), fun _ => ⟨zin (by omega) (by omega), fun h9 => ?_, fun h9 => ⟨nI_ne0 (by omega) (by omega), zin (by omega) (by omega), fun h8 => ?_, fun h8 => ?_⟩⟩⟩
      · rw [stB_1 h9] at e
        exact ih true e
      · rw [stB_0 h9 h8] at e
        exact ih false e
      · rw [stB_2 (Classical.not_not.mp h8)] at e
        exact ih true e
/-- nobody leaves so -/
theorem w_M_woman_31n {n : Nat} {c : Nat → Int32} {x2 : Int32} (hn : n ≤ 1000000000) {S : ZSt} {Q : ZOut → ZSt → Prop} (hS : zSh S) (hc : ∀ j, j < 10 → zI S 132 (215 + j) = c j) (hQ : ∀ x6 u7 u8 u9, zW 2 m_M_woman 105 [some (.ref 130), some (.int (nI n)), some (.int x2), some (.int (- nI 1)), some (.int (- nI 1)), some (.int (nI 0)), some (.int x6), u7, u8, u9] [] S Q) : ∀ (f x : Nat) (u7 u8 u9 : Option Value), (f + x = 2520 ∧ f + x ≤ n + 1) ∨ (f + x = n + 1 ∧ f + x ≤ 2520) → (∀ y, x ≤ y → y < x + f → satB c y = false) → zW 2 m_M_woman 31 [some (.ref 130), some (.int (nI n)), some (.int x2), some (.int (- nI 1)), some (.int (- nI 1)), some (.int (nI 0)), some (.int (nI x)), u7, u8, u9] [] S Q
  | 0, x, u7, u8, u9, hx, hs => b_M_woman_31 hS ⟨fun _ => hQ _ _ _ _, fun h9 => ⟨fun _ => hQ _ _ _ _, fun h8 => by
      exfalso
      rcases hx with ⟨a, b⟩ | ⟨a, b⟩
      · exact h9 (nI_le (by omega) (by omega))
      · exact h8 (nI_lt (by omega) (by omega))⟩⟩
  | f + 1, x, u7, u8, u9, hx, hs => by
    have h0 := hs x (by omega) (by omega)
    refine b_M_woman_31 hS ⟨fun h9 => absurd h9 (nI_ge (by omega) (by omega)), fun _ => ⟨fun h9 => absurd h9 (nI_nlt (by omega) (by omega)), fun _ => w_M_woman_41 (by omega) hS hc (fun hb => absurd h0 (by rw [hb]; decide)) (fun _ => b_M_woman_41 hS ⟨fun _ => ⟨fun h9 => absurd (by decide) h9, fun _ => ?_⟩, fun h9 => absurd (by decide) h9⟩) 8 2 true (by omega) (by omega) (Bool.true_and _)⟩⟩
    rw [nI_add]
    exact w_M_woman_31n hn hS hc hQ f (x + 1) _ _ _ (by omega) (fun y a b => hs y (by omega) (by omega))
/-- how many, and the last, of the first K of each 2520 -/
def wmC (q N K : Nat) : Nat := K * (N / q) + min K (N % q + 1)
def wmG (q N d l K : Nat) : Int32 := if K = 0 then - nI 1 else nI (l + d * (q * (N / q) + min (K - 1) (N % q)))
def wmL (l K : Nat) : Int32 := if K = 0 then - nI 1 else nI l
theorem dvq {N q K : Nat} (hq : 0 < q) (hK : K < q) (hN : K ≤ N) : (N - K) / q = if K ≤ N % q then N / q else N / q - 1 := by
  have e := Nat.div_add_mod N q
  have m := Nat.mod_lt N hq
  by_cases h : K ≤ N % q
  · rw [if_pos h]
    have : N - K = N % q - K + q * (N / q) := by omega
    rw [this, Nat.add_mul_div_left _ _ hq, Nat.div_eq_of_lt (by omega)]
    omega
  · rw [if_neg h]
    have h1 : 1 ≤ N / q := by
      rcases Nat.eq_zero_or_pos (N / q) with h9 | h9
      · rw [h9] at e
        omega
      · exact h9
    obtain ⟨a, ha⟩ : ∃ a, N / q = a + 1 := ⟨N / q - 1, by omega⟩
    rw [ha] at e ⊢
    rw [Nat.mul_succ] at e
    have : N - K = q + N % q - K + q * a := by omega
    rw [this, Nat.add_mul_div_left _ _ hq, Nat.div_eq_of_lt (by omega)]
    omega
theorem wmC_s {q N K : Nat} (hq : 0 < q) (hK : K < q) (hN : K ≤ N) : wmC q N K + ((N - K) / q + 1) = wmC q N (K + 1) := by
  have e := Nat.div_add_mod N q
  have m := Nat.mod_lt N hq
  unfold wmC
  rw [dvq hq hK hN, Nat.succ_mul]
  by_cases h : K ≤ N % q
  · rw [if_pos h]
    omega
  · rw [if_neg h]
    have h1 : 1 ≤ N / q := by
      rcases Nat.eq_zero_or_pos (N / q) with h9 | h9
      · rw [h9] at e
        omega
      · exact h9
    omega
theorem w_M_woman_31s {n d q l N : Nat} {c : Nat → Int32} {x2 : Int32} (hn : n ≤ 1000000000) (hd : apP c 10 d) (hq : 2520 = d * q) (hl : satB c l = true) (hln : l ≤ n) (hN : N = (n - l) / d) (hmin : ∀ y, y < l → satB c y = false) {S : ZSt} {Q : ZOut → ZSt → Prop} (hS : zSh S) (hc : ∀ j, j < 10 → zI S 132 (215 + j) = c j) : ∀ (f x K : Nat) (u7 u8 u9 : Option Value), (f + x = 2520 ∧ f + x ≤ n + 1) ∨ (f + x = n + 1 ∧ f + x ≤ 2520) → x ≤ l + K * d → (K = 0 ∨ l + (K - 1) * d < x) → (∀ K' x' u7 u8 u9, (x' = 2520 ∧ x' ≤ n + 1) ∨ (x' = n + 1 ∧ x' ≤ 2520) → x' ≤ l + K' * d → (K' = 0 ∨ l + (K' - 1) * d < x') → zW 2 m_M_woman 105 [some (.ref 130), some (.int (nI n)), some (.int x2), some (.int (wmL l K')), some (.int (wmG q N d l K')), some (.int (nI (wmC q N K'))), some (.int (nI x')), u7, u8, u9] [] S Q) → zW 2 m_M_woman 31 [some (.ref 130), some (.int (nI n)), some (.int x2), some (.int (wmL l K)), some (.int (wmG q N d l K)), some (.int (nI (wmC q N K))), some (.int (nI x)), u7, u8, u9] [] S Q
  | 0, x, K, u7, u8, u9, hx, h1, h2, hQ => by
    have g := hQ K x u7 u8 u9 (by omega) h1 h2
    refine b_M_woman_31 hS ⟨fun _ => g, fun h9 => ⟨fun _ => g, fun h8 => ?_⟩⟩
    exfalso
    rcases hx with ⟨a, b⟩ | ⟨a, b⟩
    · exact h9 (nI_le (by omega) (by omega))
    · exact h8 (nI_lt (by omega) (by omega))
  | f + 1, x, K, u7, u8, u9, hx, h1, h2, hQ => by
    have hd0 := hd.1
    have hq0 : 0 < q := by
      rcases Nat.eq_zero_or_pos q with h9 | h9
      · rw [h9] at hq
        omega
      · exact h9
    refine b_M_woman_31 hS ⟨fun h9 => absurd h9 (nI_ge (by omega) (by omega)), fun _ => ⟨fun h9 => absurd h9 (nI_nlt (by omega) (by omega)), fun _ => w_M_woman_41 (by omega) hS hc (fun hb => ?_) (fun hb => ?_) 8 2 true (by omega) (by omega) (Bool.true_and _)⟩⟩
    · -- it leaves so: it is the K-th
      have hxl : l ≤ x := by
        by_cases h : l ≤ x
        · exact h
        · have := hmin x (by omega)
          rw [hb] at this
          cases this
      obtain ⟨k, hk⟩ := (sat_mod hd hl hxl).mp hb
      have hkK : k = K := by
        have e1 : x = l + d * k := by omega
        have a1 : k ≤ K := by
          have : d * k ≤ K * d := by omega
          rw [Nat.mul_comm K d] at this
          exact Nat.le_of_mul_le_mul_left this hd0
        rcases h2 with h2 | h2
        · omega
        · have : (K - 1) * d < d * k := by omega
          rw [Nat.mul_comm d k] at this
          have := Nat.lt_of_mul_lt_mul_right this
          omega
      subst hkK
      have ex : x = l + d * k := by omega
      have hKq : k < q := by
        have : d * k < d * q := by omega
        exact Nat.lt_of_mul_lt_mul_left this
      have hKN : k ≤ N := by
        rw [hN, Nat.le_div_iff_mul_le hd0, Nat.mul_comm]
        omega
      have em : (n - x) / 2520 = (N - k) / q := by
        rw [hq, ← Nat.div_div_eq_div_mul, hN, show n - x = n - l - d * k by omega, Nat.sub_mul_div]
      have hdv := dvq hq0 hKq hKN
      have hst := wmC_s hq0 hKq hKN
      have hNn : d * N ≤ n - l := by rw [hN]; exact Nat.mul_div_le _ _
      have eNq := Nat.div_add_mod N q
      have mNq := Nat.mod_lt N hq0
      refine b_M_woman_41 hS ⟨fun _ => ⟨fun _ => ⟨by decide, ?_⟩, fun h9 => absurd (by decide) h9⟩, fun h9 => absurd (by decide) h9⟩
      have hlast : x + 2520 * ((N - k) / q) = l + d * (k + q * ((N - k) / q)) := by
        rw [ex, hq, Nat.mul_add, Nat.mul_assoc]
        omega
      have hkb : k + q * ((N - k) / q) ≤ N := by
        have := Nat.mul_div_le (N - k) q
        omega
      have hlb : l + d * (k + q * ((N - k) / q)) ≤ n := by
        have := Nat.mul_le_mul_left d hkb
        omega
      rw [pk_sub (by omega), pk_div (by omega) (by omega) (by omega), em, pk_mul, nI_add, nI_add, nI_add, nI_add, hlast, hst]
      have ih := fun u7 u8 u9 => w_M_woman_31s (x2 := x2) hn hd hq hl hln hN hmin hS hc f (x + 1) (k + 1) u7 u8 u9 (by omega) (by rw [Nat.succ_mul]; rw [Nat.mul_comm] at ex; omega) (Or.inr (by rw [show k + 1 - 1 = k by omega, Nat.mul_comm]; omega)) hQ
      have eL : wmL l (k + 1) = nI l := if_neg (by omega)
      have eG : wmG q N d l (k + 1) = nI (l + d * (q * (N / q) + min k (N % q))) := if_neg (by omega)
      have bG : l + d * (q * (N / q) + min k (N % q)) ≤ n := by
        have : q * (N / q) + min k (N % q) ≤ N := by omega
        have := Nat.mul_le_mul_left d this
        omega
      by_cases hk0 : k = 0
      · subst hk0
        have eL0 : wmL l 0 = - nI 1 := rfl
        have eG0 : wmG q N d l 0 = - nI 1 := rfl
        rw [eL0, eG0]
        refine ⟨fun h9 => absurd rfl h9, fun _ => ⟨fun h8 => ?_, fun _ => ?_⟩⟩
        · exfalso
          rw [zle9, ztn (k := 1) rfl, nI_toInt (by omega)] at h8
          omega
        · rw [eL, eG] at ih
          rw [if_pos (Nat.zero_le _)] at hdv
          have ee : l + d * (0 + q * ((N - 0) / q)) = l + d * (q * (N / q) + min 0 (N % q)) := by
            rw [Nat.sub_zero, Nat.zero_add, Nat.zero_min, Nat.add_zero]
          have exl : x = l := by omega
          rw [ee, exl]
          rw [exl] at ih
          exact ih _ _ _
      · have eL0 : wmL l k = nI l := if_neg hk0
        have eG0 : wmG q N d l k = nI (l + d * (q * (N / q) + min (k - 1) (N % q))) := if_neg hk0
        have bG0 : l + d * (q * (N / q) + min (k - 1) (N % q)) ≤ n := by
          have : q * (N / q) + min (k - 1) (N % q) ≤ N := by omega
          have := Nat.mul_le_mul_left d this
          omega
        rw [eL0, eG0]
        rw [eL, eG] at ih
        refine ⟨fun _ => ⟨fun h8 => ?_, fun h8 => ?_⟩, fun h9 => absurd (nI_m1 (by omega)) h9⟩
        · have h7 := (nI_leI (by omega) (by omega)).mp h8
          have h6 : k + q * ((N - k) / q) ≤ q * (N / q) + min (k - 1) (N % q) := Nat.le_of_mul_le_mul_left (by omega) hd0
          have h5 : ¬ k ≤ N % q := fun h5 => by
            rw [if_pos h5] at hdv
            rw [hdv] at h6
            omega
          rw [show min k (N % q) = min (k - 1) (N % q) by omega] at ih
          exact ih _ _ _
        · have h7 : ¬ (l + d * (k + q * ((N - k) / q)) ≤ l + d * (q * (N / q) + min (k - 1) (N % q))) := fun h9 => h8 (nI_le h9 (by omega))
          have h6 : ¬ (k + q * ((N - k) / q) ≤ q * (N / q) + min (k - 1) (N % q)) := fun h9 => h7 (by have := Nat.mul_le_mul_left d h9; omega)
          have h5 : k ≤ N % q := by
            by_cases h5 : k ≤ N % q
            · exact h5
            · exfalso
              rw [if_neg h5] at hdv
              rw [hdv] at h6
              have h1' : 1 ≤ N / q := by
                rcases Nat.eq_zero_or_pos (N / q) with h9 | h9
                · rw [h9] at eNq
                  omega
                · exact h9
              obtain ⟨a, ha⟩ : ∃ a, N / q = a + 1 := ⟨N / q - 1, by omega⟩
              rw [ha, Nat.mul_succ] at h6
              rw [show a + 1 - 1 = a by omega] at h6
              omega
          rw [if_pos h5] at hdv
          rw [hdv, show k + q * (N / q) = q * (N / q) + min k (N % q) by omega]
          exact ih _ _ _
    · refine b_M_woman_41 hS ⟨fun _ => ⟨fun h9 => absurd (by decide) h9, fun _ => ?_⟩, fun h9 => absurd (by decide) h9⟩
      rw [nI_add]
      have hne : x ≠ l + K * d := fun e => by
        have hxl : l ≤ x := by omega
        have := (sat_mod hd hl hxl).mpr ⟨K, by rw [Nat.mul_comm]; omega⟩
        rw [hb] at this
        cases this
      exact w_M_woman_31s hn hd hq hl hln hN hmin hS hc f (x + 1) K _ _ _ (by omega) (by omega) (by omega) hQ
def cR (S : ZSt) (j : Nat) : Int32 := zI S 132 (215 + j)
def wmA (what : Nat) (a b c : Int32) : Int32 := if what = 0 then a else if what = 1 then b else c
set_option maxHeartbeats 2000000 in
theorem p_woman {v1 v2 : Int32} {S : ZSt} (hS : zSh S) (hD : zStD S) (hJ : jCore S) : zC m_L_woman [.ref 75, .int v1, .int v2, .ref 161] S (zTwoR S m_M_woman [.int v1, .int v2] (zAns4 S)) := by
  have hK := hJ.1.2.2.2.2.2.2.2.2
  have hcO : ∀ j, j < 10 → zI S 103 j = cR S j := fun j hj => (hK j hj).1
  have hcM : ∀ {T}, zAt S T → ∀ j, j < 10 → zI (zsI T 130 0 (nI 0)) 132 (215 + j) = cR S j := fun {T} tT j hj => by
    show zI T 132 (215 + j) = _
    rw [tT.at rfl]
    rfl
  by_cases hp : zIn v1 0 1000000000
  case neg =>
    exact y_woman (res := .inl (2, 1)) hS hD hJ (fun r kk e => by cases e; omega) (b_N_woman hS (w_N_isNotR rfl hS (fun h9 => absurd h9 hp) (fun _ => b_N_woman_5 hS ⟨fun _ => b_N_refuseIf hS ⟨fun h9 => absurd h9 (by decide), fun _ => ⟨zinl rfl, zinl rfl, zOb_bad (r := 2) (kk := 1) hS⟩⟩, fun h9 => absurd (by decide) h9⟩))) (fun T hT tT => b_M_woman hT (w_M_withinR rfl hT (fun h9 => absurd h9 hp) (fun _ => b_M_woman_8 hT ⟨fun _ => w_M_may0 (S := zsI T 130 0 (nI 0)) hT rfl (by omega) (by omega) (b_M_woman_20 hT ⟨fun h9 => absurd (by decide) h9, fun _ => zMo_bad (r := 2) (kk := 1) hT⟩), fun h9 => absurd (by decide) h9⟩)))
  have hp' := hp
  obtain ⟨n, -, hn, rfl⟩ := hp
  by_cases hq : zIn v2 0 2
  case neg =>
    exact y_woman (res := .inl (2, 1)) hS hD hJ (fun r kk e => by cases e; omega) (b_N_woman hS (w_N_isNotR rfl hS (fun _ => b_N_woman_5 hS ⟨fun h9 => absurd (by decide) h9, fun _ => w_N_isNotR rfl hS (fun h9 => absurd h9 hq) (fun _ => b_N_woman_10 hS ⟨fun h9 => absurd h9 (by decide), fun _ => b_N_refuseIf hS ⟨fun h9 => absurd h9 (by decide), fun _ => ⟨zinl rfl, zinl rfl, zOb_bad (r := 2) (kk := 1) hS⟩⟩⟩)⟩) (fun h9 => absurd hp' h9))) (fun T hT tT => b_M_woman hT (w_M_withinR rfl hT (fun _ => b_M_woman_8 hT ⟨fun h9 => absurd h9 (by decide), fun _ => w_M_withinR rfl hT (fun h9 => absurd h9 hq) (fun _ => b_M_woman_13 hT ⟨fun _ => w_M_may0 (S := zsI T 130 0 (nI 0)) hT rfl (by omega) (by omega) (b_M_woman_20 hT ⟨fun h9 => absurd (by decide) h9, fun _ => zMo_bad (r := 2) (kk := 1) hT⟩), fun h9 => absurd (by decide) h9⟩)⟩) (fun h9 => absurd hp' h9)))
  have hq' := hq
  obtain ⟨what, -, hwh, rfl⟩ := hq
  have OA : ∀ {Q : ZOut → ZSt → Prop}, zC m_Re_oldWoman [.ref 103, .int (nI n), .int (nI what)] S (zback m_N_woman 37 20 [some (.ref 75), some (.int (nI n)), some (.int (nI what))] [] (fun i1 l1 s1 S1 => zW 3 m_N_woman i1 l1 s1 S1 Q) (fun x S1 => Q (.inr x) S1)) → zC m_N_woman [.ref 75, .int (nI n), .int (nI what)] S Q := fun {Q} g => b_N_woman hS (w_N_isNotR rfl hS (fun _ => b_N_woman_5 hS ⟨fun h9 => absurd (by decide) h9, fun _ => w_N_isNotR rfl hS (fun _ => b_N_woman_10 hS ⟨fun _ => b_N_refuseIf hS ⟨fun _ => b_N_woman_15 hS g, fun h9 => absurd (by decide) h9⟩, fun h9 => absurd (by decide) h9⟩) (fun h9 => absurd hq' h9)⟩) (fun h9 => absurd hp' h9))
  have MA : ∀ {T : ZSt} {Q : ZOut → ZSt → Prop}, zSh T → zW 2 m_M_woman 31 [some (.ref 130), some (.int (nI n)), some (.int (nI what)), some (.int (- nI 1)), some (.int (- nI 1)), some (.int (nI 0)), some (.int (nI 0)), none, none, none] [] (zsI T 130 0 (nI 0)) Q → zC m_M_woman [.ref 130, .int (nI n), .int (nI what)] T Q := fun {T Q} hT g => b_M_woman hT (w_M_withinR rfl hT (fun _ => b_M_woman_8 hT ⟨fun h9 => absurd h9 (by decide), fun _ => w_M_withinR rfl hT (fun _ => b_M_woman_13 hT ⟨fun h9 => absurd h9 (by decide), fun _ => w_M_may1 (S := zsI T 130 0 (nI 0)) hT rfl (b_M_woman_20 hT ⟨fun _ => g, fun h9 => absurd (by decide) h9⟩)⟩) (fun h9 => absurd hq' h9)⟩) (fun h9 => absurd hp' h9))
  have M105 : ∀ {T : ZSt} {a b c x6 : Int32} {u7 u8 u9 : Option Value}, zSh T → zW 2 m_M_woman 105 [some (.ref 130), some (.int (nI n)), some (.int (nI what)), some (.int a), some (.int c), some (.int b), some (.int x6), u7, u8, u9] [] (zsI T 130 0 (nI 0)) (zMo T (.inr (wmA what a b c))) := fun {T a b c x6 u7 u8 u9} hT => by
    have e := zMo_ok (T := T) (v := wmA what a b c) hT
    refine b_M_woman_105 hT ⟨fun h0 => ⟨fun h1 => ?_, fun h1 => ?_⟩, fun h0 => ?_⟩
    · rw [show wmA what a b c = c by unfold wmA; rw [if_neg (fun e => h0 (by rw [e]; rfl)), if_neg (fun e => h1 (by rw [e]))]] at e ⊢
      exact e
    · rw [show wmA what a b c = b by unfold wmA; rw [if_neg (fun e => h0 (by rw [e]; rfl)), if_pos (nEq (by omega) (by omega) (Classical.not_not.mp h1))]] at e ⊢
      exact e
    · rw [show wmA what a b c = a by unfold wmA; rw [if_pos ((nI_z (by omega)).mp (Classical.not_not.mp h0))]] at e ⊢
      exact e
  obtain ⟨M, hM⟩ : ∃ M, (M = 2520 ∧ M ≤ n + 1) ∨ (M = n + 1 ∧ M ≤ 2520) := by
    by_cases h : 2520 ≤ n + 1
    · exact ⟨2520, Or.inl ⟨rfl, h⟩⟩
    · exact ⟨n + 1, Or.inr ⟨rfl, by omega⟩⟩
  cases hls : lsF (cR S) M 0 with
  | none =>
    have hno := lsF_none M 0 hls
    refine y_woman (res := .inr (wmA what (- nI 1) (nI 0) (- nI 1))) hS hD hJ (fun r kk e => by cases e) (OA (b_Re_oldWoman hS (w_Re_oW_4 hS hcO (fun d hd => b_Re_leastThatLeaves hS (w_Re_lTL_2 hn hS hcO M 0 none none (by omega) ?_)) 8 2 1 (by omega) (by omega) ⟨by omega, fun b a1 a2 _ => by omega, fun m _ => Nat.one_dvd m⟩))) (fun T hT tT => MA hT (w_M_woman_31n (S := zsI T 130 0 (nI 0)) hn hT (hcM tT) (fun _ _ _ _ => M105 hT) M 0 _ _ _ (by omega) hno))
    rw [hls]
    refine b_Re_oldWoman_21 hS ⟨fun h9 => absurd rfl h9, fun _ => ⟨fun h1 => b_N_woman_21 hS ⟨?_, zH.rf, hS⟩, fun h1 => b_N_woman_21 hS ⟨?_, zH.rf, hS⟩⟩⟩
    · unfold wmA
      rw [if_neg (show ¬ what = 1 from fun e => h1 (by rw [e]))]
      split <;> rfl
    · have e1 : what = 1 := nEq (by omega) (by omega) (Classical.not_not.mp h1)
      subst e1
      rfl
  | some l =>
    obtain ⟨hl, -, hlM, hmin⟩ := lsF_some M 0 l hls
    obtain ⟨d, hd⟩ : ∃ d, apP (cR S) 10 d := by
      have s2 := apP_step (c := cR S) (k := 2) (a := 1) (by omega) ⟨by omega, fun b a1 a2 _ => by omega, fun m _ => Nat.one_dvd m⟩
      have nx : ∀ k, 2 ≤ k ∧ k ≤ 9 → (∃ d, apP (cR S) k d) → ∃ d, apP (cR S) (k + 1) d := fun k hk ⟨d, hd⟩ => by
        by_cases e : cR S k = - nI 1
        · exact ⟨_, (apP_step hk hd).1 e⟩
        · exact ⟨_, (apP_step hk hd).2 e⟩
      exact nx 9 (by omega) (nx 8 (by omega) (nx 7 (by omega) (nx 6 (by omega) (nx 5 (by omega) (nx 4 (by omega) (nx 3 (by omega) (nx 2 (by omega) ⟨1, by omega, fun b a1 a2 _ => by omega, fun m _ => Nat.one_dvd m⟩)))))))
    have uq : ∀ d', apP (cR S) 10 d' → d' = d := fun d' hd' => Nat.dvd_antisymm (hd'.2.2 d hd.2.1) (hd.2.2 d' hd'.2.1)
    obtain ⟨⟨q, hq⟩, hd25⟩ := apP_2520 (by omega) hd
    have hd0 := hd.1
    have hln : l ≤ n := by omega
    have hld : l < d := by
      by_cases h : l < d
      · exact h
      · exfalso
        have h1 : satB (cR S) (l - d) = true := by
          rw [sat_iff] at hl ⊢
          intro b a1 a2
          rcases hl b a1 a2 with h1 | h1
          · exact Or.inl h1
          · by_cases a3 : cR S b = - nI 1
            · exact Or.inl a3
            · right
              obtain ⟨j, hj⟩ := hd.2.1 b a1 (by omega) a3
              rw [← h1]
              congr 1
              have e : l = l - d + b * j := by omega
              rw [e, Nat.add_mul_mod_self_left, show l - d + b * j - d = l - d by omega]
        have := hmin (l - d) (by omega) (by omega)
        rw [h1] at this
        cases this
    have hNn : d * ((n - l) / d) ≤ n - l := Nat.mul_div_le _ _
    have hNn2 : (n - l) / d ≤ n := Nat.le_trans (Nat.div_le_self _ _) (by omega)
    refine y_woman (res := .inr (wmA what (nI l) (nI ((n - l) / d + 1)) (nI (l + d * ((n - l) / d))))) hS hD hJ (fun r kk e => by cases e) (OA (b_Re_oldWoman hS (w_Re_oW_4 hS hcO (fun d' hd' => b_Re_leastThatLeaves hS (w_Re_lTL_2 hn hS hcO M 0 none none (by omega) ?_)) 8 2 1 (by omega) (by omega) ⟨by omega, fun b a1 a2 _ => by omega, fun m _ => Nat.one_dvd m⟩))) (fun T hT tT => MA hT ?_)
    · rw [hls, uq d' hd']
      refine b_Re_oldWoman_21 hS ⟨fun _ => ?_, fun h9 => absurd (nI_m1 (show l < 2 ^ 31 by omega)) h9⟩
      have ed : (if nI 1 < nI d then nI d else nI 1) = nI d := by
        by_cases h : 1 < d
        · rw [if_pos (nI_lt h (by omega))]
        · rw [show d = 1 by omega]
          rfl
      rw [ed]
      show ¬ nI d = 0 ∧ _
      refine ⟨nI_ne0 hd0 (by omega), ?_⟩
      have e1 : nI n - oI (some l) = nI (n - l) := pk_sub hln
      rw [e1, pk_div (by omega) hd0 (by omega), nI_add, pk_mul]
      show ((¬ nI what = 0 → ((¬ nI what = nI 1 → _) ∧ (¬ (¬ nI what = nI 1) → _))) ∧ (¬ (¬ nI what = 0) → _))
      refine ⟨fun h0 => ⟨fun h1 => b_N_woman_21 hS ⟨?_, zH.rf, hS⟩, fun h1 => b_N_woman_21 hS ⟨?_, zH.rf, hS⟩⟩, fun h0 => b_N_woman_21 hS ⟨?_, zH.rf, hS⟩⟩
      · unfold wmA
        rw [if_neg (fun e => h0 (by rw [e]; rfl)), if_neg (fun e => h1 (by rw [e]))]
        show Sum.inl (some (Value.int (nI l + nI ((n - l) / d * d)))) = _
        rw [nI_add, Nat.mul_comm]
      · unfold wmA
        rw [if_neg (fun e => h0 (by rw [e]; rfl)), if_pos (nEq (by omega) (by omega) (Classical.not_not.mp h1))]
      · unfold wmA
        rw [if_pos ((nI_z (by omega)).mp (Classical.not_not.mp h0))]
        rfl
    · have key := w_M_woman_31s (x2 := nI what) (S := zsI T 130 0 (nI 0)) (Q := zMo T (.inr (wmA what (nI l) (nI ((n - l) / d + 1)) (nI (l + d * ((n - l) / d)))))) hn hd hq hl hln rfl (fun y hy => hmin y (by omega) hy) hT (hcM tT) M 0 0 none none none (by omega) (by omega) (Or.inl rfl) (fun K x u7 u8 u9 h1 h2 h3 => ?_)
      · rw [show wmC q ((n - l) / d) 0 = 0 by unfold wmC; rw [Nat.zero_mul, Nat.zero_min]] at key
        exact key
      -- all have come
      have hq0 : 0 < q := by
        rcases Nat.eq_zero_or_pos q with h9 | h9
        · rw [h9] at hq
          omega
        · exact h9
      have K1 : K ≠ 0 := fun e => by
        subst e
        omega
      have K2 : l + (K - 1) * d < x := h3.resolve_left K1
      have KN : K - 1 ≤ (n - l) / d := by
        rw [Nat.le_div_iff_mul_le hd0]
        omega
      have Kq : K ≤ q := by
        have : (K - 1) * d < d * q := by omega
        rw [Nat.mul_comm d q] at this
        have := Nat.lt_of_mul_lt_mul_right this
        omega
      have Ke : K = q ∨ K = (n - l) / d + 1 := by
        rcases h1 with ⟨e, b⟩ | ⟨e, b⟩
        · left
          have h5 : d * q < (K + 1) * d := by
            rw [Nat.succ_mul]
            omega
          rw [Nat.mul_comm d q] at h5
          have := Nat.lt_of_mul_lt_mul_right h5
          omega
        · right
          have h5 : (n - l) / d < K := by
            rw [Nat.div_lt_iff_lt_mul hd0]
            omega
          omega
      have eN := Nat.div_add_mod ((n - l) / d) q
      have mN := Nat.mod_lt ((n - l) / d) hq0
      have eL : wmL l K = nI l := if_neg K1
      have eC : wmC q ((n - l) / d) K = (n - l) / d + 1 := by
        unfold wmC
        rcases Ke with e | e
        · rw [e]
          omega
        · have : (n - l) / d < q := by omega
          rw [Nat.div_eq_of_lt this, Nat.mod_eq_of_lt this]
          omega
      have eG : wmG q ((n - l) / d) d l K = nI (l + d * ((n - l) / d)) := by
        unfold wmG
        rw [if_neg K1]
        rcases Ke with e | e
        · rw [e, show q * ((n - l) / d / q) + min (q - 1) ((n - l) / d % q) = (n - l) / d by omega]
        · have : (n - l) / d < q := by omega
          rw [Nat.div_eq_of_lt this, Nat.mod_eq_of_lt this, e, Nat.mul_zero, Nat.zero_add, show min ((n - l) / d + 1 - 1) ((n - l) / d) = (n - l) / d by omega]
      rw [eL, eC, eG]
      exact M105 hT
