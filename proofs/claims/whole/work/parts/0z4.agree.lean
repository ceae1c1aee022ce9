/-! agree: alike -/
theorem w_Re_greater {a b va vb : Nat} {S : ZSt} {Q : ZOut → ZSt → Prop} (hS : zSh S) (ha : a < 4096) (hb : b < 4096) (ea : zI S 126 a = nI va) (eb : zI S 126 b = nI vb) (h1 : va < 100) (h2 : vb < 100) (hQ : Q (.inl (some (.int (nI (mx2 va vb))))) S) : zC m_Re_greater [.ref 125, .int (nI a), .int (nI b)] S Q := by
  refine b_Re_greater hS (w_N_isNotU (A := 4096) (by omega) hS (fun _ => b_Re_greater_8 hS ⟨fun h9 => absurd (by decide) h9, fun _ => w_N_isNotU (A := 4096) (by omega) hS (fun _ => b_Re_greater_17 hS ⟨fun _ => ⟨zin ha (by omega), zin hb (by omega), ?_⟩, fun h9 => absurd (by decide) h9⟩) (fun h9 => absurd rfl (h9 b hb))⟩) (fun h9 => absurd rfl (h9 a ha)))
  rw [zcl9 (by omega), zcl9 (by omega), ea, eb, nI_mx (by omega) (by omega)]
  exact hQ
theorem bt6_le {r : Nat} : bt6 r ≤ 6 := by
  unfold bt6
  omega
theorem w_Re_lP_33 {T : Nat → Nat} {C r c : Nat} (hr : 1 ≤ r ∧ r < 64) (hc : 1 ≤ c ∧ c ≤ C ∧ C < 64) {S : ZSt} {Q : ZOut → ZSt → Prop} (hS : zSh S) (hI : tbI (zI S 126) T C r c) (hB : tbB T C r c) : ∀ (f k m : Nat), f + k = c → 1 ≤ k → m ≤ 12 → Q (.inl (some (.int (nI (mnF (pC T r c) f k m))))) S → zW 3 m_Re_leastParting 33 [some (.ref 125), some (.int (nI r)), some (.int (nI c)), some (.int (nI m)), some (.int (nI k))] [] S Q
  | 0, k, m, hk, h1, hm, hQ => b_Re_leastParting_33 hS ⟨fun _ => hQ, fun h9 => absurd (nI_le (by omega) (by omega)) h9⟩
  | f + 1, k, m, hk, h1, hm, hQ => by
    obtain ⟨s1, s2, s3⟩ := chkB_at (r := c) (p := k) (by omega) (by omega)
    refine b_Re_leastParting_33 hS ⟨fun h9 => absurd h9 (nI_ge (by omega) (by omega)), fun _ => ⟨fun h9 => ?_, fun h9 => ?_⟩⟩
    · have e : pC T r c k = none := if_neg (fun h => h9 (s1.mpr h))
      rw [mnF_n e] at hQ
      rw [nI_add]
      exact w_Re_lP_33 hr hc hS hI hB f (k + 1) m (by omega) (by omega) hm hQ
    · have hs := s1.mp (Classical.not_not.mp h9)
      have e : pC T r c k = some (mx2 (T (64 * r + k)) (T (64 * r + (c - k)))) := if_pos hs
      rw [mnF_s e] at hQ
      have d1 : dn C r c r k := ⟨hr.1, h1, by omega, Or.inr ⟨rfl, by omega⟩⟩
      have d2 : dn C r c r (c - k) := ⟨hr.1, by omega, by omega, Or.inr ⟨rfl, by omega⟩⟩
      have b1 := hB _ _ d1
      have b2 := hB _ _ d2
      have z1 := bt6_le (r := r)
      have z2 := bt6_le (r := k)
      have z3 := bt6_le (r := c - k)
      rw [pk_mul, nI_add, nI_add, pk_sub (by omega), show r * 64 + c - k = 64 * r + (c - k) by omega, show r * 64 + k = 64 * r + k by omega]
      refine w_Re_greater hS (by omega) (by omega) (hI _ _ d1) (hI _ _ d2) (by omega) (by omega) (b_Re_leastParting_56 hS ?_)
      have hmx : mx2 (T (64 * r + k)) (T (64 * r + (c - k))) < 100 := by unfold mx2; split <;> omega
      rw [nI_mn (by omega) (by omega), nI_add]
      exact w_Re_lP_33 hr hc hS hI hB f (k + 1) _ (by omega) (by omega) (by split <;> omega) hQ
theorem w_Re_lP_4 {T : Nat → Nat} {C r c : Nat} (hr : 1 ≤ r ∧ r < 64) (hc : 1 ≤ c ∧ c ≤ C ∧ C < 64) {S : ZSt} {Q : ZOut → ZSt → Prop} (hS : zSh S) (hI : tbI (zI S 126) T C r c) (hB : tbB T C r c) : ∀ (f k m : Nat), f + k = r → 1 ≤ k → m ≤ 12 → Q (.inl (some (.int (nI (mnF (pC T r c) (c - 1) 1 (mnF (pR T r c) f k m)))))) S → zW 3 m_Re_leastParting 4 [some (.ref 125), some (.int (nI r)), some (.int (nI c)), some (.int (nI m)), some (.int (nI k))] [] S Q
  | 0, k, m, hk, h1, hm, hQ => b_Re_leastParting_4 hS ⟨fun _ => w_Re_lP_33 hr hc hS hI hB (c - 1) 1 m (by omega) (by omega) hm hQ, fun h9 => absurd (nI_le (by omega) (by omega)) h9⟩
  | f + 1, k, m, hk, h1, hm, hQ => by
    obtain ⟨s1, s2, s3⟩ := chkB_at (r := r) (p := k) (by omega) (by omega)
    refine b_Re_leastParting_4 hS ⟨fun h9 => absurd h9 (nI_ge (by omega) (by omega)), fun _ => ⟨fun h9 => ?_, fun h9 => ?_⟩⟩
    · have e : pR T r c k = none := if_neg (fun h => h9 (s1.mpr h))
      rw [mnF_n e] at hQ
      rw [nI_add]
      exact w_Re_lP_4 hr hc hS hI hB f (k + 1) m (by omega) (by omega) hm hQ
    · have hs := s1.mp (Classical.not_not.mp h9)
      have e : pR T r c k = some (mx2 (T (64 * k + c)) (T (64 * (r - k) + c))) := if_pos hs
      rw [mnF_s e] at hQ
      have d1 : dn C r c k c := ⟨h1, hc.1, hc.2.1, Or.inl (by omega)⟩
      have d2 : dn C r c (r - k) c := ⟨by omega, hc.1, hc.2.1, Or.inl (by omega)⟩
      have b1 := hB _ _ d1
      have b2 := hB _ _ d2
      have z1 := bt6_le (r := c)
      have z2 := bt6_le (r := k)
      have z3 := bt6_le (r := r - k)
      rw [pk_mul, nI_add, pk_sub (by omega), pk_mul, nI_add, show (r - k) * 64 + c = 64 * (r - k) + c by omega, show k * 64 + c = 64 * k + c by omega]
      refine w_Re_greater hS (by omega) (by omega) (hI _ _ d1) (hI _ _ d2) (by omega) (by omega) (b_Re_leastParting_27 hS ?_)
      have hmx : mx2 (T (64 * k + c)) (T (64 * (r - k) + c)) < 100 := by unfold mx2; split <;> omega
      rw [nI_mn (by omega) (by omega), nI_add]
      exact w_Re_lP_4 hr hc hS hI hB f (k + 1) _ (by omega) (by omega) (by split <;> omega) hQ
def mkO (S : ZSt) (w : Nat → Nat) : Prop := ∀ j, j < 36 → zI S 100 j = nI (w j) ∧ w j ≤ 1
theorem w_Re_fA_23 {w : Nat → Nat} {R C r : Nat} {x2 x3 : Int32} (hR : 1 ≤ r ∧ r ≤ R ∧ R < 64) (hC : C < 64) {Q : ZOut → ZSt → Prop} : ∀ (f c : Nat) (T : Nat → Nat) {S : ZSt}, zSh S → mkO S w → f + c = C + 1 → 1 ≤ c → tbI (zI S 126) T C r c → tbB T C r c → (∀ S' u7, zJ [126] S S' → tbI (zI S' 126) (tbC w r f c T) C r (C + 1) → tbB (tbC w r f c T) C r (C + 1) → zW 4 m_Re_fewestAnswers 18 [some (.ref 125), some (.ref 100), some (.int x2), some (.int x3), some (.int (nI R)), some (.int (nI C)), some (.int (nI (r + 1))), u7] [] S' Q) → zW 4 m_Re_fewestAnswers 23 [some (.ref 125), some (.ref 100), some (.int x2), some (.int x3), some (.int (nI R)), some (.int (nI C)), some (.int (nI r)), some (.int (nI c))] [] S Q
  | 0, c, T, S, hS, hw, hc, h1, hI, hB, h => by
    obtain rfl : c = C + 1 := by omega
    refine b_Re_fewestAnswers_23 hS ⟨fun _ => ?_, fun h9 => absurd (nI_lt (by omega) (by omega)) h9⟩
    rw [nI_add]
    exact h S _ zJ.rf hI hB
  | f + 1, c, T, S, hS, hw, hc, h1, hI, hB, h => by
    have hwb : ∀ j, j < 36 → w j ≤ 1 := fun j hj => (hw j hj).2
    refine b_Re_fewestAnswers_23 hS ⟨fun h9 => absurd h9 (nI_nlt (by omega) (by omega)), fun _ => b_Re_areAlike hS (w_Re_aA_6 (by omega) (by omega) hS hw ?_ 36 0 (by omega))⟩
    rw [pk_mul, nI_add, show r * 64 + c = 64 * r + c by omega]
    have fin : ∀ {v : Nat}, v = vd w T r c → zW 4 m_Re_fewestAnswers 23 [some (.ref 125), some (.ref 100), some (.int x2), some (.int x3), some (.int (nI R)), some (.int (nI C)), some (.int (nI r)), some (.int (nI (c + 1)))] [] (zsI S 126 (64 * r + c) (nI v)) Q := fun {v} ev => by
      subst ev
      have j : zJ [126] S (zsI S 126 (64 * r + c) (nI (vd w T r c))) := zJ.rf.I rfl
      exact w_Re_fA_23 hR hC f (c + 1) (upn T (64 * r + c) (vd w T r c)) (S := zsI S 126 (64 * r + c) (nI (vd w T r c))) hS hw (by omega) (by omega) (by rw [zI_eq]; exact tbI_s hC (by omega) hI) (tbB_s hwb (by omega) (by omega) hB) (fun S' u7 j' => h S' u7 (j.tr j'))
    cases ha : alk w r c with
    | true =>
      refine b_Re_fewestAnswers_37 hS ⟨fun h9 => absurd h9 (by decide), fun _ => ⟨zin (by omega) (by omega), ?_⟩⟩
      rw [zcl9 (by omega), nI_add]
      exact fin (by unfold vd; rw [ha]; rfl)
    | false =>
      refine b_Re_fewestAnswers_37 hS ⟨fun _ => b_Re_leastParting hS (w_Re_lP_4 (by omega) (by omega) hS hI hB (r - 1) 1 12 (by omega) (by omega) (by omega) (b_Re_fewestAnswers_45 hS ⟨zin (by omega) (by omega), ?_⟩)), fun h9 => absurd (by decide) h9⟩
      rw [zcl9 (by omega), nI_add, nI_add]
      exact fin (by unfold vd; rw [ha, if_neg (by decide)]; rfl)
theorem w_Re_fA_18 {w : Nat → Nat} {R C : Nat} {x2 x3 : Int32} (hR : 1 ≤ R ∧ R < 64) (hC : 1 ≤ C ∧ C < 64) {Q : ZOut → ZSt → Prop} : ∀ (f r : Nat) (T : Nat → Nat) {u7 : Option Value} {S : ZSt}, zSh S → mkO S w → f + r = R + 1 → 1 ≤ r → tbI (zI S 126) T C r 1 → tbB T C r 1 → (∀ S', zJ [126] S S' → Q (.inl (some (.int (nI (tbR w C f r T (64 * R + C)))))) S') → zW 4 m_Re_fewestAnswers 18 [some (.ref 125), some (.ref 100), some (.int x2), some (.int x3), some (.int (nI R)), some (.int (nI C)), some (.int (nI r)), u7] [] S Q
  | 0, r, T, u7, S, hS, hw, hr, h1, hI, hB, hQ => by
    obtain rfl : r = R + 1 := by omega
    refine b_Re_fewestAnswers_18 hS ⟨fun _ => ?_, fun h9 => absurd (nI_lt (by omega) (by omega)) h9⟩
    rw [pk_mul, nI_add, zcl9 (by omega), show R * 64 + C = 64 * R + C by omega, hI R C ⟨hR.1, hC.1, Nat.le_refl _, Or.inl (by omega)⟩]
    exact ⟨zin (by omega) (by omega), hQ S zJ.rf⟩
  | f + 1, r, T, u7, S, hS, hw, hr, h1, hI, hB, hQ => b_Re_fewestAnswers_18 hS ⟨fun h9 => absurd h9 (nI_nlt (by omega) (by omega)), fun _ => w_Re_fA_23 (by omega) hC.2 C 1 T hS hw (by omega) (by omega) hI hB (fun S' u7 j' hI' hB' => w_Re_fA_18 hR hC f (r + 1) (tbC w r C 1 T) (j'.sh hS) (fun j hj => by rw [j'.2 100 rfl]; exact hw j hj) (by omega) (by omega) (tbI_r hI') (tbB_r hB') (fun S2 j2 => hQ S2 (j'.tr j2)))⟩
/-! the reference's side -/
theorem w_M_ag_100 {T : Nat → Nat} {C r c : Nat} {x1 x2 : Int32} (hr : 1 ≤ r ∧ r < 64) (hc : 1 ≤ c ∧ c ≤ C ∧ C < 64) {S : ZSt} {Q : ZOut → ZSt → Prop} (hS : zSh S) (hI : tbI (zI S 160) T C r c) (hB : tbB T C r c) : ∀ (f k m : Nat) (u7 u8 u9 : Option Value), f + k = c → 1 ≤ k → m ≤ 98 → (∀ u5 u6 u7 u8 u9, zW 2 m_M_agree 32 [some (.ref 130), some (.int x1), some (.int x2), some (.int (nI r)), some (.int (nI (c + 1))), u5, u6, u7, u8, u9] [] (zsI S 160 (64 * r + c) (nI (1 + mnF (pC T r c) f k m))) Q) → zW 2 m_M_agree 100 [some (.ref 130), some (.int x1), some (.int x2), some (.int (nI r)), some (.int (nI c)), some (.int (nI (1 + m))), some (.int (nI k)), u7, u8, u9] [] S Q
  | 0, k, m, u7, u8, u9, hk, h1, hm, h => by
    refine b_M_agree_100 hS ⟨fun _ => ?_, fun h9 => absurd (nI_le (by omega) (by omega)) h9⟩
    rw [pk_mul, nI_add, nI_add, zcl9 (by omega)]
    exact ⟨zin (by omega) (by omega), h _ _ _ _ _⟩
  | f + 1, k, m, u7, u8, u9, hk, h1, hm, h => by
    obtain ⟨s1, s2, s3⟩ := chkB_at (r := c) (p := k) (by omega) (by omega)
    refine b_M_agree_100 hS ⟨fun h9 => absurd h9 (nI_ge (by omega) (by omega)), fun _ => ⟨fun h9 => absurd h9 (nI_nle (by omega) (by omega)), fun _ => ⟨fun h9 => ?_, fun h9 => ?_⟩⟩⟩
    · have hs := s2.mp h9
      have e : pC T r c k = some (mx2 (T (64 * r + k)) (T (64 * r + (c - k)))) := if_pos hs
      rw [mnF_s e] at h
      have d1 : dn C r c r k := ⟨hr.1, h1, by omega, Or.inr ⟨rfl, by omega⟩⟩
      have d2 : dn C r c r (c - k) := ⟨hr.1, by omega, by omega, Or.inr ⟨rfl, by omega⟩⟩
      have b1 := hB _ _ d1
      have b2 := hB _ _ d2
      have z1 := bt6_le (r := r)
      have z2 := bt6_le (r := k)
      have z3 := bt6_le (r := c - k)
      rw [(s3 hs).1, pk_mul, nI_add, nI_add, nI_add, zcl9 (by omega), zcl9 (by omega), hI _ _ d1, hI _ _ d2, nI_add, nI_add]
      generalize T (64 * r + k) = a at *
      generalize T (64 * r + (c - k)) = b at *
      have ih := fun m' u7 u8 u9 hm' => w_M_ag_100 (x1 := x1) (x2 := x2) (Q := Q) hr hc hS hI hB f (k + 1) m' u7 u8 u9 (by omega) (by omega) hm'
      refine ⟨zin (by omega) (by omega), zin (by omega) (by omega), fun h8 => ?_, fun h8 => ?_⟩
      · have h7 : a ≤ b := (nI_leI (by omega) (by omega)).mp h8
        have em : mx2 a b = b := by unfold mx2; split <;> omega
        rw [em] at h
        refine ⟨fun h6 => ?_, fun h6 => ?_⟩
        · have := (nI_leI (by omega) (by omega)).mp h6
          rw [if_neg (by omega)] at h
          exact ih m _ _ _ hm h
        · have : ¬ (1 + m ≤ 1 + b) := fun h5 => h6 (nI_le h5 (by omega))
          rw [if_pos (by omega)] at h
          exact ih b _ _ _ (by omega) h
      · have h7 : ¬ a ≤ b := fun h7 => h8 (nI_le h7 (by omega))
        have em : mx2 a b = a := by unfold mx2; split <;> omega
        rw [em] at h
        refine ⟨fun h6 => ?_, fun h6 => ?_⟩
        · have := (nI_leI (by omega) (by omega)).mp h6
          rw [if_neg (by omega)] at h
          exact ih m _ _ _ hm h
        · have : ¬ (1 + m ≤ 1 + a) := fun h5 => h6 (nI_le h5 (by omega))
          rw [if_pos (by omega)] at h
          exact ih a _ _ _ (by omega) h
    · have e : pC T r c k = none := if_neg (fun hs => h9 (s2.mpr hs))
      rw [mnF_n e] at h
      rw [nI_add]
      exact w_M_ag_100 hr hc hS hI hB f (k + 1) m u7 u8 u9 (by omega) (by omega) hm h
theorem w_M_ag_48 {T : Nat → Nat} {C r c : Nat} {x1 x2 : Int32} (hr : 1 ≤ r ∧ r < 64) (hc : 1 ≤ c ∧ c ≤ C ∧ C < 64) {S : ZSt} {Q : ZOut → ZSt → Prop} (hS : zSh S) (hI : tbI (zI S 160) T C r c) (hB : tbB T C r c) : ∀ (f k m : Nat) (u7 u8 u9 : Option Value), f + k = r → 1 ≤ k → m ≤ 98 → (∀ u5 u6 u7 u8 u9, zW 2 m_M_agree 32 [some (.ref 130), some (.int x1), some (.int x2), some (.int (nI r)), some (.int (nI (c + 1))), u5, u6, u7, u8, u9] [] (zsI S 160 (64 * r + c) (nI (1 + mnF (pC T r c) (c - 1) 1 (mnF (pR T r c) f k m)))) Q) → zW 2 m_M_agree 48 [some (.ref 130), some (.int x1), some (.int x2), some (.int (nI r)), some (.int (nI c)), some (.int (nI (1 + m))), some (.int (nI k)), u7, u8, u9] [] S Q
  | 0, k, m, u7, u8, u9, hk, h1, hm, h => b_M_agree_48 hS ⟨fun _ => w_M_ag_100 hr hc hS hI hB (c - 1) 1 m u7 u8 u9 (by omega) (by omega) hm h, fun h9 => absurd (nI_le (by omega) (by omega)) h9⟩
  | f + 1, k, m, u7, u8, u9, hk, h1, hm, h => by
    obtain ⟨s1, s2, s3⟩ := chkB_at (r := r) (p := k) (by omega) (by omega)
    refine b_M_agree_48 hS ⟨fun h9 => absurd h9 (nI_ge (by omega) (by omega)), fun _ => ⟨fun h9 => absurd h9 (nI_nle (by omega) (by omega)), fun _ => ⟨fun h9 => ?_, fun h9 => ?_⟩⟩⟩
    · have hs := s2.mp h9
      have e : pR T r c k = some (mx2 (T (64 * k + c)) (T (64 * (r - k) + c))) := if_pos hs
      rw [mnF_s e] at h
      have d1 : dn C r c k c := ⟨h1, hc.1, hc.2.1, Or.inl (by omega)⟩
      have d2 : dn C r c (r - k) c := ⟨by omega, hc.1, hc.2.1, Or.inl (by omega)⟩
      have b1 := hB _ _ d1
      have b2 := hB _ _ d2
      have z1 := bt6_le (r := c)
      have z2 := bt6_le (r := k)
      have z3 := bt6_le (r := r - k)
      rw [(s3 hs).1, pk_mul, pk_mul, nI_add, nI_add, nI_add, zcl9 (by omega), zcl9 (by omega), hI _ _ d1, hI _ _ d2, nI_add, nI_add]
      generalize T (64 * k + c) = a at *
      generalize T (64 * (r - k) + c) = b at *
      have ih := fun m' u7 u8 u9 hm' => w_M_ag_48 (x1 := x1) (x2 := x2) (Q := Q) hr hc hS hI hB f (k + 1) m' u7 u8 u9 (by omega) (by omega) hm'
      refine ⟨zin (by omega) (by omega), zin (by omega) (by omega), fun h8 => ?_, fun h8 => ?_⟩
      · have h7 : a ≤ b := (nI_leI (by omega) (by omega)).mp h8
        have em : mx2 a b = b := by unfold mx2; split <;> omega
        rw [em] at h
        refine ⟨fun h6 => ?_, fun h6 => ?_⟩
        · have := (nI_leI (by omega) (by omega)).mp h6
          rw [if_neg (by omega)] at h
          exact ih m _ _ _ hm h
        · have : ¬ (1 + m ≤ 1 + b) := fun h5 => h6 (nI_le h5 (by omega))
          rw [if_pos (by omega)] at h
          exact ih b _ _ _ (by omega) h
      · have h7 : ¬ a ≤ b := fun h7 => h8 (nI_le h7 (by omega))
        have em : mx2 a b = a := by unfold mx2; split <;> omega
        rw [em] at h
        refine ⟨fun h6 => ?_, fun h6 => ?_⟩
        · have := (nI_leI (by omega) (by omega)).mp h6
          rw [if_neg (by omega)] at h
          exact ih m _ _ _ hm h
        · have : ¬ (1 + m ≤ 1 + a) := fun h5 => h6 (nI_le h5 (by omega))
          rw [if_pos (by omega)] at h
          exact ih a _ _ _ (by omega) h
    · have e : pR T r c k = none := if_neg (fun hs => h9 (s2.mpr hs))
      rw [mnF_n e] at h
      rw [nI_add]
      exact w_M_ag_48 hr hc hS hI hB f (k + 1) m u7 u8 u9 (by omega) (by omega) hm h
def mkM (S : ZSt) (w : Nat → Nat) : Prop := ∀ j, j < 36 → zI S 132 (107 + j) = nI (w j) ∧ w j ≤ 1
theorem zshl2 {n : Nat} (h : n ≤ 6) : zShl (nI 1) (nI n) = nI (2 ^ n) := by
  rcases (show n = 0 ∨ n = 1 ∨ n = 2 ∨ n = 3 ∨ n = 4 ∨ n = 5 ∨ n = 6 by omega) with rfl | rfl | rfl | rfl | rfl | rfl | rfl <;> decide
theorem w_M_ag_32 {w : Nat → Nat} {m n r : Nat} (hn : 1 ≤ n ∧ n ≤ 6) (hr : 1 ≤ r ∧ r < 64) {Q : ZOut → ZSt → Prop} : ∀ (f c : Nat) (T : Nat → Nat) {u5 u6 u7 u8 u9 : Option Value} {S : ZSt}, zSh S → mkM S w → f + c = 2 ^ n → 1 ≤ c → tbI (zI S 160) T (2 ^ n - 1) r c → tbB T (2 ^ n - 1) r c → (∀ S' u4 u5 u6 u7 u8 u9, zJ [160] S S' → tbI (zI S' 160) (tbC w r f c T) (2 ^ n - 1) r (2 ^ n) → tbB (tbC w r f c T) (2 ^ n - 1) r (2 ^ n) → zW 2 m_M_agree 25 [some (.ref 130), some (.int (nI m)), some (.int (nI n)), some (.int (nI (r + 1))), u4, u5, u6, u7, u8, u9] [] S' Q) → zW 2 m_M_agree 32 [some (.ref 130), some (.int (nI m)), some (.int (nI n)), some (.int (nI r)), some (.int (nI c)), u5, u6, u7, u8, u9] [] S Q
  | 0, c, T, u5, u6, u7, u8, u9, S, hS, hw, hc, h1, hI, hB, h => by
    have hp : 2 ^ n ≤ 2 ^ 6 := Nat.pow_le_pow_right (by omega) hn.2
    obtain rfl : c = 2 ^ n := by omega
    refine b_M_agree_32 hS ?_
    rw [zshl2 hn.2, nI_add]
    exact ⟨fun _ => h S _ _ _ _ _ _ zJ.rf hI hB, fun h9 => absurd (nI_le (Nat.le_refl _) (by omega)) h9⟩
  | f + 1, c, T, u5, u6, u7, u8, u9, S, hS, hw, hc, h1, hI, hB, h => by
    have hp : 2 ^ n ≤ 2 ^ 6 := Nat.pow_le_pow_right (by omega) hn.2
    have hwb : ∀ j, j < 36 → w j ≤ 1 := fun j hj => (hw j hj).2
    refine b_M_agree_32 hS ?_
    rw [zshl2 hn.2, nI_add]
    refine ⟨fun h9 => absurd h9 (nI_ge (by omega) (by omega)), fun _ => b_M_areAlike hS (w_M_aA_6 (by omega) (by omega) hS hw ?_ 6 0 none (by omega))⟩
    have fin : ∀ {v : Nat} {u5 u6 u7 u8 u9 : Option Value}, v = vd w T r c → zW 2 m_M_agree 32 [some (.ref 130), some (.int (nI m)), some (.int (nI n)), some (.int (nI r)), some (.int (nI (c + 1))), u5, u6, u7, u8, u9] [] (zsI S 160 (64 * r + c) (nI v)) Q := fun {v u5 u6 u7 u8 u9} ev => by
      subst ev
      have j : zJ [160] S (zsI S 160 (64 * r + c) (nI (vd w T r c))) := zJ.rf.I rfl
      exact w_M_ag_32 hn hr f (c + 1) (upn T (64 * r + c) (vd w T r c)) (S := zsI S 160 (64 * r + c) (nI (vd w T r c))) hS hw (by omega) (by omega) (by rw [zI_eq]; exact tbI_s (by omega) (by omega) hI) (tbB_s hwb hr (by omega) hB) (fun S' u4 u5 u6 u7 u8 u9 j' => h S' u4 u5 u6 u7 u8 u9 (j.tr j'))
    cases ha : alk w r c with
    | true =>
      refine b_M_agree_41 hS ⟨fun h9 => absurd h9 (by decide), fun _ => ?_⟩
      have f0 : ∀ {u6 u7 u8 u9 : Option Value}, zW 2 m_M_agree 100 [some (.ref 130), some (.int (nI m)), some (.int (nI n)), some (.int (nI r)), some (.int (nI c)), some (.int (nI 0)), some (.int (nI 1)), u7, u8, u9] [] S Q := fun {u6 u7 u8 u9} => by
        have ev : 0 = vd w T r c := by unfold vd; rw [ha]; rfl
        refine b_M_agree_100 hS ?_
        rw [pk_mul, nI_add, nI_add, zcl9 (by omega)]
        have g : vp_in (nI (64 * r + c)) 4096 := zin (by omega) (by omega)
        exact ⟨fun _ => ⟨g, fin ev⟩, fun _ => ⟨fun _ => ⟨g, fin ev⟩, fun h9 => absurd (by decide) h9⟩⟩
      exact b_M_agree_48 hS ⟨fun _ => f0 (u6 := none), fun _ => ⟨fun _ => f0 (u6 := none), fun h9 => absurd (by decide) h9⟩⟩
    | false =>
      refine b_M_agree_41 hS ⟨fun _ => w_M_ag_48 hr (by omega) hS hI hB (r - 1) 1 98 u7 u8 u9 (by omega) (by omega) (Nat.le_refl _) (fun u5 u6 u7 u8 u9 => fin ?_), fun h9 => absurd (by decide) h9⟩
      have := lp_12 hwb hr (show 1 ≤ c ∧ c ≤ 2 ^ n - 1 ∧ c < 64 by omega) hB ha
      unfold vd
      rw [ha, if_neg (by decide), ← this]
      rfl
theorem w_M_ag_25 {w : Nat → Nat} {m n : Nat} (hm : 1 ≤ m ∧ m ≤ 6) (hn : 1 ≤ n ∧ n ≤ 6) {Q : ZOut → ZSt → Prop} : ∀ (f r : Nat) (T : Nat → Nat) {u4 u5 u6 u7 u8 u9 : Option Value} {S : ZSt}, zSh S → mkM S w → f + r = 2 ^ m → 1 ≤ r → tbI (zI S 160) T (2 ^ n - 1) r 1 → tbB T (2 ^ n - 1) r 1 → (∀ S', zJ [160] S S' → Q (.inl (some (.int (nI (tbR w (2 ^ n - 1) f r T (64 * (2 ^ m - 1) + (2 ^ n - 1))))))) S') → zW 2 m_M_agree 25 [some (.ref 130), some (.int (nI m)), some (.int (nI n)), some (.int (nI r)), u4, u5, u6, u7, u8, u9] [] S Q
  | 0, r, T, u4, u5, u6, u7, u8, u9, S, hS, hw, hr, h1, hI, hB, hQ => by
    have hp : 2 ^ n ≤ 2 ^ 6 := Nat.pow_le_pow_right (by omega) hn.2
    have hp' : 2 ^ m ≤ 2 ^ 6 := Nat.pow_le_pow_right (by omega) hm.2
    have hq : 2 ^ 1 ≤ 2 ^ n := Nat.pow_le_pow_right (by omega) hn.1
    have hq' : 2 ^ 1 ≤ 2 ^ m := Nat.pow_le_pow_right (by omega) hm.1
    obtain rfl : r = 2 ^ m := by omega
    refine b_M_agree_25 hS ?_
    rw [zshl2 hm.2, zshl2 hn.2, pk_sub (by omega), pk_mul, nI_add, pk_sub (by omega), show 64 * (2 ^ m - 1) + 2 ^ n - 1 = 64 * (2 ^ m - 1) + (2 ^ n - 1) by omega, zcl9 (by omega), hI (2 ^ m - 1) (2 ^ n - 1) ⟨by omega, by omega, Nat.le_refl _, Or.inl (by omega)⟩]
    exact ⟨fun _ => ⟨zin (by omega) (by omega), hQ S zJ.rf⟩, fun h9 => absurd (nI_le (Nat.le_refl _) (by omega)) h9⟩
  | f + 1, r, T, u4, u5, u6, u7, u8, u9, S, hS, hw, hr, h1, hI, hB, hQ => by
    have hp : 2 ^ n ≤ 2 ^ 6 := Nat.pow_le_pow_right (by omega) hn.2
    have hp' : 2 ^ m ≤ 2 ^ 6 := Nat.pow_le_pow_right (by omega) hm.2
    have hq : 2 ^ 1 ≤ 2 ^ n := Nat.pow_le_pow_right (by omega) hn.1
    refine b_M_agree_25 hS ?_
    rw [zshl2 hm.2]
    refine ⟨fun h9 => absurd h9 (nI_ge (by omega) (by omega)), fun _ => w_M_ag_32 hn (by omega) (2 ^ n - 1) 1 T hS hw (by omega) (by omega) hI hB (fun S' u4 u5 u6 u7 u8 u9 j' hI' hB' => w_M_ag_25 hm hn f (r + 1) (tbC w r (2 ^ n - 1) 1 T) (j'.sh hS) (fun j hj => by rw [j'.2 132 rfl]; exact hw j hj) (by omega) (by omega) (tbI_r (by rw [show 2 ^ n - 1 + 1 = 2 ^ n by omega]; exact hI')) (tbB_r (by rw [show 2 ^ n - 1 + 1 = 2 ^ n by omega]; exact hB')) (fun S2 j2 => hQ S2 (j'.tr j2)))⟩
def mF (S : ZSt) (j : Nat) : Nat := (zI S 132 (107 + j)).toNatClampNeg
theorem p_agree {v1 v2 : Int32} {S : ZSt} (hS : zSh S) (hD : zStD S) (hJ : jCore S) : zC m_L_agree [.ref 75, .int v1, .int v2, .ref 161] S (zTwoR S m_M_agree [.int v1, .int v2] (zAns4 S)) := by
  have hW := hJ.1.2.2.2.2.2.1
  have hM : ∀ j, j < 36 → zI S 132 (107 + j) = nI (mF S j) ∧ mF S j ≤ 1 := fun j hj => jRg_c (hW j hj).2 (by omega)
  have hO : mkO S (mF S) := fun j hj => ⟨(hW j hj).1.trans (hM j hj).1, (hM j hj).2⟩
  have hMT : ∀ {T}, zAt S T → mkM (zsI T 130 0 (nI 0)) (mF S) := fun {T} tT j hj => by
    show zI T 132 (107 + j) = _ ∧ _
    rw [tT.at rfl]
    exact hM j hj
  by_cases hp : zIn v1 1 6
  case neg =>
    exact y_agree (res := .inl (2, 1)) hS hD hJ (fun r kk e => by cases e; omega) (b_N_agree hS (w_N_isNotR rfl hS (fun h9 => absurd h9 hp) (fun _ => b_N_agree_5 hS ⟨fun _ => b_N_refuseIf hS ⟨fun h9 => absurd h9 (by decide), fun _ => ⟨zinl rfl, zinl rfl, zOb_bad (r := 2) (kk := 1) hS⟩⟩, fun h9 => absurd (by decide) h9⟩))) (fun T hT tT => b_M_agree hT (w_M_withinR rfl hT (fun h9 => absurd h9 hp) (fun _ => b_M_agree_8 hT ⟨fun _ => w_M_may0 (S := zsI T 130 0 (nI 0)) hT rfl (by omega) (by omega) (b_M_agree_20 hT ⟨fun h9 => absurd (by decide) h9, fun _ => zMo_bad (r := 2) (kk := 1) hT⟩), fun h9 => absurd (by decide) h9⟩)))
  have hp' := hp
  obtain ⟨m, m1, m2, rfl⟩ := hp
  by_cases hq : zIn v2 1 6
  case neg =>
    exact y_agree (res := .inl (2, 1)) hS hD hJ (fun r kk e => by cases e; omega) (b_N_agree hS (w_N_isNotR rfl hS (fun _ => b_N_agree_5 hS ⟨fun h9 => absurd (by decide) h9, fun _ => w_N_isNotR rfl hS (fun h9 => absurd h9 hq) (fun _ => b_N_agree_10 hS ⟨fun h9 => absurd h9 (by decide), fun _ => b_N_refuseIf hS ⟨fun h9 => absurd h9 (by decide), fun _ => ⟨zinl rfl, zinl rfl, zOb_bad (r := 2) (kk := 1) hS⟩⟩⟩)⟩) (fun h9 => absurd hp' h9))) (fun T hT tT => b_M_agree hT (w_M_withinR rfl hT (fun _ => b_M_agree_8 hT ⟨fun h9 => absurd h9 (by decide), fun _ => w_M_withinR rfl hT (fun h9 => absurd h9 hq) (fun _ => b_M_agree_13 hT ⟨fun _ => w_M_may0 (S := zsI T 130 0 (nI 0)) hT rfl (by omega) (by omega) (b_M_agree_20 hT ⟨fun h9 => absurd (by decide) h9, fun _ => zMo_bad (r := 2) (kk := 1) hT⟩), fun h9 => absurd (by decide) h9⟩)⟩) (fun h9 => absurd hp' h9)))
  have hq' := hq
  obtain ⟨n, n1, n2, rfl⟩ := hq
  have hpn : 2 ^ n ≤ 2 ^ 6 := Nat.pow_le_pow_right (by omega) n2
  have hpm : 2 ^ m ≤ 2 ^ 6 := Nat.pow_le_pow_right (by omega) m2
  have hqn : 2 ^ 1 ≤ 2 ^ n := Nat.pow_le_pow_right (by omega) n1
  have hqm : 2 ^ 1 ≤ 2 ^ m := Nat.pow_le_pow_right (by omega) m1
  have i0 : ∀ {g : Nat → Int32} {T : Nat → Nat}, tbI g T (2 ^ n - 1) 1 1 := fun {g T} r' c' ⟨a1, a2, a3, a4⟩ => by omega
  have b0 : ∀ {T : Nat → Nat}, tbB T (2 ^ n - 1) 1 1 := fun {T} r' c' ⟨a1, a2, a3, a4⟩ => by omega
  refine y_agree (res := .inr (nI (tbR (mF S) (2 ^ n - 1) (2 ^ m - 1) 1 z0 (64 * (2 ^ m - 1) + (2 ^ n - 1))))) hS hD hJ (fun r kk e => by cases e) (b_N_agree hS (w_N_isNotR rfl hS (fun _ => b_N_agree_5 hS ⟨fun h9 => absurd (by decide) h9, fun _ => w_N_isNotR rfl hS (fun _ => b_N_agree_10 hS ⟨fun _ => b_N_refuseIf hS ⟨fun _ => b_N_agree_15 hS (b_Re_fewestAnswers hS ?_), fun h9 => absurd (by decide) h9⟩, fun h9 => absurd (by decide) h9⟩) (fun h9 => absurd hq' h9)⟩) (fun h9 => absurd hp' h9))) (fun T hT tT => b_M_agree hT (w_M_withinR rfl hT (fun _ => b_M_agree_8 hT ⟨fun h9 => absurd h9 (by decide), fun _ => w_M_withinR rfl hT (fun _ => b_M_agree_13 hT ⟨fun h9 => absurd h9 (by decide), fun _ => w_M_may1 (S := zsI T 130 0 (nI 0)) hT rfl (b_M_agree_20 hT ⟨fun _ => w_M_ag_25 ⟨m1, m2⟩ ⟨n1, n2⟩ (2 ^ m - 1) 1 z0 (S := zsI T 130 0 (nI 0)) hT (hMT tT) (by omega) (by omega) i0 b0 (fun S1 j1 => ⟨rfl, zH0.tr (j1.hM rfl), j1.sh hT, j1.l161, zKM0.tr (zKM.of j1 rfl (fun j hj => by rw [j1.2 130 rfl])), by rw [j1.2 130 rfl, zI_s]⟩), fun h9 => absurd (by decide) h9⟩)⟩) (fun h9 => absurd hq' h9)⟩) (fun h9 => absurd hp' h9)))
  have e64 : ∀ {k : Nat}, 1 ≤ k ∧ k ≤ 6 → (if zShl (nI 1) (nI k) < nI 64 then zShl (nI 1) (nI k) else nI 64) - nI 1 = nI (2 ^ k - 1) := fun {k} hk => by
    have h1 : 2 ^ k ≤ 2 ^ 6 := Nat.pow_le_pow_right (by omega) hk.2
    have h2 : 2 ^ 1 ≤ 2 ^ k := Nat.pow_le_pow_right (by omega) hk.1
    rw [zshl2 hk.2, nI_mn (by omega) (by omega)]
    have : (if 2 ^ k < 64 then 2 ^ k else 64) = 2 ^ k := by split <;> omega
    rw [this, pk_sub (by omega)]
  rw [e64 ⟨m1, m2⟩, e64 ⟨n1, n2⟩]
  exact w_Re_fA_18 (by omega) (by omega) (2 ^ m - 1) 1 z0 hS hO (by omega) (by omega) i0 b0 (fun S1 j1 => b_N_agree_23 (j1.sh hS) ⟨rfl, j1.hO rfl, j1.sh hS⟩)
