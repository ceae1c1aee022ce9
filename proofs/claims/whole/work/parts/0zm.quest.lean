/-! what may be sought: the reference's side -/
theorem w_M_mF {x1 v2 v3 v4 v5 v6 : Int32} {x0 x2 : Nat} {S : ZSt} {Q : ZOut → ZSt → Prop} (hS : zSh S) (e0 : zI S 132 0 = nI x0) (hx0 : x0 ≤ 12) (e2 : zI S 132 2 = nI x2) (hx2 : x2 ≤ 24) (h0 : zI S 130 0 = nI 0) (ok : zQu v2 v3 v4 v5 x0 x2 ∧ zIn v6 0 5 → zW 3 m_M_mayFind 49 [some (.ref 130), some (.int x1), some (.int v2), some (.int v3), some (.int v4), some (.int v5), some (.int v6)] [.int (nI 1)] S Q) (bad : ¬ (zQu v2 v3 v4 v5 x0 x2 ∧ zIn v6 0 5) → zW 3 m_M_mayFind 49 [some (.ref 130), some (.int x1), some (.int v2), some (.int v3), some (.int v4), some (.int v5), some (.int v6)] [.int (nI 0)] (zsI (zsI S 130 0 (nI 2)) 131 2 (zI S 131 2 + nI 1)) Q) : zC m_M_within [.int v2, .int (nI 1), .int (nI 2)] S (zback m_M_mayFind 13 9 [some (.ref 130), some (.int x1), some (.int v2), some (.int v3), some (.int v4), some (.int v5), some (.int v6)] [.ref 130] (fun i1 l1 s1 S1 => zW 3 m_M_mayFind i1 l1 s1 S1 Q) (fun x S1 => Q (.inr x) S1)) := by
  have B : ¬ (zQu v2 v3 v4 v5 x0 x2 ∧ zIn v6 0 5) → zC m_M_may [.ref 130, .int (nI 0), .int (nI 2), .int (nI 2)] S (zback m_M_mayFind 88 48 [some (.ref 130), some (.int x1), some (.int v2), some (.int v3), some (.int v4), some (.int v5), some (.int v6)] [] (fun i1 l1 s1 S1 => zW 3 m_M_mayFind i1 l1 s1 S1 Q) (fun x S1 => Q (.inr x) S1)) := fun h => w_M_may0 hS h0 (by omega) (by omega) (bad h)
  refine w_M_withinR rfl hS (fun ⟨m, a1, a2, a3⟩ => b_M_mayFind_10 hS ⟨fun h9 => absurd h9 (by decide), fun _ => ⟨zinl rfl, ?_⟩⟩) (fun h9 => b_M_mayFind_10 hS ⟨fun _ => B (fun ⟨⟨⟨m, n, b1, b2, b3, b4, b5, b6⟩, _, _⟩, _⟩ => h9 ⟨m, b1, b2, b5⟩), fun h8 => absurd (by decide) h8⟩)
  subst a3
  rw [e0]
  refine ⟨fun h9 => B (fun ⟨⟨⟨m', n, b1, b2, b3, b4, b5, b6⟩, _, _⟩, _⟩ => ?_), fun h9 => ?_⟩
  · have e1 : m = m' := nEq (by omega) (by omega) b5
    exact absurd h9 (nI_nlt (by omega) (by omega))
  have hm : m ≤ x0 := Nat.not_lt.mp (fun h8 => h9 (nI_lt h8 (by omega)))
  refine w_M_withinR rfl hS (fun ⟨n, c1, c2, c3⟩ => b_M_mayFind_21 hS ⟨fun h9 => absurd h9 (by decide), fun _ => ?_⟩) (fun h8 => b_M_mayFind_21 hS ⟨fun _ => B (fun ⟨⟨⟨m', n, b1, b2, b3, b4, b5, b6⟩, _, _⟩, _⟩ => h8 ⟨n, Nat.zero_le _, b4, b6⟩), fun h7 => absurd (by decide) h7⟩)
  refine w_M_withinR rfl hS (fun ⟨k, d1, d2, d3⟩ => b_M_mayFind_26 hS ⟨fun h9 => absurd h9 (by decide), fun _ => ⟨zinl rfl, ?_⟩⟩) (fun h8 => b_M_mayFind_26 hS ⟨fun _ => B (fun ⟨⟨_, ⟨k, b1, b2, b3, b4⟩, _⟩, _⟩ => h8 ⟨k, b1, b2, b4⟩), fun h7 => absurd (by decide) h7⟩)
  subst d3
  rw [e2]
  refine ⟨fun h8 => B (fun ⟨⟨_, ⟨k', b1, b2, b3, b4⟩, _⟩, _⟩ => ?_), fun h8 => ?_⟩
  · have e1 : k = k' := nEq (by omega) (by omega) b4
    exact absurd h8 (nI_nlt (by omega) (by omega))
  have hk : k ≤ x2 := Nat.not_lt.mp (fun h7 => h8 (nI_lt h7 (by omega)))
  exact w_M_withinR rfl hS (fun hi => b_M_mayFind_37 hS ⟨fun h9 => absurd h9 (by decide), fun _ => w_M_withinR rfl hS (fun hj => b_M_mayFind_42 hS ⟨fun h9 => absurd h9 (by decide), fun _ => w_M_may1 hS h0 (ok ⟨⟨⟨m, n, a1, a2, hm, c2, rfl, c3⟩, ⟨k, d1, d2, hk, rfl⟩, hi⟩, hj⟩)⟩) (fun h7 => b_M_mayFind_42 hS ⟨fun _ => B (fun q => h7 q.2), fun h6 => absurd (by decide) h6⟩)⟩) (fun h7 => b_M_mayFind_37 hS ⟨fun _ => B (fun q => h7 q.1.2.2), fun h6 => absurd (by decide) h6⟩)
