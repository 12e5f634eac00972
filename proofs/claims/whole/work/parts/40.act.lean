/-! the shop: why an ACT can not be -/
theorem why_eq {P : Int} (st kd am there flat least : Int32) (thick hollow damp fresh pulls fats : Nat → Int32) (h : InvS P there thick hollow damp fresh pulls fats) (hk : kd = 0 ∨ kd = 1 ∨ kd = 2 ∨ kd = 3 ∨ kd = 4 ∨ kd = 5) : ∃ r : Nat, r ≤ 6 ∧ fX9_reasonAgainst st kd am there flat least fresh hollow thick = some (nI r) ∧ fX11_whyNot kd st am there flat least hollow thick fresh = some (nI r) ∧ (r = 0 → ∃ s, s < 5 ∧ st = nI s ∧ ¬ fX6_has (nI s) there = 0 ∧ (kd = 5 → ∃ q, q < 5 ∧ am = nI q ∧ ¬ fX6_has (nI q) there = 0 ∧ s ≠ q) ∧ (kd = 4 → ∃ p, p < 8 ∧ fresh s = nI p) ∧ (kd = 1 ∨ kd = 2 → least ≤ thick s - 3 * am)) := by
  unfold fX9_reasonAgainst fX11_whyNot
  rw [has_eq, has_eq]
  by_cases c1 : fX6_has st there = 0
  · rw [if_pos c1, if_pos c1]; exact ⟨1, by omega, rfl, rfl, fun h => by omega⟩
  rw [if_neg c1, if_neg c1]
  obtain ⟨s, hs, rfl⟩ := has_nI c1
  simp only [gd_ik (k := s) (n := 5) hs (by omega), cl_nI hs (show 5 < 1000000 by omega)]
  have hfr := fresh_cases (h.2.2.2.2.1.1.1 s hs) (h.2.2.2.2.1.2 s hs)
  have key : ∀ b : Int32, (b = 0 ∧ hollow s ≤ flat ∨ b = 1 ∧ ¬ hollow s ≤ flat) → ∃ r : Nat, r ≤ 6 ∧ fX9_reasonAgainst_49 (nI s) kd am there flat least fresh hollow thick = some (nI r) ∧ fX11_whyNot_41 kd (nI s) am b least thick fresh = some (nI r) ∧ (r = 0 → (kd = 5 → ¬ am = nI s) ∧ (kd = 4 → ∃ p, p < 8 ∧ fresh s = nI p) ∧ (kd = 1 ∨ kd = 2 → least ≤ thick s - 3 * am)) := by
    intro b hb
    have hb2 : (b = 0 ↔ hollow s ≤ flat) := by
      rcases hb with ⟨rfl, hb⟩ | ⟨rfl, hb⟩
      · exact ⟨fun _ => hb, fun _ => rfl⟩
      · exact ⟨fun z => absurd z (by decide), fun z => absurd z hb⟩
    unfold fX9_reasonAgainst_49 fX11_whyNot_41 fX9_reasonAgainstDraw fX9_reasonAgainstPulls
    simp only [gd_ik (k := s) (n := 5) hs (by omega), cl_nI hs (show 5 < 1000000 by omega), hb2, if_neg c1]
    rcases hk with rfl | rfl | rfl | rfl | rfl | rfl
    · simp only [if_pos (show (0 : Int32) = 0 from rfl)]
      rcases hfr with e | ⟨p, hp, e⟩
      · simp only [e, if_pos (show (-6 : Int32) = -6 from rfl), if_pos (show (-6 : Int32) < 0 by decide)]
        by_cases c : hollow s ≤ flat
        · simp only [if_pos c]; exact ⟨0, by omega, rfl, rfl, fun _ => ⟨fun z => absurd z (by decide), fun z => absurd z (by decide), fun z => absurd z (by decide)⟩⟩
        · simp only [if_neg c]; exact ⟨5, by omega, rfl, rfl, fun z => by omega⟩
      · simp only [e, if_neg (ne_m6 (show p < 1000000 by omega)), if_neg (nI_pos (show p < 2 ^ 31 by omega))]; exact ⟨3, by omega, rfl, rfl, fun z => by omega⟩
    · simp only [if_neg (show ¬ (1 : Int32) = 0 by decide), if_pos (show (1 : Int32) = 1 from rfl)]
      by_cases c : least ≤ thick s - 3 * am
      · simp only [if_pos c]; exact ⟨0, by omega, rfl, rfl, fun _ => ⟨fun z => absurd z (by decide), fun z => absurd z (by decide), fun _ => c⟩⟩
      · simp only [if_neg c]; exact ⟨6, by omega, rfl, rfl, fun z => by omega⟩
    · simp only [if_neg (show ¬ (2 : Int32) = 0 by decide), if_neg (show ¬ (2 : Int32) = 1 by decide), if_pos (show (2 : Int32) = 2 from rfl)]
      by_cases c : least ≤ thick s - 3 * am
      · simp only [if_pos c]; exact ⟨0, by omega, rfl, rfl, fun _ => ⟨fun z => absurd z (by decide), fun z => absurd z (by decide), fun _ => c⟩⟩
      · simp only [if_neg c]; exact ⟨6, by omega, rfl, rfl, fun z => by omega⟩
    · simp only [if_neg (show ¬ (3 : Int32) = 0 by decide), if_neg (show ¬ (3 : Int32) = 1 by decide), if_neg (show ¬ (3 : Int32) = 2 by decide), if_pos (show (3 : Int32) = 3 from rfl)]; exact ⟨0, by omega, rfl, rfl, fun _ => ⟨fun z => absurd z (by decide), fun z => absurd z (by decide), fun z => absurd z (by decide)⟩⟩
    · simp only [if_neg (show ¬ (4 : Int32) = 0 by decide), if_neg (show ¬ (4 : Int32) = 1 by decide), if_neg (show ¬ (4 : Int32) = 2 by decide), if_neg (show ¬ (4 : Int32) = 3 by decide), if_pos (show (4 : Int32) = 4 from rfl)]
      rcases hfr with e | ⟨p, hp, e⟩
      · simp only [e, if_pos (show (-6 : Int32) = -6 from rfl), if_neg (show ¬ (0 : Int32) ≤ -6 by decide)]; exact ⟨4, by omega, rfl, rfl, fun z => by omega⟩
      · simp only [e, if_neg (ne_m6 (show p < 1000000 by omega)), if_pos (ge0 (show p < 1000000 by omega))]
        by_cases c : hollow s ≤ flat
        · simp only [if_pos c]
          by_cases c2 : least ≤ thick s
          · simp only [if_pos c2]; exact ⟨0, by omega, rfl, rfl, fun _ => ⟨fun z => absurd z (by decide), fun _ => ⟨p, hp, rfl⟩, fun z => absurd z (by decide)⟩⟩
          · simp only [if_neg c2]; exact ⟨6, by omega, rfl, rfl, fun z => by omega⟩
        · simp only [if_neg c]; exact ⟨5, by omega, rfl, rfl, fun z => by omega⟩
    · simp only [if_neg (show ¬ (5 : Int32) = 0 by decide), if_neg (show ¬ (5 : Int32) = 1 by decide), if_neg (show ¬ (5 : Int32) = 2 by decide), if_neg (show ¬ (5 : Int32) = 3 by decide), if_neg (show ¬ (5 : Int32) = 4 by decide), if_pos (show (5 : Int32) = 5 from rfl)]
      by_cases c : am = nI s
      · simp only [if_pos c, if_pos c.symm]; exact ⟨2, by omega, rfl, rfl, fun z => by omega⟩
      · simp only [if_neg c, if_neg (fun z : nI s = am => c z.symm)]; exact ⟨0, by omega, rfl, rfl, fun _ => ⟨fun _ => c, fun z => absurd z (by decide), fun z => absurd z (by decide)⟩⟩
  have key2 : ∃ r : Nat, r ≤ 6 ∧ fX9_reasonAgainst_49 (nI s) kd am there flat least fresh hollow thick = some (nI r) ∧ (if hollow s ≤ flat then fX11_whyNot_41 kd (nI s) am 0 least thick fresh else fX11_whyNot_41 kd (nI s) am 1 least thick fresh) = some (nI r) ∧ (r = 0 → (kd = 5 → ¬ am = nI s) ∧ (kd = 4 → ∃ p, p < 8 ∧ fresh s = nI p) ∧ (kd = 1 ∨ kd = 2 → least ≤ thick s - 3 * am)) := by
    by_cases c : hollow s ≤ flat
    · rw [if_pos c]; exact key 0 (Or.inl ⟨rfl, c⟩)
    · rw [if_neg c]; exact key 1 (Or.inr ⟨rfl, c⟩)
  obtain ⟨r, r1, r2, r3, r4⟩ := key2
  by_cases c5 : kd = 5
  · rw [if_pos c5, if_pos c5]
    by_cases c2 : fX6_has am there = 0
    · rw [if_pos c2, if_pos c2]; exact ⟨1, by omega, rfl, rfl, fun h => by omega⟩
    · rw [if_neg c2, if_neg c2]
      obtain ⟨q, hq, rfl⟩ := has_nI c2
      refine ⟨r, r1, r2, r3, fun e => ⟨s, hs, rfl, c1, fun _ => ⟨q, hq, rfl, c2, fun z => (r4 e).1 c5 (by rw [z])⟩, (r4 e).2⟩⟩
  · rw [if_neg c5, if_neg c5]
    exact ⟨r, r1, r2, r3, fun e => ⟨s, hs, rfl, c1, fun z => absurd z c5, (r4 e).2⟩⟩
