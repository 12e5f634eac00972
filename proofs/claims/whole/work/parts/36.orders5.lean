/-! which PICTURES may be on which STONES -/
def tk (there flat least : Int32) (hollow thick : Nat → Int32) (s : Nat) : Bool := decide (¬ fX6_has (nI s) there = 0 ∧ ¬ flat < hollow s ∧ ¬ thick s < least)
def gN (fats : Nat → Int32) (s p : Nat) : Nat := (gm (row s fats) (nI p) 8).toInt.toNat
def ls_ (fats deep fine : Nat → Int32) (x2 : Int32) (p s : Nat) : Bool := decide (¬ nI (pl (dN deep p) (gN fats s p) (dN fine p / 3 + 1) 0) < x2)
theorem gN_ok {fats : Nat → Int32} {s : Nat} (p : Nat) (h : Bd 40 0 60 fats) (hs : s < 5) : gm (row s fats) (nI p) 8 = nI (gN fats s p) ∧ gN fats s p ≤ 60 := by
  obtain ⟨g, h1, h2⟩ := gm_nat (s := s) (nI p) h hs
  have : gN fats s p = g := by unfold gN; rw [h2, nI_toInt (by omega)]; omega
  rw [this]; exact ⟨h2, h1⟩
theorem takes_eq {there flat least : Int32} {hollow thick : Nat → Int32} {s : Nat} (hs : s < 5) : fX4_takesOrders (nI s) there flat least hollow thick = some (if tk there flat least hollow thick s then 1 else 0) := by
  unfold fX4_takesOrders tk
  by_cases c1 : fX6_has (nI s) there = 0
  · rw [if_pos c1, decide_eq_false (fun h => h.1 c1)]; rfl
  · rw [if_neg c1, gd_ix rfl hs (by omega), cl_nI hs (by omega)]
    by_cases c2 : flat < hollow s
    · rw [if_pos c2, decide_eq_false (fun h => h.2.1 c2)]; rfl
    · rw [if_neg c2]
      by_cases c3 : thick s < least
      · rw [if_pos c3, decide_eq_false (fun h => h.2.2 c3)]; rfl
      · rw [if_neg c3, decide_eq_true ⟨c1, c2, c3⟩]; rfl
theorem wl_eq {fats deep fine : Nat → Int32} {s p : Nat} (x2 : Int32) (h6 : Bd 40 0 60 fats) (hd : Bd 8 1 60 deep) (hf : Bd 8 1 9 fine) (hs : s < 5) (hp : p < 8) : fX4_wouldLast (nI s) (nI p) 0 x2 fats deep fine = some (if ls_ fats deep fine x2 p s then 1 else 0) ∧ ∃ r, fX11_ghostFat (nI s) (nI p) fats = some (nI (gN fats s p)) ∧ fX11_lasts (nI p) (deep p) 0 (nI (gN fats s p)) fine = some r ∧ (r < x2 ↔ ls_ fats deep fine x2 p s = false) := by
  obtain ⟨g1, g2⟩ := gN_ok p h6 hs
  obtain ⟨e1, -, b1⟩ := dN_ok (lo := 1) (hi := 60) hd (by omega) hp
  obtain ⟨e3, a3, b3⟩ := dN_ok (lo := 1) (hi := 9) hf (by omega) hp
  have hw := wear_N hf hp
  refine ⟨?_, nI (pl (dN deep p) (gN fats s p) (dN fine p / 3 + 1) 0), ?_, ?_, ?_⟩
  · have := last_ok (k := 0) x2 hs hp (by omega) h6 e1 b1 hw.1 (by omega) (by omega) g1 g2
    rw [nI_0] at this
    rw [this, Nat.mul_zero, Nat.sub_zero]
    unfold ls_
    by_cases c : nI (pl (dN deep p) (gN fats s p) (dN fine p / 3 + 1) 0) < x2
    · rw [if_pos c, decide_eq_false (fun z => z c)]; rfl
    · rw [if_neg c, decide_eq_true c]; rfl
  · rw [f11gh s hs _ _ h6, g1]
  · have := f_lasts p (gN fats s p) (dN fine p / 3 + 1) (dN deep p) 0 fine hw.2 (by omega) (by omega) g2 b1 (by omega)
    rw [nI_0] at this
    rw [← e1] at this
    exact this
  · unfold ls_
    rw [decide_eq_false_iff_not, Decidable.not_not]
