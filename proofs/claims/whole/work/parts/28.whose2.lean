/-! counting by stretches -/
def cn (l u : Nat → Nat) (f : Nat) : Nat := u f + 1 - l f
def sm (l u : Nat → Nat) : Nat → Nat
  | 0 => 0
  | f + 1 => sm l u f + cn l u f
theorem sm_le {l u : Nat → Nat} (hl : ∀ f, 1 ≤ l f) (hu : ∀ f, u f ≤ 20) : ∀ f, sm l u f ≤ 20 * f := by
  intro f
  induction f with
  | zero => exact Nat.le_refl _
  | succ f ih =>
    have := hl f; have := hu f
    unfold sm cn; omega
section
variable {size shown : Int32} {drawn pull deep fine shows : Nat → Int32} {l u : Nat → Nat}
theorem Mw (x1 : Int32) (hl : ∀ f, 1 ≤ l f) (hu : ∀ f, u f ≤ 20) (hf : ∀ f, f < 8 → ∀ g, 1 ≤ g → g ≤ 20 → fX11_fits (nI f) (nI g) size drawn pull deep fine shows = some (if l f ≤ g ∧ g ≤ u f then 1 else 0)) (f : Nat) (hf8 : f < 8) (m : Nat) : ∀ (d r : Nat), r + d = 20 → LX11_whose_4 x1 size drawn pull deep fine shows (m + d) (nI (sm l u f + (min (u f) r + 1 - l f))) (nI (20 * f + r)) = if ((sm l u f + (min (u f) r + 1 - l f) : Nat) : Int) ≤ x1.toInt ∧ x1.toInt < ((sm l u f + cn l u f : Nat) : Int) then some (nI (100 * f + l f + (x1.toInt.toNat - sm l u f))) else LX11_whose_4 x1 size drawn pull deep fine shows m (nI (sm l u (f + 1))) (nI (20 * (f + 1))) := by
  have hs := sm_le hl hu f
  have h1 := hl f
  have h2 := hu f
  intro d
  induction d with
  | zero =>
    intro r hr
    have e : min (u f) r + 1 - l f = cn l u f := by unfold cn; omega
    rw [e, if_neg (by omega)]
    have e2 : sm l u f + cn l u f = sm l u (f + 1) := rfl
    rw [e2, show 20 * f + r = 20 * (f + 1) by omega]
    rfl
  | succ d ih =>
    intro r hr
    have i1 := ih (r + 1) (by omega)
    show FX11_whose_4 x1 size drawn pull deep fine shows (LX11_whose_4 x1 size drawn pull deep fine shows (m + d)) _ (nI (20 * f + r)) = _
    unfold FX11_whose_4
    have hc : cn l u f ≤ 20 := by unfold cn; omega
    rw [if_neg (fun z => by rw [show (160 : Int32) = nI 160 from rfl, nI_leI (by omega) (by omega)] at z; omega)]
    have ed : nI (20 * f + r) / 20 = nI f := by
      rw [show (20 : Int32) = nI 20 from rfl, pk_div (by omega) (by omega) (by omega), show (20 * f + r) / 20 = f by omega]
    have er : nI (20 * f + r) - nI (20 * f + r) / 20 * 20 = nI r := by
      have := pk_rem (a := 20 * f + r) (d := 20) (by omega) (by omega) (by omega)
      rw [show (20 * f + r) % 20 = r by omega] at this
      exact this
    have eg : (1 : Int32) + nI r = nI (r + 1) := by rw [show (1 : Int32) = nI 1 from rfl, nI_add, Nat.add_comm]
    rw [er, eg, lt_e, ed, hf f hf8 (r + 1) (by omega) (by omega), bd_s]
    simp only [lt_e, nI_1]
    by_cases c1 : l f ≤ r + 1 ∧ r + 1 ≤ u f
    · rw [if_pos c1, if_neg (by decide)]
      have e1 : min (u f) r + 1 - l f = r + 1 - l f := by omega
      have e2 : min (u f) (r + 1) + 1 - l f = r + 1 - l f + 1 := by omega
      rw [e2] at i1
      rw [e1]
      by_cases c2 : x1.toInt = (sm l u f + (r + 1 - l f) : Nat)
      · have ex : nI (sm l u f + (r + 1 - l f)) = x1 := by rw [t_eq, nI_toInt (by omega), c2]
        rw [if_pos ex, if_pos (by unfold cn; omega)]
        rw [show (100 : Int32) = nI 100 from rfl, pk_mul, nI_add]
        congr 2
        omega
      · rw [if_neg (fun z => c2 (by rw [← z, nI_toInt (by omega)]))]
        rw [show 20 * f + r + 1 = 20 * f + (r + 1) by omega, show sm l u f + (r + 1 - l f) + 1 = sm l u f + (r + 1 - l f + 1) by omega, i1]
        by_cases c3 : (sm l u f + (r + 1 - l f + 1) : Nat) ≤ x1.toInt ∧ x1.toInt < (sm l u f + cn l u f : Nat)
        · rw [if_pos (by omega), if_pos (by omega)]
        · rw [if_neg (by omega), if_neg (by omega)]
    · rw [if_neg c1, if_pos rfl]
      have e2 : min (u f) (r + 1) + 1 - l f = min (u f) r + 1 - l f := by omega
      rw [e2] at i1
      rw [show 20 * f + r + 1 = 20 * f + (r + 1) by omega]
      exact i1
theorem Mw0 (x1 : Int32) (hl : ∀ f, 1 ≤ l f) (hl2 : ∀ f, l f ≤ 20) (hu : ∀ f, u f ≤ 20) (hc : ∀ f, f < 8 → fX4_countTwos (nI f) size shown drawn pull deep fine = some (nI (cn l u f))) (hm : ∀ f, f < 8 → fX4_fewestMinutes (nI f) size shown drawn pull deep fine = some (nI (l f))) (hf : ∀ f, f < 8 → ∀ g, 1 ≤ g → g ≤ 20 → fX11_fits (nI f) (nI g) size drawn pull deep fine shows = some (if l f ≤ g ∧ g ≤ u f then 1 else 0)) : ∀ (e f n m : Nat), f + e = 8 → e + 1 ≤ n → 1 ≤ m → ∃ r, LX10_whose_4 x1 size shown drawn pull deep fine n (nI (sm l u f)) (nI f) = some r ∧ LX11_whose_4 x1 size drawn pull deep fine shows (m + 20 * e) (nI (sm l u f)) (nI (20 * f)) = some r := by
  intro e
  induction e with
  | zero =>
    intro f n m h1 h2 h3
    have ef : f = 8 := by omega
    subst ef
    cases n with
    | zero => omega
    | succ n =>
      cases m with
      | zero => omega
      | succ m =>
        show ∃ r, FX10_whose_4 x1 size shown drawn pull deep fine (LX10_whose_4 x1 size shown drawn pull deep fine n) _ (nI 8) = some r ∧ FX11_whose_4 x1 size drawn pull deep fine shows (LX11_whose_4 x1 size drawn pull deep fine shows m) _ (nI 160) = some r
        unfold FX10_whose_4 FX11_whose_4
        rw [if_pos (show (8 : Int32) ≤ nI 8 by decide), if_pos (show (160 : Int32) ≤ nI 160 by decide)]
        split <;> exact ⟨_, rfl, rfl⟩
  | succ e ih =>
    intro f n m h1 h2 h3
    have hs := sm_le hl hu f
    have hf8 : f < 8 := by omega
    have q1 := hl f
    have q2 := hu f
    have q3 := hl2 f
    have hcn : cn l u f ≤ 20 := by unfold cn; omega
    cases n with
    | zero => omega
    | succ n =>
      obtain ⟨r, i1, i2⟩ := ih (f + 1) n m (by omega) (by omega) h3
      have hM := Mw x1 hl hu hf f hf8 (m + 20 * e) 20 0 (by omega)
      simp only [show min (u f) 0 + 1 - l f = 0 by omega, Nat.add_zero] at hM
      rw [show m + 20 * (e + 1) = m + 20 * e + 20 by omega, hM]
      show ∃ r, FX10_whose_4 x1 size shown drawn pull deep fine (LX10_whose_4 x1 size shown drawn pull deep fine n) _ (nI f) = some r ∧ _
      unfold FX10_whose_4
      rw [if_neg (le8 hf8), hc f hf8, bd_s]
      simp only [lt_e, nI_add, nI_1]
      have e2 : sm l u f + cn l u f = sm l u (f + 1) := rfl
      by_cases c1 : x1 < nI (sm l u f)
      · rw [if_pos c1]
        rw [t_lt, nI_toInt (by omega)] at c1
        rw [if_neg (by omega), e2]
        exact ⟨r, i1, i2⟩
      · rw [if_neg c1]
        rw [t_lt, nI_toInt (by omega)] at c1
        by_cases c2 : nI (sm l u f + cn l u f) ≤ x1
        · rw [if_pos c2]
          rw [t_le, nI_toInt (by omega)] at c2
          rw [if_neg (by omega), e2]
          exact ⟨r, i1, i2⟩
        · rw [if_neg c2]
          rw [t_le, nI_toInt (by omega)] at c2
          obtain ⟨i, hi, ei⟩ := t_of (x := x1) (n := 1000) (by omega) (by omega) (by omega)
          subst ei
          rw [nI_toInt (by omega)] at c1 c2
          rw [hm f hf8, bd_s, if_pos (by rw [nI_toInt (by omega)]; omega), nI_toInt (by omega)]
          refine ⟨_, rfl, ?_⟩
          rw [show (100 : Int32) = nI 100 from rfl, pk_mul, nI_add, nI_add, pk_sub (by omega)]
          congr 2
          omega
end
