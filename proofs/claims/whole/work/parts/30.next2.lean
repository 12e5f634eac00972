section
variable {size shown : Int32} {drawn pull deep fine shows : Nat → Int32} {l u : Nat → Nat}
/-- of the stretch of f, those that show -/
def yc (l u w : Nat → Nat) (f : Nat) : Nat := min (u f) (w f) + 1 - l f
def ys (l u w : Nat → Nat) : Nat → Nat
  | 0 => 0
  | f + 1 => ys l u w f + yc l u w f
theorem ys_le (l u w : Nat → Nat) : ∀ f, ys l u w f ≤ sm l u f := by
  intro f
  induction f with
  | zero => exact Nat.le_refl _
  | succ f ih => unfold ys sm yc cn; omega
def ml (l u w : Nat → Nat) : Nat := max (ys l u w 8) (sm l u 8 - ys l u w 8)
theorem imin_nI {a b : Nat} (ha : a < 1000000) (hb : b < 1000000) : imin (nI a) (nI b) = nI (min a b) := by
  unfold imin
  by_cases h : b < a
  · rw [if_pos ((nI_ltI (by omega) (by omega)).mpr h), Nat.min_eq_right (by omega)]
  · rw [if_neg (fun z => h ((nI_ltI (by omega) (by omega)).mp z)), Nat.min_eq_left (by omega)]
theorem cnt_imax {a b : Nat} (ha : a ≤ 20) (hb : 1 ≤ b) (hb2 : b ≤ 20) : imax 0 (nI a - nI b + 1) = nI (a + 1 - b) := by
  have hs := pk_sub_toInt (a := a) (b := b) (by omega) (by omega)
  have h1 := l1
  have h0 := l0
  have e : (nI a - nI b + 1).toInt = (a : Int) - b + 1 := by rw [t_add (by omega) (by omega), hs, h1]
  unfold imax
  rw [t_eq, nI_toInt (by omega)]
  by_cases c : (0 : Int32) < nI a - nI b + 1
  · rw [if_pos c]; rw [t_lt] at c; omega
  · rw [if_neg c]; rw [t_lt] at c; omega
theorem L4ml (d n : Nat) (w : Nat → Nat) (hl : ∀ f, 1 ≤ l f) (hl2 : ∀ f, l f ≤ 20) (hu : ∀ f, u f ≤ 20) (hw : ∀ f, f < 8 → w f ≤ 20) (hc : ∀ f, f < 8 → fX4_countTwos (nI f) size shown drawn pull deep fine = some (nI (cn l u f))) (hm : ∀ f, f < 8 → fX4_fewestMinutes (nI f) size shown drawn pull deep fine = some (nI (l f))) (hM : ∀ f, f < 8 → fX4_mostMinutes (nI f) size shown drawn pull deep fine = some (nI (u f))) (hs : ∀ f, f < 8 → fX5_minutesShowing (nI f) (nI d) (nI n) deep fine = some (nI (w f))) : ∀ (q f : Nat), f ≤ 8 → 9 ≤ q + f → LX4_mostLeft_8 (nI d) (nI n) size shown drawn pull deep fine q (nI (sm l u f)) (nI (ys l u w f)) (nI f) = some (nI (ml l u w)) := by
  intro q
  induction q with
  | zero => intro f h1 h2; omega
  | succ q ih =>
    intro f h1 h2
    have s1 := sm_le hl hu f
    have s2 := ys_le l u w f
    show FX4_mostLeft_8 (nI d) (nI n) size shown drawn pull deep fine (LX4_mostLeft_8 (nI d) (nI n) size shown drawn pull deep fine q) _ _ (nI f) = _
    unfold FX4_mostLeft_8
    by_cases c1 : f = 8
    · subst c1
      rw [if_pos (show (8 : Int32) ≤ nI 8 by decide), pk_sub s2, imax_nI (by omega) (by omega)]
      rfl
    · have hf8 : f < 8 := by omega
      have q1 := hl f
      have q2 := hu f
      have q3 := hl2 f
      have q4 := hw f hf8
      rw [if_neg (le8 hf8), hM f hf8, bd_s, hs f hf8, bd_s, lt_e, hc f hf8, bd_s, lt_e, hm f hf8, bd_s, imin_nI (by omega) (by omega), cnt_imax (by omega) q1 q3, lt_e, lt_e, nI_add, nI_add, nI_1]
      exact ih (f + 1) (by omega) (by omega)
theorem M11ml (d n : Nat) (w : Nat → Nat) (hl : ∀ f, 1 ≤ l f) (hu : ∀ f, u f ≤ 20) (hf : ∀ f, f < 8 → ∀ g, 1 ≤ g → g ≤ 20 → fX11_fits (nI f) (nI g) size drawn pull deep fine shows = some (if l f ≤ g ∧ g ≤ u f then 1 else 0)) (hs : ∀ f, f < 8 → ∀ g, 1 ≤ g → g ≤ 20 → fX11_shows (nI f) (nI g) (nI d) (nI n) deep fine = some (if g ≤ w f then 1 else 0)) (f : Nat) (hf8 : f < 8) (m : Nat) : ∀ (e r : Nat), r + e = 20 → LX11_mostLeft_8 (nI d) (nI n) size drawn pull deep fine shows (m + e) (nI (ys l u w f + (min (min (u f) (w f)) r + 1 - l f))) (nI (sm l u f - ys l u w f + ((min (u f) r + 1 - l f) - (min (min (u f) (w f)) r + 1 - l f)))) (nI (20 * f + r)) = LX11_mostLeft_8 (nI d) (nI n) size drawn pull deep fine shows m (nI (ys l u w (f + 1))) (nI (sm l u (f + 1) - ys l u w (f + 1))) (nI (20 * (f + 1))) := by
  have h1 := hl f
  have h2 := hu f
  have s1 := sm_le hl hu f
  have s2 := ys_le l u w f
  intro e
  induction e with
  | zero =>
    intro r hr
    have e1 : min (min (u f) (w f)) r + 1 - l f = yc l u w f := by unfold yc; omega
    have e2 : min (u f) r + 1 - l f = cn l u f := by unfold cn; omega
    have e3 : yc l u w f ≤ cn l u f := by unfold yc cn; omega
    rw [e1, e2, show 20 * f + r = 20 * (f + 1) by omega]
    have e4 : sm l u f - ys l u w f + (cn l u f - yc l u w f) = sm l u (f + 1) - ys l u w (f + 1) := by
      show _ = (sm l u f + cn l u f) - (ys l u w f + yc l u w f)
      omega
    rw [e4]
    rfl
  | succ e ih =>
    intro r hr
    have i1 := ih (r + 1) (by omega)
    show FX11_mostLeft_8 (nI d) (nI n) size drawn pull deep fine shows (LX11_mostLeft_8 (nI d) (nI n) size drawn pull deep fine shows (m + e)) _ _ (nI (20 * f + r)) = _
    unfold FX11_mostLeft_8
    rw [if_neg (fun z => by rw [show (160 : Int32) = nI 160 from rfl, nI_leI (by omega) (by omega)] at z; omega)]
    have ed : nI (20 * f + r) / 20 = nI f := by
      rw [show (20 : Int32) = nI 20 from rfl, pk_div (by omega) (by omega) (by omega), show (20 * f + r) / 20 = f by omega]
    have er : nI (20 * f + r) - nI (20 * f + r) / 20 * 20 = nI r := by
      have := pk_rem (a := 20 * f + r) (d := 20) (by omega) (by omega) (by omega)
      rw [show (20 * f + r) % 20 = r by omega] at this
      exact this
    have eg : (1 : Int32) + nI r = nI (r + 1) := by rw [show (1 : Int32) = nI 1 from rfl, nI_add, Nat.add_comm]
    rw [er, eg, lt_e, ed, hf f hf8 (r + 1) (by omega) (by omega), bd_s, hs f hf8 (r + 1) (by omega) (by omega)]
    simp only [lt_e, nI_1, bd_s]
    rw [show 20 * f + r + 1 = 20 * f + (r + 1) by omega]
    have a0 : ∀ x : Int32, x + 0 = x := Int32.add_zero
    by_cases c1 : l f ≤ r + 1 ∧ r + 1 ≤ u f
    · rw [if_pos c1, if_neg (show ¬ (1 : Int32) = 0 by decide)]
      by_cases c2 : r + 1 ≤ w f
      · simp only [if_pos c2, if_neg (show ¬ (1 : Int32) = 0 by decide), a0]
        rw [show ys l u w f + (min (min (u f) (w f)) r + 1 - l f) + 1 = ys l u w f + (min (min (u f) (w f)) (r + 1) + 1 - l f) by omega, show sm l u f - ys l u w f + ((min (u f) r + 1 - l f) - (min (min (u f) (w f)) r + 1 - l f)) = sm l u f - ys l u w f + ((min (u f) (r + 1) + 1 - l f) - (min (min (u f) (w f)) (r + 1) + 1 - l f)) by omega]
        exact i1
      · simp only [if_neg c2, if_true, a0]
        rw [show ys l u w f + (min (min (u f) (w f)) r + 1 - l f) = ys l u w f + (min (min (u f) (w f)) (r + 1) + 1 - l f) by omega, show sm l u f - ys l u w f + ((min (u f) r + 1 - l f) - (min (min (u f) (w f)) r + 1 - l f)) + 1 = sm l u f - ys l u w f + ((min (u f) (r + 1) + 1 - l f) - (min (min (u f) (w f)) (r + 1) + 1 - l f)) by omega]
        exact i1
    · rw [if_neg c1, if_pos rfl]
      rw [show min (min (u f) (w f)) r + 1 - l f = min (min (u f) (w f)) (r + 1) + 1 - l f by omega, show min (u f) r + 1 - l f = min (u f) (r + 1) + 1 - l f by omega]
      exact i1
theorem M11ml0 (d n : Nat) (w : Nat → Nat) (hl : ∀ f, 1 ≤ l f) (hl2 : ∀ f, l f ≤ 20) (hu : ∀ f, u f ≤ 20) (hf : ∀ f, f < 8 → ∀ g, 1 ≤ g → g ≤ 20 → fX11_fits (nI f) (nI g) size drawn pull deep fine shows = some (if l f ≤ g ∧ g ≤ u f then 1 else 0)) (hs : ∀ f, f < 8 → ∀ g, 1 ≤ g → g ≤ 20 → fX11_shows (nI f) (nI g) (nI d) (nI n) deep fine = some (if g ≤ w f then 1 else 0)) : ∀ (e f m : Nat), f + e = 8 → 1 ≤ m → LX11_mostLeft_8 (nI d) (nI n) size drawn pull deep fine shows (m + 20 * e) (nI (ys l u w f)) (nI (sm l u f - ys l u w f)) (nI (20 * f)) = some (nI (ml l u w)) := by
  intro e
  induction e with
  | zero =>
    intro f m h1 h2
    have ef : f = 8 := by omega
    subst ef
    have s1 := sm_le hl hu 8
    have s2 := ys_le l u w 8
    cases m with
    | zero => omega
    | succ m =>
      show FX11_mostLeft_8 (nI d) (nI n) size drawn pull deep fine shows (LX11_mostLeft_8 (nI d) (nI n) size drawn pull deep fine shows m) _ _ (nI 160) = _
      unfold FX11_mostLeft_8
      rw [if_pos (show (160 : Int32) ≤ nI 160 by decide)]
      unfold ml
      by_cases c : ys l u w 8 ≤ sm l u 8 - ys l u w 8
      · rw [if_pos ((nI_leI (by omega) (by omega)).mpr c), Nat.max_eq_right c]
      · rw [if_neg (fun z => c ((nI_leI (by omega) (by omega)).mp z)), Nat.max_eq_left (by omega)]
  | succ e ih =>
    intro f m h1 h2
    have hM := M11ml d n w hl hu hf hs f (by omega) (m + 20 * e) 20 0 (by omega)
    have q1 := hl f
    simp only [show min (min (u f) (w f)) 0 + 1 - l f = 0 by omega, show min (u f) 0 + 1 - l f = 0 by omega, Nat.add_zero, Nat.sub_self] at hM
    rw [show m + 20 * (e + 1) = m + 20 * e + 20 by omega, hM]
    exact ih (f + 1) m (by omega) h2
/-- the least of eight, the first of them: both loops of NEXT -/
theorem Lnext (x2 : Int32) (n : Nat) (v : Nat → Nat) (hv : ∀ j, j < 8 → v j ≤ 160 ∧ 1 ≤ v j) (h4 : ∀ j, j < 8 → fX4_mostLeft (nI j) (nI n) size shown drawn pull deep fine = some (nI (v j))) (h11 : ∀ j, j < 8 → fX11_mostLeft (nI j) (nI n) size drawn pull deep fine shows = some (nI (v j))) : ∀ (e d b p q : Nat), d + e = 8 → b < 8 → e + 1 ≤ p → e + 1 ≤ q → ∃ r, LX10_next_33 (nI n) x2 size shown drawn pull deep fine p (nI b) (nI (v b)) (nI d) = some r ∧ LX11_next_40 (nI n) x2 size drawn pull deep fine shows q (nI b) (nI d) = some r := by
  intro e
  induction e with
  | zero =>
    intro d b p q h1 h2 h3 h5
    have ed : d = 8 := by omega
    subst ed
    have hb := hv b h2
    cases p with
    | zero => omega
    | succ p =>
      cases q with
      | zero => omega
      | succ q =>
        show ∃ r, FX10_next_33 (nI n) x2 size shown drawn pull deep fine (LX10_next_33 (nI n) x2 size shown drawn pull deep fine p) (nI b) (nI (v b)) (nI 8) = some r ∧ FX11_next_40 (nI n) x2 size drawn pull deep fine shows (LX11_next_40 (nI n) x2 size drawn pull deep fine shows q) (nI b) (nI 8) = some r
        unfold FX10_next_33 FX11_next_40
        simp only [if_pos (show (8 : Int32) ≤ nI 8 by decide)]
        rw [if_neg (nI_ne0 (by omega) (by omega)), h11 b h2, bd_s]
        by_cases c : x2 = 0
        · simp only [if_pos c]; exact ⟨_, rfl, rfl⟩
        · simp only [if_neg c]; exact ⟨_, rfl, rfl⟩
  | succ e ih =>
    intro d b p q h1 h2 h3 h5
    have hd : d < 8 := by omega
    have hb := hv b h2
    have hd2 := hv d hd
    cases p with
    | zero => omega
    | succ p =>
      cases q with
      | zero => omega
      | succ q =>
        show ∃ r, FX10_next_33 (nI n) x2 size shown drawn pull deep fine (LX10_next_33 (nI n) x2 size shown drawn pull deep fine p) (nI b) (nI (v b)) (nI d) = some r ∧ FX11_next_40 (nI n) x2 size drawn pull deep fine shows (LX11_next_40 (nI n) x2 size drawn pull deep fine shows q) (nI b) (nI d) = some r
        unfold FX10_next_33 FX11_next_40
        simp only [if_neg (le8 hd)]
        rw [h4 d hd, h11 d hd, h11 b h2]
        simp only [bd_s, lt_e, nI_1]
        by_cases c : nI (v b) ≤ nI (v d)
        · simp only [if_pos c]; exact ih (d + 1) b p q (by omega) h2 (by omega) (by omega)
        · simp only [if_neg c]; exact ih (d + 1) d p q (by omega) hd (by omega) (by omega)
end
