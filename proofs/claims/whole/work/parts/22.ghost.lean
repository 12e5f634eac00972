/-! ghosts: the most FAT of a row but of one, and whose -/
def row (s : Nat) (f : Nat → Int32) : Nat → Int32 := fun p => f (8 * s + p)
def gm (F : Nat → Int32) (d : Int32) : Nat → Int32
  | 0 => 0
  | p + 1 => if nI p = d then gm F d p else if F p ≤ gm F d p then gm F d p else F p
def gw (F : Nat → Int32) (d : Int32) : Nat → Option Nat
  | 0 => none
  | p + 1 => if nI p = d then gw F d p else if F p ≤ gm F d p then gw F d p else some p
def oi (o : Option Nat) : Int32 := match o with | none => -6 | some q => nI q
theorem gm_ok (F : Nat → Int32) (d : Int32) (n : Nat) (h : ∀ j, j < n → 0 ≤ (F j).toInt ∧ (F j).toInt ≤ 60) : ∀ p, p ≤ n → (0 ≤ (gm F d p).toInt ∧ (gm F d p).toInt ≤ 60) ∧ (gw F d p = none → gm F d p = 0) ∧ (∀ q, gw F d p = some q → q < p ∧ nI q ≠ d ∧ gm F d p = F q ∧ 0 < (F q).toInt ∧ ∀ j, j < q → nI j ≠ d → (F j).toInt < (F q).toInt) ∧ ∀ j, j < p → nI j ≠ d → (F j).toInt ≤ (gm F d p).toInt := by
  intro p
  induction p with
  | zero =>
    intro _
    refine ⟨⟨?_, ?_⟩, fun _ => rfl, ?_, ?_⟩
    · show (0 : Int) ≤ (0 : Int32).toInt; decide
    · show (0 : Int32).toInt ≤ 60; decide
    · intro q h; cases h
    · intro j hj; omega
  | succ p ih =>
    intro hp
    obtain ⟨h1, h2, h3, h4⟩ := ih (by omega)
    have hF := h p (by omega)
    unfold gm gw
    by_cases c1 : nI p = d
    · simp only [if_pos c1]
      refine ⟨h1, h2, fun q hq => ?_, fun j hj hn => ?_⟩
      · obtain ⟨a, b⟩ := h3 q hq; exact ⟨by omega, b⟩
      · have : j ≠ p := fun e => hn (by rw [e]; exact c1)
        exact h4 j (by omega) hn
    · simp only [if_neg c1]
      by_cases c2 : F p ≤ gm F d p
      · simp only [if_pos c2]
        refine ⟨h1, h2, fun q hq => ?_, fun j hj hn => ?_⟩
        · obtain ⟨a, b⟩ := h3 q hq; exact ⟨by omega, b⟩
        · by_cases e : j = p
          · subst e; exact t_le.mp c2
          · exact h4 j (by omega) hn
      · simp only [if_neg c2]
        rw [t_le] at c2
        refine ⟨hF, fun h => (by cases h), fun q hq => ?_, fun j hj hn => ?_⟩
        · cases hq
          exact ⟨by omega, c1, rfl, by omega, fun j hj hn => by have := h4 j hj hn; omega⟩
        · by_cases e : j = p
          · subst e; omega
          · have := h4 j (by omega) hn; omega
theorem row_ok {f : Nat → Int32} {s : Nat} (h : Bd 40 0 60 f) (hs : s < 5) : ∀ j, j < 8 → 0 ≤ (row s f j).toInt ∧ (row s f j).toInt ≤ 60 := fun j hj => h.1 (8 * s + j) (by omega)
theorem L6gh (s : Nat) (hs : s < 5) (d : Int32) (fats : Nat → Int32) : ∀ (n p : Nat), p ≤ 8 → 9 ≤ n + p → LX6_ghostFat_16 (nI s) d fats n (gm (row s fats) d p) (nI p) = some (gm (row s fats) d 8) := by
  intro n
  induction n with
  | zero => intro p h1 h2; omega
  | succ n ih =>
    intro p h1 h2
    show FX6_ghostFat_16 (nI s) d fats (LX6_ghostFat_16 (nI s) d fats n) (gm (row s fats) d p) (nI p) = _
    unfold FX6_ghostFat_16
    by_cases e8 : p = 8
    · subst e8; rw [if_pos (by decide)]
    · have hi := ih (p + 1) (by omega) (by omega)
      rw [if_neg (le8 (by omega)), gd_ix ix_sp (show 8 * s + p < 40 by omega) (by omega), ix_sp, cl_nI (n := 40) (by omega) (by omega)]
      simp only [lt_e, nI_1]
      by_cases c1 : nI p = d
      · have e : gm (row s fats) d (p + 1) = gm (row s fats) d p := by rw [gm, if_pos c1]
        rw [if_pos c1, ← e]; exact hi
      · rw [if_neg c1]
        by_cases c2 : row s fats p ≤ gm (row s fats) d p
        · have e : gm (row s fats) d (p + 1) = gm (row s fats) d p := by rw [gm, if_neg c1, if_pos c2]
          rw [if_pos (show fats (8 * s + p) ≤ _ from c2), ← e]; exact hi
        · have e : gm (row s fats) d (p + 1) = fats (8 * s + p) := by rw [gm, if_neg c1, if_neg c2]; rfl
          rw [if_neg (show ¬ fats (8 * s + p) ≤ _ from c2), ← e]; exact hi
theorem f6gh (s : Nat) (hs : s < 5) (d : Int32) (fats : Nat → Int32) : fX6_ghostFat (nI s) d fats = some (gm (row s fats) d 8) := by
  unfold fX6_ghostFat
  have h5 : (5 : Int32).toInt = 5 := rfl
  have e := nI_toInt (n := s) (by omega)
  rw [if_neg (show ¬ nI s < 0 by rw [t_lt, e, l0]; omega)]
  have := L6gh s hs d fats 2000 0 (by omega) (by omega)
  rw [if_pos (show nI s < 5 by rw [t_lt, e, h5]; omega)]
  exact this
theorem L11on (s : Nat) (hs : s < 5) (d : Int32) (fats : Nat → Int32) (hb : Bd 40 0 60 fats) : ∀ (n p : Nat), p ≤ 8 → 9 ≤ n + p → LX11_ghostOn_6 (nI s) d fats n (oi (gw (row s fats) d p)) (nI p) = some (oi (gw (row s fats) d 8)) := by
  intro n
  induction n with
  | zero => intro p h1 h2; omega
  | succ n ih =>
    intro p h1 h2
    show FX11_ghostOn_6 (nI s) d fats (LX11_ghostOn_6 (nI s) d fats n) (oi (gw (row s fats) d p)) (nI p) = _
    unfold FX11_ghostOn_6 fX11_ghostOn_65
    by_cases e8 : p = 8
    · subst e8; rw [if_pos (by decide)]
    · have hi := ih (p + 1) (by omega) (by omega)
      obtain ⟨g1, g2, g3, g4⟩ := gm_ok (row s fats) d 8 (row_ok hb hs) p h1
      rw [if_neg (le8 (by omega))]
      simp only [lt_e, nI_1]
      by_cases c1 : nI p = d
      · have e : gw (row s fats) d (p + 1) = gw (row s fats) d p := by rw [gw, if_pos c1]
        rw [if_pos c1, ← e]; exact hi
      · rw [if_neg c1, gd_ix at_sp (show 8 * s + p < 40 by omega) (by omega), at_sp, cl_nI (n := 40) (by omega) (by omega)]
        have hrow : fats (8 * s + p) = row s fats p := rfl
        rw [hrow]
        cases hg : gw (row s fats) d p with
        | none =>
          have hz := g2 hg
          by_cases c2 : row s fats p ≤ 0
          · have e : gw (row s fats) d (p + 1) = none := by rw [gw, if_neg c1, if_pos (by rw [hz]; exact c2), hg]
            rw [e] at hi
            rw [if_pos c2]; exact hi
          · have e : gw (row s fats) d (p + 1) = some p := by rw [gw, if_neg c1, if_neg (by rw [hz]; exact c2)]
            rw [e] at hi
            rw [if_neg c2, if_pos (show oi none < 0 by decide)]; exact hi
        | some q =>
          obtain ⟨a1, a2, a3, a4, a5⟩ := g3 q hg
          have eq8 := nI_toInt (n := q) (by omega)
          have hq : ¬ oi (some q) < 0 := by show ¬ nI q < 0; rw [t_lt, eq8, l0]; omega
          have hat : fX11_at (nI s) (oi (some q)) = nI (8 * s + q) := at_sp
          by_cases c3 : row s fats p ≤ gm (row s fats) d p
          · have e : gw (row s fats) d (p + 1) = some q := by rw [gw, if_neg c1, if_pos c3, hg]
            rw [e] at hi
            by_cases c2 : row s fats p ≤ 0
            · rw [if_pos c2]; exact hi
            · rw [if_neg c2, if_neg hq, gd_ix hat (show 8 * s + q < 40 by omega) (by omega), hat, cl_nI (n := 40) (by omega) (by omega), if_pos (show row s fats p ≤ fats (8 * s + q) by rw [a3] at c3; exact c3)]; exact hi
          · have e : gw (row s fats) d (p + 1) = some p := by rw [gw, if_neg c1, if_neg c3]
            rw [e] at hi
            have c2 : ¬ row s fats p ≤ 0 := by rw [t_le] at c3 ⊢; rw [l0]; omega
            rw [if_neg c2, if_neg hq, gd_ix hat (show 8 * s + q < 40 by omega) (by omega), hat, cl_nI (n := 40) (by omega) (by omega), if_neg (show ¬ row s fats p ≤ fats (8 * s + q) by rw [a3] at c3; exact c3)]; exact hi
theorem f11on (s : Nat) (hs : s < 5) (d : Int32) (fats : Nat → Int32) (hb : Bd 40 0 60 fats) : fX11_ghostOn (nI s) d fats = some (oi (gw (row s fats) d 8)) := L11on s hs d fats hb 2000 0 (by omega) (by omega)
theorem f11gh (s : Nat) (hs : s < 5) (d : Int32) (fats : Nat → Int32) (hb : Bd 40 0 60 fats) : fX11_ghostFat (nI s) d fats = some (gm (row s fats) d 8) := by
  unfold fX11_ghostFat
  rw [f11on s hs d fats hb, bd_s]
  obtain ⟨g1, g2, g3, g4⟩ := gm_ok (row s fats) d 8 (row_ok hb hs) 8 (by omega)
  cases hg : gw (row s fats) d 8 with
  | none => rw [if_neg (show ¬ (0 : Int32) ≤ oi none by decide), g2 hg]
  | some q =>
    obtain ⟨a1, a2, a3, a4, a5⟩ := g3 q hg
    have eq8 := nI_toInt (n := q) (by omega)
    have hat : fX11_at (nI s) (oi (some q)) = nI (8 * s + q) := at_sp
    rw [if_pos (show (0 : Int32) ≤ oi (some q) by show (0 : Int32) ≤ nI q; rw [t_le, eq8, l0]; omega), gd_ix hat (show 8 * s + q < 40 by omega) (by omega), hat, cl_nI (n := 40) (by omega) (by omega), a3]
    rfl
/-! how long a picture lasts -/
theorem nb_sub {a b : Nat} (ha : a < 1000000) (hb : b < 1000000) : fX11_notBelow0 (nI a - nI b) = nI (a - b) := by
  unfold fX11_notBelow0
  by_cases h : b ≤ a
  · rw [pk_sub h, if_pos (nI_pos' (by omega))]
  · rw [if_neg (by have := pk_sneg (a := a) (b := b) (by omega) (by omega); rw [t_lt] at this; rw [t_le]; omega), show a - b = 0 by omega]
    rfl
theorem L_lasts (p g w : Nat) (fine : Nat → Int32) (hw : fX11_wearOf (nI p) fine = some (nI w)) (hw1 : 1 ≤ w) (hw4 : w ≤ 4) (hg : g ≤ 60) (N : Nat) (hN : N = max 1 g) : ∀ (D o n c u : Nat), N ≤ o → o ≤ 60 → c + D < 900000 → D = (c / 10 + ((o - N) / w + 1)) * 10 - c → n + D ≤ 1000 → D ≤ u → LX11_lasts_9 (nI p) (nI g) fine u (nI o) (nI n) (nI c) = some (nI (n + D - 1)) := by
  intro D
  induction D with
  | zero =>
    intro o n c u h1 h2 h3 h4
    generalize (o - N) / w = k at h4
    omega
  | succ D ih =>
    intro o n c u h1 h2 h3 h4 h5 h6
    cases u with
    | zero => omega
    | succ u =>
      show FX11_lasts_9 (nI p) (nI g) fine (LX11_lasts_9 (nI p) (nI g) fine u) (nI o) (nI n) (nI c) = _
      unfold FX11_lasts_9
      have e999 : ¬ (999 : Int32) < nI n := by rw [show (999 : Int32) = nI 999 from rfl, nI_ltI (by omega) (by omega)]; omega
      rw [if_neg e999]
      simp only [lt_e, nI_1]
      have erem : nI (c + 1) - nI (c + 1) / 10 * 10 = nI ((c + 1) % 10) := pk_rem (a := c + 1) (d := 10) (by omega) (by omega) (by omega)
      rw [erem]
      by_cases c1 : (c + 1) % 10 = 0
      · rw [if_pos (show nI ((c + 1) % 10) = 0 by rw [c1]; rfl), hw, bd_s, nb_sub (by omega) (by omega)]
        by_cases c2 : N ≤ o - w
        · have a1 : ¬ nI (o - w) = 0 := by rw [show (0 : Int32) = nI 0 from rfl, nI_eq (by omega) (by omega)]; omega
          have a2 : nI g ≤ nI (o - w) := by rw [nI_leI (by omega) (by omega)]; omega
          have eD : D = ((c + 1) / 10 + ((o - w - N) / w + 1)) * 10 - (c + 1) := by
            rcases (show w = 1 ∨ w = 2 ∨ w = 3 ∨ w = 4 by omega) with rfl | rfl | rfl | rfl <;> omega
          rw [if_neg a1, if_pos a2, ih (o - w) (n + 1) (c + 1) u c2 (by omega) (by omega) eD (by omega) (by omega)]
          congr 2; omega
        · have eD : D = 0 := by
            rcases (show w = 1 ∨ w = 2 ∨ w = 3 ∨ w = 4 by omega) with rfl | rfl | rfl | rfl <;> omega
          subst eD
          by_cases a1 : nI (o - w) = 0
          · rw [if_pos a1]; congr 2
          · have a2 : ¬ nI g ≤ nI (o - w) := by
              rw [show (0 : Int32) = nI 0 from rfl, nI_eq (by omega) (by omega)] at a1
              rw [nI_leI (by omega) (by omega)]; omega
            rw [if_neg a1, if_neg a2]; congr 2
      · rw [if_neg (show ¬ nI ((c + 1) % 10) = 0 by rw [show (0 : Int32) = nI 0 from rfl, nI_eq (by omega) (by omega)]; exact c1)]
        have a1 : ¬ nI o = 0 := by rw [show (0 : Int32) = nI 0 from rfl, nI_eq (by omega) (by omega)]; omega
        have a2 : nI g ≤ nI o := by rw [nI_leI (by omega) (by omega)]; omega
        have eD : D = ((c + 1) / 10 + ((o - N) / w + 1)) * 10 - (c + 1) := by
          rcases (show w = 1 ∨ w = 2 ∨ w = 3 ∨ w = 4 by omega) with rfl | rfl | rfl | rfl <;> omega
        rw [if_neg a1, if_pos a2, ih o (n + 1) (c + 1) u h1 h2 (by omega) eD (by omega) (by omega)]
        congr 2; omega
/-- CLEAN, in plain numbers -/
def pl (o g w c : Nat) : Nat := if max 1 g ≤ o then (c / 10 + ((o - max 1 g) / w + 1)) * 10 - c - 1 else 0
theorem pl_le {o g w c : Nat} (ho : o ≤ 60) (hw : 1 ≤ w) (hw4 : w ≤ 4) : pl o g w c ≤ 599 := by
  unfold pl
  split
  · rcases (show w = 1 ∨ w = 2 ∨ w = 3 ∨ w = 4 by omega) with rfl | rfl | rfl | rfl <;> omega
  · omega
theorem f_lasts (p g w o c : Nat) (fine : Nat → Int32) (hw : fX11_wearOf (nI p) fine = some (nI w)) (hw1 : 1 ≤ w) (hw4 : w ≤ 4) (hg : g ≤ 60) (ho : o ≤ 60) (hc : c < 890000) : fX11_lasts (nI p) (nI o) (nI c) (nI g) fine = some (nI (pl o g w c)) := by
  unfold fX11_lasts pl
  by_cases h : max 1 g ≤ o
  · rw [if_pos h]
    have h2 : (c / 10 + ((o - max 1 g) / w + 1)) * 10 - c ≤ 600 := by
      rcases (show w = 1 ∨ w = 2 ∨ w = 3 ∨ w = 4 by omega) with rfl | rfl | rfl | rfl <;> omega
    have := L_lasts p g w fine hw hw1 hw4 hg _ rfl _ o 0 c 2000 h ho (by omega) rfl (by omega) (by omega)
    rw [nI_0] at this
    rw [this]; congr 2; omega
  · rw [if_neg h]
    show FX11_lasts_9 (nI p) (nI g) fine (LX11_lasts_9 (nI p) (nI g) fine 1999) (nI o) 0 (nI c) = _
    unfold FX11_lasts_9
    rw [if_neg (by decide)]
    simp only [lt_e, nI_1]
    have erem : nI (c + 1) - nI (c + 1) / 10 * 10 = nI ((c + 1) % 10) := pk_rem (a := c + 1) (d := 10) (by omega) (by omega) (by omega)
    rw [erem]
    by_cases c1 : (c + 1) % 10 = 0
    · rw [if_pos (show nI ((c + 1) % 10) = 0 by rw [c1]; rfl), hw, bd_s, nb_sub (by omega) (by omega)]
      by_cases a1 : nI (o - w) = 0
      · rw [if_pos a1]; rfl
      · rw [if_neg a1]
        rw [show (0 : Int32) = nI 0 from rfl, nI_eq (by omega) (by omega)] at a1
        rw [if_neg (show ¬ nI g ≤ nI (o - w) by rw [nI_leI (by omega) (by omega)]; omega)]; rfl
    · rw [if_neg (show ¬ nI ((c + 1) % 10) = 0 by rw [show (0 : Int32) = nI 0 from rfl, nI_eq (by omega) (by omega)]; exact c1)]
      by_cases a1 : nI o = 0
      · rw [if_pos a1]; rfl
      · rw [if_neg a1]
        rw [show (0 : Int32) = nI 0 from rfl, nI_eq (by omega) (by omega)] at a1
        rw [if_neg (show ¬ nI g ≤ nI o by rw [nI_leI (by omega) (by omega)]; omega)]; rfl
theorem imax_nI {a b : Nat} (ha : a < 1000000) (hb : b < 1000000) : imax (nI a) (nI b) = nI (max a b) := by
  unfold imax
  by_cases h : a < b
  · rw [if_pos ((nI_ltI (by omega) (by omega)).mpr h), Nat.max_eq_right (by omega)]
  · rw [if_neg (fun z => h ((nI_ltI (by omega) (by omega)).mp z)), Nat.max_eq_left (by omega)]
theorem imax0_sub {a b : Nat} (ha : a < 1000000) (hb : b < 1000000) : imax 0 (nI a - nI b) = nI (a - b) := by
  unfold imax
  by_cases h : b ≤ a
  · rw [pk_sub h]
    by_cases h2 : a - b = 0
    · rw [h2]; rfl
    · rw [if_pos (by rw [show (0 : Int32) = nI 0 from rfl, nI_ltI (by omega) (by omega)]; omega)]
  · rw [if_neg (by have := pk_sneg (a := a) (b := b) (by omega) (by omega); rw [t_lt] at this ⊢; omega), show a - b = 0 by omega]; rfl
theorem f_ahead (o g w c : Nat) (hw1 : 1 ≤ w) (hw4 : w ≤ 4) (hg : g ≤ 60) (ho : o ≤ 60) (hc : c < 890000) : fX10_pullsAhead (nI o) (nI g) (nI w) (nI c) = some (nI (pl o g w c)) := by
  unfold fX10_pullsAhead pl
  rw [lt_e, show (1 : Int32) = nI 1 from rfl, imax_nI (by omega) (by omega), imax_nI (by omega) (by omega), show max 1 w = w by omega]
  by_cases h : max 1 g ≤ o
  · have hd : (o - max 1 g) / w ≤ 60 := Nat.le_trans (Nat.div_le_self _ _) (by omega)
    rw [if_pos ((nI_leI (by omega) (by omega)).mpr h), if_pos h, gd_no (show ¬ nI w = 0 from nI_ne0 (by omega) (by omega)), lt_e, pk_sub h, pk_div (by omega) (by omega) (by omega), nI_add, show (10 : Int32) = nI 10 from rfl, pk_div (by omega) (by omega) (by omega), nI_add, pk_mul]
    generalize (o - max 1 g) / w = k at hd ⊢
    rw [pk_sub (by omega), pk_sub (by omega)]
  · rw [if_neg (fun z => h ((nI_leI (by omega) (by omega)).mp z)), if_neg h]; rfl
