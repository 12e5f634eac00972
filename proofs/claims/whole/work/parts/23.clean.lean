theorem Bd.nat {n hi : Nat} {lo : Int} {f : Nat → Int32} {j : Nat} (h : Bd n lo hi f) (h0 : 0 ≤ lo) (hh : hi < 1000000) (hj : j < n) : ∃ k : Nat, k ≤ hi ∧ lo ≤ k ∧ f j = nI k := by
  have h1 := h.1 j hj
  obtain ⟨k, a, b⟩ := t_of (x := f j) (n := hi + 1) (by omega) (by omega) (by omega)
  refine ⟨k, by omega, ?_, b⟩
  rw [b, nI_toInt (by omega)] at h1; exact h1.1
theorem wear_ok {fine : Nat → Int32} {p : Nat} (h : Bd 8 1 9 fine) (hp : p < 8) : ∃ w : Nat, 1 ≤ w ∧ w ≤ 4 ∧ fX5_wear (nI p) fine = some (nI w) ∧ fX11_wearOf (nI p) fine = some (nI w) ∧ fine p / 3 + 1 = nI w := by
  obtain ⟨q, a, b, e⟩ := Bd.nat (hi := 9) h (by omega) (by omega) hp
  have ew : fine p / 3 + 1 = nI (q / 3 + 1) := by
    rw [e, show (3 : Int32) = nI 3 from rfl, pk_div (by omega) (by omega) (by omega), nI_1]
  refine ⟨q / 3 + 1, by omega, by omega, ?_, ?_, ew⟩
  · unfold fX5_wear
    have hp2 := nI_toInt (n := p) (by omega)
    rw [if_neg (by rw [ins_iff, hp2]; show ¬ ¬ ((0 : Int) ≤ _ ∧ _ ≤ (7 : Int)); omega), gd_ix rfl hp (by omega), cl_nI hp (by omega), ew]
  · unfold fX11_wearOf
    rw [gd_ix rfl hp (by omega), cl_nI hp (by omega), ew]
theorem gm_nat {f : Nat → Int32} {s : Nat} (d : Int32) (h : Bd 40 0 60 f) (hs : s < 5) : ∃ g : Nat, g ≤ 60 ∧ gm (row s f) d 8 = nI g := by
  obtain ⟨g1, -⟩ := gm_ok (row s f) d 8 (row_ok h hs) 8 (by omega)
  obtain ⟨k, a, b⟩ := t_of (x := gm (row s f) d 8) (n := 61) g1.1 (by omega) (by omega)
  exact ⟨k, by omega, b⟩
theorem ins7 {p : Nat} (hp : p < 8) : ¬ fX10_inside (nI p) 0 7 = 0 := by
  rw [ins_iff, nI_toInt (by omega)]; show ¬ ¬ ((0 : Int) ≤ _ ∧ _ ≤ (7 : Int)); omega
theorem fat_ok {there : Int32} {fats : Nat → Int32} {s p : Nat} (h : ¬ fX6_has (nI s) there = 0) (hs : s < 5) (hp : p < 8) : fX6_fatOf (nI s) (nI p) there fats = some (fats (8 * s + p)) := by
  unfold fX6_fatOf
  rw [if_neg h, if_neg (ins7 hp), gd_ix ix_sp (show 8 * s + p < 40 by omega) (by omega), ix_sp, cl_nI (n := 40) (by omega) (by omega)]
theorem fresh_cases {x : Int32} (h1 : -6 ≤ x.toInt ∧ x.toInt ≤ 7) (h2 : x = -6 ∨ 0 ≤ x.toInt) : x = -6 ∨ ∃ p, p < 8 ∧ x = nI p := by
  rcases h2 with h | h
  · exact Or.inl h
  · obtain ⟨k, a, b⟩ := t_of (x := x) (n := 8) h (by omega) (by omega)
    exact Or.inr ⟨k, a, b⟩
theorem ne_m6 {p : Nat} (hp : p < 1000000) : ¬ nI p = -6 := by
  rw [t_eq, nI_toInt (by omega)]; show ¬ (p : Int) = -6; omega
theorem ge0 {p : Nat} (hp : p < 1000000) : (0 : Int32) ≤ nI p := nI_pos' (by omega)
theorem p_clean {P : Nat} (hP : P ≤ 800000) (x1 there flat least : Int32) (thick hollow damp fresh pulls fats deep fine pay hair : Nat → Int32) (h : InvS P there thick hollow damp fresh pulls fats) (hr : InvR flat least deep fine pay hair) : ∃ r : Int32, fX10_clean x1 there fresh fats fine pulls = some r ∧ fX11_clean x1 there fresh fats pulls fine = some r := by
  unfold fX10_clean fX11_clean
  rw [has_eq]
  by_cases c1 : fX6_has x1 there = 0
  · simp only [if_pos c1]; exact ⟨_, rfl, rfl⟩
  simp only [if_neg c1]
  obtain ⟨s, hs, rfl⟩ := has_nI c1
  obtain ⟨ht, h1, h2, h3, h4, h5, h6⟩ := h
  simp only [gd_ix (i := nI s) (k := s) (n := 5) rfl hs (by omega)]
  simp only [lt_e, cl_nI hs (show 5 < 1000000 by omega)]
  rcases fresh_cases (h4.1.1 s hs) (h4.2 s hs) with e | ⟨p, hp, e⟩
  · rw [e, if_pos rfl, if_neg (by decide)]; exact ⟨_, rfl, rfl⟩
  · obtain ⟨w, w1, w4, e1, e2, -⟩ := wear_ok hr.2.2.2.1 hp
    obtain ⟨o, o1, -, eo⟩ := Bd.nat (hi := 60) (j := 8 * s + p) h6 (by omega) (by omega) (by omega)
    obtain ⟨g, g1, eg⟩ := gm_nat (s := s) (nI p) h6 hs
    obtain ⟨c, q1, -, ec⟩ := Bd.nat (hi := P) (j := s) h5 (by omega) (by omega) hs
    rw [e, if_neg (ne_m6 (by omega)), if_pos (ge0 (by omega)), fat_ok c1 hs hp, gd_ix at_sp (show 8 * s + p < 40 by omega) (by omega), f6gh s hs, f11gh s hs _ _ h6, at_sp, cl_nI (n := 40) (by omega) (by omega), e1]
    simp only [bd_s, eg, eo, ec]
    rw [f_ahead o g w c w1 w4 g1 o1 (by omega), f_lasts p g w o c fine e2 w1 w4 g1 o1 (by omega)]
    exact ⟨_, rfl, rfl⟩
/-! GRIND -/
theorem deep_ok {deep : Nat → Int32} {p : Nat} (hp : p < 8) : fX5_deepOf (nI p) deep = some (deep p) := by
  unfold fX5_deepOf
  rw [if_neg (ins7 hp), gd_ix rfl hp (by omega), cl_nI hp (by omega)]
theorem last_ok {fats deep fine : Nat → Int32} {s p k o w g : Nat} (x4 : Int32) (hs : s < 5) (hp : p < 8) (hk : k ≤ 20) (h6 : Bd 40 0 60 fats) (eo : deep p = nI o) (ho : o ≤ 60) (e1 : fX5_wear (nI p) fine = some (nI w)) (w1 : 1 ≤ w) (w4 : w ≤ 4) (eg : gm (row s fats) (nI p) 8 = nI g) (g1 : g ≤ 60) : fX4_wouldLast (nI s) (nI p) (nI k) x4 fats deep fine = some (if nI (pl o (g - 3 * k) w 0) < x4 then 0 else 1) := by
  unfold fX4_wouldLast
  have e3 : (3 : Int32) * nI k = nI (3 * k) := by rw [show (3 : Int32) = nI 3 from rfl, pk_mul]
  rw [f6gh s hs, bd_s, lt_e, deep_ok hp, bd_s, e1, bd_s, eg, e3, imax0_sub (by omega) (by omega), eo, ← nI_0, f_ahead o (g - 3 * k) w 0 w1 w4 (by omega) ho (by omega), bd_s]
  split <;> rfl
theorem thin_iff {a b k : Nat} (ha : a ≤ 9999) (hb : b ≤ 9999) (hk : k ≤ 20) : (nI b ≤ nI a - (3 : Int32) * nI k ↔ b + 3 * k ≤ a) ∧ (nI a - (3 : Int32) * nI k < nI b ↔ ¬ b + 3 * k ≤ a) := by
  have e3 : (3 : Int32) * nI k = nI (3 * k) := by rw [show (3 : Int32) = nI 3 from rfl, pk_mul]
  rw [e3, t_le, t_lt, pk_sub_toInt (by omega) (by omega), nI_toInt (by omega)]
  constructor <;> omega
theorem gt20 {k : Nat} (hk : k < 1000000) : (20 : Int32) < nI k ↔ 20 < k := by rw [show (20 : Int32) = nI 20 from rfl, nI_ltI (by omega) (by omega)]
theorem L11grind_thin (s p a b : Nat) (x3 x4 : Int32) (hs : s < 5) (ha : a ≤ 9999) (hb : b ≤ 9999) (thick deep fine : Nat → Int32) (et : thick s = nI a) : ∀ (n k : Nat), k ≤ 21 → 22 ≤ n + k → ¬ b + 3 * k ≤ a → LX11_grind_43 (nI s) (nI p) x3 x4 (nI b) thick deep fine n (nI k) = some (-6) := by
  intro n
  induction n with
  | zero => intro k h1 h2; omega
  | succ n ih =>
    intro k h1 h2 h3
    show FX11_grind_43 (nI s) (nI p) x3 x4 (nI b) thick deep fine (LX11_grind_43 (nI s) (nI p) x3 x4 (nI b) thick deep fine n) (nI k) = _
    unfold FX11_grind_43 fX11_grind_73
    by_cases c1 : k = 21
    · subst c1; rw [if_pos (by decide)]
    · rw [if_neg (fun z => by rw [gt20 (by omega)] at z; omega), gd_ix rfl hs (by omega), cl_nI hs (by omega), et, if_pos ((thin_iff ha hb (by omega)).2.mpr h3), if_pos rfl, lt_e, nI_1]
      exact ih (k + 1) (by omega) (by omega) (by omega)
theorem Lgrind (s p a b o w g : Nat) (x3 : Int32) (hs : s < 5) (hp : p < 8) (ha : a ≤ 9999) (hb : b ≤ 9999) (thick fats deep fine : Nat → Int32) (h6 : Bd 40 0 60 fats) (et : thick s = nI a) (eo : deep p = nI o) (ho : o ≤ 60) (e1 : fX5_wear (nI p) fine = some (nI w)) (e2 : fX11_wearOf (nI p) fine = some (nI w)) (w1 : 1 ≤ w) (w4 : w ≤ 4) (eg : gm (row s fats) (nI p) 8 = nI g) (g1 : g ≤ 60) : ∀ (n k : Nat), k ≤ 21 → 22 ≤ n + k → ∃ r : Int32, LX10_grind_43 (nI s) (nI p) x3 (nI b) thick fats deep fine n (nI k) = some r ∧ LX11_grind_43 (nI s) (nI p) x3 (nI g) (nI b) thick deep fine n (nI k) = some r := by
  intro n
  induction n with
  | zero => intro k h1 h2; omega
  | succ n ih =>
    intro k h1 h2
    show ∃ r, FX10_grind_43 (nI s) (nI p) x3 (nI b) thick fats deep fine (LX10_grind_43 (nI s) (nI p) x3 (nI b) thick fats deep fine n) (nI k) = some r ∧ FX11_grind_43 (nI s) (nI p) x3 (nI g) (nI b) thick deep fine (LX11_grind_43 (nI s) (nI p) x3 (nI g) (nI b) thick deep fine n) (nI k) = some r
    unfold FX10_grind_43 FX11_grind_43 fX11_grind_73
    by_cases c1 : k = 21
    · subst c1; simp only [if_pos (show (20 : Int32) < nI 21 by decide)]; exact ⟨_, rfl, rfl⟩
    · have c20 : ¬ (20 : Int32) < nI k := fun z => by rw [gt20 (by omega)] at z; omega
      have ti := thin_iff ha hb (show k ≤ 20 by omega)
      simp only [if_neg c20, gd_ix (i := nI s) (k := s) (n := 5) rfl hs (by omega)]
      simp only [cl_nI hs (show 5 < 1000000 by omega), et]
      by_cases c2 : b + 3 * k ≤ a
      · rw [if_pos (ti.1.mpr c2), if_neg (fun z => ti.2.mp z c2), if_neg (by decide), last_ok x3 hs hp (by omega) h6 eo ho e1 w1 w4 eg g1, bd_s, gd_ix rfl hp (by omega), cl_nI hp (by omega), eo]
        have e3 : (3 : Int32) * nI k = nI (3 * k) := by rw [show (3 : Int32) = nI 3 from rfl, pk_mul]
        have el := f_lasts p (g - 3 * k) w o 0 fine e2 w1 w4 (by omega) ho (by omega)
        rw [nI_0] at el
        rw [e3, nb_sub (by omega) (by omega), el, bd_s]
        by_cases c3 : nI (pl o (g - 3 * k) w 0) < x3
        · simp only [if_pos c3, if_pos trivial, lt_e, nI_1]
          exact ih (k + 1) (by omega) (by omega)
        · simp only [if_neg c3]
          rw [if_neg (by decide)]
          exact ⟨_, rfl, rfl⟩
      · rw [if_neg (fun z => c2 (ti.1.mp z)), if_pos (ti.2.mpr c2), if_pos trivial, lt_e, nI_1]
        exact ⟨_, rfl, L11grind_thin s p a b x3 (nI g) hs ha hb thick deep fine et n (k + 1) (by omega) (by omega) (by omega)⟩
theorem p_grind {P : Int} (x1 x2 x3 there flat least : Int32) (thick hollow damp fresh pulls fats deep fine pay hair : Nat → Int32) (h : InvS P there thick hollow damp fresh pulls fats) (hr : InvR flat least deep fine pay hair) : ∃ r : Int32, fX10_grind x1 x2 x3 there least thick fats deep fine = some r ∧ fX11_grind x1 x2 x3 there least fats thick deep fine = some r := by
  unfold fX10_grind fX11_grind
  rw [has_eq, pic_eq, in_0_999]
  by_cases c1 : fX6_has x1 there = 0
  · simp only [if_pos c1]; exact ⟨_, rfl, rfl⟩
  simp only [if_neg c1]
  by_cases c2 : fX10_inside x2 0 7 = 0
  · simp only [if_pos c2]; exact ⟨_, rfl, rfl⟩
  simp only [if_neg c2]
  by_cases c3 : fX10_inside x3 0 999 = 0
  · simp only [if_pos c3]; exact ⟨_, rfl, rfl⟩
  simp only [if_neg c3]
  obtain ⟨s, hs, rfl⟩ := has_nI c1
  obtain ⟨p, hp, rfl⟩ := ins_nI (n := 7) c2 rfl (by omega)
  have hp : p < 8 := by omega
  obtain ⟨ht, h1, h2, h3, h4, h5, h6⟩ := h
  obtain ⟨r1, r2, r3, r4, r5, r6⟩ := hr
  obtain ⟨w, w1, w4, e1, e2, -⟩ := wear_ok r4 hp
  obtain ⟨o, o1, -, eo⟩ := Bd.nat (hi := 60) (j := p) r3 (by omega) (by omega) hp
  obtain ⟨g, g1, eg⟩ := gm_nat (s := s) (nI p) h6 hs
  obtain ⟨a, a1, -, ea⟩ := Bd.nat (hi := 9999) (j := s) h1 (by omega) (by omega) hs
  obtain ⟨b, b1, eb⟩ := t_of (x := least) (n := 10000) r2.1 (by omega) (by omega)
  subst eb
  rw [f11gh s hs _ _ h6, bd_s, eg]
  have := Lgrind s p a b o w g x3 hs hp a1 (by omega) thick fats deep fine h6 ea eo o1 e1 e2 w1 w4 eg g1 2000 0 (by omega) (by omega)
  rw [nI_0] at this
  exact this
