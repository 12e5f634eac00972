/-! WHOSE: the minutes by which one still shows, and the stretch that the sights leave -/
def dN (f : Nat → Int32) (p : Nat) : Nat := (f p).toInt.toNat
def ms (deep fine : Nat → Int32) (f d n : Nat) : Nat := if f = d then 0 else (dN deep f - (dN deep d - (dN fine d / 3 + 1) * (n / 10)) - 1) / 3
theorem dN_ok {f : Nat → Int32} {lo hi p n : Nat} (h : Bd n lo hi f) (hh : hi < 1000000) (hp : p < n) : f p = nI (dN f p) ∧ lo ≤ dN f p ∧ dN f p ≤ hi := by
  have h1 := h.1 p hp
  have e : (f p).toInt = (dN f p : Int) := by unfold dN; omega
  refine ⟨?_, by omega, by omega⟩
  rw [t_eq, nI_toInt (by omega)]; exact e
theorem wear_N {fine : Nat → Int32} {p : Nat} (h : Bd 8 1 9 fine) (hp : p < 8) : fX5_wear (nI p) fine = some (nI (dN fine p / 3 + 1)) ∧ fX11_wearOf (nI p) fine = some (nI (dN fine p / 3 + 1)) := by
  obtain ⟨e, a, b⟩ := dN_ok (lo := 1) (hi := 9) h (by omega) hp
  have ew : fine p / 3 + 1 = nI (dN fine p / 3 + 1) := by
    conv => lhs; rw [e]
    rw [show (3 : Int32) = nI 3 from rfl, pk_div (by omega) (by omega) (by omega), nI_1]
  obtain ⟨w, -, -, h1, h2, h3⟩ := wear_ok h hp
  rw [← ew, h3]; exact ⟨h1, h2⟩
theorem ms_le {deep fine : Nat → Int32} {f d n : Nat} (hd : Bd 8 1 60 deep) (hf : f < 8) : ms deep fine f d n ≤ 19 := by
  obtain ⟨-, -, b⟩ := dN_ok (lo := 1) (hi := 60) hd (by omega) hf
  unfold ms; split <;> omega
theorem ms_eq {deep fine : Nat → Int32} {f d n : Nat} (hd : Bd 8 1 60 deep) (hfi : Bd 8 1 9 fine) (hf : f < 8) (hd8 : d < 8) (hn : n ≤ 999) : fX5_minutesShowing (nI f) (nI d) (nI n) deep fine = some (nI (ms deep fine f d n)) := by
  obtain ⟨e1, -, b1⟩ := dN_ok (lo := 1) (hi := 60) hd (by omega) hf
  obtain ⟨e2, -, b2⟩ := dN_ok (lo := 1) (hi := 60) hd (by omega) hd8
  obtain ⟨e3, -, b3⟩ := dN_ok (lo := 1) (hi := 9) hfi (by omega) hd8
  unfold fX5_minutesShowing ms
  have hw : dN fine d / 3 + 1 ≤ 4 := by omega
  have hm : (dN fine d / 3 + 1) * (n / 10) ≤ 4 * 99 := Nat.mul_le_mul hw (by omega)
  rw [deep_ok hd8, bd_s, (wear_N hfi hd8).1, bd_s, deep_ok hf, show (10 : Int32) = nI 10 from rfl, pk_div (by omega) (by omega) (by omega), pk_mul, e2, imax0_sub (by omega) (by omega), lt_e, bd_s, lt_e, e1]
  generalize (dN fine d / 3 + 1) * (n / 10) = q at hm ⊢
  by_cases c1 : f = d
  · rw [if_pos (by rw [c1]), if_pos c1]; rfl
  · rw [if_neg (fun z => by rw [nI_eq (by omega) (by omega)] at z; exact c1 z), if_neg c1]
    have hs := pk_sub_toInt (a := dN deep f) (b := dN deep d - q) (by omega) (by omega)
    by_cases c2 : dN deep d - q + 1 ≤ dN deep f
    · rw [if_pos (by rw [t_le, hs, l1]; omega), pk_sub (by omega), show (1 : Int32) = nI 1 from rfl, pk_sub (by omega), show (3 : Int32) = nI 3 from rfl, pk_div (by omega) (by omega) (by omega)]
    · rw [if_neg (by rw [t_le, hs, l1]; omega), show (dN deep f - (dN deep d - q) - 1) / 3 = 0 by omega]; rfl
theorem shows_eq {deep fine : Nat → Int32} {f d n g : Nat} (hd : Bd 8 1 60 deep) (hfi : Bd 8 1 9 fine) (hf : f < 8) (hd8 : d < 8) (hn : n ≤ 999) (hg : 1 ≤ g) (hg2 : g ≤ 20) : fX11_shows (nI f) (nI g) (nI d) (nI n) deep fine = some (if g ≤ ms deep fine f d n then 1 else 0) := by
  obtain ⟨e1, -, b1⟩ := dN_ok (lo := 1) (hi := 60) hd (by omega) hf
  obtain ⟨e2, -, b2⟩ := dN_ok (lo := 1) (hi := 60) hd (by omega) hd8
  obtain ⟨e3, -, b3⟩ := dN_ok (lo := 1) (hi := 9) hfi (by omega) hd8
  unfold fX11_shows ms
  have hw : dN fine d / 3 + 1 ≤ 4 := by omega
  have hm : (dN fine d / 3 + 1) * (n / 10) ≤ 4 * 99 := Nat.mul_le_mul hw (by omega)
  rw [gd_ix rfl hf (by omega), lt_e, gd_ix rfl hd8 (by omega), (wear_N hfi hd8).2, bd_s, lt_e, cl_nI hf (by omega), cl_nI hd8 (by omega), e1, e2, show (10 : Int32) = nI 10 from rfl, pk_div (by omega) (by omega) (by omega), pk_mul, nb_sub (by omega) (by omega), show (3 : Int32) = nI 3 from rfl, pk_mul, nb_sub (by omega) (by omega)]
  generalize (dN fine d / 3 + 1) * (n / 10) = q at hm ⊢
  by_cases c1 : f = d
  · rw [if_pos (by rw [c1]), if_pos c1, if_neg (by omega)]
  · rw [if_neg (fun z => by rw [nI_eq (by omega) (by omega)] at z; exact c1 z), if_neg c1]
    by_cases c2 : dN deep f - 3 * g ≤ dN deep d - q
    · rw [if_pos ((nI_leI (by omega) (by omega)).mpr c2), if_neg (by omega)]
    · rw [if_neg (fun z => by rw [nI_leI (by omega) (by omega)] at z; exact c2 z), if_pos (by omega)]
def lo (deep fine drawn pull shows : Nat → Int32) (f : Nat) : Nat → Nat
  | 0 => 1
  | i + 1 => if shows i = 0 then max (lo deep fine drawn pull shows f i) (ms deep fine f (dN drawn i) (dN pull i) + 1) else lo deep fine drawn pull shows f i
def hi (deep fine drawn pull shows : Nat → Int32) (f : Nat) : Nat → Nat
  | 0 => 20
  | i + 1 => if shows i = 0 then hi deep fine drawn pull shows f i else min (hi deep fine drawn pull shows f i) (ms deep fine f (dN drawn i) (dN pull i))
theorem lohi_le {deep fine drawn pull shows : Nat → Int32} {f : Nat} (hd : Bd 8 1 60 deep) (hf : f < 8) : ∀ i, 1 ≤ lo deep fine drawn pull shows f i ∧ lo deep fine drawn pull shows f i ≤ 20 ∧ hi deep fine drawn pull shows f i ≤ 20 := by
  intro i
  induction i with
  | zero => unfold lo hi; omega
  | succ i ih =>
    have := ms_le (fine := fine) (d := dN drawn i) (n := dN pull i) hd hf
    unfold lo hi
    split <;> omega
theorem bit8 {shown : Int32} {shows : Nat → Int32} (h4 : Bd 8 0 1 shows) (h6 : ∀ j, j < 8 → shows j = (shown >>> (nI j &&& 31)) &&& 1) {i : Nat} (hi : i < 8) : (fX10_hasBit shown (nI i) = 0 ↔ shows i = 0) ∧ (¬ shows i = 0 → shows i = 1) := by
  have h := h4.1 i hi
  have b0 := l0
  have b1 := l1
  unfold fX10_hasBit
  rw [← h6 i hi]
  have e : shows i = 0 ∨ shows i = 1 := by
    rw [t_eq, t_eq]; omega
  rcases e with e | e <;> rw [e] <;> decide
theorem Llo (k f : Nat) (shown : Int32) (deep fine drawn pull shows : Nat → Int32) (hk : k ≤ 8) (hf : f < 8) (hd : Bd 8 1 60 deep) (hfi : Bd 8 1 9 fine) (h2 : Bd 8 0 7 drawn) (h3 : Bd 8 0 999 pull) (h4 : Bd 8 0 1 shows) (h6 : ∀ j, j < 8 → shows j = (shown >>> (nI j &&& 31)) &&& 1) : ∀ (n i : Nat), i ≤ k → k + 1 ≤ n + i → LX4_fewestMinutes_4 (nI f) (nI k) shown drawn pull deep fine n (nI (lo deep fine drawn pull shows f i)) (nI i) = some (nI (lo deep fine drawn pull shows f k)) ∧ LX4_mostMinutes_5 (nI f) (nI k) shown drawn pull deep fine n (nI (hi deep fine drawn pull shows f i)) (nI i) = some (nI (hi deep fine drawn pull shows f k)) := by
  intro n
  induction n with
  | zero => intro i h1 h2; omega
  | succ n ih =>
    intro i g1 g2
    show FX4_fewestMinutes_4 (nI f) (nI k) shown drawn pull deep fine (LX4_fewestMinutes_4 (nI f) (nI k) shown drawn pull deep fine n) _ (nI i) = _ ∧ FX4_mostMinutes_5 (nI f) (nI k) shown drawn pull deep fine (LX4_mostMinutes_5 (nI f) (nI k) shown drawn pull deep fine n) _ (nI i) = _
    unfold FX4_fewestMinutes_4 FX4_mostMinutes_5
    by_cases c1 : i = k
    · subst c1
      have ci := (nI_leI (a := i) (b := i) (by omega) (by omega)).mpr (Nat.le_refl _)
      exact ⟨if_pos ci, if_pos ci⟩
    · have hi8 : i < 8 := by omega
      have d1 : ¬ nI k ≤ nI i := fun z => by rw [nI_leI (by omega) (by omega)] at z; omega
      have d2 : ¬ (8 : Int32) ≤ nI i := le8 hi8
      obtain ⟨e1, -, b1⟩ := dN_ok (lo := 0) (hi := 7) h2 (by omega) hi8
      obtain ⟨e2, -, b2⟩ := dN_ok (lo := 0) (hi := 999) h3 (by omega) hi8
      have hb := bit8 h4 h6 hi8
      have hl := lohi_le (fine := fine) (drawn := drawn) (pull := pull) (shows := shows) hd hf i
      have hm := ms_le (fine := fine) (d := dN drawn i) (n := dN pull i) hd hf
      obtain ⟨i1, i2⟩ := ih (i + 1) (by omega) (by omega)
      simp only [if_neg d1, if_neg d2, gd_ix (i := nI i) (k := i) (n := 8) rfl hi8 (by omega)]
      simp only [lt_e, nI_1, cl_nI hi8 (show 8 < 1000000 by omega)]
      rw [e1, e2, ms_eq hd hfi hf (by omega) b2]
      by_cases c2 : shows i = 0
      · simp only [if_pos (hb.1.mpr c2), bd_s]
        rw [nI_1, imax_nI (by omega) (by omega)]
        rw [lo, if_pos c2] at i1
        rw [hi, if_pos c2] at i2
        exact ⟨i1, i2⟩
      · simp only [if_neg (fun z => c2 (hb.1.mp z)), bd_s]
        have em : imin (nI (hi deep fine drawn pull shows f i)) (nI (ms deep fine f (dN drawn i) (dN pull i))) = nI (min (hi deep fine drawn pull shows f i) (ms deep fine f (dN drawn i) (dN pull i))) := by
          unfold imin
          by_cases c3 : ms deep fine f (dN drawn i) (dN pull i) < hi deep fine drawn pull shows f i
          · rw [if_pos ((nI_ltI (by omega) (by omega)).mpr c3), Nat.min_eq_right (by omega)]
          · rw [if_neg (fun z => c3 ((nI_ltI (by omega) (by omega)).mp z)), Nat.min_eq_left (by omega)]
        rw [em]
        rw [lo, if_neg c2] at i1
        rw [hi, if_neg c2] at i2
        exact ⟨i1, i2⟩
def fitB (deep fine drawn pull shows : Nat → Int32) (f g i : Nat) : Bool := decide (lo deep fine drawn pull shows f i ≤ g ∧ g ≤ hi deep fine drawn pull shows f i)
theorem Lfits (k f g : Nat) (deep fine drawn pull shows : Nat → Int32) (hk : k ≤ 8) (hf : f < 8) (hg : 1 ≤ g) (hg2 : g ≤ 20) (hd : Bd 8 1 60 deep) (hfi : Bd 8 1 9 fine) (h2 : Bd 8 0 7 drawn) (h3 : Bd 8 0 999 pull) (h4 : Bd 8 0 1 shows) : ∀ (n i : Nat), i ≤ k → k + 1 ≤ n + i → LX11_fits_5 (nI f) (nI g) (nI k) drawn pull deep fine shows n (if fitB deep fine drawn pull shows f g i then 1 else 0) (nI i) = some (if fitB deep fine drawn pull shows f g k then 1 else 0) := by
  intro n
  induction n with
  | zero => intro i h1 h2; omega
  | succ n ih =>
    intro i g1 g2
    show FX11_fits_5 (nI f) (nI g) (nI k) drawn pull deep fine shows (LX11_fits_5 (nI f) (nI g) (nI k) drawn pull deep fine shows n) _ (nI i) = _
    unfold FX11_fits_5
    by_cases c1 : i = k
    · subst c1
      have ci := (nI_leI (a := i) (b := i) (by omega) (by omega)).mpr (Nat.le_refl _)
      rw [if_pos ci]
      cases fitB deep fine drawn pull shows f g i <;> rfl
    · have hi8 : i < 8 := by omega
      have d1 : ¬ nI k ≤ nI i := fun z => by rw [nI_leI (by omega) (by omega)] at z; omega
      obtain ⟨e1, -, b1⟩ := dN_ok (lo := 0) (hi := 7) h2 (by omega) hi8
      obtain ⟨e2, -, b2⟩ := dN_ok (lo := 0) (hi := 999) h3 (by omega) hi8
      have i1 := ih (i + 1) (by omega) (by omega)
      have s01 : shows i = 0 ∨ shows i = 1 := by
        have h := h4.1 i hi8
        have b0 := l0
        have b1 := l1
        rw [t_eq, t_eq]; omega
      rw [if_neg d1]
      simp only [lt_e, nI_1]
      cases hfit : fitB deep fine drawn pull shows f g i with
      | false =>
        have e : fitB deep fine drawn pull shows f g (i + 1) = false := by
          unfold fitB at hfit ⊢
          rw [decide_eq_false_iff_not] at hfit ⊢
          rw [lo, hi]
          split <;> omega
        rw [e] at i1
        rw [if_pos (by decide)]
        exact i1
      | true =>
        unfold fitB at hfit
        rw [decide_eq_true_iff] at hfit
        rw [if_neg (by decide), gd_ix rfl hi8 (by omega), cl_nI hi8 (by omega), e1, e2, shows_eq hd hfi hf (by omega) b2 hg hg2, bd_s]
        rcases s01 with s0 | s1
        · rw [s0, if_neg (by decide)]
          by_cases c2 : g ≤ ms deep fine f (dN drawn i) (dN pull i)
          · have e : fitB deep fine drawn pull shows f g (i + 1) = false := by
              unfold fitB; rw [decide_eq_false_iff_not, lo, hi, if_pos s0, if_pos s0]; omega
            rw [e] at i1
            rw [if_pos c2, if_neg (by decide)]
            exact i1
          · have e : fitB deep fine drawn pull shows f g (i + 1) = true := by
              unfold fitB; rw [decide_eq_true_iff, lo, hi, if_pos s0, if_pos s0]; omega
            rw [e] at i1
            rw [if_neg c2, if_pos rfl]
            exact i1
        · have sn : ¬ shows i = 0 := by rw [s1]; decide
          rw [s1, if_pos rfl]
          by_cases c2 : g ≤ ms deep fine f (dN drawn i) (dN pull i)
          · have e : fitB deep fine drawn pull shows f g (i + 1) = true := by
              unfold fitB; rw [decide_eq_true_iff, lo, hi, if_neg sn, if_neg sn]; omega
            rw [e] at i1
            rw [if_pos c2, if_pos rfl]
            exact i1
          · have e : fitB deep fine drawn pull shows f g (i + 1) = false := by
              unfold fitB; rw [decide_eq_false_iff_not, lo, hi, if_neg sn, if_neg sn]; omega
            rw [e] at i1
            rw [if_neg c2, if_neg (by decide)]
            exact i1
