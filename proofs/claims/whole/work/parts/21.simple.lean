/-! the invariant -/
def Bd (n : Nat) (lo hi : Int) (f : Nat → Int32) : Prop := (∀ j, j < n → lo ≤ (f j).toInt ∧ (f j).toInt ≤ hi) ∧ ∀ j, n ≤ j → f j = 0
theorem Bd.up {n : Nat} {lo hi : Int} {f : Nat → Int32} {k : Nat} {x : Int32} (h : Bd n lo hi f) (hk : k < n) (h1 : lo ≤ x.toInt) (h2 : x.toInt ≤ hi) : Bd n lo hi (upd f k x) := by
  refine ⟨fun j hj => ?_, fun j hj => ?_⟩
  · by_cases e : j = k
    · subst e; rw [pk_us]; exact ⟨h1, h2⟩
    · rw [pk_un e]; exact h.1 j hj
  · rw [pk_un (by omega)]; exact h.2 j hj
theorem Bd.le {n : Nat} {lo hi hi' : Int} {f : Nat → Int32} (h : Bd n lo hi f) (hh : hi ≤ hi') : Bd n lo hi' f := ⟨fun j hj => by have := h.1 j hj; omega, h.2⟩
theorem Bd.cpy {n : Nat} {lo hi lo' hi' : Int} {f g : Nat → Int32} (hf : Bd n lo hi f) (hg : Bd n lo' hi' g) : va_cpy f g 0 0 n = f := by
  funext j
  by_cases hj : j < n
  · rw [pk_cpy_in (Nat.zero_le _) (by omega)]; congr 1; omega
  · rw [pk_cpy_out (Or.inr (by omega)), hf.2 j (by omega), hg.2 j (by omega)]
def InvS (P : Int) (there : Int32) (thick hollow damp fresh pulls fats : Nat → Int32) : Prop := (0 ≤ there.toInt ∧ there.toInt ≤ 31) ∧ Bd 5 0 9999 thick ∧ Bd 5 0 99 hollow ∧ Bd 5 0 20 damp ∧ (Bd 5 (-6) 7 fresh ∧ ∀ j, j < 5 → fresh j = -6 ∨ 0 ≤ (fresh j).toInt) ∧ Bd 5 0 P pulls ∧ Bd 40 0 60 fats
def InvR (flat least : Int32) (deep fine pay hair : Nat → Int32) : Prop := (0 ≤ flat.toInt ∧ flat.toInt ≤ 99) ∧ (0 ≤ least.toInt ∧ least.toInt ≤ 9999) ∧ Bd 8 1 60 deep ∧ Bd 8 1 9 fine ∧ Bd 8 0 999 pay ∧ Bd 6 (-9) 9 hair
def InvG (size shown : Int32) (drawn pull shows : Nat → Int32) : Prop := (0 ≤ size.toInt ∧ size.toInt ≤ 8) ∧ Bd 8 0 7 drawn ∧ Bd 8 0 999 pull ∧ Bd 8 0 1 shows ∧ (0 ≤ shown.toInt ∧ shown.toInt ≤ 255) ∧ ∀ j, j < 8 → shows j = (shown >>> (nI j &&& 31)) &&& 1
def InvP (size : Int32) (signs : Nat → Int32) : Prop := (0 ≤ size.toInt ∧ size.toInt ≤ 60) ∧ ∀ j, 60 ≤ j → signs j = 0
theorem l0 : (0 : Int32).toInt = 0 := rfl
theorem l1 : (1 : Int32).toInt = 1 := rfl
/-! stones' bits -/
theorem has_eq (x t : Int32) : fX11_isStone x t = fX6_has x t := by
  have h4 : (4 : Int32).toInt = 4 := rfl
  have h5 : (5 : Int32).toInt = 5 := rfl
  have h0 := l0
  unfold fX11_isStone fX6_has
  rw [in_0_4]
  by_cases c : fX10_inside x 0 4 = 0
  · rw [if_pos c]
    rw [ins_iff] at c
    by_cases h1 : x < 0
    · rw [if_pos h1]
    · rw [if_neg h1, if_pos]
      rw [t_lt] at h1; rw [t_le]; omega
  · rw [if_neg c]
    have := ins_t c
    rw [if_neg (show ¬ x < 0 by rw [t_lt]; omega), if_neg (show ¬ (5 : Int32) ≤ x by rw [t_le]; omega)]
theorem pic_eq (x : Int32) : fX11_isPicture x = fX10_inside x 0 7 := in_0_7 x
theorem has_nI {x t : Int32} (h : ¬ fX6_has x t = 0) : ∃ s, s < 5 ∧ x = nI s := by
  rw [← has_eq] at h
  unfold fX11_isStone at h
  rw [in_0_4] at h
  by_cases c : fX10_inside x 0 4 = 0
  · rw [if_pos c] at h; exact absurd rfl h
  · obtain ⟨k, h1, h2⟩ := ins_nI (n := 4) c rfl (by omega)
    exact ⟨k, by omega, h2⟩
theorem bit_of {x : Int32} (h : 0 ≤ x.toInt ∧ x.toInt ≤ 31) : ∃ t : Fin 32, x = nI t.val := by
  obtain ⟨k, h1, h2⟩ := t_of (x := x) (n := 32) h.1 (by omega) (by omega)
  exact ⟨⟨k, h1⟩, h2⟩
theorem bits_or : ∀ t : Fin 32, ∀ s : Fin 5, 0 ≤ (nI t.val ||| ((1 : Int32) <<< (nI s.val &&& 31))).toInt ∧ (nI t.val ||| ((1 : Int32) <<< (nI s.val &&& 31))).toInt ≤ 31 := by decide +kernel
theorem bits_and : ∀ t : Fin 32, ∀ s : Fin 5, 0 ≤ (nI t.val &&& (((1 : Int32) <<< (nI s.val &&& 31)) ^^^ (-1))).toInt ∧ (nI t.val &&& (((1 : Int32) <<< (nI s.val &&& 31)) ^^^ (-1))).toInt ≤ 31 := by decide +kernel
theorem ones_32 : ∀ t : Fin 32, fX11_ones (nI t.val) = some (fX6_count (nI t.val)) := by decide +kernel
theorem ones_eq {x : Int32} (h : 0 ≤ x.toInt ∧ x.toInt ≤ 31) : fX11_ones x = some (fX6_count x) := by
  obtain ⟨t, rfl⟩ := bit_of h
  exact ones_32 t
theorem or_ok {x : Int32} {s : Nat} (h : 0 ≤ x.toInt ∧ x.toInt ≤ 31) (hs : s < 5) : 0 ≤ (x ||| ((1 : Int32) <<< (nI s &&& 31))).toInt ∧ (x ||| ((1 : Int32) <<< (nI s &&& 31))).toInt ≤ 31 := by
  obtain ⟨t, rfl⟩ := bit_of h
  exact bits_or t ⟨s, hs⟩
theorem and_ok {x : Int32} {s : Nat} (h : 0 ≤ x.toInt ∧ x.toInt ≤ 31) (hs : s < 5) : 0 ≤ (x &&& (((1 : Int32) <<< (nI s &&& 31)) ^^^ (-1))).toInt ∧ (x &&& (((1 : Int32) <<< (nI s &&& 31)) ^^^ (-1))).toInt ≤ 31 := by
  obtain ⟨t, rfl⟩ := bit_of h
  exact bits_and t ⟨s, hs⟩
theorem cl_nI {k n : Nat} (h : k < n) (hn : n < 1000000) : Int32.toNatClampNeg (nI k) = k := nI_clamp (by omega)
/-! stone -/
def zr (a b : Nat) (f : Nat → Int32) : Nat → Int32 := fun j => if a ≤ j ∧ j < b then 0 else f j
theorem zr_self {a : Nat} {f : Nat → Int32} : zr a a f = f := by
  funext j; unfold zr; rw [if_neg (by omega)]
theorem zr_step {a b : Nat} {f : Nat → Int32} (h : a < b) : zr (a + 1) b (upd f a 0) = zr a b f := by
  funext j; unfold zr upd
  by_cases e : j = a
  · subst e; rw [if_neg (by omega), if_pos rfl, if_pos (by omega)]
  · by_cases e2 : a + 1 ≤ j ∧ j < b
    · rw [if_pos e2, if_pos (by omega)]
    · rw [if_neg e2, if_neg e, if_neg (by omega)]
theorem zr_bd {a b n : Nat} {lo hi : Int} {f : Nat → Int32} (h : Bd n lo hi f) (h1 : lo ≤ 0) (h2 : 0 ≤ hi) : Bd n lo hi (zr a b f) := by
  refine ⟨fun j hj => ?_, fun j hj => ?_⟩
  · unfold zr; split
    · exact ⟨h1, h2⟩
    · exact h.1 j hj
  · unfold zr; split
    · rfl
    · exact h.2 j hj
theorem ix_sp {s p : Nat} : nI s * (8 : Int32) + nI p = nI (8 * s + p) := by
  rw [show (8 : Int32) = nI 8 from rfl, pk_mul, nI_add, Nat.mul_comm]
theorem at_sp {s p : Nat} : fX11_at (nI s) (nI p) = nI (8 * s + p) := by
  unfold fX11_at
  rw [show (8 : Int32) = nI 8 from rfl, pk_mul, nI_add]
theorem le8 {p : Nat} (h : p < 8) : ¬ (8 : Int32) ≤ nI p := by
  rw [t_le, nI_toInt (by omega)]; show ¬ (8 : Int) ≤ _; omega
theorem L6put (s : Nat) (hs : s < 5) (a : Int32) (b c d e f : Nat → Int32) : ∀ (n p : Nat) (fats : Nat → Int32), p ≤ 8 → 9 ≤ n + p → LX6_put_62 (nI s) a b c d e f n (nI p) fats = some (a, b, c, d, e, f, zr (8 * s + p) (8 * s + 8) fats) := by
  intro n
  induction n with
  | zero => intro p fats h1 h2; omega
  | succ n ih =>
    intro p fats h1 h2
    show FX6_put_62 (nI s) a b c d e f (LX6_put_62 (nI s) a b c d e f n) (nI p) fats = _
    unfold FX6_put_62
    by_cases e8 : p = 8
    · subst e8
      rw [if_pos (by decide), zr_self]
    · rw [if_neg (le8 (by omega)), gd_ix ix_sp (show 8 * s + p < 40 by omega) (by omega), lt_e, nI_1, ix_sp, cl_nI (n := 40) (by omega) (by omega), ih (p + 1) _ (by omega) (by omega), ← Nat.add_assoc, zr_step (by omega)]
theorem L11stone (s : Nat) (hs : s < 5) (t : Int32) (h : 0 ≤ t.toInt ∧ t.toInt ≤ 31) (b c d e f : Nat → Int32) : ∀ (n p : Nat) (fats : Nat → Int32), p ≤ 8 → 9 ≤ n + p → LX11_stone_94 (nI s) t b c d e f n (nI p) fats = some (fX6_count (t ||| ((1 : Int32) <<< (nI s &&& 31))), t ||| ((1 : Int32) <<< (nI s &&& 31)), b, c, d, e, f, zr (8 * s + p) (8 * s + 8) fats) := by
  intro n
  induction n with
  | zero => intro p fats h1 h2; omega
  | succ n ih =>
    intro p fats h1 h2
    show FX11_stone_94 (nI s) t b c d e f (LX11_stone_94 (nI s) t b c d e f n) (nI p) fats = _
    unfold FX11_stone_94
    by_cases e8 : p = 8
    · subst e8
      rw [if_pos (by decide), zr_self, lt_e, ones_eq (or_ok h hs)]
      rfl
    · rw [if_neg (le8 (by omega)), gd_ix at_sp (show 8 * s + p < 40 by omega) (by omega), lt_e, nI_1, at_sp, cl_nI (n := 40) (by omega) (by omega), ih (p + 1) _ (by omega) (by omega), ← Nat.add_assoc, zr_step (by omega)]
theorem p_stone {P : Int} (hP : 0 ≤ P) (x1 x2 x3 x4 there : Int32) (thick hollow damp fresh pulls fats : Nat → Int32) (h : InvS P there thick hollow damp fresh pulls fats) : ∃ (r t' : Int32) (a b c d e f : Nat → Int32), fX10_stone x1 x2 x3 x4 there thick hollow damp fresh pulls fats = some (r, t', a, b, c, d, e, f) ∧ fX11_stone x1 x2 x3 x4 there thick hollow damp fresh pulls fats = some (r, t', a, b, c, d, e, f) ∧ InvS P t' a b c d e f := by
  unfold fX10_stone fX11_stone
  rw [in_0_4, in_0_9999, in_0_99, in_0_20]
  by_cases c1 : fX10_inside x1 0 4 = 0
  · simp only [if_pos c1]; exact ⟨_, _, _, _, _, _, _, _, rfl, rfl, h⟩
  simp only [if_neg c1]
  by_cases c2 : fX10_inside x2 0 9999 = 0
  · simp only [if_pos c2]; exact ⟨_, _, _, _, _, _, _, _, rfl, rfl, h⟩
  simp only [if_neg c2]
  by_cases c3 : fX10_inside x3 0 99 = 0
  · simp only [if_pos c3]; exact ⟨_, _, _, _, _, _, _, _, rfl, rfl, h⟩
  simp only [if_neg c3]
  by_cases c4 : fX10_inside x4 0 20 = 0
  · simp only [if_pos c4]; exact ⟨_, _, _, _, _, _, _, _, rfl, rfl, h⟩
  simp only [if_neg c4]
  obtain ⟨s, hs, rfl⟩ := ins_nI (n := 4) c1 rfl (by omega)
  have hs : s < 5 := by omega
  obtain ⟨ht, h1, h2, h3, h4, h5, h6⟩ := h
  unfold fX6_put
  rw [if_neg c1, lt_e]
  simp only [gd_ix (i := nI s) (k := s) (n := 5) rfl (by omega) (by omega)]
  rw [cl_nI (n := 5) (by omega) (by omega)]
  have e1 := L6put s hs (there ||| ((1 : Int32) <<< (nI s &&& 31))) (upd thick s x2) (upd hollow s x3) (upd damp s x4) (upd fresh s (-6)) (upd pulls s 0) 2000 0 fats (by omega) (by omega)
  have e2 := L11stone s hs there ht (upd thick s x2) (upd hollow s x3) (upd damp s x4) (upd fresh s (-6)) (upd pulls s 0) 2000 0 fats (by omega) (by omega)
  rw [nI_0] at e1 e2
  rw [e1, e2, bd_s]
  have a1 := ins_t c2
  have a2 := ins_t c3
  have a3 := ins_t c4
  refine ⟨_, _, _, _, _, _, _, _, rfl, rfl, or_ok ht hs, h1.up hs a1.1 a1.2, h2.up hs a2.1 a2.2, h3.up hs a3.1 a3.2, ⟨h4.1.up hs (by decide) (by decide), fun j hj => ?_⟩, h5.up hs (by decide) hP, zr_bd h6 (by omega) (by omega)⟩
  show upd fresh s (-6) j = -6 ∨ 0 ≤ (upd fresh s (-6) j).toInt
  by_cases e : j = s
  · subst e; exact Or.inl pk_us
  · rw [pk_un e]; exact h4.2 j hj
theorem p_smash {P : Int} (x1 there : Int32) (thick hollow damp fresh pulls fats : Nat → Int32) (h : InvS P there thick hollow damp fresh pulls fats) : ∃ r t' : Int32, fX10_smash x1 there = (r, t') ∧ fX11_smash x1 there = some (r, t') ∧ InvS P t' thick hollow damp fresh pulls fats := by
  unfold fX10_smash fX11_smash
  rw [has_eq]
  by_cases c1 : fX6_has x1 there = 0
  · simp only [if_pos c1]; exact ⟨_, _, rfl, rfl, h⟩
  simp only [if_neg c1]
  unfold fX6_take
  rw [if_neg c1]
  obtain ⟨s, hs, rfl⟩ := has_nI c1
  simp only [lt_e]
  rw [ones_eq (and_ok h.1 hs), bd_s]
  exact ⟨_, _, rfl, rfl, and_ok h.1 hs, h.2⟩
theorem p_picture (x1 x2 x3 x4 flat least : Int32) (deep fine pay hair : Nat → Int32) (h : InvR flat least deep fine pay hair) : ∃ (r : Int32) (a b c : Nat → Int32), fX10_picture x1 x2 x3 x4 deep fine pay = some (r, a, b, c) ∧ fX11_picture x1 x2 x3 x4 deep fine pay = some (r, a, b, c) ∧ InvR flat least a b c hair := by
  unfold fX10_picture fX11_picture
  rw [pic_eq, in_1_60, in_1_9, in_0_999]
  by_cases c1 : fX10_inside x1 0 7 = 0
  · simp only [if_pos c1]; exact ⟨_, _, _, _, rfl, rfl, h⟩
  simp only [if_neg c1]
  by_cases c2 : fX10_inside x2 1 60 = 0
  · simp only [if_pos c2]; exact ⟨_, _, _, _, rfl, rfl, h⟩
  simp only [if_neg c2]
  by_cases c3 : fX10_inside x3 1 9 = 0
  · simp only [if_pos c3]; exact ⟨_, _, _, _, rfl, rfl, h⟩
  simp only [if_neg c3]
  by_cases c4 : fX10_inside x4 0 999 = 0
  · simp only [if_pos c4]; exact ⟨_, _, _, _, rfl, rfl, h⟩
  simp only [if_neg c4]
  obtain ⟨s, hs, rfl⟩ := ins_nI (n := 7) c1 rfl (by omega)
  simp only [gd_ix (i := nI s) (k := s) (n := 8) rfl (by omega) (by omega)]
  rw [cl_nI (n := 8) (by omega) (by omega)]
  obtain ⟨h1, h2, h3, h4, h5, h6⟩ := h
  have a1 := ins_t c2
  have a2 := ins_t c3
  have a3 := ins_t c4
  exact ⟨_, _, _, _, rfl, rfl, h1, h2, h3.up (by omega) a1.1 a1.2, h4.up (by omega) a2.1 a2.2, h5.up (by omega) a3.1 a3.2, h6⟩
theorem p_set (x1 x2 flat least : Int32) (deep fine pay hair : Nat → Int32) (h : InvR flat least deep fine pay hair) : ∃ r a b : Int32, fX10_set x1 x2 flat least = (r, a, b) ∧ fX11_set x1 x2 flat least = (r, a, b) ∧ InvR a b deep fine pay hair := by
  unfold fX10_set fX11_set fX10_set_38 fX11_set_50
  rw [in_0_1, in_0_99, in_0_9999]
  obtain ⟨h1, h2, h3⟩ := h
  by_cases c1 : x1 = 0
  · subst c1
    rw [if_pos rfl, if_neg (show ¬ fX10_inside 0 0 1 = 0 by decide), if_pos rfl]
    by_cases c2 : fX10_inside x2 0 99 = 0
    · rw [if_pos c2, if_pos c2, if_neg (by decide)]; exact ⟨_, _, _, rfl, rfl, h1, h2, h3⟩
    · rw [if_neg c2, if_neg c2, if_pos rfl, if_pos rfl, if_neg (by decide)]; exact ⟨_, _, _, rfl, rfl, ins_t c2, h2, h3⟩
  · simp only [if_neg c1]
    by_cases c2 : x1 = 1
    · subst c2
      rw [if_pos rfl, if_neg (show ¬ fX10_inside 1 0 1 = 0 by decide)]
      by_cases c3 : fX10_inside x2 0 9999 = 0
      · simp only [if_pos c3]; exact ⟨_, _, _, rfl, rfl, h1, h2, h3⟩
      · simp only [if_neg c3, if_neg c1, if_pos trivial, if_pos rfl]; exact ⟨_, _, _, rfl, rfl, h1, ins_t c3, h3⟩
    · have e : fX10_inside x1 0 1 = 0 := by
        rw [ins_iff]; rw [t_eq] at c1 c2
        have := l0; have := l1; omega
      rw [if_neg c2, if_pos e]; exact ⟨_, _, _, rfl, rfl, h1, h2, h3⟩
theorem p_hairs (x1 x2 flat least : Int32) (deep fine pay hair : Nat → Int32) (h : InvR flat least deep fine pay hair) : ∃ (r : Int32) (a : Nat → Int32), fX10_hairs x1 x2 hair = some (r, a) ∧ fX11_hairs x1 x2 hair = some (r, a) ∧ InvR flat least deep fine pay a := by
  unfold fX10_hairs fX11_hairs
  rw [in_0_5, in_m9_9]
  by_cases c1 : fX10_inside x1 0 5 = 0
  · simp only [if_pos c1]; exact ⟨_, _, rfl, rfl, h⟩
  simp only [if_neg c1]
  by_cases c2 : fX10_inside x2 (-9) 9 = 0
  · simp only [if_pos c2]; exact ⟨_, _, rfl, rfl, h⟩
  simp only [if_neg c2]
  obtain ⟨s, hs, rfl⟩ := ins_nI (n := 5) c1 rfl (by omega)
  simp only [gd_ix (i := nI s) (k := s) (n := 6) rfl (by omega) (by omega)]
  rw [cl_nI (n := 6) (by omega) (by omega)]
  obtain ⟨h1, h2, h3, h4, h5, h6⟩ := h
  have a1 := ins_t c2
  exact ⟨_, _, rfl, rfl, h1, h2, h3, h4, h5, h6.up (by omega) a1.1 a1.2⟩
theorem p_say (x1 size : Int32) (signs : Nat → Int32) (h : InvP size signs) : ∃ (r a : Int32) (b : Nat → Int32), fX10_say x1 size signs = some (r, a, b) ∧ fX11_say x1 size signs = some (r, a, b) ∧ InvP a b := by
  unfold fX10_say fX11_say
  rw [in_33_126]
  by_cases c1 : fX10_inside x1 33 126 = 0
  · simp only [if_pos c1]; exact ⟨_, _, _, rfl, rfl, h⟩
  simp only [if_neg c1]
  unfold fX3_write
  obtain ⟨k, hk, rfl⟩ := t_of (x := size) (n := 61) h.1.1 (by have := h.1.2; omega) (by omega)
  have h59 : (59 : Int32).toInt = 59 := rfl
  have h0 := l0
  have hk2 := nI_toInt (n := k) (by omega)
  by_cases c2 : k = 60
  · subst c2
    rw [if_pos (by decide), bd_s, if_pos rfl, if_pos (by decide)]; exact ⟨_, _, _, rfl, rfl, h⟩
  · rw [if_neg (by rw [ins_iff]; omega), if_neg (by rw [show (60 : Int32) = nI 60 from rfl, nI_eq (by omega) (by omega)]; omega)]
    simp only [gd_ix (i := nI k) (k := k) (n := 60) rfl (by omega) (by omega)]
    rw [lt_e, lt_e, bd_s, cl_nI (n := 60) (by omega) (by omega), nI_1]
    dsimp only
    rw [if_neg (by decide)]
    refine ⟨_, _, _, rfl, rfl, ⟨?_, ?_⟩, fun j hj => ?_⟩
    · rw [nI_toInt (by omega)]; omega
    · rw [nI_toInt (by omega)]; omega
    · show upd signs k x1 j = 0
      rw [pk_un (by omega)]; exact h.2 j hj
theorem p_lives {P : Int} (x1 x2 there flat least : Int32) (thick hollow damp fresh pulls fats deep fine pay hair : Nat → Int32) (h : InvS P there thick hollow damp fresh pulls fats) (hr : InvR flat least deep fine pay hair) : ∃ r : Int32, fX10_lives x1 x2 there least thick = some r ∧ fX11_lives x1 x2 there least thick = some r := by
  have key : ∃ r, fX10_lives x1 x2 there least thick = some r := by
    unfold fX10_lives
    by_cases c1 : fX6_has x1 there = 0
    · rw [if_pos c1]; exact ⟨_, rfl⟩
    rw [if_neg c1]
    by_cases c2 : fX10_inside x2 1 99 = 0
    · rw [if_pos c2]; exact ⟨_, rfl⟩
    rw [if_neg c2]
    obtain ⟨s, hs, rfl⟩ := has_nI c1
    rw [gd_ix rfl hs (by omega), lt_e]
    by_cases c3 : (0 : Int32) ≤ thick (Int32.toNatClampNeg (nI s)) - least
    · rw [if_pos c3, gd_no]
      · exact ⟨_, rfl⟩
      · have a1 := ins_t c2
        have h99 : (99 : Int32).toInt = 99 := rfl
        have h3 : (3 : Int32).toInt = 3 := rfl
        have h1 := l1
        have h0 := l0
        rw [t_eq, t_mul (by rw [h3]; omega) (by rw [h3]; omega), h3]; omega
    · rw [if_neg c3]; exact ⟨_, rfl⟩
  obtain ⟨r, hr⟩ := key
  refine ⟨r, hr, ?_⟩
  rw [← hr]
  unfold fX10_lives fX11_lives
  rw [has_eq, in_1_99]
