/-! numbers -/
theorem gd_no {α : Type} {c : Prop} [Decidable c] {x : Option α} (h : ¬ c) : gd c x = x := if_neg h
theorem gd_ix {α : Type} {i : Int32} {k n : Nat} {x : Option α} (hi : i = nI k) (hk : k < n) (hn : n < 2 ^ 31) : gd (i < 0 ∨ n ≤ Int32.toNatClampNeg i) x = x := by
  rw [hi]; exact gd_no (nI_in hk hn)
theorem bd_s {α β : Type} {a : α} {f : α → Option β} : (some a).bind f = f a := rfl
theorem lt_e {α β : Type} {x : α} {f : α → β} : lt_ x f = f x := rfl
theorem t_le {a b : Int32} : a ≤ b ↔ a.toInt ≤ b.toInt := Int32.le_iff_toInt_le
theorem t_lt {a b : Int32} : a < b ↔ a.toInt < b.toInt := Int32.lt_iff_toInt_lt
theorem t_eq {a b : Int32} : a = b ↔ a.toInt = b.toInt := Int32.toInt_inj.symm
theorem t_hi (a : Int32) : a.toInt ≤ 2147483647 := by have := Int32.toInt_lt a; omega
theorem t_lo (a : Int32) : -2147483648 ≤ a.toInt := by have := Int32.le_toInt a; omega
theorem t_add {a b : Int32} (h1 : -2147483648 ≤ a.toInt + b.toInt) (h2 : a.toInt + b.toInt ≤ 2147483647) : (a + b).toInt = a.toInt + b.toInt := by
  rw [Int32.toInt_add]; exact Int.bmod_eq_of_le (by omega) (by omega)
theorem t_sub {a b : Int32} (h1 : -2147483648 ≤ a.toInt - b.toInt) (h2 : a.toInt - b.toInt ≤ 2147483647) : (a - b).toInt = a.toInt - b.toInt := by
  rw [Int32.toInt_sub]; exact Int.bmod_eq_of_le (by omega) (by omega)
theorem t_mul {a b : Int32} (h1 : -2147483648 ≤ a.toInt * b.toInt) (h2 : a.toInt * b.toInt ≤ 2147483647) : (a * b).toInt = a.toInt * b.toInt := by
  rw [Int32.toInt_mul]; exact Int.bmod_eq_of_le (by omega) (by omega)
theorem t_neg {a : Int32} (h1 : -2147483647 ≤ a.toInt) : (-a).toInt = -a.toInt := by
  have h2 := t_hi a
  rw [Int32.toInt_neg]; exact Int.bmod_eq_of_le (by omega) (by omega)
theorem t_div {a b : Int32} (h1 : 0 ≤ a.toInt) (h2 : 0 < b.toInt) : (a / b).toInt = a.toInt / b.toInt := by
  have h3 := t_hi a
  have h4 : a.toInt / b.toInt ≤ a.toInt := Int.ediv_le_self _ h1
  have h5 : 0 ≤ a.toInt / b.toInt := Int.ediv_nonneg h1 (by omega)
  rw [Int32.toInt_div, Int.tdiv_eq_ediv_of_nonneg h1]; exact Int.bmod_eq_of_le (by omega) (by omega)
theorem t_rem {a b : Int32} (h1 : 0 ≤ a.toInt) (h2 : 0 < b.toInt) : (a - a / b * b).toInt = a.toInt % b.toInt := by
  have e := t_div h1 h2
  have h3 := t_hi a
  have h6 := Int.emod_nonneg a.toInt (show b.toInt ≠ 0 by omega)
  have h7 := Int.emod_lt_of_pos a.toInt h2
  have h8 : a.toInt / b.toInt * b.toInt = a.toInt - a.toInt % b.toInt := by
    have := Int.mul_ediv_add_emod a.toInt b.toInt
    rw [Int.mul_comm] at this; omega
  have h10 : 0 ≤ a.toInt / b.toInt * b.toInt := Int.mul_nonneg (Int.ediv_nonneg h1 (by omega)) (by omega)
  have h9 : a.toInt % b.toInt ≤ a.toInt := by omega
  have e2 : (a / b * b).toInt = a.toInt - a.toInt % b.toInt := by
    rw [t_mul (by rw [e, h8]; omega) (by rw [e, h8]; omega), e, h8]
  rw [t_sub (by rw [e2]; omega) (by rw [e2]; omega), e2]; omega
theorem t_of {x : Int32} {n : Nat} (h0 : 0 ≤ x.toInt) (h1 : x.toInt < n) (hn : n < 2 ^ 31) : ∃ k, k < n ∧ x = nI k := by
  refine ⟨x.toInt.toNat, by omega, ?_⟩
  rw [t_eq, nI_toInt (by omega)]; omega
/-! inside, in -/
theorem ins_iff {x a b : Int32} : fX10_inside x a b = 0 ↔ ¬ (a.toInt ≤ x.toInt ∧ x.toInt ≤ b.toInt) := by
  unfold fX10_inside
  by_cases h1 : x < a
  · rw [if_pos h1]; rw [t_lt] at h1; exact ⟨fun _ => by omega, fun _ => rfl⟩
  · rw [if_neg h1]
    by_cases h2 : b < x
    · rw [if_pos h2]; rw [t_lt] at h2; exact ⟨fun _ => by omega, fun _ => rfl⟩
    · rw [if_neg h2]; rw [t_lt] at h1 h2; exact ⟨fun h => absurd h (by decide), fun h => absurd ⟨by omega, by omega⟩ h⟩
theorem ins_t {x a b : Int32} (h : ¬ fX10_inside x a b = 0) : a.toInt ≤ x.toInt ∧ x.toInt ≤ b.toInt := by
  rw [ins_iff] at h; omega
theorem ins_nI {x b : Int32} {n : Nat} (h : ¬ fX10_inside x 0 b = 0) (hb : b.toInt = n) (hn : n < 1000000) : ∃ k, k ≤ n ∧ x = nI k := by
  have h1 := ins_t h
  have h2 := t_hi b
  have h3 : (0 : Int32).toInt = 0 := rfl
  obtain ⟨k, a1, a2⟩ := t_of (x := x) (n := n + 1) (by omega) (by omega) (by omega)
  exact ⟨k, by omega, a2⟩
theorem l64 (x y : Int32) : (x.toInt64 < y.toInt64 ↔ x < y) ∧ (x.toInt64 = y.toInt64 ↔ x = y) := by
  simp only [Int64.lt_iff_toInt_lt, ← Int64.toInt_inj, Int32.toInt_toInt64, t_lt, t_eq, and_self]
theorem in_eq (x a b : Int32) : fX11_in x.toInt64 a.toInt64 b.toInt64 = fX10_inside x a b := by
  unfold fX11_in fX10_inside lg_cmp
  simp only [gt_iff_lt, (l64 _ _).1, (l64 _ _).2]
  have e1 : (1 : Int32).toInt = 1 := rfl
  have e0 : (0 : Int32).toInt = 0 := rfl
  have em : (-1 : Int32).toInt = -1 := rfl
  by_cases h1 : x < a
  · have h2 : ¬ a < x := by rw [t_lt] at *; omega
    have h3 : ¬ x = a := by rw [t_lt] at h1; rw [t_eq]; omega
    rw [if_neg h2, if_neg h3, if_pos (by decide), if_pos h1]
  · have e : ¬ (if a < x then (1 : Int32) else if x = a then 0 else -1) < 0 := by
      split
      · decide
      · split
        · decide
        · rename_i u v; rw [t_lt] at h1 u; rw [t_eq] at v; omega
    rw [if_neg e, if_neg h1]
    by_cases h2 : b < x
    · rw [if_pos h2, if_pos h2, if_pos (by decide)]
    · have e : ¬ 0 < (if b < x then (1 : Int32) else if x = b then 0 else -1) := by
        rw [if_neg h2]; split <;> decide
      rw [if_neg e, if_neg h2]
theorem in_m9_9 (x : Int32) : fX11_in x.toInt64 (-9 : Int64) (9 : Int64) = fX10_inside x (-9 : Int32) (9 : Int32) := in_eq x (-9) (9)
theorem in_0_1 (x : Int32) : fX11_in x.toInt64 (0 : Int64) (1 : Int64) = fX10_inside x (0 : Int32) (1 : Int32) := in_eq x (0) (1)
theorem in_0_2 (x : Int32) : fX11_in x.toInt64 (0 : Int64) (2 : Int64) = fX10_inside x (0 : Int32) (2 : Int32) := in_eq x (0) (2)
theorem in_0_4 (x : Int32) : fX11_in x.toInt64 (0 : Int64) (4 : Int64) = fX10_inside x (0 : Int32) (4 : Int32) := in_eq x (0) (4)
theorem in_0_5 (x : Int32) : fX11_in x.toInt64 (0 : Int64) (5 : Int64) = fX10_inside x (0 : Int32) (5 : Int32) := in_eq x (0) (5)
theorem in_0_7 (x : Int32) : fX11_in x.toInt64 (0 : Int64) (7 : Int64) = fX10_inside x (0 : Int32) (7 : Int32) := in_eq x (0) (7)
theorem in_0_9 (x : Int32) : fX11_in x.toInt64 (0 : Int64) (9 : Int64) = fX10_inside x (0 : Int32) (9 : Int32) := in_eq x (0) (9)
theorem in_0_20 (x : Int32) : fX11_in x.toInt64 (0 : Int64) (20 : Int64) = fX10_inside x (0 : Int32) (20 : Int32) := in_eq x (0) (20)
theorem in_0_99 (x : Int32) : fX11_in x.toInt64 (0 : Int64) (99 : Int64) = fX10_inside x (0 : Int32) (99 : Int32) := in_eq x (0) (99)
theorem in_0_150 (x : Int32) : fX11_in x.toInt64 (0 : Int64) (150 : Int64) = fX10_inside x (0 : Int32) (150 : Int32) := in_eq x (0) (150)
theorem in_0_255 (x : Int32) : fX11_in x.toInt64 (0 : Int64) (255 : Int64) = fX10_inside x (0 : Int32) (255 : Int32) := in_eq x (0) (255)
theorem in_0_999 (x : Int32) : fX11_in x.toInt64 (0 : Int64) (999 : Int64) = fX10_inside x (0 : Int32) (999 : Int32) := in_eq x (0) (999)
theorem in_0_9999 (x : Int32) : fX11_in x.toInt64 (0 : Int64) (9999 : Int64) = fX10_inside x (0 : Int32) (9999 : Int32) := in_eq x (0) (9999)
theorem in_1_6 (x : Int32) : fX11_in x.toInt64 (1 : Int64) (6 : Int64) = fX10_inside x (1 : Int32) (6 : Int32) := in_eq x (1) (6)
theorem in_1_9 (x : Int32) : fX11_in x.toInt64 (1 : Int64) (9 : Int64) = fX10_inside x (1 : Int32) (9 : Int32) := in_eq x (1) (9)
theorem in_1_60 (x : Int32) : fX11_in x.toInt64 (1 : Int64) (60 : Int64) = fX10_inside x (1 : Int32) (60 : Int32) := in_eq x (1) (60)
theorem in_1_99 (x : Int32) : fX11_in x.toInt64 (1 : Int64) (99 : Int64) = fX10_inside x (1 : Int32) (99 : Int32) := in_eq x (1) (99)
theorem in_10_59 (x : Int32) : fX11_in x.toInt64 (10 : Int64) (59 : Int64) = fX10_inside x (10 : Int32) (59 : Int32) := in_eq x (10) (59)
theorem in_33_126 (x : Int32) : fX11_in x.toInt64 (33 : Int64) (126 : Int64) = fX10_inside x (33 : Int32) (126 : Int32) := in_eq x (33) (126)
theorem in_49_57 (x : Int32) : fX11_in x.toInt64 (49 : Int64) (57 : Int64) = fX10_inside x (49 : Int32) (57 : Int32) := in_eq x (49) (57)
theorem in_65_72 (x : Int32) : fX11_in x.toInt64 (65 : Int64) (72 : Int64) = fX10_inside x (65 : Int32) (72 : Int32) := in_eq x (65) (72)
theorem in_97_101 (x : Int32) : fX11_in x.toInt64 (97 : Int64) (101 : Int64) = fX10_inside x (97 : Int32) (101 : Int32) := in_eq x (97) (101)
theorem in_100_599 (x : Int32) : fX11_in x.toInt64 (100 : Int64) (599 : Int64) = fX10_inside x (100 : Int32) (599 : Int32) := in_eq x (100) (599)
theorem in_1000_8999 (x : Int32) : fX11_in x.toInt64 (1000 : Int64) (8999 : Int64) = fX10_inside x (1000 : Int32) (8999 : Int32) := in_eq x (1000) (8999)
theorem in_10000_10005 (x : Int32) : fX11_in x.toInt64 (10000 : Int64) (10005 : Int64) = fX10_inside x (10000 : Int32) (10005 : Int32) := in_eq x (10000) (10005)
