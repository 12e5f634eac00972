/-! CRACK: all the cases there are, by the kernel -/
theorem crack_all : ∀ m : Fin 10, ∀ w : Fin 2, ∀ q : Fin 2, ∀ c : Fin 11, LX10_crack_103 (nI m.val) (nI w.val) (nI q.val) (nI c.val) 2000 1 1 1 0 = LX11_crack_106 (nI m.val) (nI w.val) (nI q.val) (nI c.val) 2000 1 1 0 1 ∧ (LX10_crack_103 (nI m.val) (nI w.val) (nI q.val) (nI c.val) 2000 1 1 1 0).isSome = true := by decide +kernel
theorem p_crack {P : Int} (x1 x2 x3 x4 x5 there : Int32) (thick hollow damp fresh pulls fats : Nat → Int32) (h : InvS P there thick hollow damp fresh pulls fats) : ∃ r : Int64, fX10_crack x1 x2 x3 x4 x5 there thick = some r ∧ fX11_crack x1 x2 x3 x4 x5 there thick = some r := by
  unfold fX10_crack fX11_crack
  rw [has_eq, in_0_150, in_0_9, in_0_1, in_0_1]
  by_cases c1 : fX6_has x1 there = 0
  · simp only [if_pos c1]; exact ⟨_, rfl, rfl⟩
  simp only [if_neg c1]
  by_cases c2 : fX10_inside x2 0 150 = 0
  · simp only [if_pos c2]; exact ⟨_, rfl, rfl⟩
  simp only [if_neg c2]
  by_cases c3 : fX10_inside x3 0 9 = 0
  · simp only [if_pos c3]; exact ⟨_, rfl, rfl⟩
  simp only [if_neg c3]
  by_cases c4 : fX10_inside x4 0 1 = 0
  · simp only [if_pos c4]; exact ⟨_, rfl, rfl⟩
  simp only [if_neg c4]
  by_cases c5 : fX10_inside x5 0 1 = 0
  · simp only [if_pos c5]; exact ⟨_, rfl, rfl⟩
  simp only [if_neg c5]
  obtain ⟨s, hs, rfl⟩ := has_nI c1
  obtain ⟨v, hv, rfl⟩ := ins_nI (n := 150) c2 rfl (by omega)
  obtain ⟨m, hm, rfl⟩ := ins_nI (n := 9) c3 rfl (by omega)
  obtain ⟨w, hw, rfl⟩ := ins_nI (n := 1) c4 rfl (by omega)
  obtain ⟨q, hq, rfl⟩ := ins_nI (n := 1) c5 rfl (by omega)
  obtain ⟨a, a1, -, ea⟩ := Bd.nat (hi := 9999) (j := s) h.2.1 (by omega) (by omega) hs
  simp only [gd_ix (i := nI s) (k := s) (n := 5) rfl hs (by omega)]
  rw [cl_nI hs (by omega), ea, show (100 : Int32) = nI 100 from rfl, pk_div (by omega) (by omega) (by omega), nb_sub (by omega) (by omega)]
  have e1 : imax 0 (imin 10 (nI v - nI (a / 100))) = nI (min 10 (v - a / 100)) := by
    unfold imax imin
    have hd := pk_sub_toInt (a := v) (b := a / 100) (by omega) (by omega)
    have b10 : (10 : Int32).toInt = 10 := rfl
    have b0 := l0
    rw [t_eq, nI_toInt (by omega)]
    by_cases k1 : nI v - nI (a / 100) < 10
    · rw [if_pos k1]
      rw [t_lt] at k1
      by_cases k2 : (0 : Int32) < nI v - nI (a / 100)
      · rw [if_pos k2]; rw [t_lt] at k2; omega
      · rw [if_neg k2]; rw [t_lt] at k2; omega
    · rw [if_neg k1, if_pos (by decide)]
      rw [t_lt] at k1; omega
  rw [e1, lt_e, lt_e]
  have key := crack_all ⟨m, by omega⟩ ⟨w, by omega⟩ ⟨q, by omega⟩ ⟨min 10 (v - a / 100), by omega⟩
  dsimp only at key
  obtain ⟨k1, k2⟩ := key
  obtain ⟨r, hr⟩ := Option.isSome_iff_exists.mp k2
  have e2 : (if nI (v - a / 100) ≤ 10 then LX11_crack_106 (nI m) (nI w) (nI q) (nI (v - a / 100)) 2000 1 1 0 1 else LX11_crack_106 (nI m) (nI w) (nI q) 10 2000 1 1 0 1) = LX11_crack_106 (nI m) (nI w) (nI q) (nI (min 10 (v - a / 100))) 2000 1 1 0 1 := by
    by_cases k3 : nI (v - a / 100) ≤ 10
    · rw [if_pos k3]
      rw [show (10 : Int32) = nI 10 from rfl, nI_leI (by omega) (by omega)] at k3
      rw [show min 10 (v - a / 100) = v - a / 100 by omega]
    · rw [if_neg k3]
      rw [show (10 : Int32) = nI 10 from rfl, nI_leI (by omega) (by omega)] at k3
      rw [show min 10 (v - a / 100) = 10 by omega]; rfl
  rw [e2]
  exact ⟨r, hr, by rw [← k1]; exact hr⟩
