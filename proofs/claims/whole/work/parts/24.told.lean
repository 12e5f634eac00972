theorem sh_or : ∀ t : Fin 256, ∀ k : Fin 8, (0 ≤ (nI t.val ||| ((1 : Int32) <<< (nI k.val &&& 31))).toInt ∧ (nI t.val ||| ((1 : Int32) <<< (nI k.val &&& 31))).toInt ≤ 255) ∧ ∀ j : Fin 8, ((nI t.val ||| ((1 : Int32) <<< (nI k.val &&& 31))) >>> (nI j.val &&& 31)) &&& 1 = if j.val = k.val then 1 else (nI t.val >>> (nI j.val &&& 31)) &&& 1 := by decide +kernel
theorem sh_and : ∀ t : Fin 256, ∀ k : Fin 8, (0 ≤ (nI t.val &&& (((1 : Int32) <<< (nI k.val &&& 31)) ^^^ (-1))).toInt ∧ (nI t.val &&& (((1 : Int32) <<< (nI k.val &&& 31)) ^^^ (-1))).toInt ≤ 255) ∧ ∀ j : Fin 8, ((nI t.val &&& (((1 : Int32) <<< (nI k.val &&& 31)) ^^^ (-1))) >>> (nI j.val &&& 31)) &&& 1 = if j.val = k.val then 0 else (nI t.val >>> (nI j.val &&& 31)) &&& 1 := by decide +kernel
theorem p_seen (x1 x2 x3 size shown : Int32) (drawn pull shows : Nat → Int32) (h : InvG size shown drawn pull shows) : ∃ (r a b : Int32) (c d e : Nat → Int32), fX10_seen x1 x2 x3 size shown drawn pull = some (r, b, a, c, d) ∧ fX11_seen x1 x2 x3 size drawn pull shows = some (r, a, c, d, e) ∧ InvG a b c d e := by
  unfold fX10_seen fX11_seen
  rw [pic_eq, in_0_999]
  by_cases c1 : fX10_inside x1 0 7 = 0
  · simp only [if_pos c1]; exact ⟨_, _, _, _, _, _, rfl, rfl, h⟩
  simp only [if_neg c1]
  by_cases c2 : fX10_inside x2 0 999 = 0
  · simp only [if_pos c2]; exact ⟨_, _, _, _, _, _, rfl, rfl, h⟩
  simp only [if_neg c2]
  unfold fX7_add
  obtain ⟨h1, h2, h3, h4, h5, h6⟩ := h
  obtain ⟨k, hk, rfl⟩ := t_of (x := size) (n := 9) h1.1 (by omega) (by omega)
  have hk2 := nI_toInt (n := k) (by omega)
  by_cases c3 : k = 8
  · subst c3
    rw [if_pos (show fX10_inside (nI 8) 0 7 = 0 by decide), bd_s]
    dsimp only
    rw [if_pos rfl, if_pos (show nI 8 = 8 from rfl)]
    exact ⟨_, _, _, _, _, _, rfl, rfl, h1, h2, h3, h4, h5, h6⟩
  · have hk8 : k < 8 := by omega
    rw [if_neg (ins7 hk8), if_neg (show ¬ nI k = 8 by rw [show (8 : Int32) = nI 8 from rfl, nI_eq (by omega) (by omega)]; omega)]
    simp only [gd_ix (i := nI k) (k := k) (n := 8) rfl hk8 (by omega)]
    obtain ⟨t, ht, rfl⟩ := t_of (x := shown) (n := 256) h5.1 (by omega) (by omega)
    have a1 := ins_t c1
    have a2 := ins_t c2
    have b1 : (7 : Int32).toInt = 7 := rfl
    have b2 : (999 : Int32).toInt = 999 := rfl
    have b0 := l0
    have hsz : 0 ≤ (nI (k + 1)).toInt ∧ (nI (k + 1)).toInt ≤ 8 := by rw [nI_toInt (by omega)]; omega
    by_cases c4 : x3 = 0
    · simp only [if_pos c4, lt_e, nI_1, cl_nI hk8 (show 8 < 1000000 by omega), bd_s]
      rw [if_neg (show ¬ (1 : Int32) = 0 by decide)]
      obtain ⟨s1, s2⟩ := sh_and ⟨t, ht⟩ ⟨k, hk8⟩
      refine ⟨_, _, _, _, _, _, rfl, rfl, hsz, h2.up hk8 (by omega) (by omega), h3.up hk8 (by omega) (by omega), h4.up hk8 (by decide) (by decide), s1, fun j hj => ?_⟩
      have := s2 ⟨j, hj⟩
      dsimp only at this ⊢
      rw [this]
      by_cases e : j = k
      · subst e; rw [pk_us, if_pos rfl]
      · rw [pk_un e, if_neg e, h6 j hj]
    · simp only [if_neg c4, lt_e, nI_1, cl_nI hk8 (show 8 < 1000000 by omega), bd_s]
      rw [if_neg (show ¬ (1 : Int32) = 0 by decide)]
      obtain ⟨s1, s2⟩ := sh_or ⟨t, ht⟩ ⟨k, hk8⟩
      refine ⟨_, _, _, _, _, _, rfl, rfl, hsz, h2.up hk8 (by omega) (by omega), h3.up hk8 (by omega) (by omega), h4.up hk8 (by decide) (by decide), s1, fun j hj => ?_⟩
      have := s2 ⟨j, hj⟩
      dsimp only at this ⊢
      rw [this]
      by_cases e : j = k
      · subst e; rw [pk_us, if_pos rfl]
      · rw [pk_un e, if_neg e, h6 j hj]
/-! TOLD -/
theorem insL {x a b : Int32} (h : a.toInt ≤ x.toInt ∧ x.toInt ≤ b.toInt) : ¬ fX10_inside x a b = 0 := by rw [ins_iff]; omega
theorem insN {x a b : Int32} (h : ¬ (a.toInt ≤ x.toInt ∧ x.toInt ≤ b.toInt)) : fX10_inside x a b = 0 := by rw [ins_iff]; exact h
theorem has5 {s : Nat} {t : Int32} (h : 5 ≤ s) (h2 : s < 1000000) : fX6_has (nI s) t = 0 := by
  unfold fX6_has
  rw [if_neg (nI_pos (by omega)), if_pos (by rw [show (5 : Int32) = nI 5 from rfl, nI_leI (by omega) (by omega)]; exact h)]
theorem tell_eq {there : Int32} {s q : Nat} (thick hollow damp fresh pulls : Nat → Int32) (h : ¬ fX6_has (nI s) there = 0) (hs : s < 5) (hq : q < 10) : ∃ r, (if (4 : Int32) < nI q then some (-2) else (fX6_tell (nI s) (nI q) there pulls fresh damp hollow thick).bind fun v => some v) = some r ∧ (fX11_toldOfStone (nI s) (nI q) there pulls fresh damp hollow thick).bind (fun v => some v) = some r := by
  unfold fX6_tell fX11_toldOfStone
  rw [has_eq]
  simp only [if_neg h, gd_ix (i := nI s) (k := s) (n := 5) rfl hs (by omega)]
  rcases (show q = 0 ∨ q = 1 ∨ q = 2 ∨ q = 3 ∨ q = 4 ∨ 5 ≤ q by omega) with rfl | rfl | rfl | rfl | rfl | hq5
  · exact ⟨_, rfl, rfl⟩
  · exact ⟨_, rfl, rfl⟩
  · exact ⟨_, rfl, rfl⟩
  · exact ⟨_, rfl, rfl⟩
  · exact ⟨_, rfl, rfl⟩
  · have key : ∀ k : Nat, k < 5 → ¬ nI q = nI k := fun k hk e => by rw [nI_eq (by omega) (by omega)] at e; omega
    have e0 : ¬ nI q = 0 := key 0 (by omega)
    have e1 : ¬ nI q = 1 := key 1 (by omega)
    have e2 : ¬ nI q = 2 := key 2 (by omega)
    have e3 : ¬ nI q = 3 := key 3 (by omega)
    have e4 : ¬ nI q = 4 := key 4 (by omega)
    rw [if_pos (by rw [show (4 : Int32) = nI 4 from rfl, nI_ltI (by omega) (by omega)]; omega), if_neg e0, if_neg e1, if_neg e2, if_neg e3, if_neg e4]
    exact ⟨_, rfl, rfl⟩
theorem p_told {P : Int} (x1 psize flat least there gsize : Int32) (hair pay fine deep fats pulls fresh damp hollow thick : Nat → Int32) : ∃ r : Int32, fX10_told x1 psize flat least there gsize hair pay fine deep fats pulls fresh damp hollow thick = some r ∧ fX11_told x1 there flat least gsize psize pulls fresh damp hollow thick fats pay fine deep hair = some r := by
  unfold fX10_told fX11_told
  rw [in_10000_10005, in_1000_8999, in_100_599, in_10_59]
  have b0 : (0 : Int32).toInt = 0 := rfl
  have b9 : (9 : Int32).toInt = 9 := rfl
  have b10 : (10 : Int32).toInt = 10 := rfl
  have b59 : (59 : Int32).toInt = 59 := rfl
  have b99 : (99 : Int32).toInt = 99 := rfl
  have b100 : (100 : Int32).toInt = 100 := rfl
  have b599 : (599 : Int32).toInt = 599 := rfl
  have b999 : (999 : Int32).toInt = 999 := rfl
  have b1000 : (1000 : Int32).toInt = 1000 := rfl
  have b8999 : (8999 : Int32).toInt = 8999 := rfl
  have b9999 : (9999 : Int32).toInt = 9999 := rfl
  have b10000 : (10000 : Int32).toInt = 10000 := rfl
  have b10005 : (10005 : Int32).toInt = 10005 := rfl
  have small : ∀ {y : Int32}, ¬ (0 ≤ x1.toInt ∧ x1.toInt ≤ 9) → (0 ≤ y.toInt ∧ y.toInt ≤ 9) → ¬ x1 = y := fun h1 h2 e => by rw [e] at h1; exact h1 h2
  have none5 : ¬ (0 ≤ x1.toInt ∧ x1.toInt ≤ 9) → (if x1 = 0 then some psize else if x1 = 1 then some there else if x1 = 2 then some flat else if x1 = 3 then some least else if x1 = 4 then some gsize else some (-2)) = some (-2 : Int32) := fun h => by
    rw [if_neg (small h (by decide)), if_neg (small h (by decide)), if_neg (small h (by decide)), if_neg (small h (by decide)), if_neg (small h (by decide))]
  by_cases r1 : 0 ≤ x1.toInt ∧ x1.toInt ≤ 9
  · rw [if_neg (insL (by omega)), if_pos (insN (by omega)), if_pos (insN (by omega)), if_pos (insN (by omega)), if_pos (insN (by omega))]
    refine ⟨_, rfl, ?_⟩
    unfold fX10_tellWhole
    repeat' split
    all_goals first | rfl | contradiction
  rw [if_pos (insN (by omega))]
  by_cases r2 : 10 ≤ x1.toInt ∧ x1.toInt ≤ 99
  · rw [if_neg (insL (by omega)), if_pos (insN (by omega)), if_pos (insN (by omega)), if_pos (insN (by omega))]
    obtain ⟨m, hm, rfl⟩ := t_of (x := x1) (n := 100) (by omega) (by omega) (by omega)
    have em := nI_toInt (n := m) (by omega)
    have ed : nI m / 10 - 1 = nI (m / 10 - 1) := by
      rw [show (10 : Int32) = nI 10 from rfl, pk_div (by omega) (by omega) (by omega), show (1 : Int32) = nI 1 from rfl, pk_sub (by omega)]
    have er : nI m - nI m / 10 * 10 = nI (m % 10) := pk_rem (d := 10) (by omega) (by omega) (by omega)
    rw [ed, er, lt_e]
    by_cases r3 : m ≤ 59
    · rw [if_neg (insL (by omega))]
      by_cases c1 : fX6_has (nI (m / 10 - 1)) there = 0
      · rw [if_pos c1]
        unfold fX11_toldOfStone
        rw [has_eq, if_pos c1]
        exact ⟨_, rfl, rfl⟩
      · rw [if_neg c1]
        exact tell_eq thick hollow damp fresh pulls c1 (by omega) (by omega)
    · rw [if_pos (insN (by omega)), if_pos (has5 (by omega) (by omega)), none5 r1]
      exact ⟨_, rfl, rfl⟩
  rw [if_pos (insN (by omega))]
  by_cases r3 : 100 ≤ x1.toInt ∧ x1.toInt ≤ 999
  · rw [if_neg (insL (by omega)), if_pos (insN (by omega)), if_pos (insN (by omega))]
    obtain ⟨m, hm, rfl⟩ := t_of (x := x1) (n := 1000) (by omega) (by omega) (by omega)
    have em := nI_toInt (n := m) (by omega)
    have ed : nI m / 100 - 1 = nI (m / 100 - 1) := by
      rw [show (100 : Int32) = nI 100 from rfl, pk_div (by omega) (by omega) (by omega), show (1 : Int32) = nI 1 from rfl, pk_sub (by omega)]
    have er : nI m - nI m / 100 * 100 = nI (m % 100) := pk_rem (d := 100) (by omega) (by omega) (by omega)
    rw [ed, er]
    simp only [lt_e, has_eq]
    by_cases r4 : m ≤ 599
    · rw [if_neg (insL (x := nI m) (a := 100) (b := 599) (by omega))]
      by_cases c1 : fX6_has (nI (m / 100 - 1)) there = 0
      · simp only [if_pos c1]; exact ⟨_, rfl, rfl⟩
      · simp only [if_neg c1]
        by_cases c2 : (8 : Int32) ≤ nI (m % 100)
        · simp only [if_pos c2]; exact ⟨_, rfl, rfl⟩
        · simp only [if_neg c2]
          have c3 : m % 100 < 8 := by
            rw [show (8 : Int32) = nI 8 from rfl, nI_leI (by omega) (by omega)] at c2; omega
          rw [fat_ok c1 (by omega) c3, gd_ix at_sp (show 8 * (m / 100 - 1) + m % 100 < 40 by omega) (by omega), at_sp, cl_nI (n := 40) (by omega) (by omega)]
          exact ⟨_, rfl, rfl⟩
    · rw [if_pos (insN (x := nI m) (a := 100) (b := 599) (by omega)), if_pos (has5 (s := m / 100 - 1) (by omega) (by omega)), if_pos (insN (x := nI m) (a := 10) (b := 59) (by omega)), none5 r1]
      exact ⟨_, rfl, rfl⟩
  rw [if_pos (insN (by omega))]
  by_cases r4 : 1000 ≤ x1.toInt ∧ x1.toInt ≤ 9999
  · rw [if_neg (insL (by omega)), if_pos (insN (by omega))]
    obtain ⟨m, hm, rfl⟩ := t_of (x := x1) (n := 10000) (by omega) (by omega) (by omega)
    have em := nI_toInt (n := m) (by omega)
    have ed : nI m / 1000 - 1 = nI (m / 1000 - 1) := by
      rw [show (1000 : Int32) = nI 1000 from rfl, pk_div (by omega) (by omega) (by omega), show (1 : Int32) = nI 1 from rfl, pk_sub (by omega)]
    have er : nI m - nI m / 1000 * 1000 = nI (m % 1000) := pk_rem (d := 1000) (by omega) (by omega) (by omega)
    rw [ed, er]
    unfold fX5_tell
    by_cases r5 : m ≤ 8999
    · rw [if_neg (ins7 (p := m / 1000 - 1) (by omega)), if_neg (insL (x := nI m) (a := 1000) (b := 8999) (by omega))]
      unfold fX11_toldOfPicture
      simp only [gd_ix (i := nI (m / 1000 - 1)) (k := m / 1000 - 1) (n := 8) rfl (by omega) (by omega)]
      repeat' split
      all_goals exact ⟨_, rfl, rfl⟩
    · have e7 : fX10_inside (nI (m / 1000 - 1)) 0 7 = 0 := insN (by rw [nI_toInt (by omega)]; show ¬ ((0 : Int) ≤ _ ∧ _ ≤ (7 : Int)); omega)
      rw [if_pos e7, if_pos (insN (x := nI m) (a := 1000) (b := 8999) (by omega)), if_pos (insN (x := nI m) (a := 100) (b := 599) (by omega)), if_pos (insN (x := nI m) (a := 10) (b := 59) (by omega)), none5 r1]
      exact ⟨_, rfl, rfl⟩
  rw [if_pos (insN (by omega))]
  by_cases r5 : 10000 ≤ x1.toInt ∧ x1.toInt ≤ 10005
  · have c := insL (x := x1) (a := 10000) (b := 10005) (by omega)
    have hb : (x1 - 10000).toInt = x1.toInt - 10000 := by rw [t_sub (by omega) (by omega), b10000]
    obtain ⟨m, hm, e⟩ := t_of (x := x1 - 10000) (n := 6) (by omega) (by omega) (by omega)
    simp only [if_neg c, gd_ix (i := x1 - 10000) (n := 6) e hm (by omega)]
    exact ⟨_, rfl, rfl⟩
  · have c := insN (x := x1) (a := 10000) (b := 10005) (by omega)
    simp only [if_pos c]
    rw [if_pos (insN (by omega)), if_pos (insN (by omega)), if_pos (insN (by omega)), none5 r1]
    exact ⟨_, rfl, rfl⟩
