/-! the six of the shop (printed by wip/gen/shop.py) -/
theorem p_judge {P : Nat} (x1 : Int32) (size flat least there t_acts t_stop t_why t_flat t_least t_there t_pulled t_fh t_ha t_st t_kd t_am acts pulled fh ha bad why : Int32) (signs deep fine pay hair thick hollow damp fresh pulls fats t_deep t_fine t_pay t_hair t_thick t_hollow t_damp t_fresh t_pulls t_fats t_ofK act much wher had kindM leaves : Nat → Int32) (hP : P + 270 ≤ 800000) (h : InvS P there thick hollow damp fresh pulls fats) (hr : InvR flat least deep fine pay hair) (hp : InvP size signs) (hts : TS t_deep t_fine t_pay t_hair t_thick t_hollow t_damp t_fresh t_pulls t_fats t_ofK) (hk : SP 5 kindM) : ∃ (r acts1 stop1 why1 flat1 least1 there1 fh1 ha1 pulled1 am1 kd1 st1 acts2 bad2 why2 pulled2 fh2 ha2 : Int32) (deep1 fine1 pay1 hair1 thick1 hollow1 damp1 fresh1 pulls1 fats1 ofK1 act2 much2 wher2 had2 kindM2 leaves2 : Nat → Int32), fX10_judge x1 size t_acts t_stop t_why signs t_flat t_least t_there t_pulled t_fh t_ha flat least there t_st t_kd t_am t_deep t_fine t_pay t_hair t_thick t_hollow t_damp t_fresh t_pulls t_fats t_ofK deep fine pay hair thick hollow damp fresh pulls fats = some (r, acts1, stop1, why1, flat1, least1, there1, fh1, ha1, pulled1, am1, kd1, st1, deep1, fine1, pay1, hair1, thick1, hollow1, damp1, fresh1, pulls1, fats1, ofK1) ∧ fX11_judge x1 there flat least size acts pulled fh ha bad why signs act much wher fats thick hollow damp fresh pulls had kindM fine deep leaves = some (r, acts2, bad2, why2, pulled2, fh2, ha2, there, act2, much2, wher2, fats, thick, hollow, damp, fresh, pulls, had2, kindM2, leaves2) ∧ TS deep1 fine1 pay1 hair1 thick1 hollow1 damp1 fresh1 pulls1 fats1 ofK1 ∧ SP 5 kindM2 := by
  unfold fX10_judge fX11_judge
  rw [in_0_2]
  by_cases c1 : fX10_inside x1 0 2 = 0
  · simp only [if_pos c1]; exact ⟨_, _, _, _, _, _, _, _, _, _, _, _, _, _, _, _, _, _, _, _, _, _, _, _, _, _, _, _, _, _, _, _, _, _, _, _, rfl, rfl, hts, hk⟩
  simp only [if_neg c1]
  obtain ⟨z, hz, rfl⟩ := ins_nI (n := 2) c1 rfl (by omega)
  obtain ⟨r10, r11, acts1, stop1, why1, flat1, least1, there1, fh1, ha1, pulled1, am1, kd1, st1, acts2, bad2, why2, pulled2, fh2, ha2, deep1, fine1, pay1, hair1, thick1, hollow1, damp1, fresh1, pulls1, fats1, ofK1, act2, much2, wher2, had2, kindM2, leaves2, e1, e2, ts, hk2, hh⟩ := p_try (P := P) size flat least there t_acts t_stop t_why t_flat t_least t_there t_pulled t_fh t_ha t_st t_kd t_am acts pulled fh ha bad why signs deep fine pay hair thick hollow damp fresh pulls fats t_deep t_fine t_pay t_hair t_thick t_hollow t_damp t_fresh t_pulls t_fats t_ofK act much wher had kindM leaves hP h hr hp hts hk
  rw [e1, e2, bd_s, bd_s]
  dsimp only
  rcases hh with ⟨rfl, rfl⟩ | ⟨⟨rfl, rfl, rfl⟩ | ⟨rfl, rfl⟩, rfl, rfl, rfl, rfl, rfl, rfl, hi, hv, hg⟩
  · simp only [if_pos (show (-5 : Int32) = -5 from rfl)]; exact ⟨_, _, _, _, _, _, _, _, _, _, _, _, _, _, _, _, _, _, _, _, _, _, _, _, _, _, _, _, _, _, _, _, _, _, _, _, rfl, rfl, ts, hk2⟩
  · rcases (show z = 0 ∨ z = 1 ∨ z = 2 by omega) with rfl | rfl | rfl
    · simp only [if_neg (show ¬ (0 : Int32) = -5 by decide), if_neg (show ¬ (-6 : Int32) = -5 by decide), if_neg (show ¬ (-6 : Int32) = -3 by decide), if_pos (show (0 : Int32) = 0 from rfl), if_pos (show nI 0 = (0 : Int32) from rfl), if_pos (show nI 0 ≤ (1 : Int32) by decide)]; exact ⟨_, _, _, _, _, _, _, _, _, _, _, _, _, _, _, _, _, _, _, _, _, _, _, _, _, _, _, _, _, _, _, _, _, _, _, _, rfl, rfl, ts, hk2⟩
    · simp only [if_neg (show ¬ (0 : Int32) = -5 by decide), if_neg (show ¬ (-6 : Int32) = -5 by decide), if_neg (show ¬ (-6 : Int32) = -3 by decide), if_pos (show (0 : Int32) = 0 from rfl), if_neg (show ¬ nI 1 = (0 : Int32) by decide), if_pos (show nI 1 = (1 : Int32) from rfl), if_pos (show nI 1 ≤ (1 : Int32) by decide)]; exact ⟨_, _, _, _, _, _, _, _, _, _, _, _, _, _, _, _, _, _, _, _, _, _, _, _, _, _, _, _, _, _, _, _, _, _, _, _, rfl, rfl, ts, hk2⟩
    · simp only [if_neg (show ¬ (0 : Int32) = -5 by decide), if_neg (show ¬ (-6 : Int32) = -5 by decide), if_neg (show ¬ (-6 : Int32) = -3 by decide), if_pos (show (0 : Int32) = 0 from rfl), if_neg (show ¬ nI 2 = (0 : Int32) by decide), if_neg (show ¬ nI 2 = (1 : Int32) by decide), if_neg (show ¬ nI 2 ≤ (1 : Int32) by decide)]; exact ⟨_, _, _, _, _, _, _, _, _, _, _, _, _, _, _, _, _, _, _, _, _, _, _, _, _, _, _, _, _, _, _, _, _, _, _, _, rfl, rfl, ts, hk2⟩
  · rcases (show z = 0 ∨ z = 1 ∨ z = 2 by omega) with rfl | rfl | rfl
    · simp only [if_neg (show ¬ (-3 : Int32) = -5 by decide), if_neg (show ¬ (-3 : Int32) = 0 by decide), if_pos (show (-3 : Int32) = -3 from rfl), if_pos (show nI 0 = (0 : Int32) from rfl), if_pos (show nI 0 ≤ (1 : Int32) by decide)]; exact ⟨_, _, _, _, _, _, _, _, _, _, _, _, _, _, _, _, _, _, _, _, _, _, _, _, _, _, _, _, _, _, _, _, _, _, _, _, rfl, rfl, ts, hk2⟩
    · simp only [if_neg (show ¬ (-3 : Int32) = -5 by decide), if_neg (show ¬ (-3 : Int32) = 0 by decide), if_pos (show (-3 : Int32) = -3 from rfl), if_neg (show ¬ nI 1 = (0 : Int32) by decide), if_pos (show nI 1 = (1 : Int32) from rfl), if_pos (show nI 1 ≤ (1 : Int32) by decide)]; exact ⟨_, _, _, _, _, _, _, _, _, _, _, _, _, _, _, _, _, _, _, _, _, _, _, _, _, _, _, _, _, _, _, _, _, _, _, _, rfl, rfl, ts, hk2⟩
    · simp only [if_neg (show ¬ (-3 : Int32) = -5 by decide), if_neg (show ¬ (-3 : Int32) = 0 by decide), if_pos (show (-3 : Int32) = -3 from rfl), if_neg (show ¬ nI 2 = (0 : Int32) by decide), if_neg (show ¬ nI 2 = (1 : Int32) by decide), if_neg (show ¬ nI 2 ≤ (1 : Int32) by decide)]; exact ⟨_, _, _, _, _, _, _, _, _, _, _, _, _, _, _, _, _, _, _, _, _, _, _, _, _, _, _, _, _, _, _, _, _, _, _, _, rfl, rfl, ts, hk2⟩
theorem p_kinds {P : Nat} (x1 : Int32) (size flat least there t_acts t_stop t_why t_flat t_least t_there t_pulled t_fh t_ha t_st t_kd t_am acts pulled fh ha bad why : Int32) (signs deep fine pay hair thick hollow damp fresh pulls fats t_deep t_fine t_pay t_hair t_thick t_hollow t_damp t_fresh t_pulls t_fats t_ofK act much wher had kindM leaves : Nat → Int32) (hP : P + 270 ≤ 800000) (h : InvS P there thick hollow damp fresh pulls fats) (hr : InvR flat least deep fine pay hair) (hp : InvP size signs) (hts : TS t_deep t_fine t_pay t_hair t_thick t_hollow t_damp t_fresh t_pulls t_fats t_ofK) (hk : SP 5 kindM) : ∃ (r acts1 stop1 why1 flat1 least1 there1 fh1 ha1 pulled1 am1 kd1 st1 acts2 bad2 why2 pulled2 fh2 ha2 : Int32) (deep1 fine1 pay1 hair1 thick1 hollow1 damp1 fresh1 pulls1 fats1 ofK1 act2 much2 wher2 had2 kindM2 leaves2 : Nat → Int32), fX10_kinds x1 size t_acts t_stop t_why signs t_flat t_least t_there t_pulled t_fh t_ha flat least there t_st t_kd t_am t_deep t_fine t_pay t_hair t_thick t_hollow t_damp t_fresh t_pulls t_fats t_ofK deep fine pay hair thick hollow damp fresh pulls fats = some (r, acts1, stop1, why1, flat1, least1, there1, fh1, ha1, pulled1, am1, kd1, st1, deep1, fine1, pay1, hair1, thick1, hollow1, damp1, fresh1, pulls1, fats1, ofK1) ∧ fX11_kinds x1 there flat least size acts pulled fh ha bad why signs act much wher fats thick hollow damp fresh pulls had kindM fine deep leaves = some (r, acts2, bad2, why2, pulled2, fh2, ha2, there, act2, much2, wher2, fats, thick, hollow, damp, fresh, pulls, had2, kindM2, leaves2) ∧ TS deep1 fine1 pay1 hair1 thick1 hollow1 damp1 fresh1 pulls1 fats1 ofK1 ∧ SP 5 kindM2 := by
  unfold fX10_kinds fX11_kinds
  rw [in_0_4]
  by_cases c1 : fX10_inside x1 0 4 = 0
  · simp only [if_pos c1]; exact ⟨_, _, _, _, _, _, _, _, _, _, _, _, _, _, _, _, _, _, _, _, _, _, _, _, _, _, _, _, _, _, _, _, _, _, _, _, rfl, rfl, hts, hk⟩
  simp only [if_neg c1]
  obtain ⟨z, hz, rfl⟩ := ins_nI (n := 4) c1 rfl (by omega)
  obtain ⟨r10, r11, acts1, stop1, why1, flat1, least1, there1, fh1, ha1, pulled1, am1, kd1, st1, acts2, bad2, why2, pulled2, fh2, ha2, deep1, fine1, pay1, hair1, thick1, hollow1, damp1, fresh1, pulls1, fats1, ofK1, act2, much2, wher2, had2, kindM2, leaves2, e1, e2, ts, hk2, hh⟩ := p_try (P := P) size flat least there t_acts t_stop t_why t_flat t_least t_there t_pulled t_fh t_ha t_st t_kd t_am acts pulled fh ha bad why signs deep fine pay hair thick hollow damp fresh pulls fats t_deep t_fine t_pay t_hair t_thick t_hollow t_damp t_fresh t_pulls t_fats t_ofK act much wher had kindM leaves hP h hr hp hts hk
  rw [e1, e2, bd_s, bd_s]
  dsimp only
  have hz5 : z < 5 := by omega
  rcases hh with ⟨rfl, rfl⟩ | ⟨⟨rfl, rfl, rfl⟩ | ⟨rfl, rfl⟩, rfl, rfl, rfl, rfl, rfl, rfl, hi, hv, hg⟩
  · simp only [if_neg (show ¬ (-5 : Int32) = 0 by decide), if_neg (show ¬ (-5 : Int32) = -6 by decide)]; exact ⟨_, _, _, _, _, _, _, _, _, _, _, _, _, _, _, _, _, _, _, _, _, _, _, _, _, _, _, _, _, _, _, _, _, _, _, _, rfl, rfl, ts, hk2⟩
  · simp only [if_pos (show (0 : Int32) = 0 from rfl), if_pos (show (-6 : Int32) = -6 from rfl), cl_nI hz5 (show 5 < 1000000 by omega), gd_ik hz5 (show 5 < 2 ^ 31 by omega)]; exact ⟨_, _, _, _, _, _, _, _, _, _, _, _, _, _, _, _, _, _, _, _, _, _, _, _, _, _, _, _, _, _, _, _, _, _, _, _, rfl, rfl, ts, hk2⟩
  · simp only [if_neg (show ¬ (-3 : Int32) = 0 by decide), if_neg (show ¬ (-3 : Int32) = -6 by decide)]; exact ⟨_, _, _, _, _, _, _, _, _, _, _, _, _, _, _, _, _, _, _, _, _, _, _, _, _, _, _, _, _, _, _, _, _, _, _, _, rfl, rfl, ts, hk2⟩
theorem p_sky {P : Nat} (x1 : Int32) (size flat least there t_acts t_stop t_why t_flat t_least t_there t_pulled t_fh t_ha t_st t_kd t_am acts pulled fh ha bad why : Int32) (signs deep fine pay hair thick hollow damp fresh pulls fats t_deep t_fine t_pay t_hair t_thick t_hollow t_damp t_fresh t_pulls t_fats t_ofK act much wher had kindM leaves : Nat → Int32) (hP : P + 270 ≤ 800000) (h : InvS P there thick hollow damp fresh pulls fats) (hr : InvR flat least deep fine pay hair) (hp : InvP size signs) (hts : TS t_deep t_fine t_pay t_hair t_thick t_hollow t_damp t_fresh t_pulls t_fats t_ofK) (hk : SP 5 kindM) : ∃ (r acts1 stop1 why1 flat1 least1 there1 fh1 ha1 pulled1 am1 kd1 st1 acts2 bad2 why2 pulled2 fh2 ha2 : Int32) (deep1 fine1 pay1 hair1 thick1 hollow1 damp1 fresh1 pulls1 fats1 ofK1 act2 much2 wher2 had2 kindM2 leaves2 : Nat → Int32), fX10_sky x1 size t_acts t_stop t_why signs t_flat t_least t_there t_pulled t_fh t_ha flat least there t_st t_kd t_am t_deep t_fine t_pay t_hair t_thick t_hollow t_damp t_fresh t_pulls t_fats t_ofK deep fine pay hair thick hollow damp fresh pulls fats = some (r, acts1, stop1, why1, flat1, least1, there1, fh1, ha1, pulled1, am1, kd1, st1, deep1, fine1, pay1, hair1, thick1, hollow1, damp1, fresh1, pulls1, fats1, ofK1) ∧ fX11_sky x1 there flat least size acts pulled fh ha bad why signs act much wher fats thick hollow damp fresh pulls had kindM fine deep leaves = some (r, acts2, bad2, why2, pulled2, fh2, ha2, there, act2, much2, wher2, fats, thick, hollow, damp, fresh, pulls, had2, kindM2, leaves2) ∧ TS deep1 fine1 pay1 hair1 thick1 hollow1 damp1 fresh1 pulls1 fats1 ofK1 ∧ SP 5 kindM2 := by
  unfold fX10_sky fX11_sky
  rw [in_0_1]
  by_cases c1 : fX10_inside x1 0 1 = 0
  · simp only [if_pos c1]; exact ⟨_, _, _, _, _, _, _, _, _, _, _, _, _, _, _, _, _, _, _, _, _, _, _, _, _, _, _, _, _, _, _, _, _, _, _, _, rfl, rfl, hts, hk⟩
  simp only [if_neg c1]
  obtain ⟨r10, r11, acts1, stop1, why1, flat1, least1, there1, fh1, ha1, pulled1, am1, kd1, st1, acts2, bad2, why2, pulled2, fh2, ha2, deep1, fine1, pay1, hair1, thick1, hollow1, damp1, fresh1, pulls1, fats1, ofK1, act2, much2, wher2, had2, kindM2, leaves2, e1, e2, ts, hk2, hh⟩ := p_try (P := P) size flat least there t_acts t_stop t_why t_flat t_least t_there t_pulled t_fh t_ha t_st t_kd t_am acts pulled fh ha bad why signs deep fine pay hair thick hollow damp fresh pulls fats t_deep t_fine t_pay t_hair t_thick t_hollow t_damp t_fresh t_pulls t_fats t_ofK act much wher had kindM leaves hP h hr hp hts hk
  rw [e1, e2, bd_s, bd_s]
  dsimp only
  rcases hh with ⟨rfl, rfl⟩ | ⟨⟨rfl, rfl, rfl⟩ | ⟨rfl, rfl⟩, rfl, rfl, rfl, rfl, rfl, rfl, hi, hv, hg⟩
  · simp only [if_neg (show ¬ (-5 : Int32) = 0 by decide), if_neg (show ¬ (-5 : Int32) = -6 by decide)]; exact ⟨_, _, _, _, _, _, _, _, _, _, _, _, _, _, _, _, _, _, _, _, _, _, _, _, _, _, _, _, _, _, _, _, _, _, _, _, rfl, rfl, ts, hk2⟩
  · simp only [if_pos (show (0 : Int32) = 0 from rfl), if_pos (show (-6 : Int32) = -6 from rfl)]
    by_cases c2 : x1 = 0
    · simp only [if_pos c2]; exact ⟨_, _, _, _, _, _, _, _, _, _, _, _, _, _, _, _, _, _, _, _, _, _, _, _, _, _, _, _, _, _, _, _, _, _, _, _, rfl, rfl, ts, hk2⟩
    · simp only [if_neg c2]; exact ⟨_, _, _, _, _, _, _, _, _, _, _, _, _, _, _, _, _, _, _, _, _, _, _, _, _, _, _, _, _, _, _, _, _, _, _, _, rfl, rfl, ts, hk2⟩
  · simp only [if_neg (show ¬ (-3 : Int32) = 0 by decide), if_neg (show ¬ (-3 : Int32) = -6 by decide)]; exact ⟨_, _, _, _, _, _, _, _, _, _, _, _, _, _, _, _, _, _, _, _, _, _, _, _, _, _, _, _, _, _, _, _, _, _, _, _, rfl, rfl, ts, hk2⟩
theorem has_bit {t : Int32} {s : Nat} (hs : s < 5) : fX6_has (nI s) t = 0 ↔ ((t >>> (nI s &&& 31)) &&& 1) = 0 := by
  unfold fX6_has
  rw [if_neg (nI_pos (by omega)), if_neg (le5 hs)]
  have key : (t >>> (nI s &&& 31)) &&& 1 = 0 ∨ (t >>> (nI s &&& 31)) &&& 1 = 1 := by
    obtain ⟨j, hj, e⟩ := pk_andE (t >>> (nI s &&& 31)) (m := 1) 1 rfl
    rw [e]
    rcases (show j = 0 ∨ j = 1 by omega) with rfl | rfl
    · exact Or.inl rfl
    · exact Or.inr rfl
  rcases key with e | e
  · rw [e]; exact ⟨fun _ => rfl, fun _ => by rw [if_neg (by decide)]⟩
  · rw [e, if_pos rfl]
theorem p_behind {P : Nat} (x1 : Int32) (x2 : Int32) (size flat least there t_acts t_stop t_why t_flat t_least t_there t_pulled t_fh t_ha t_st t_kd t_am acts pulled fh ha bad why : Int32) (signs deep fine pay hair thick hollow damp fresh pulls fats t_deep t_fine t_pay t_hair t_thick t_hollow t_damp t_fresh t_pulls t_fats t_ofK act much wher had kindM leaves : Nat → Int32) (hP : P + 270 ≤ 800000) (h : InvS P there thick hollow damp fresh pulls fats) (hr : InvR flat least deep fine pay hair) (hp : InvP size signs) (hts : TS t_deep t_fine t_pay t_hair t_thick t_hollow t_damp t_fresh t_pulls t_fats t_ofK) (hk : SP 5 kindM) : ∃ (r acts1 stop1 why1 flat1 least1 there1 fh1 ha1 pulled1 am1 kd1 st1 acts2 bad2 why2 pulled2 fh2 ha2 : Int32) (deep1 fine1 pay1 hair1 thick1 hollow1 damp1 fresh1 pulls1 fats1 ofK1 act2 much2 wher2 had2 kindM2 leaves2 : Nat → Int32), fX10_behind x1 x2 size t_acts t_stop t_why there signs t_flat t_least t_there t_pulled t_fh t_ha flat least t_st t_kd t_am t_deep t_fine t_pay t_hair t_thick t_hollow t_damp t_fresh t_pulls t_fats t_ofK deep fine pay hair thick hollow damp fresh pulls fats = some (r, acts1, stop1, why1, flat1, least1, there1, fh1, ha1, pulled1, am1, kd1, st1, deep1, fine1, pay1, hair1, thick1, hollow1, damp1, fresh1, pulls1, fats1, ofK1) ∧ fX11_behind x1 x2 there flat least size acts pulled fh ha bad why signs act much wher fats thick hollow damp fresh pulls had kindM fine deep leaves = some (r, acts2, bad2, why2, pulled2, fh2, ha2, there, act2, much2, wher2, fats, thick, hollow, damp, fresh, pulls, had2, kindM2, leaves2) ∧ TS deep1 fine1 pay1 hair1 thick1 hollow1 damp1 fresh1 pulls1 fats1 ofK1 ∧ SP 5 kindM2 := by
  unfold fX10_behind fX11_behind
  rw [has_eq, in_0_4]
  by_cases c1 : fX6_has x1 there = 0
  · simp only [if_pos c1]; exact ⟨_, _, _, _, _, _, _, _, _, _, _, _, _, _, _, _, _, _, _, _, _, _, _, _, _, _, _, _, _, _, _, _, _, _, _, _, rfl, rfl, hts, hk⟩
  simp only [if_neg c1]
  by_cases c2 : fX10_inside x2 0 4 = 0
  · simp only [if_pos c2]; exact ⟨_, _, _, _, _, _, _, _, _, _, _, _, _, _, _, _, _, _, _, _, _, _, _, _, _, _, _, _, _, _, _, _, _, _, _, _, rfl, rfl, hts, hk⟩
  simp only [if_neg c2]
  obtain ⟨s, hs, rfl⟩ := has_nI c1
  obtain ⟨z, hz, rfl⟩ := ins_nI (n := 4) c2 rfl (by omega)
  obtain ⟨r10, r11, acts1, stop1, why1, flat1, least1, there1, fh1, ha1, pulled1, am1, kd1, st1, acts2, bad2, why2, pulled2, fh2, ha2, deep1, fine1, pay1, hair1, thick1, hollow1, damp1, fresh1, pulls1, fats1, ofK1, act2, much2, wher2, had2, kindM2, leaves2, e1, e2, ts, hk2, hh⟩ := p_try (P := P) size flat least there t_acts t_stop t_why t_flat t_least t_there t_pulled t_fh t_ha t_st t_kd t_am acts pulled fh ha bad why signs deep fine pay hair thick hollow damp fresh pulls fats t_deep t_fine t_pay t_hair t_thick t_hollow t_damp t_fresh t_pulls t_fats t_ofK act much wher had kindM leaves hP h hr hp hts hk
  rw [e1, e2, bd_s, bd_s]
  dsimp only
  rcases hh with ⟨rfl, rfl⟩ | ⟨⟨rfl, rfl, rfl⟩ | ⟨rfl, rfl⟩, rfl, rfl, rfl, rfl, rfl, rfl, hi, hv, hg⟩
  · simp only [if_neg (show ¬ (-5 : Int32) = 0 by decide), if_neg (show ¬ (-5 : Int32) = -6 by decide)]; exact ⟨_, _, _, _, _, _, _, _, _, _, _, _, _, _, _, _, _, _, _, _, _, _, _, _, _, _, _, _, _, _, _, _, _, _, _, _, rfl, rfl, ts, hk2⟩
  · simp only [if_pos (show (0 : Int32) = 0 from rfl), if_pos (show (-6 : Int32) = -6 from rfl)]
    simp only [show Int32.toNatClampNeg 65 = 65 from rfl, hv.2.2]
    by_cases c3 : fX6_has (nI s) there1 = 0
    · rw [if_pos c3, if_pos ((has_bit hs).mp c3)]; exact ⟨_, _, _, _, _, _, _, _, _, _, _, _, _, _, _, _, _, _, _, _, _, _, _, _, _, _, _, _, _, _, _, _, _, _, _, _, rfl, rfl, ts, hk2⟩
    · rw [if_neg c3, if_neg (fun y => c3 ((has_bit hs).mpr y))]
      have ei : (5 : Int32) * nI z + nI s = nI (5 * z + s) := by rw [show (5 : Int32) = nI 5 from rfl, pk_mul, nI_add]
      rw [ei, gd_ix rfl (show 5 * z + s < 66 by omega) (by omega), cl_nI (n := 66) (by omega) (by omega)]
      unfold fX6_tell
      rw [if_neg c3]
      obtain ⟨v1, v2, v3, v4, v5⟩ := hv.1 s hs
      simp only [cl_nI hs (show 5 < 1000000 by omega), gd_ik hs (show 5 < 2 ^ 31 by omega)]
      rcases (show z = 0 ∨ z = 1 ∨ z = 2 ∨ z = 3 ∨ z = 4 by omega) with rfl | rfl | rfl | rfl | rfl
      · rw [show 5 * 0 + s = s by omega, v1]; exact ⟨_, _, _, _, _, _, _, _, _, _, _, _, _, _, _, _, _, _, _, _, _, _, _, _, _, _, _, _, _, _, _, _, _, _, _, _, rfl, rfl, ts, hk2⟩
      · rw [show 5 * 1 + s = 5 + s by omega, v2]; exact ⟨_, _, _, _, _, _, _, _, _, _, _, _, _, _, _, _, _, _, _, _, _, _, _, _, _, _, _, _, _, _, _, _, _, _, _, _, rfl, rfl, ts, hk2⟩
      · rw [show 5 * 2 + s = 10 + s by omega, v3]; exact ⟨_, _, _, _, _, _, _, _, _, _, _, _, _, _, _, _, _, _, _, _, _, _, _, _, _, _, _, _, _, _, _, _, _, _, _, _, rfl, rfl, ts, hk2⟩
      · rw [show 5 * 3 + s = 15 + s by omega, v4]; exact ⟨_, _, _, _, _, _, _, _, _, _, _, _, _, _, _, _, _, _, _, _, _, _, _, _, _, _, _, _, _, _, _, _, _, _, _, _, rfl, rfl, ts, hk2⟩
      · rw [show 5 * 4 + s = 20 + s by omega, v5]; exact ⟨_, _, _, _, _, _, _, _, _, _, _, _, _, _, _, _, _, _, _, _, _, _, _, _, _, _, _, _, _, _, _, _, _, _, _, _, rfl, rfl, ts, hk2⟩
  · simp only [if_neg (show ¬ (-3 : Int32) = 0 by decide), if_neg (show ¬ (-3 : Int32) = -6 by decide)]; exact ⟨_, _, _, _, _, _, _, _, _, _, _, _, _, _, _, _, _, _, _, _, _, _, _, _, _, _, _, _, _, _, _, _, _, _, _, _, rfl, rfl, ts, hk2⟩
theorem p_fat {P : Nat} (x1 : Int32) (x2 : Int32) (size flat least there t_acts t_stop t_why t_flat t_least t_there t_pulled t_fh t_ha t_st t_kd t_am acts pulled fh ha bad why : Int32) (signs deep fine pay hair thick hollow damp fresh pulls fats t_deep t_fine t_pay t_hair t_thick t_hollow t_damp t_fresh t_pulls t_fats t_ofK act much wher had kindM leaves : Nat → Int32) (hP : P + 270 ≤ 800000) (h : InvS P there thick hollow damp fresh pulls fats) (hr : InvR flat least deep fine pay hair) (hp : InvP size signs) (hts : TS t_deep t_fine t_pay t_hair t_thick t_hollow t_damp t_fresh t_pulls t_fats t_ofK) (hk : SP 5 kindM) : ∃ (r acts1 stop1 why1 flat1 least1 there1 fh1 ha1 pulled1 am1 kd1 st1 acts2 bad2 why2 pulled2 fh2 ha2 : Int32) (deep1 fine1 pay1 hair1 thick1 hollow1 damp1 fresh1 pulls1 fats1 ofK1 act2 much2 wher2 had2 kindM2 leaves2 : Nat → Int32), fX10_fat x1 x2 size t_acts t_stop t_why there signs t_flat t_least t_there t_pulled t_fh t_ha flat least t_st t_kd t_am t_deep t_fine t_pay t_hair t_thick t_hollow t_damp t_fresh t_pulls t_fats t_ofK deep fine pay hair thick hollow damp fresh pulls fats = some (r, acts1, stop1, why1, flat1, least1, there1, fh1, ha1, pulled1, am1, kd1, st1, deep1, fine1, pay1, hair1, thick1, hollow1, damp1, fresh1, pulls1, fats1, ofK1) ∧ fX11_fat x1 x2 there flat least size acts pulled fh ha bad why signs act much wher fats thick hollow damp fresh pulls had kindM fine deep leaves = some (r, acts2, bad2, why2, pulled2, fh2, ha2, there, act2, much2, wher2, fats, thick, hollow, damp, fresh, pulls, had2, kindM2, leaves2) ∧ TS deep1 fine1 pay1 hair1 thick1 hollow1 damp1 fresh1 pulls1 fats1 ofK1 ∧ SP 5 kindM2 := by
  unfold fX10_fat fX11_fat
  rw [has_eq, pic_eq]
  by_cases c1 : fX6_has x1 there = 0
  · simp only [if_pos c1]; exact ⟨_, _, _, _, _, _, _, _, _, _, _, _, _, _, _, _, _, _, _, _, _, _, _, _, _, _, _, _, _, _, _, _, _, _, _, _, rfl, rfl, hts, hk⟩
  simp only [if_neg c1]
  by_cases c2 : fX10_inside x2 0 7 = 0
  · simp only [if_pos c2]; exact ⟨_, _, _, _, _, _, _, _, _, _, _, _, _, _, _, _, _, _, _, _, _, _, _, _, _, _, _, _, _, _, _, _, _, _, _, _, rfl, rfl, hts, hk⟩
  simp only [if_neg c2]
  obtain ⟨s, hs, rfl⟩ := has_nI c1
  obtain ⟨z, hz, rfl⟩ := ins_nI (n := 7) c2 rfl (by omega)
  obtain ⟨r10, r11, acts1, stop1, why1, flat1, least1, there1, fh1, ha1, pulled1, am1, kd1, st1, acts2, bad2, why2, pulled2, fh2, ha2, deep1, fine1, pay1, hair1, thick1, hollow1, damp1, fresh1, pulls1, fats1, ofK1, act2, much2, wher2, had2, kindM2, leaves2, e1, e2, ts, hk2, hh⟩ := p_try (P := P) size flat least there t_acts t_stop t_why t_flat t_least t_there t_pulled t_fh t_ha t_st t_kd t_am acts pulled fh ha bad why signs deep fine pay hair thick hollow damp fresh pulls fats t_deep t_fine t_pay t_hair t_thick t_hollow t_damp t_fresh t_pulls t_fats t_ofK act much wher had kindM leaves hP h hr hp hts hk
  rw [e1, e2, bd_s, bd_s]
  dsimp only
  rcases hh with ⟨rfl, rfl⟩ | ⟨⟨rfl, rfl, rfl⟩ | ⟨rfl, rfl⟩, rfl, rfl, rfl, rfl, rfl, rfl, hi, hv, hg⟩
  · simp only [if_neg (show ¬ (-5 : Int32) = 0 by decide), if_neg (show ¬ (-5 : Int32) = -6 by decide)]; exact ⟨_, _, _, _, _, _, _, _, _, _, _, _, _, _, _, _, _, _, _, _, _, _, _, _, _, _, _, _, _, _, _, _, _, _, _, _, rfl, rfl, ts, hk2⟩
  · simp only [if_pos (show (0 : Int32) = 0 from rfl), if_pos (show (-6 : Int32) = -6 from rfl)]
    simp only [show Int32.toNatClampNeg 65 = 65 from rfl, hv.2.2]
    by_cases c3 : fX6_has (nI s) there1 = 0
    · rw [if_pos c3, if_pos ((has_bit hs).mp c3)]; exact ⟨_, _, _, _, _, _, _, _, _, _, _, _, _, _, _, _, _, _, _, _, _, _, _, _, _, _, _, _, _, _, _, _, _, _, _, _, rfl, rfl, ts, hk2⟩
    · rw [if_neg c3, if_neg (fun y => c3 ((has_bit hs).mpr y))]
      have ei : (25 : Int32) + fX11_at (nI s) (nI z) = nI (25 + (8 * s + z)) := by rw [at_sp, show (25 : Int32) = nI 25 from rfl, nI_add]
      rw [ei, gd_ix rfl (show 25 + (8 * s + z) < 66 by omega) (by omega), cl_nI (n := 66) (by omega) (by omega), hv.2.1 _ (by omega), fat_ok c3 hs (by omega), bd_s]
      exact ⟨_, _, _, _, _, _, _, _, _, _, _, _, _, _, _, _, _, _, _, _, _, _, _, _, _, _, _, _, _, _, _, _, _, _, _, _, rfl, rfl, ts, hk2⟩
  · simp only [if_neg (show ¬ (-3 : Int32) = 0 by decide), if_neg (show ¬ (-3 : Int32) = -6 by decide)]; exact ⟨_, _, _, _, _, _, _, _, _, _, _, _, _, _, _, _, _, _, _, _, _, _, _, _, _, _, _, _, _, _, _, _, _, _, _, _, rfl, rfl, ts, hk2⟩
theorem p_done {P : Nat} (size flat least there t_acts t_stop t_why t_flat t_least t_there t_pulled t_fh t_ha t_st t_kd t_am acts pulled fh ha bad why : Int32) (signs deep fine pay hair thick hollow damp fresh pulls fats t_deep t_fine t_pay t_hair t_thick t_hollow t_damp t_fresh t_pulls t_fats t_ofK act much wher had kindM leaves : Nat → Int32) (hP : P + 270 ≤ 800000) (h : InvS P there thick hollow damp fresh pulls fats) (hr : InvR flat least deep fine pay hair) (hp : InvP size signs) (hts : TS t_deep t_fine t_pay t_hair t_thick t_hollow t_damp t_fresh t_pulls t_fats t_ofK) (hk : SP 5 kindM) : ∃ (r size3 there3 acts1 stop1 why1 flat1 least1 there1 fh1 ha1 pulled1 am1 kd1 st1 acts2 bad2 why2 pulled2 fh2 ha2 : Int32) (thick3 hollow3 damp3 fresh3 pulls3 fats3 deep1 fine1 pay1 hair1 thick1 hollow1 damp1 fresh1 pulls1 fats1 ofK1 act2 much2 wher2 had2 kindM2 leaves2 : Nat → Int32), fX10_done size t_acts t_stop t_why signs t_flat t_least t_there t_pulled t_fh t_ha flat least there t_st t_kd t_am t_deep t_fine t_pay t_hair t_thick t_hollow t_damp t_fresh t_pulls t_fats t_ofK deep fine pay hair thick hollow damp fresh pulls fats = some (r, size3, acts1, stop1, why1, flat1, least1, there1, fh1, ha1, pulled1, there3, am1, kd1, st1, deep1, fine1, pay1, hair1, thick1, hollow1, damp1, fresh1, pulls1, fats1, ofK1, thick3, hollow3, damp3, fresh3, pulls3, fats3) ∧ fX11_done there flat least size pulled fh ha bad why signs act much wher fats thick hollow damp fresh pulls had kindM fine deep leaves = some (r, acts2, bad2, why2, size3, pulled2, fh2, ha2, there3, act2, much2, wher2, fats3, thick3, hollow3, damp3, fresh3, pulls3, had2, kindM2, leaves2) ∧ TS deep1 fine1 pay1 hair1 thick1 hollow1 damp1 fresh1 pulls1 fats1 ofK1 ∧ SP 5 kindM2 ∧ InvS (P + 270 : Nat) there3 thick3 hollow3 damp3 fresh3 pulls3 fats3 ∧ InvP size3 signs := by
  unfold fX10_done fX11_done
  obtain ⟨r10, r11, acts1, stop1, why1, flat1, least1, there1, fh1, ha1, pulled1, am1, kd1, st1, acts2, bad2, why2, pulled2, fh2, ha2, deep1, fine1, pay1, hair1, thick1, hollow1, damp1, fresh1, pulls1, fats1, ofK1, act2, much2, wher2, had2, kindM2, leaves2, e1, e2, ts, hk2, hh⟩ := p_try (P := P) size flat least there t_acts t_stop t_why t_flat t_least t_there t_pulled t_fh t_ha t_st t_kd t_am acts pulled fh ha bad why signs deep fine pay hair thick hollow damp fresh pulls fats t_deep t_fine t_pay t_hair t_thick t_hollow t_damp t_fresh t_pulls t_fats t_ofK act much wher had kindM leaves hP h hr hp hts hk
  rw [e1, e2, bd_s, bd_s]
  unfold fX11_done_4
  dsimp only
  have h3 : InvS (P + 270 : Nat) there thick hollow damp fresh pulls fats := by
    obtain ⟨i1, i2, i3, i4, i5, i6, i7⟩ := h
    exact ⟨i1, i2, i3, i4, i5, i6.le (by omega), i7⟩
  rcases hh with ⟨rfl, rfl⟩ | ⟨⟨rfl, rfl, rfl⟩ | ⟨rfl, rfl⟩, rfl, rfl, rfl, rfl, rfl, rfl, hi, hv, hg⟩
  · simp only [if_neg (show ¬ (-5 : Int32) = 0 by decide), if_neg (show ¬ (-5 : Int32) = -6 by decide)]; exact ⟨_, _, _, _, _, _, _, _, _, _, _, _, _, _, _, _, _, _, _, _, _, _, _, _, _, _, _, _, _, _, _, _, _, _, _, _, _, _, _, _, _, _, _, _, rfl, rfl, ts, hk2, h3, hp⟩
  · simp only [if_pos (show (0 : Int32) = 0 from rfl), if_pos (show (-6 : Int32) = -6 from rfl)]
    rw [hg, bd_s]
    unfold fX11_done_17 fX6_copyFrom
    rw [lt_e]
    dsimp only
    obtain ⟨-, j2, j3, j4, j5, j6, j7⟩ := h
    rw [cpy_sp hi.2.1.2 j2.2, cpy_sp hi.2.2.1.2 j3.2, cpy_sp hi.2.2.2.1.2 j4.2, cpy_sp hi.2.2.2.2.1.1.2 j5.1.2, cpy_sp hi.2.2.2.2.2.1.2 j6.2, cpy_sp hi.2.2.2.2.2.2.2 j7.2]
    exact ⟨_, _, _, _, _, _, _, _, _, _, _, _, _, _, _, _, _, _, _, _, _, _, _, _, _, _, _, _, _, _, _, _, _, _, _, _, _, _, _, _, _, _, _, _, rfl, rfl, ts, hk2, hi, ⟨by decide, by decide⟩, hp.2⟩
  · simp only [if_neg (show ¬ (-3 : Int32) = 0 by decide), if_neg (show ¬ (-3 : Int32) = -6 by decide)]; exact ⟨_, _, _, _, _, _, _, _, _, _, _, _, _, _, _, _, _, _, _, _, _, _, _, _, _, _, _, _, _, _, _, _, _, _, _, _, _, _, _, _, _, _, _, _, rfl, rfl, ts, hk2, h3, hp⟩
