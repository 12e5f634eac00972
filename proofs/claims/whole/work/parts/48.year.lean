/-! the year (printed by wip/gen/year.py) -/
def dk (b : Nat) : Int32 := if b = 0 then 0 else if b = 1 then 2 else if b = 2 then 3 else 4
def dm (y : Nat) : Nat := if y / 5 % 4 = 0 then y / 20 % 8 else 1 + y / 20 % 9
theorem draw_n {y : Nat} (hy : y < 65537) : (nI y / 5) - (nI y / 5) / 4 * 4 = nI (y / 5 % 4) ∧ (nI y / 20) - (nI y / 20) / 8 * 8 = nI (y / 20 % 8) ∧ (1 : Int32) + ((nI y / 20) - (nI y / 20) / 9 * 9) = nI (1 + y / 20 % 9) ∧ nI y - nI y / 5 * 5 = nI (y % 5) := by
  have d5 : nI y / 5 = nI (y / 5) := by rw [show (5 : Int32) = nI 5 from rfl, pk_div (by omega) (by omega) (by omega)]
  have d20 : nI y / 20 = nI (y / 20) := by rw [show (20 : Int32) = nI 20 from rfl, pk_div (by omega) (by omega) (by omega)]
  refine ⟨?_, ?_, ?_, ?_⟩
  · rw [d5, show (4 : Int32) = nI 4 from rfl, pk_rem (by omega) (by omega) (by omega)]
  · rw [d20, show (8 : Int32) = nI 8 from rfl, pk_rem (by omega) (by omega) (by omega)]
  · rw [d20, show (9 : Int32) = nI 9 from rfl, pk_rem (by omega) (by omega) (by omega), show (1 : Int32) = nI 1 from rfl, nI_add]
  · rw [show (5 : Int32) = nI 5 from rfl, pk_rem (by omega) (by omega) (by omega)]
theorem draw_eq {y : Nat} (hy : y < 65537) : fX9_readDraw (nI y) = (nI (dm y), dk (y / 5 % 4), nI (y % 5)) := by
  obtain ⟨e1, e2, e3, e4⟩ := draw_n hy
  unfold fX9_readDraw fX0_become
  simp only [lt_e, e1, e2, e3, e4]
  unfold dm dk
  have hb : y / 5 % 4 < 4 := Nat.mod_lt _ (by omega)
  rcases (show y / 5 % 4 = 0 ∨ y / 5 % 4 = 1 ∨ y / 5 % 4 = 2 ∨ y / 5 % 4 = 3 by omega) with e | e | e | e
  · rw [e]; rfl
  · rw [e]; rfl
  · rw [e]; rfl
  · rw [e]; rfl
theorem draw_ga {y : Nat} : GA (dk (y / 5 % 4)) (nI (dm y)) := by
  unfold dm dk
  have hb : y / 5 % 4 < 4 := Nat.mod_lt _ (by omega)
  rcases (show y / 5 % 4 = 0 ∨ y / 5 % 4 = 1 ∨ y / 5 % 4 = 2 ∨ y / 5 % 4 = 3 by omega) with e | e | e | e
  · rw [e]; exact ⟨Or.inl rfl, fun _ => ⟨y / 20 % 8, Nat.mod_lt _ (by omega), rfl⟩, fun z => absurd z (by decide)⟩
  · rw [e]; exact ⟨by decide, fun z => absurd z (by decide), fun _ => ⟨1 + y / 20 % 9, by have := Nat.mod_lt (y / 20) (show 0 < 9 by omega); omega, rfl⟩⟩
  · rw [e]; exact ⟨by decide, fun z => absurd z (by decide), fun _ => ⟨1 + y / 20 % 9, by have := Nat.mod_lt (y / 20) (show 0 < 9 by omega); omega, rfl⟩⟩
  · rw [e]; exact ⟨by decide, fun z => absurd z (by decide), fun _ => ⟨1 + y / 20 % 9, by have := Nat.mod_lt (y / 20) (show 0 < 9 by omega); omega, rfl⟩⟩
theorem next_x {x : Nat} (hx : x < 65537) : ((75 : Int32) * nI x + 74) - ((75 : Int32) * nI x + 74) / 65537 * 65537 = nI ((75 * x + 74) % 65537) ∧ Int64.toInt32 (((75 : Int64) * Int32.toInt64 (nI x) + 74) - ((75 : Int64) * Int32.toInt64 (nI x) + 74) / 65537 * 65537) = nI ((75 * x + 74) % 65537) := by
  have a1 : (75 : Int32) = nI 75 := rfl
  have a2 : (74 : Int32) = nI 74 := rfl
  have a3 : (65537 : Int32) = nI 65537 := rfl
  have b1 : (75 : Int64) = lN 75 := rfl
  have b2 : (74 : Int64) = lN 74 := rfl
  have b3 : (65537 : Int64) = lN 65537 := rfl
  constructor
  · rw [a1, a2, a3, pk_mul, nI_add, pk_rem (by omega) (by omega) (by omega)]
  · rw [nI_l (by omega), b1, b2, b3, lN_mul, lN_add, pk_lRem (by omega) (by omega) (by omega), lN_i]
section
variable {flat least : Int32} {deep fine pay hair : Nat → Int32}
theorem yr57 {y : Nat} (hy : y < 65537) (k57 : Int32 → Int32 → Int32 → Int32 → Int32 → Int32 → (Nat → Int32) → (Nat → Int32) → (Nat → Int32) → (Nat → Int32) → (Nat → Int32) → (Nat → Int32) → (Nat → Int32) → Option (Int32 × Int32 × Int32 × Int32 × Int32 × (Nat → Int32) × (Nat → Int32) × (Nat → Int32) × (Nat → Int32) × (Nat → Int32) × (Nat → Int32) × (Nat → Int32) × (Nat → Int32))) {x2 x3 x4 x5 there pulled fh ha : Int32} {had fats thick hollow damp fresh pulls ofK : Nat → Int32} (c : ¬ x2 ≤ x5) (hx : Int64.toInt32 (((75 : Int64) * Int32.toInt64 x4 + 74) - ((75 : Int64) * Int32.toInt64 x4 + 74) / 65537 * 65537) = nI y) : FX11_year_57 x2 x3 flat least had fine deep k57 x4 x5 there pulled fh ha fats thick hollow damp fresh pulls ofK = fX11_year_147 (nI y) x5 (nI (dm y)) (dk (y / 5 % 4)) there flat least pulled fh ha fats thick hollow damp fresh pulls ofK fine deep k57 := by
  obtain ⟨e1, e2, e3, e4⟩ := draw_n hy
  unfold FX11_year_57
  rw [if_neg c, hx]
  simp only [lt_e, e1, e2, e3]
  unfold dm dk
  have hb : y / 5 % 4 < 4 := Nat.mod_lt _ (by omega)
  rcases (show y / 5 % 4 = 0 ∨ y / 5 % 4 = 1 ∨ y / 5 % 4 = 2 ∨ y / 5 % 4 = 3 by omega) with e | e | e | e
  · simp only [e, if_pos (show nI 0 = (0 : Int32) from rfl), if_true]
  · simp only [e, if_neg (show ¬ nI 1 = (0 : Int32) by decide), if_pos (show nI 1 = (1 : Int32) from rfl), if_neg (show ¬ (1 : Nat) = 0 by decide), if_true]
  · simp only [e, if_neg (show ¬ nI 2 = (0 : Int32) by decide), if_neg (show ¬ nI 2 = (1 : Int32) by decide), if_pos (show nI 2 = (2 : Int32) from rfl), if_neg (show ¬ (2 : Nat) = 0 by decide), if_neg (show ¬ (2 : Nat) = 1 by decide), if_true]
  · simp only [e, if_neg (show ¬ nI 3 = (0 : Int32) by decide), if_neg (show ¬ nI 3 = (1 : Int32) by decide), if_neg (show ¬ nI 3 = (2 : Int32) by decide), if_neg (show ¬ (3 : Nat) = 0 by decide), if_neg (show ¬ (3 : Nat) = 1 by decide), if_neg (show ¬ (3 : Nat) = 2 by decide)]
theorem Lyear (x3 : Int32) (had : Nat → Int32) (m : Nat) (hm : m ≤ 99) (hr : InvR flat least deep fine pay hair) : ∀ (e i f1 f2 P Q x : Nat) (st kd am there pulled fh ha : Int32) (thick hollow damp fresh pulls fats ofK : Nat → Int32), i + e = m → e + 1 ≤ f1 → e + 1 ≤ f2 → x < 65537 → P + 9 * e ≤ 800000 → Q + 9 * e ≤ 800000 → InvS P there thick hollow damp fresh pulls fats → TI Q pulled fh ofK → ∃ (am' kd' st' th' fh' ha' pu' : Int32) (fr' ho' tk' da' pl' fa' ok' : Nat → Int32), LX9_playYear_5 (nI m) flat least fine deep f1 (nI x) (nI i) st kd am there pulled fh ha fresh hollow thick damp pulls fats ofK = some (am', kd', st', th', fh', ha', pu', fr', ho', tk', da', pl', fa', ok') ∧ LX11_year_57 (nI m) x3 flat least had fine deep f2 (nI x) (nI i) there pulled fh ha fats thick hollow damp fresh pulls ofK = LX11_year_188 x3 th' pu' fh' ha' fa' tk' ho' da' fr' pl' had ok' 2000 0 0 ∧ InvS (P + 9 * e : Nat) th' tk' ho' da' fr' pl' fa' ∧ TI (Q + 9 * e) pu' fh' ok' := by
  intro e
  induction e with
  | zero =>
    intro i f1 f2 P Q x st kd am there pulled fh ha thick hollow damp fresh pulls fats ofK h1 h2 h3 _ _ _ hs ht
    cases f1 with
    | zero => omega
    | succ f1 =>
    cases f2 with
    | zero => omega
    | succ f2 =>
    have c : nI m ≤ nI i := (nI_leI (by omega) (by omega)).mpr (by omega)
    refine ⟨am, kd, st, there, fh, ha, pulled, fresh, hollow, thick, damp, pulls, fats, ofK, ?_, ?_, hs, ht⟩
    · show FX9_playYear_5 (nI m) flat least fine deep (LX9_playYear_5 (nI m) flat least fine deep f1) (nI x) (nI i) st kd am there pulled fh ha fresh hollow thick damp pulls fats ofK = _
      unfold FX9_playYear_5
      rw [if_pos c]
    · show FX11_year_57 (nI m) x3 flat least had fine deep (LX11_year_57 (nI m) x3 flat least had fine deep f2) (nI x) (nI i) there pulled fh ha fats thick hollow damp fresh pulls ofK = _
      unfold FX11_year_57
      rw [if_pos c]
  | succ e ih =>
    intro i f1 f2 P Q x st kd am there pulled fh ha thick hollow damp fresh pulls fats ofK h1 h2 h3 hx hP hQ hs ht
    cases f1 with
    | zero => omega
    | succ f1 =>
    cases f2 with
    | zero => omega
    | succ f2 =>
    have c : ¬ nI m ≤ nI i := fun z => by rw [nI_leI (by omega) (by omega)] at z; omega
    have hy : (75 * x + 74) % 65537 < 65537 := Nat.mod_lt _ (by omega)
    obtain ⟨n1, n2⟩ := next_x hx
    generalize (75 * x + 74) % 65537 = y at n1 n2 hy
    obtain ⟨a2, a3, a4⟩ := draw_ga (y := y)
    have dy := draw_eq hy
    have d4 := (draw_n hy).2.2.2
    have u9 : LX9_playYear_5 (nI m) flat least fine deep (f1 + 1) (nI x) (nI i) st kd am there pulled fh ha fresh hollow thick damp pulls fats ofK = FX9_playYear_5 (nI m) flat least fine deep (LX9_playYear_5 (nI m) flat least fine deep f1) (nI x) (nI i) st kd am there pulled fh ha fresh hollow thick damp pulls fats ofK := rfl
    have u11 : LX11_year_57 (nI m) x3 flat least had fine deep (f2 + 1) (nI x) (nI i) there pulled fh ha fats thick hollow damp fresh pulls ofK = FX11_year_57 (nI m) x3 flat least had fine deep (LX11_year_57 (nI m) x3 flat least had fine deep f2) (nI x) (nI i) there pulled fh ha fats thick hollow damp fresh pulls ofK := rfl
    rw [u9, u11, yr57 hy _ c n2]
    generalize nI (dm y) = mu at a3 a4 dy
    generalize dk (y / 5 % 4) = kk at a2 a3 a4 dy
    generalize nI (y % 5) = wh at dy d4
    obtain ⟨r, r1, r2, r3, r4⟩ := why_eq wh kk mu there flat least thick hollow damp fresh pulls fats hs a2
    unfold FX9_playYear_5 fX11_year_147
    rw [if_neg c, n1, lt_e, dy, lt_e, d4, r3, bd_s]
    dsimp only
    rw [r2, bd_s]
    by_cases cr : r = 0
    · subst cr
      have e0 : nI 0 = 0 := rfl
      rw [if_pos e0, if_pos e0]
      obtain ⟨t', fh', ha', pu', th', fr', da', pl', fa', ok', ho', b1, b2, b3, b4⟩ := carry_eq (P := P) (Q := Q) wh kk mu there flat least pulled fh ha thick hollow damp fresh pulls fats deep fine pay hair ofK (by omega) (by omega) hs hr ht a2 a3 a4 (r4 rfl)
      rw [b1, b2, bd_s, bd_s, lt_e, lt_e, nI_1]
      dsimp only
      obtain ⟨x1, x2, x3', x4, x5, x6, x7, x8, x9, x10, x11, x12, x13, x14, y1, y2, y3, y4⟩ := ih (i + 1) f1 f2 (P + 9) (Q + 9) y wh kk mu t' pu' fh' ha' th' ho' da' fr' pl' fa' ok' (by omega) (by omega) (by omega) hy (by omega) (by omega) b3 b4
      rw [show P + 9 + 9 * e = P + 9 * (e + 1) by omega] at y3
      rw [show Q + 9 + 9 * e = Q + 9 * (e + 1) by omega] at y4
      exact ⟨x1, x2, x3', x4, x5, x6, x7, x8, x9, x10, x11, x12, x13, x14, y1, y2, y3, y4⟩
    · have n0 : ¬ nI r = 0 := fun z => cr ((nI_eq (b := 0) (by omega) (by omega)).mp z)
      rw [if_neg n0, if_neg n0, lt_e, lt_e, nI_1]
      obtain ⟨x1, x2, x3', x4, x5, x6, x7, x8, x9, x10, x11, x12, x13, x14, y1, y2, y3, y4⟩ := ih (i + 1) f1 f2 P Q y wh kk mu there pulled fh ha thick hollow damp fresh pulls fats ofK (by omega) (by omega) (by omega) hy (by omega) (by omega) hs ht
      obtain ⟨i1, i2, i3, i4, i5, i6, i7⟩ := y3
      exact ⟨x1, x2, x3', x4, x5, x6, x7, x8, x9, x10, x11, x12, x13, x14, y1, y2, ⟨i1, i2, i3, i4, i5, i6.le (by omega), i7⟩, ⟨⟨y4.1.1, by have := y4.1.2; omega⟩, y4.2⟩⟩
theorem Lcnt {P : Int} (x3 there pulled fh ha : Int32) (fats thick hollow damp fresh pulls had ofK : Nat → Int32) (h : InvS P there thick hollow damp fresh pulls fats) : ∀ (n i : Nat) (c : Int32), i ≤ 5 → 6 ≤ n + i → ∃ r, LX6_countFresh_4 there fresh n c (nI i) = some r ∧ LX11_year_188 x3 there pulled fh ha fats thick hollow damp fresh pulls had ofK n c (nI i) = Option.bind (fX11_putBack had fats thick hollow damp fresh pulls) (fun v_8 => if x3 = 0 then some (pulled, pulled, fh, ha, v_8.1, v_8.2.1, v_8.2.2.1, v_8.2.2.2.1, v_8.2.2.2.2.1, v_8.2.2.2.2.2.1, v_8.2.2.2.2.2.2, had, ofK) else if x3 = 1 then some (ofK (Int32.toNatClampNeg 3), pulled, fh, ha, v_8.1, v_8.2.1, v_8.2.2.1, v_8.2.2.2.1, v_8.2.2.2.2.1, v_8.2.2.2.2.2.1, v_8.2.2.2.2.2.2, had, ofK) else some (r, pulled, fh, ha, v_8.1, v_8.2.1, v_8.2.2.1, v_8.2.2.2.1, v_8.2.2.2.2.1, v_8.2.2.2.2.2.1, v_8.2.2.2.2.2.2, had, ofK)) := by
  intro n
  induction n with
  | zero => intro i c h1 h2; omega
  | succ n ih =>
    intro i c h1 h2
    have u6 : LX6_countFresh_4 there fresh (n + 1) c (nI i) = FX6_countFresh_4 there fresh (LX6_countFresh_4 there fresh n) c (nI i) := rfl
    have u11 : LX11_year_188 x3 there pulled fh ha fats thick hollow damp fresh pulls had ofK (n + 1) c (nI i) = FX11_year_188 x3 there pulled fh ha fats thick hollow damp fresh pulls had ofK (LX11_year_188 x3 there pulled fh ha fats thick hollow damp fresh pulls had ofK n) c (nI i) := rfl
    rw [u6, u11]
    unfold FX6_countFresh_4 FX11_year_188
    by_cases c1 : i = 5
    · subst c1
      rw [if_pos (show (5 : Int32) ≤ nI 5 by decide), if_pos (show (5 : Int32) ≤ nI 5 by decide)]
      exact ⟨c, rfl, rfl⟩
    · have hi : i < 5 := by omega
      rw [if_neg (le5 hi), if_neg (le5 hi), has_eq]
      simp only [lt_e, nI_1, Int32.add_zero]
      by_cases c2 : fX6_has (nI i) there = 0
      · rw [if_pos c2, if_pos c2]; exact ih (i + 1) c (by omega) (by omega)
      · rw [if_neg c2, if_neg c2, gd_ix rfl hi (by omega), gd_ix rfl hi (by omega), cl_nI hi (by omega)]
        rcases fresh_cases (h.2.2.2.2.1.1.1 i hi) (h.2.2.2.2.1.2 i hi) with e | ⟨p, hp, e⟩
        · rw [e, if_pos rfl, if_pos (by decide)]; exact ih (i + 1) c (by omega) (by omega)
        · rw [e, if_neg (ne_m6 (by omega)), if_neg (nI_pos (by omega))]; exact ih (i + 1) (c + 1) (by omega) (by omega)
end
theorem p_year {P : Nat} (x1 x2 x3 : Int32) (flat least there t_acts t_stop t_why t_flat t_least t_there t_pulled t_fh t_ha t_st t_kd t_am pulled fh ha : Int32) (deep fine pay hair thick hollow damp fresh pulls fats t_deep t_fine t_pay t_hair t_thick t_hollow t_damp t_fresh t_pulls t_fats t_ofK had kindM : Nat → Int32) (hP : P + 891 ≤ 800000) (h : InvS P there thick hollow damp fresh pulls fats) (hr : InvR flat least deep fine pay hair) (hts : TS t_deep t_fine t_pay t_hair t_thick t_hollow t_damp t_fresh t_pulls t_fats t_ofK) (hk : SP 5 kindM) : ∃ (r acts1 stop1 why1 flat1 least1 there1 fh1 ha1 pulled1 am1 kd1 st1 pulled2 fh2 ha2 : Int32) (deep1 fine1 pay1 hair1 thick1 hollow1 damp1 fresh1 pulls1 fats1 ofK1 had2 kindM2 : Nat → Int32), fX10_year x1 x2 x3 t_acts t_stop t_why t_flat t_least t_there t_pulled t_fh t_ha flat least there t_st t_kd t_am t_deep t_fine t_pay t_hair t_thick t_hollow t_damp t_fresh t_pulls t_fats t_ofK deep fine pay hair thick hollow damp fresh pulls fats = some (r, acts1, stop1, why1, flat1, least1, there1, fh1, ha1, pulled1, am1, kd1, st1, deep1, fine1, pay1, hair1, thick1, hollow1, damp1, fresh1, pulls1, fats1, ofK1) ∧ fX11_year x1 x2 x3 there flat least pulled fh ha fats thick hollow damp fresh pulls had kindM fine deep = some (r, pulled2, fh2, ha2, there, fats, thick, hollow, damp, fresh, pulls, had2, kindM2) ∧ TS deep1 fine1 pay1 hair1 thick1 hollow1 damp1 fresh1 pulls1 fats1 ofK1 ∧ SP 5 kindM2 := by
  unfold fX10_year fX11_year
  rw [in_0_9999, in_1_99, in_0_2]
  by_cases c1 : fX10_inside x1 0 9999 = 0
  · rw [if_pos c1, if_pos c1]; exact ⟨_, _, _, _, _, _, _, _, _, _, _, _, _, _, _, _, _, _, _, _, _, _, _, _, _, _, _, _, _, rfl, rfl, hts, hk⟩
  rw [if_neg c1, if_neg c1]
  by_cases c2 : fX10_inside x2 1 99 = 0
  · rw [if_pos c2, if_pos c2]; exact ⟨_, _, _, _, _, _, _, _, _, _, _, _, _, _, _, _, _, _, _, _, _, _, _, _, _, _, _, _, _, rfl, rfl, hts, hk⟩
  rw [if_neg c2, if_neg c2]
  by_cases c3 : fX10_inside x3 0 2 = 0
  · rw [if_pos c3, if_pos c3]; exact ⟨_, _, _, _, _, _, _, _, _, _, _, _, _, _, _, _, _, _, _, _, _, _, _, _, _, _, _, _, _, rfl, rfl, hts, hk⟩
  rw [if_neg c3, if_neg c3]
  obtain ⟨x, hx, rfl⟩ := ins_nI (n := 9999) c1 rfl (by omega)
  obtain ⟨m, hm, rfl⟩ : ∃ m, m ≤ 99 ∧ x2 = nI m := by
    have a1 := ins_t c2
    have b1 := l1
    have b9 : (99 : Int32).toInt = 99 := rfl
    obtain ⟨k, g1, g2⟩ := t_of (x := x2) (n := 100) (by omega) (by omega) (by omega)
    exact ⟨k, by omega, g2⟩
  obtain ⟨had', s1, s2⟩ := store_eq (stones := there) (thick := thick) (hollow := hollow) (damp := damp) (fresh := fresh) (pulls := pulls) (fats := fats) had
  rw [begin_eq flat least there deep fine pay hair thick hollow damp fresh pulls fats t_deep t_fine t_pay t_hair t_thick t_hollow t_damp t_fresh t_pulls t_fats t_ofK h hr hts, bd_s, s1, bd_s, count_eq hk, bd_s]
  unfold fX9_playYear
  dsimp only
  obtain ⟨z1, z2, z3, z4, z5, z6, z7, z8, z9, z10, z11, z12, z13, z14, y1, y2, y3, y4⟩ := Lyear x3 had' m hm hr m 0 2000 2000 P 0 x t_st t_kd t_am there 0 (-6) (-6) thick hollow damp fresh pulls fats (fun _ => 0) (by omega) (by omega) (by omega) (by omega) (by omega) (by omega) h ⟨⟨by decide, by decide⟩, Or.inl rfl, fun _ _ => rfl⟩
  rw [nI_0] at y1 y2
  obtain ⟨r, w1, w2⟩ := Lcnt x3 z4 z7 z5 z6 z13 z10 z9 z11 z8 z12 had' z14 y3 2000 0 0 (by omega) (by omega)
  rw [nI_0] at w1 w2
  rw [put_eq s2 h y3, bd_s] at w2
  dsimp only at w2
  rw [y1, bd_s, y2, w2]
  unfold fX6_countFresh
  dsimp only
  rw [w1, bd_s]
  have ts : TS deep fine pay hair z10 z9 z11 z8 z12 z13 z14 := ⟨hr.2.2.1.2, hr.2.2.2.1.2, hr.2.2.2.2.1.2, hr.2.2.2.2.2.2, y3.2.1.2, y3.2.2.1.2, y3.2.2.2.1.2, y3.2.2.2.2.1.1.2, y3.2.2.2.2.2.1.2, y3.2.2.2.2.2.2.2, y4.2.2⟩
  by_cases d1 : x3 = 0
  · rw [if_pos d1, if_pos d1]; exact ⟨_, _, _, _, _, _, _, _, _, _, _, _, _, _, _, _, _, _, _, _, _, _, _, _, _, _, _, _, _, rfl, rfl, ts, y4.2.2⟩
  rw [if_neg d1, if_neg d1]
  by_cases d2 : x3 = 1
  · rw [if_pos d2, if_pos d2]; exact ⟨_, _, _, _, _, _, _, _, _, _, _, _, _, _, _, _, _, _, _, _, _, _, _, _, _, _, _, _, _, rfl, rfl, ts, y4.2.2⟩
  rw [if_neg d2, if_neg d2]; exact ⟨_, _, _, _, _, _, _, _, _, _, _, _, _, _, _, _, _, _, _, _, _, _, _, _, _, _, _, _, _, rfl, rfl, ts, y4.2.2⟩
