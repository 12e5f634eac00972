/-! tryShop and refusal (printed by wip/gen/shop.py) -/
def TS (deep fine pay hair thick hollow damp fresh pulls fats ofK : Nat → Int32) : Prop := SP 8 deep ∧ SP 8 fine ∧ SP 8 pay ∧ SP 6 hair ∧ SP 5 thick ∧ SP 5 hollow ∧ SP 5 damp ∧ SP 5 fresh ∧ SP 5 pulls ∧ SP 40 fats ∧ SP 5 ofK
theorem begin_eq {P : Int} (flat least there : Int32) (deep fine pay hair thick hollow damp fresh pulls fats t_deep t_fine t_pay t_hair t_thick t_hollow t_damp t_fresh t_pulls t_fats t_ofK : Nat → Int32) (h : InvS P there thick hollow damp fresh pulls fats) (hr : InvR flat least deep fine pay hair) (hts : TS t_deep t_fine t_pay t_hair t_thick t_hollow t_damp t_fresh t_pulls t_fats t_ofK) : fX9_begin t_deep t_fine t_pay t_hair t_thick t_hollow t_damp t_fresh t_pulls t_fats t_ofK flat least there deep fine pay hair thick hollow damp fresh pulls fats = some (0, -6, -6, flat, least, there, -6, -6, 0, deep, fine, pay, hair, thick, hollow, damp, fresh, pulls, fats, fun _ => 0) := by
  obtain ⟨-, i2, i3, i4, i5, i6, i7⟩ := h
  obtain ⟨-, -, r3, r4, r5, r6⟩ := hr
  obtain ⟨s1, s2, s3, s4, s5, s6, s7, s8, s9, s10, s11⟩ := hts
  unfold fX9_begin fX5_copyFrom fX6_copyFrom
  rw [lt_e, lt_e, clear_eq s11, bd_s]
  dsimp only
  rw [cpy_sp r3.2 s1, cpy_sp r4.2 s2, cpy_sp r5.2 s3, cpy_sp r6.2 s4, cpy_sp i2.2 s5, cpy_sp i3.2 s6, cpy_sp i4.2 s7, cpy_sp i5.1.2 s8, cpy_sp i6.2 s9, cpy_sp i7.2 s10]
theorem p_try {P : Nat} (size flat least there t_acts t_stop t_why t_flat t_least t_there t_pulled t_fh t_ha t_st t_kd t_am acts pulled fh ha bad why : Int32) (signs deep fine pay hair thick hollow damp fresh pulls fats t_deep t_fine t_pay t_hair t_thick t_hollow t_damp t_fresh t_pulls t_fats t_ofK act much wher had kindM leaves : Nat → Int32) (hP : P + 270 ≤ 800000) (h : InvS P there thick hollow damp fresh pulls fats) (hr : InvR flat least deep fine pay hair) (hp : InvP size signs) (hts : TS t_deep t_fine t_pay t_hair t_thick t_hollow t_damp t_fresh t_pulls t_fats t_ofK) (hk : SP 5 kindM) : ∃ (r10 r11 acts1 stop1 why1 flat1 least1 there1 fh1 ha1 pulled1 am1 kd1 st1 acts2 bad2 why2 pulled2 fh2 ha2 : Int32) (deep1 fine1 pay1 hair1 thick1 hollow1 damp1 fresh1 pulls1 fats1 ofK1 act2 much2 wher2 had2 kindM2 leaves2 : Nat → Int32), fX10_tryShop size t_acts t_stop t_why signs t_flat t_least t_there t_pulled t_fh t_ha flat least there t_st t_kd t_am t_deep t_fine t_pay t_hair t_thick t_hollow t_damp t_fresh t_pulls t_fats t_ofK deep fine pay hair thick hollow damp fresh pulls fats = some (r10, acts1, stop1, why1, flat1, least1, there1, fh1, ha1, pulled1, am1, kd1, st1, deep1, fine1, pay1, hair1, thick1, hollow1, damp1, fresh1, pulls1, fats1, ofK1) ∧ fX11_refusal there flat least size pulled fh ha bad why signs act much wher fats thick hollow damp fresh pulls had kindM fine deep leaves = some (r11, acts2, bad2, why2, pulled2, fh2, ha2, there, act2, much2, wher2, fats, thick, hollow, damp, fresh, pulls, had2, kindM2, leaves2) ∧ TS deep1 fine1 pay1 hair1 thick1 hollow1 damp1 fresh1 pulls1 fats1 ofK1 ∧ SP 5 kindM2 ∧ (r10 = -5 ∧ r11 = -5 ∨ ((r10 = 0 ∧ r11 = -6 ∧ acts1 = acts2) ∨ (r10 = -3 ∧ r11 = -3)) ∧ stop1 = bad2 ∧ why1 = why2 ∧ pulled1 = pulled2 ∧ fh1 = fh2 ∧ ha1 = ha2 ∧ ofK1 = kindM2 ∧ InvS (P + 270 : Nat) there1 thick1 hollow1 damp1 fresh1 pulls1 fats1 ∧ SV there1 thick1 hollow1 damp1 fresh1 pulls1 fats1 leaves2 ∧ fX11_goShop there flat least acts2 kindM2 act2 wher2 much2 hollow thick fresh pulls fats damp fine deep = some (bad2, why2, pulled2, fh2, ha2, there1, kindM2, hollow1, thick1, fresh1, pulls1, fats1, damp1)) := by
  obtain ⟨r, n, a', act', much', wher', rfl, hn, f1, -, f2, f3⟩ := p_fault size signs act much wher hp
  unfold fX10_tryShop fX11_refusal
  rw [f1, f2, bd_s, bd_s]
  unfold fX11_refusal_4
  dsimp only
  rcases f3 with ⟨q, hq, rfl⟩ | ⟨rfl, g1, g2, g3⟩
  · rw [if_neg (ne_m6 (by omega)), if_neg (nI_pos (by omega))]
    exact ⟨_, _, _, _, _, _, _, _, _, _, _, _, _, _, _, _, _, _, _, _, _, _, _, _, _, _, _, _, _, _, _, _, _, _, _, _, _, rfl, rfl, hts, hk, Or.inl ⟨rfl, rfl⟩⟩
  rw [if_pos rfl, if_pos (by decide), begin_eq flat least there deep fine pay hair thick hollow damp fresh pulls fats t_deep t_fine t_pay t_hair t_thick t_hollow t_damp t_fresh t_pulls t_fats t_ofK h hr hts, bd_s]
  dsimp only
  unfold fX9_playPad
  obtain ⟨x1, x2, x3, x4, x5, x6, x7, x8, x9, x10, x11, x12, x13, x14, x15, x16, x17, y1, y2, y3, y4, y5⟩ := Lgo hn a' g2 g1 g3 flat least deep fine pay hair hr a' 0 2000 2000 P 0 t_st t_kd t_am there 0 (-6) (-6) thick hollow damp fresh pulls fats (fun _ => 0) (by omega) (by omega) (by omega) (by omega) (by omega) h ⟨⟨by decide, by decide⟩, Or.inl rfl, fun _ _ => rfl⟩
  rw [show ps n signs 0 = 0 from rfl, nI_0] at y1
  rw [nI_0] at y2
  rw [y1, bd_s]
  dsimp only
  obtain ⟨had', s1, s2⟩ := store_eq (stones := there) (thick := thick) (hollow := hollow) (damp := damp) (fresh := fresh) (pulls := pulls) (fats := fats) had
  obtain ⟨lv', l1, l2⟩ := store_eq (stones := x7) (thick := x13) (hollow := x12) (damp := x14) (fresh := x11) (pulls := x15) (fats := x16) leaves
  have go : ∀ K, SP 5 K → fX11_goShop there flat least (nI a') K act' wher' much' hollow thick fresh pulls fats damp fine deep = some (x2, x3, x10, x8, x9, x7, x17, x12, x13, x11, x15, x16, x14) := by
    intro K hK
    unfold fX11_goShop
    rw [count_eq hK, bd_s]
    unfold fX11_goShop_4
    exact y2
  rw [s1, bd_s]
  unfold fX11_refusal_18
  rw [go _ hk, bd_s]
  unfold fX11_refusal_22
  dsimp only
  rw [l1, bd_s]
  unfold fX11_refusal_30
  rw [put_eq s2 h y3, bd_s]
  unfold fX11_refusal_34
  dsimp only
  have y3' : InvS (P + 270 : Nat) x7 x13 x12 x14 x11 x15 x16 := by
    obtain ⟨i1, i2, i3, i4, i5, i6, i7⟩ := y3
    exact ⟨i1, i2, i3, i4, i5, i6.le (by omega), i7⟩
  have ts : TS deep fine pay hair x13 x12 x14 x11 x15 x16 x17 := ⟨hr.2.2.1.2, hr.2.2.2.1.2, hr.2.2.2.2.1.2, hr.2.2.2.2.2.2, y3.2.1.2, y3.2.2.1.2, y3.2.2.2.1.2, y3.2.2.2.2.1.1.2, y3.2.2.2.2.2.1.2, y3.2.2.2.2.2.2.2, y4.2.2⟩
  rcases y5 with ⟨rfl, rfl⟩ | ⟨q, hq, rfl⟩
  · rw [if_pos rfl, if_pos (by decide)]
    exact ⟨_, _, _, _, _, _, _, _, _, _, _, _, _, _, _, _, _, _, _, _, _, _, _, _, _, _, _, _, _, _, _, _, _, _, _, _, _, rfl, rfl, ts, y4.2.2, Or.inr ⟨Or.inl ⟨rfl, rfl, rfl⟩, rfl, rfl, rfl, rfl, rfl, rfl, y3', l2, go _ y4.2.2⟩⟩
  · rw [if_neg (ne_m6 (by omega)), if_neg (nI_pos (by omega))]
    exact ⟨_, _, _, _, _, _, _, _, _, _, _, _, _, _, _, _, _, _, _, _, _, _, _, _, _, _, _, _, _, _, _, _, _, _, _, _, _, rfl, rfl, ts, y4.2.2, Or.inr ⟨Or.inr ⟨rfl, rfl⟩, rfl, rfl, rfl, rfl, rfl, rfl, y3', l2, go _ y4.2.2⟩⟩
