/-! the shop: an ACT is done -/
def gr (a b v : Nat) (f : Nat → Int32) : Nat → Int32 := fun j => if a ≤ j ∧ j < b then imax 0 (f j - 3 * nI v) else f j
theorem gr_self {a v : Nat} {f : Nat → Int32} : gr a a v f = f := by
  funext j; unfold gr; rw [if_neg (by omega)]
theorem gr_step {a b v : Nat} {f : Nat → Int32} (h : a < b) : gr (a + 1) b v (upd f a (imax 0 (f a - 3 * nI v))) = gr a b v f := by
  funext j; unfold gr
  by_cases e : j = a
  · subst e; rw [if_neg (by omega), if_pos (by omega), pk_us]
  · rw [pk_un e]
    by_cases e2 : a + 1 ≤ j ∧ j < b
    · rw [if_pos e2, if_pos (by omega)]
    · rw [if_neg e2, if_neg (by omega)]
theorem gr_bd {a b v : Nat} {f : Nat → Int32} (hv : v ≤ 9) (hb : b ≤ 40) (h : Bd 40 0 60 f) : Bd 40 0 60 (gr a b v f) := by
  refine ⟨fun j hj => ?_, fun j hj => ?_⟩
  · unfold gr; split
    · obtain ⟨k, k1, -, ek⟩ := h.nat (j := j) (hi := 60) (by omega) (by omega) hj
      rw [ek, show (3 : Int32) = nI 3 from rfl, pk_mul, imax0_sub (by omega) (by omega), nI_toInt (by omega)]; omega
    · exact h.1 j hj
  · unfold gr; rw [if_neg (by omega)]; exact h.2 j hj
theorem L6grind (s v : Nat) (hs : s < 5) (a b c d : Nat → Int32) : ∀ (n p : Nat) (fats : Nat → Int32), p ≤ 8 → 9 ≤ n + p → LX6_grindOff_64 (nI s) (nI v) a b c d n (nI p) fats = some (a, b, upd c s (-6), upd d s 0, gr (8 * s + p) (8 * s + 8) v fats) := by
  intro n
  induction n with
  | zero => intro p fats h1 h2; omega
  | succ n ih =>
    intro p fats h1 h2
    show FX6_grindOff_64 (nI s) (nI v) a b c d (LX6_grindOff_64 (nI s) (nI v) a b c d n) (nI p) fats = _
    unfold FX6_grindOff_64
    by_cases e8 : p = 8
    · subst e8
      rw [if_pos (by decide), gr_self, gd_ix rfl hs (by omega), cl_nI hs (by omega)]
    · rw [if_neg (le8 (by omega)), ix_sp, lt_e, gd_ix rfl (show 8 * s + p < 40 by omega) (by omega), lt_e, lt_e, nI_1, cl_nI (n := 40) (by omega) (by omega), ih (p + 1) _ (by omega) (by omega), ← Nat.add_assoc, gr_step (by omega)]
theorem L11grindF (x1 : Int32) (s v : Nat) (hs : s < 5) (a b c d : Nat → Int32) : ∀ (n p : Nat) (fats : Nat → Int32), p ≤ 8 → 9 ≤ n + p → LX11_grindFor_30 x1 (nI s) (nI v) a b c d n (nI p) fats = some (a, b, c, upd d s (if x1 = 1 then (if d s + 2 * nI v ≤ 99 then imax 0 (d s + 2 * nI v) else 99) else (if d s + -nI v ≤ 99 then imax 0 (d s + -nI v) else 99)), gr (8 * s + p) (8 * s + 8) v fats) := by
  intro n
  induction n with
  | zero => intro p fats h1 h2; omega
  | succ n ih =>
    intro p fats h1 h2
    show FX11_grindFor_30 x1 (nI s) (nI v) a b c d (LX11_grindFor_30 x1 (nI s) (nI v) a b c d n) (nI p) fats = _
    unfold FX11_grindFor_30
    by_cases e8 : p = 8
    · subst e8
      simp only [if_pos (show (8 : Int32) ≤ nI 8 by decide), gr_self, gd_ik (k := s) (n := 5) hs (by omega), cl_nI hs (show 5 < 1000000 by omega), lt_e, nb_imax]
      by_cases c1 : x1 = 1
      · rw [if_pos c1, if_pos c1]
        by_cases c2 : d s + 2 * nI v ≤ 99
        · rw [if_pos c2, if_pos c2]
        · rw [if_neg c2, if_neg c2]
      · rw [if_neg c1, if_neg c1]
        by_cases c2 : d s + -nI v ≤ 99
        · rw [if_pos c2, if_pos c2]
        · rw [if_neg c2, if_neg c2]
    · rw [if_neg (le8 (by omega)), at_sp, gd_ix rfl (show 8 * s + p < 40 by omega) (by omega), lt_e, lt_e, nI_1, cl_nI (n := 40) (by omega) (by omega), nb_imax, ih (p + 1) _ (by omega) (by omega), ← Nat.add_assoc, gr_step (by omega)]
theorem carry_eq {P Q : Nat} (st kd am there flat least pulled fh ha : Int32) (thick hollow damp fresh pulls fats deep fine pay hair ofK : Nat → Int32) (hP : P + 9 ≤ 800000) (hQ : Q + 9 ≤ 800000) (h : InvS P there thick hollow damp fresh pulls fats) (hr : InvR flat least deep fine pay hair) (ht : TI Q pulled fh ofK) (hk : kd = 0 ∨ kd = 1 ∨ kd = 2 ∨ kd = 3 ∨ kd = 4 ∨ kd = 5) (h0 : kd = 0 → ∃ p, p < 8 ∧ am = nI p) (h4 : kd = 1 ∨ kd = 2 ∨ kd = 3 ∨ kd = 4 → ∃ v, v ≤ 9 ∧ am = nI v) (hw : ∃ s, s < 5 ∧ st = nI s ∧ ¬ fX6_has (nI s) there = 0 ∧ (kd = 5 → ∃ q, q < 5 ∧ am = nI q ∧ ¬ fX6_has (nI q) there = 0 ∧ s ≠ q) ∧ (kd = 4 → ∃ p, p < 8 ∧ fresh s = nI p) ∧ (kd = 1 ∨ kd = 2 → least ≤ thick s - 3 * am)) : ∃ (t' fh' ha' pu' : Int32) (th' fr' da' pl' fa' ok' ho' : Nat → Int32), fX9_carryOut st kd am there pulled fh ha thick fresh fine damp pulls fats ofK hollow deep = some (t', fh', ha', pu', th', fr', da', pl', fa', ok', ho') ∧ fX11_happen kd st am there pulled fh ha thick fresh pulls hollow fats damp ofK fine deep = some (pu', fh', ha', t', th', fr', pl', ho', fa', da', ok') ∧ InvS (P + 9 : Nat) t' th' ho' da' fr' pl' fa' ∧ TI (Q + 9) pu' fh' ok' := by
  obtain ⟨s, hs, rfl, hh, w5, w4, w1⟩ := hw
  obtain ⟨i1, i2, i3, i4, ⟨i5, i6⟩, i7, i8⟩ := h
  obtain ⟨r1, r2, r3, r4, r5, r6⟩ := hr
  have i7' : Bd 5 0 (P + 9 : Nat) pulls := i7.le (by omega)
  have ht' : TI (Q + 9) pulled fh ofK := ⟨⟨ht.1.1, by have := ht.1.2; omega⟩, ht.2⟩
  have fup : ∀ x : Int32, (x = -6 ∨ ∃ p, p < 8 ∧ x = nI p) → Bd 5 (-6) 7 (upd fresh s x) ∧ ∀ j, j < 5 → upd fresh s x j = -6 ∨ 0 ≤ (upd fresh s x j).toInt := by
    intro x hx
    refine ⟨?_, fun j hj => ?_⟩
    · rcases hx with rfl | ⟨p, hp, rfl⟩
      · exact i5.up hs (by decide) (by decide)
      · exact i5.up hs (by rw [nI_toInt (by omega)]; omega) (by rw [nI_toInt (by omega)]; omega)
    · by_cases e : j = s
      · subst e; rw [pk_us]
        rcases hx with rfl | ⟨p, hp, rfl⟩
        · exact Or.inl rfl
        · exact Or.inr (by rw [nI_toInt (by omega)]; omega)
      · rw [pk_un e]; exact i6 j hj
  have grd : ∀ (v : Nat), v ≤ 9 → ∀ x1 : Int32, am = nI v → least ≤ thick s - 3 * am → (∀ x : Int32, (x = 0 ∧ ¬ x1 = 1 ∨ x = 1 ∧ x1 = 1) → ∃ (th' ho' fr' pl' fa' : Nat → Int32), fX6_grindOff (nI s) am x there thick hollow fresh pulls fats = some (th', ho', fr', pl', fa') ∧ fX11_grindFor x1 (nI s) am thick fresh pulls hollow fats = some (th', fr', pl', ho', fa') ∧ InvS (P + 9 : Nat) there th' ho' damp fr' pl' fa') := by
    intro v hv x1 ev hl x hx
    subst ev
    obtain ⟨a, a1, -, ea⟩ := i2.nat (j := s) (hi := 9999) (by omega) (by omega) hs
    obtain ⟨b, b1, -, eb⟩ := i3.nat (j := s) (hi := 99) (by omega) (by omega) hs
    have hl2 : 3 * v ≤ a := by
      rw [ea, show (3 : Int32) = nI 3 from rfl, pk_mul, t_le, pk_sub_toInt (by omega) (by omega)] at hl
      have := r2.1; omega
    have et : thick s - 3 * nI v = nI (a - 3 * v) := by rw [ea, show (3 : Int32) = nI 3 from rfl, pk_mul, pk_sub hl2]
    have hth : Bd 5 0 9999 (upd thick s (nI (a - 3 * v))) := i2.up hs (by rw [nI_toInt (by omega)]; omega) (by rw [nI_toInt (by omega)]; omega)
    have hfa : Bd 40 0 60 (gr (8 * s + 0) (8 * s + 8) v fats) := gr_bd hv (by omega) i8
    have hfr := fup (-6) (Or.inl rfl)
    have hpl : Bd 5 0 (P + 9 : Nat) (upd pulls s 0) := i7'.up hs (by decide) (by rw [l0]; omega)
    have e6 := L6grind s v hs
    have e11 := L11grindF x1 s v hs (upd thick s (nI (a - 3 * v))) (upd fresh s (-6)) (upd pulls s 0) hollow 2000 0 fats (by omega) (by omega)
    rw [nI_0] at e11
    have fin : ∀ c : Nat, c ≤ 99 → (if x = 0 then imax 0 (hollow s - nI v) else imin 99 (hollow s + 2 * nI v)) = nI c → (if x1 = 1 then (if hollow s + 2 * nI v ≤ 99 then imax 0 (hollow s + 2 * nI v) else 99) else (if hollow s + -nI v ≤ 99 then imax 0 (hollow s + -nI v) else 99)) = nI c → ∃ (th' ho' fr' pl' fa' : Nat → Int32), fX6_grindOff (nI s) (nI v) x there thick hollow fresh pulls fats = some (th', ho', fr', pl', fa') ∧ fX11_grindFor x1 (nI s) (nI v) thick fresh pulls hollow fats = some (th', fr', pl', ho', fa') ∧ InvS (P + 9 : Nat) there th' ho' damp fr' pl' fa' := by
      intro c hc g1 g2
      have e6' := e6 (upd thick s (nI (a - 3 * v))) (upd hollow s (nI c)) fresh pulls 2000 0 fats (by omega) (by omega)
      rw [nI_0] at e6'
      rw [g2] at e11
      refine ⟨_, _, _, _, _, ?_, ?_, i1, hth, i3.up hs (x := nI c) (by rw [nI_toInt (by omega)]; omega) (by rw [nI_toInt (by omega)]; omega), i4, hfr, hpl, hfa⟩
      · unfold fX6_grindOff
        rw [if_neg hh, gd_ix rfl hs (by omega), cl_nI hs (by omega), lt_e, et]
        by_cases cx : x = 0
        · rw [if_pos cx] at g1 ⊢
          rw [lt_e, g1, e6']
        · rw [if_neg cx] at g1 ⊢
          rw [lt_e, g1, e6']
      · unfold fX11_grindFor
        simp only [gd_ik (k := s) (n := 5) hs (by omega), cl_nI hs (show 5 < 1000000 by omega), lt_e, et]
        exact e11
    have e2 : hollow s + 2 * nI v = nI (b + 2 * v) := by rw [eb, show (2 : Int32) = nI 2 from rfl, pk_mul, nI_add]
    have e3 : hollow s + -nI v = nI b - nI v := by rw [eb, ← Int32.sub_eq_add_neg]
    rcases hx with ⟨rfl, hx⟩ | ⟨rfl, hx⟩
    · refine fin (b - v) (by omega) ?_ ?_
      · rw [if_pos rfl, eb, imax0_sub (by omega) (by omega)]
      · rw [if_neg hx, e3, if_pos, imax0_sub (by omega) (by omega)]
        rw [t_le, pk_sub_toInt (by omega) (by omega)]; show _ ≤ (99 : Int); omega
    · refine fin (if b + 2 * v ≤ 99 then b + 2 * v else 99) (by split <;> omega) ?_ ?_
      · rw [if_neg (by decide), e2, imin_le, show (99 : Int32) = nI 99 from rfl]
        by_cases c : b + 2 * v ≤ 99
        · rw [if_pos ((nI_leI (b := 99) (by omega) (by omega)).mpr c), if_pos c]
        · rw [if_neg (fun z => c ((nI_leI (b := 99) (by omega) (by omega)).mp z)), if_neg c]
      · rw [if_pos hx, e2, show (99 : Int32) = nI 99 from rfl]
        by_cases c : b + 2 * v ≤ 99
        · rw [if_pos ((nI_leI (b := 99) (by omega) (by omega)).mpr c), if_pos c]
          have := imax0_sub (a := b + 2 * v) (b := 0) (by omega) (by omega)
          rw [nI_0, Int32.sub_zero, Nat.sub_zero] at this
          exact this
        · rw [if_neg (fun z => c ((nI_leI (b := 99) (by omega) (by omega)).mp z)), if_neg c]
  unfold fX9_carryOut fX11_happen
  rcases hk with rfl | rfl | rfl | rfl | rfl | rfl
  · obtain ⟨p, hp, rfl⟩ := h0 rfl
    unfold fX6_draw
    have g40 : 8 * s + p < 40 := by omega
    have hd := r3.1 p hp
    simp only [if_pos (show (0 : Int32) = 0 from rfl), deep_ok hp, bd_s, if_neg hh, if_neg (ins7 hp), ix_sp, at_sp, gd_ik (k := 8 * s + p) (n := 40) g40 (by omega), cl_nI g40 (show 40 < 1000000 by omega), gd_ik (k := s) (n := 5) hs (by omega), cl_nI hs (show 5 < 1000000 by omega), gd_ik (k := p) (n := 8) hp (by omega), cl_nI hp (show 8 < 1000000 by omega), lt_e]
    exact ⟨_, _, _, _, _, _, _, _, _, _, _, rfl, rfl, ⟨i1, i2, i3, i4, fup _ (Or.inr ⟨p, hp, rfl⟩), i7'.up hs (by decide) (by rw [l0]; omega), i8.up g40 (by omega) (by omega)⟩, ht'⟩
  · obtain ⟨v, hv, ev⟩ := h4 (Or.inl rfl)
    obtain ⟨a1, a2, a3, a4, a5, b1, b2, b3⟩ := grd v hv 1 ev (w1 (Or.inl rfl)) 1 (Or.inr ⟨rfl, rfl⟩)
    rw [if_neg (by decide), if_pos rfl, if_neg (by decide), if_pos rfl, b1, b2, bd_s, bd_s]
    exact ⟨_, _, _, _, _, _, _, _, _, _, _, rfl, rfl, b3, ht'⟩
  · obtain ⟨v, hv, ev⟩ := h4 (Or.inr (Or.inl rfl))
    obtain ⟨a1, a2, a3, a4, a5, b1, b2, b3⟩ := grd v hv 2 ev (w1 (Or.inr rfl)) 0 (Or.inl ⟨rfl, by decide⟩)
    rw [if_neg (by decide), if_neg (by decide), if_pos rfl, if_neg (by decide), if_neg (by decide), if_pos rfl, b1, b2, bd_s, bd_s]
    exact ⟨_, _, _, _, _, _, _, _, _, _, _, rfl, rfl, b3, ht'⟩
  · obtain ⟨v, hv, rfl⟩ := h4 (Or.inr (Or.inr (Or.inl rfl)))
    obtain ⟨b, b1, -, eb⟩ := i4.nat (j := s) (hi := 20) (by omega) (by omega) hs
    unfold fX6_wet
    rw [if_neg (show ¬ (3 : Int32) = 0 by decide), if_neg (show ¬ (3 : Int32) = 1 by decide), if_neg (show ¬ (3 : Int32) = 2 by decide), if_pos (show (3 : Int32) = 3 from rfl), if_neg (show ¬ (3 : Int32) = 0 by decide), if_neg (show ¬ (3 : Int32) = 1 by decide), if_neg (show ¬ (3 : Int32) = 2 by decide), if_pos (show (3 : Int32) = 3 from rfl)]
    simp only [if_neg hh, gd_ik (k := s) (n := 5) hs (by omega), cl_nI hs (show 5 < 1000000 by omega), lt_e, bd_s, eb, nI_add, imin_le]
    by_cases c : nI (b + v) ≤ 20
    · simp only [if_pos c]
      have c2 := (nI_leI (b := 20) (by omega) (by omega)).mp c
      exact ⟨_, _, _, _, _, _, _, _, _, _, _, rfl, rfl, ⟨i1, i2, i3, i4.up hs (by rw [nI_toInt (by omega)]; omega) (by rw [nI_toInt (by omega)]; omega), ⟨i5, i6⟩, i7', i8⟩, ht'⟩
    · simp only [if_neg c]
      exact ⟨_, _, _, _, _, _, _, _, _, _, _, rfl, rfl, ⟨i1, i2, i3, i4.up hs (by decide) (by decide), ⟨i5, i6⟩, i7', i8⟩, ht'⟩
  · obtain ⟨v, hv, rfl⟩ := h4 (Or.inr (Or.inr (Or.inr rfl)))
    obtain ⟨p, hp, ef⟩ := w4 rfl
    obtain ⟨w, -, ww, e5, e11, -⟩ := wear_ok r4 hp
    obtain ⟨x1, x2, x3, x4, x5, x6, x7, y1, y2, y3, y4, y5, y6⟩ := Lpull hs hp hh ef ww e5 e11 thick hollow v hv v 0 2000 2000 P Q pulled fh ha damp pulls fats ofK (by omega) (by omega) (by omega) (by omega) (by omega) i4 i7 i8 ht
    rw [nI_0] at y1 y2
    rw [if_neg (show ¬ (4 : Int32) = 0 by decide), if_neg (show ¬ (4 : Int32) = 1 by decide), if_neg (show ¬ (4 : Int32) = 2 by decide), if_neg (show ¬ (4 : Int32) = 3 by decide), if_pos (show (4 : Int32) = 4 from rfl), if_neg (show ¬ (4 : Int32) = 0 by decide), if_neg (show ¬ (4 : Int32) = 1 by decide), if_neg (show ¬ (4 : Int32) = 2 by decide), if_neg (show ¬ (4 : Int32) = 3 by decide), if_pos (show (4 : Int32) = 4 from rfl)]
    unfold fX9_pullSeveral
    simp only [if_neg hh, gd_ik (k := s) (n := 5) hs (by omega), cl_nI hs (show 5 < 1000000 by omega), lt_e, ef, y1, bd_s]
    exact ⟨_, _, _, _, _, _, _, _, _, _, _, rfl, y2, ⟨i1, i2, i3, y3, ⟨i5, i6⟩, y4.le (by omega), y5⟩, ⟨⟨y6.1.1, by have := y6.1.2; omega⟩, y6.2⟩⟩
  · obtain ⟨q, hq, rfl, hh2, hne⟩ := w5 rfl
    obtain ⟨a, a1, -, ea⟩ := i2.nat (j := s) (hi := 9999) (by omega) (by omega) hs
    obtain ⟨b, b1, -, eb⟩ := i2.nat (j := q) (hi := 9999) (by omega) (by omega) hq
    unfold fX6_glueBelow fX6_take
    rw [if_neg (show ¬ (5 : Int32) = 0 by decide), if_neg (show ¬ (5 : Int32) = 1 by decide), if_neg (show ¬ (5 : Int32) = 2 by decide), if_neg (show ¬ (5 : Int32) = 3 by decide), if_neg (show ¬ (5 : Int32) = 4 by decide), if_neg (show ¬ (5 : Int32) = 0 by decide), if_neg (show ¬ (5 : Int32) = 1 by decide), if_neg (show ¬ (5 : Int32) = 2 by decide), if_neg (show ¬ (5 : Int32) = 3 by decide), if_neg (show ¬ (5 : Int32) = 4 by decide), if_pos (show (5 : Int32) = 5 from rfl)]
    have hne2 : ¬ nI s = nI q := fun z => hne ((nI_eq (by omega) (by omega)).mp z)
    simp only [if_neg hh, if_neg hh2, if_neg hne2, gd_ik (k := s) (n := 5) hs (by omega), cl_nI hs (show 5 < 1000000 by omega), gd_ik (k := q) (n := 5) hq (by omega), cl_nI hq (show 5 < 1000000 by omega), lt_e, bd_s, ea, eb, nI_add, imin_le]
    have e9 : (9999 : Int32) = nI 9999 := rfl
    rw [e9]
    by_cases c : nI (a + b) ≤ nI 9999
    · simp only [if_pos c]
      have c2 := (nI_leI (by omega) (by omega)).mp c
      exact ⟨_, _, _, _, _, _, _, _, _, _, _, rfl, rfl, ⟨and_ok i1 hq, i2.up hs (by rw [nI_toInt (by omega)]; omega) (by rw [nI_toInt (by omega)]; omega), i3, i4, ⟨i5, i6⟩, i7', i8⟩, ht'⟩
    · simp only [if_neg c]
      exact ⟨_, _, _, _, _, _, _, _, _, _, _, rfl, rfl, ⟨and_ok i1 hq, i2.up hs (by rw [nI_toInt (by omega)]; omega) (by rw [nI_toInt (by omega)]; omega), i3, i4, ⟨i5, i6⟩, i7', i8⟩, ht'⟩
