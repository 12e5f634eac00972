/-! the shop is played -/
def SP (n : Nat) (f : Nat → Int32) : Prop := ∀ j, n ≤ j → f j = 0
theorem cpy_sp {n : Nat} {f g : Nat → Int32} (hf : SP n f) (hg : SP n g) : va_cpy f g 0 0 n = f := by
  funext j
  by_cases hj : j < n
  · rw [pk_cpy_in (Nat.zero_le _) (by omega)]; congr 1; omega
  · rw [pk_cpy_out (Or.inr (by omega)), hf j (by omega), hg j (by omega)]
section
variable {n : Nat} {signs act much wher : Nat → Int32}
theorem Lgo (hn : n ≤ 60) (A : Nat) (hA : A ≤ 30) (hp : ps n signs A = n) (har : AR n signs A act much wher) (flat least : Int32) (deep fine pay hair : Nat → Int32) (hr : InvR flat least deep fine pay hair) : ∀ (e k f1 f2 P Q : Nat) (st kd am there pulled fh ha : Int32) (thick hollow damp fresh pulls fats ofK : Nat → Int32), k + e = A → e + 1 ≤ f1 → e + 1 ≤ f2 → P + 9 * e ≤ 800000 → Q + 9 * e ≤ 800000 → InvS P there thick hollow damp fresh pulls fats → TI Q pulled fh ofK → ∃ (ac' so' wy' am' kd' st' th' fh' ha' pu' : Int32) (fr' ho' tk' da' pl' fa' ok' : Nat → Int32), LX9_playPad_2 (-6) (-6) flat least fine deep (nI n) signs f1 (nI (ps n signs k)) (nI k) st kd am there pulled fh ha fresh hollow thick damp pulls fats ofK = some (ac', so', wy', am', kd', st', th', fh', ha', pu', fr', ho', tk', da', pl', fa', ok') ∧ LX11_goShop_18 flat least (nI A) act wher much fine deep f2 (nI k) there pulled fh ha (-6) (-6) ofK hollow thick fresh pulls fats damp = some (so', wy', pu', fh', ha', th', ok', ho', tk', fr', pl', fa', da') ∧ InvS (P + 9 * e : Nat) th' tk' ho' da' fr' pl' fa' ∧ TI (Q + 9 * e) pu' fh' ok' ∧ (so' = -6 ∧ ac' = nI A ∨ ∃ q, q ≤ 60 ∧ so' = nI q) := by
  intro e
  induction e with
  | zero =>
    intro k f1 f2 P Q st kd am there pulled fh ha thick hollow damp fresh pulls fats ofK h1 h2 h3 _ _ hs ht
    have ek : k = A := by omega
    subst ek
    cases f1 with
    | zero => omega
    | succ f1 =>
    cases f2 with
    | zero => omega
    | succ f2 =>
    refine ⟨nI k, -6, -6, am, kd, st, there, fh, ha, pulled, fresh, hollow, thick, damp, pulls, fats, ofK, ?_, ?_, hs, ht, Or.inl ⟨rfl, rfl⟩⟩
    · show FX9_playPad_2 (-6) (-6) flat least fine deep (nI n) signs (LX9_playPad_2 (-6) (-6) flat least fine deep (nI n) signs f1) (nI (ps n signs k)) (nI k) st kd am there pulled fh ha fresh hollow thick damp pulls fats ofK = _
      unfold FX9_playPad_2
      rw [hp, if_pos (by rw [t_le]; omega)]
    · show FX11_goShop_18 flat least (nI k) act wher much fine deep (LX11_goShop_18 flat least (nI k) act wher much fine deep f2) (nI k) there pulled fh ha (-6) (-6) ofK hollow thick fresh pulls fats damp = _
      unfold FX11_goShop_18
      rw [if_pos (by rw [t_le]; omega)]
  | succ e ih =>
    intro k f1 f2 P Q st kd am there pulled fh ha thick hollow damp fresh pulls fats ofK h1 h2 h3 hP hQ hs ht
    cases f1 with
    | zero => omega
    | succ f1 =>
    cases f2 with
    | zero => omega
    | succ f2 =>
    obtain ⟨a1, ⟨a2, a3, a4⟩, a5⟩ := har k (by omega)
    obtain ⟨r, r1, r2, r3, r4⟩ := why_eq (wher k) (act k) (much k) there flat least thick hollow damp fresh pulls fats hs a2
    have u9 : LX9_playPad_2 (-6) (-6) flat least fine deep (nI n) signs (f1 + 1) (nI (ps n signs k)) (nI k) st kd am there pulled fh ha fresh hollow thick damp pulls fats ofK = FX9_playPad_2 (-6) (-6) flat least fine deep (nI n) signs (LX9_playPad_2 (-6) (-6) flat least fine deep (nI n) signs f1) (nI (ps n signs k)) (nI k) st kd am there pulled fh ha fresh hollow thick damp pulls fats ofK := rfl
    have u11 : LX11_goShop_18 flat least (nI A) act wher much fine deep (f2 + 1) (nI k) there pulled fh ha (-6) (-6) ofK hollow thick fresh pulls fats damp = FX11_goShop_18 flat least (nI A) act wher much fine deep (LX11_goShop_18 flat least (nI A) act wher much fine deep f2) (nI k) there pulled fh ha (-6) (-6) ofK hollow thick fresh pulls fats damp := rfl
    rw [u9, u11]
    unfold FX9_playPad_2 FX11_goShop_18 fX11_goShop_81 fX11_goShop_110
    rw [if_neg (fun z => by rw [nI_leI (by omega) (by omega)] at z; omega), a5, bd_s]
    rw [if_neg (show ¬ nI A ≤ nI k from fun z => by rw [nI_leI (by omega) (by omega)] at z; omega), if_neg (show ¬ (0 : Int32) ≤ -6 by decide)]
    dsimp only
    simp only [gd_ik (k := k) (n := 60) (show k < 60 by omega) (by omega), cl_nI (show k < 60 by omega) (show 60 < 1000000 by omega)]
    rw [r2, r3, bd_s, bd_s]
    by_cases c : r = 0
    · subst c
      have e0 : nI 0 = 0 := rfl
      rw [if_pos e0, if_pos (show nI 0 ≤ 0 by decide), if_pos (show nI 0 ≤ 0 by decide), if_pos e0]
      obtain ⟨t', fh', ha', pu', th', fr', da', pl', fa', ok', ho', b1, b2, b3, b4⟩ := carry_eq (P := P) (Q := Q) (wher k) (act k) (much k) there flat least pulled fh ha thick hollow damp fresh pulls fats deep fine pay hair ofK (by omega) (by omega) hs hr ht a2 a3 a4 (r4 rfl)
      rw [b1, b2, bd_s, bd_s, third_eq hn (by omega)]
      simp only [lt_e, nI_1, bd_s]
      have nx : (if (if th3 (sg n signs (ps n signs k + 1)) = true then (1 : Int32) else 0) = 0 then LX9_playPad_2 (-6) (-6) flat least fine deep (nI n) signs f1 (nI (ps n signs k) + 2) (nI (k + 1)) (wher k) (act k) (much k) t' pu' fh' ha' fr' ho' th' da' pl' fa' ok' else LX9_playPad_2 (-6) (-6) flat least fine deep (nI n) signs f1 (nI (ps n signs k) + 3) (nI (k + 1)) (wher k) (act k) (much k) t' pu' fh' ha' fr' ho' th' da' pl' fa' ok') = LX9_playPad_2 (-6) (-6) flat least fine deep (nI n) signs f1 (nI (ps n signs (k + 1))) (nI (k + 1)) (wher k) (act k) (much k) t' pu' fh' ha' fr' ho' th' da' pl' fa' ok' := by
        have e2 : nI (ps n signs k) + 2 = nI (ps n signs k + 2) := nI_add _ 2
        have e3 : nI (ps n signs k) + 3 = nI (ps n signs k + 3) := nI_add _ 3
        rw [e2, e3, ps]
        cases th3 (sg n signs (ps n signs k + 1)) <;> rfl
      rw [nx]
      obtain ⟨x1, x2, x3, x4, x5, x6, x7, x8, x9, x10, x11, x12, x13, x14, x15, x16, x17, y1, y2, y3, y4, y5⟩ := ih (k + 1) f1 f2 (P + 9) (Q + 9) (wher k) (act k) (much k) t' pu' fh' ha' th' ho' da' fr' pl' fa' ok' (by omega) (by omega) (by omega) (by omega) (by omega) b3 b4
      rw [show P + 9 + 9 * e = P + 9 * (e + 1) by omega] at y3
      rw [show Q + 9 + 9 * e = Q + 9 * (e + 1) by omega] at y4
      exact ⟨x1, x2, x3, x4, x5, x6, x7, x8, x9, x10, x11, x12, x13, x14, x15, x16, x17, y1, y2, y3, y4, y5⟩
    · have n0 : ¬ nI r = 0 := fun z => c ((nI_eq (b := 0) (by omega) (by omega)).mp z)
      have n1 : ¬ nI r ≤ 0 := fun z => c (by have := (nI_leI (b := 0) (by omega) (by omega)).mp z; omega)
      rw [if_neg n0, if_neg n1, if_neg n1, if_neg n0]
      simp only [lt_e, nI_1]
      cases f2 with
      | zero => omega
      | succ f2 =>
      refine ⟨nI k, nI k, nI r, much k, act k, wher k, there, fh, ha, pulled, fresh, hollow, thick, damp, pulls, fats, ofK, rfl, ?_, ?_, ⟨⟨ht.1.1, by have := ht.1.2; omega⟩, ht.2⟩, Or.inr ⟨k, by omega, rfl⟩⟩
      · show FX11_goShop_18 flat least (nI A) act wher much fine deep (LX11_goShop_18 flat least (nI A) act wher much fine deep f2) (nI (k + 1)) there pulled fh ha (nI k) (nI r) ofK hollow thick fresh pulls fats damp = _
        unfold FX11_goShop_18
        by_cases c2 : nI A ≤ nI (k + 1)
        · rw [if_pos c2]
        · rw [if_neg c2, if_pos (ge0 (by omega))]
      · obtain ⟨i1, i2, i3, i4, i5, i6, i7⟩ := hs
        exact ⟨i1, i2, i3, i4, i5, i6.le (by omega), i7⟩
end
/-! the tally cleared, the STONES kept and put back -/
theorem zr_sp {f : Nat → Int32} (h : SP 5 f) : zr 0 5 f = fun _ => 0 := by
  funext j; unfold zr; split
  · rfl
  · exact h j (by omega)
theorem L8clear (a b c : Int32) : ∀ (n p : Nat) (f : Nat → Int32), p ≤ 5 → 6 ≤ n + p → LX8_clear_19 a b c n (nI p) f = some (b, c, a, zr p 5 f) := by
  intro n
  induction n with
  | zero => intro p f h1 h2; omega
  | succ n ih =>
    intro p f h1 h2
    show FX8_clear_19 a b c (LX8_clear_19 a b c n) (nI p) f = _
    unfold FX8_clear_19
    by_cases e : p = 5
    · subst e; rw [if_pos (show (5 : Int32) ≤ nI 5 by decide), zr_self]
    · rw [if_neg (le5 (by omega)), gd_ix rfl (show p < 5 by omega) (by omega), lt_e, nI_1, cl_nI (n := 5) (by omega) (by omega), ih (p + 1) _ (by omega) (by omega), zr_step (by omega)]
theorem L11count (a b c : Int32) : ∀ (n p : Nat) (f : Nat → Int32), p ≤ 5 → 6 ≤ n + p → LX11_beginCount_19 a b c n (nI p) f = some (a, b, c, zr p 5 f) := by
  intro n
  induction n with
  | zero => intro p f h1 h2; omega
  | succ n ih =>
    intro p f h1 h2
    show FX11_beginCount_19 a b c (LX11_beginCount_19 a b c n) (nI p) f = _
    unfold FX11_beginCount_19
    by_cases e : p = 5
    · subst e; rw [if_pos (show (5 : Int32) ≤ nI 5 by decide), zr_self]
    · rw [if_neg (le5 (by omega)), gd_ix rfl (show p < 5 by omega) (by omega), lt_e, nI_1, cl_nI (n := 5) (by omega) (by omega), ih (p + 1) _ (by omega) (by omega), zr_step (by omega)]
theorem clear_eq {f : Nat → Int32} (h : SP 5 f) : fX8_clear f = some (-6, -6, 0, fun _ => 0) := by
  have := L8clear 0 (-6) (-6) 2000 0 f (by omega) (by omega)
  rw [nI_0, zr_sp h] at this
  exact this
theorem count_eq {f : Nat → Int32} (h : SP 5 f) : fX11_beginCount f = some (0, -6, -6, fun _ => 0) := by
  have := L11count 0 (-6) (-6) 2000 0 f (by omega) (by omega)
  rw [nI_0, zr_sp h] at this
  exact this
def SV (stones : Int32) (thick hollow damp fresh pulls fats to : Nat → Int32) : Prop := (∀ s, s < 5 → to s = thick s ∧ to (5 + s) = hollow s ∧ to (10 + s) = damp s ∧ to (15 + s) = fresh s ∧ to (20 + s) = pulls s) ∧ (∀ k, k < 40 → to (25 + k) = fats k) ∧ to 65 = stones
section
variable {stones : Int32} {thick hollow damp fresh pulls fats : Nat → Int32}
theorem le40 {k : Nat} (h : k < 40) : ¬ (40 : Int32) ≤ nI k := by
  rw [show (40 : Int32) = nI 40 from rfl, nI_leI (by omega) (by omega)]; omega
theorem ixc (c : Nat) {s : Nat} : nI c + nI s = nI (c + s) := nI_add c s
theorem L11st71 : ∀ (n k : Nat) (to : Nat → Int32), k ≤ 40 → 41 ≤ n + k → (∀ s, s < 5 → to s = thick s ∧ to (5 + s) = hollow s ∧ to (10 + s) = damp s ∧ to (15 + s) = fresh s ∧ to (20 + s) = pulls s) → (∀ j, j < k → to (25 + j) = fats j) → ∃ to', LX11_store_71 stones fats n (nI k) to = some to' ∧ SV stones thick hollow damp fresh pulls fats to' := by
  intro n
  induction n with
  | zero => intro k to h1 h2; omega
  | succ n ih =>
    intro k to h1 h2 h3 h4
    show ∃ to', FX11_store_71 stones fats (LX11_store_71 stones fats n) (nI k) to = some to' ∧ _
    unfold FX11_store_71
    by_cases c : k = 40
    · subst c
      rw [if_pos (show (40 : Int32) ≤ nI 40 by decide), show Int32.toNatClampNeg 65 = 65 from rfl]
      refine ⟨_, rfl, fun s hs => ?_, fun j hj => ?_, pk_us⟩
      · rw [pk_un (by omega), pk_un (by omega), pk_un (by omega), pk_un (by omega), pk_un (by omega)]; exact h3 s hs
      · rw [pk_un (by omega)]; exact h4 j hj
    · have hk : k < 40 := by omega
      have e25 : (25 : Int32) + nI k = nI (25 + k) := ixc 25
      rw [if_neg (le40 hk), gd_ix rfl hk (by omega), lt_e, e25, gd_ix rfl (show 25 + k < 66 by omega) (by omega), lt_e, nI_1, cl_nI hk (by omega), cl_nI (n := 66) (by omega) (by omega)]
      refine ih (k + 1) _ (by omega) (by omega) (fun s hs => ?_) (fun j hj => ?_)
      · rw [pk_un (by omega), pk_un (by omega), pk_un (by omega), pk_un (by omega), pk_un (by omega)]; exact h3 s hs
      · by_cases e : j = k
        · subst e; exact pk_us
        · rw [pk_un (by omega)]; exact h4 j (by omega)
theorem L11st2 : ∀ (n k : Nat) (to : Nat → Int32), k ≤ 5 → 6 ≤ n + k → (∀ s, s < k → to s = thick s ∧ to (5 + s) = hollow s ∧ to (10 + s) = damp s ∧ to (15 + s) = fresh s ∧ to (20 + s) = pulls s) → ∃ to', LX11_store_2 stones fats thick hollow damp fresh pulls n (nI k) to = some to' ∧ SV stones thick hollow damp fresh pulls fats to' := by
  intro n
  induction n with
  | zero => intro k to h1 h2; omega
  | succ n ih =>
    intro k to h1 h2 h3
    show ∃ to', FX11_store_2 stones fats thick hollow damp fresh pulls (LX11_store_2 stones fats thick hollow damp fresh pulls n) (nI k) to = some to' ∧ _
    unfold FX11_store_2
    by_cases c : k = 5
    · subst c
      rw [if_pos (show (5 : Int32) ≤ nI 5 by decide)]
      exact L11st71 2000 0 to (by omega) (by omega) h3 (fun j hj => by omega)
    · have hk : k < 5 := by omega
      have e5 : (5 : Int32) + nI k = nI (5 + k) := ixc 5
      have e10 : (10 : Int32) + nI k = nI (10 + k) := ixc 10
      have e15 : (15 : Int32) + nI k = nI (15 + k) := ixc 15
      have e20 : (20 : Int32) + nI k = nI (20 + k) := ixc 20
      rw [if_neg (le5 hk), e5, e10, e15, e20]
      simp only [lt_e, nI_1, gd_ik (k := k) (n := 5) hk (by omega), gd_ik (k := k) (n := 66) (show k < 66 by omega) (by omega), gd_ik (k := 5 + k) (n := 66) (by omega) (by omega), gd_ik (k := 10 + k) (n := 66) (by omega) (by omega), gd_ik (k := 15 + k) (n := 66) (by omega) (by omega), gd_ik (k := 20 + k) (n := 66) (by omega) (by omega), cl_nI hk (show 5 < 1000000 by omega), cl_nI (show 5 + k < 66 by omega) (show 66 < 1000000 by omega), cl_nI (show 10 + k < 66 by omega) (show 66 < 1000000 by omega), cl_nI (show 15 + k < 66 by omega) (show 66 < 1000000 by omega), cl_nI (show 20 + k < 66 by omega) (show 66 < 1000000 by omega)]
      refine ih (k + 1) _ (by omega) (by omega) (fun s hs => ?_)
      unfold upd
      by_cases e : s = k
      · subst e
        refine ⟨?_, ?_, ?_, ?_, ?_⟩
        · rw [if_neg (by omega), if_neg (by omega), if_neg (by omega), if_neg (by omega), if_pos rfl]
        · rw [if_neg (by omega), if_neg (by omega), if_neg (by omega), if_pos rfl]
        · rw [if_neg (by omega), if_neg (by omega), if_pos rfl]
        · rw [if_neg (by omega), if_pos rfl]
        · rw [if_pos rfl]
      · obtain ⟨g1, g2, g3, g4, g5⟩ := h3 s (by omega)
        refine ⟨?_, ?_, ?_, ?_, ?_⟩ <;> rw [if_neg (by omega), if_neg (by omega), if_neg (by omega), if_neg (by omega), if_neg (by omega)] <;> assumption
theorem store_eq (to : Nat → Int32) : ∃ to', fX11_store stones fats thick hollow damp fresh pulls to = some to' ∧ SV stones thick hollow damp fresh pulls fats to' := L11st2 2000 0 to (by omega) (by omega) (fun s hs => by omega)
theorem L11pb86 (had a b c d e : Nat → Int32) (h : SV stones thick hollow damp fresh pulls fats had) : ∀ (n k : Nat) (fa : Nat → Int32), k ≤ 40 → 41 ≤ n + k → (∀ j, j < k ∨ 40 ≤ j → fa j = fats j) → LX11_putBack_86 had a b c d e n (nI k) fa = some (stones, fats, a, b, c, d, e) := by
  intro n
  induction n with
  | zero => intro k fa h1 h2; omega
  | succ n ih =>
    intro k fa h1 h2 h3
    show FX11_putBack_86 had a b c d e (LX11_putBack_86 had a b c d e n) (nI k) fa = _
    unfold FX11_putBack_86
    by_cases c1 : k = 40
    · subst c1
      have ef : fa = fats := funext (fun j => h3 j (by omega))
      rw [if_pos (show (40 : Int32) ≤ nI 40 by decide), lt_e, show Int32.toNatClampNeg 65 = 65 from rfl, h.2.2, ef]
    · have hk : k < 40 := by omega
      have e25 : (25 : Int32) + nI k = nI (25 + k) := ixc 25
      rw [if_neg (le40 hk), e25, gd_ix rfl (show 25 + k < 66 by omega) (by omega), lt_e, gd_ix rfl hk (by omega), lt_e, nI_1, cl_nI hk (by omega), cl_nI (n := 66) (by omega) (by omega)]
      refine ih (k + 1) _ (by omega) (by omega) (fun j hj => ?_)
      by_cases e : j = k
      · subst e; rw [pk_us]; exact h.2.1 j hk
      · rw [pk_un e]; exact h3 j (by omega)
theorem L11pb2 (had fa : Nat → Int32) (h : SV stones thick hollow damp fresh pulls fats had) (hfa : ∀ j, 40 ≤ j → fa j = fats j) : ∀ (n k : Nat) (a b c d e : Nat → Int32), k ≤ 5 → 6 ≤ n + k → (∀ j, j < k ∨ 5 ≤ j → a j = thick j ∧ b j = hollow j ∧ c j = damp j ∧ d j = fresh j ∧ e j = pulls j) → LX11_putBack_2 had fa n (nI k) a b c d e = some (stones, fats, thick, hollow, damp, fresh, pulls) := by
  intro n
  induction n with
  | zero => intro k a b c d e h1 h2; omega
  | succ n ih =>
    intro k a b c d e h1 h2 h3
    show FX11_putBack_2 had fa (LX11_putBack_2 had fa n) (nI k) a b c d e = _
    unfold FX11_putBack_2
    by_cases c1 : k = 5
    · subst c1
      have e1 : a = thick := funext (fun j => (h3 j (by omega)).1)
      have e2 : b = hollow := funext (fun j => (h3 j (by omega)).2.1)
      have e3 : c = damp := funext (fun j => (h3 j (by omega)).2.2.1)
      have e4 : d = fresh := funext (fun j => (h3 j (by omega)).2.2.2.1)
      have e5 : e = pulls := funext (fun j => (h3 j (by omega)).2.2.2.2)
      rw [if_pos (show (5 : Int32) ≤ nI 5 by decide), e1, e2, e3, e4, e5]
      exact L11pb86 had thick hollow damp fresh pulls h 2000 0 fa (by omega) (by omega) (fun j hj => hfa j (by omega))
    · have hk : k < 5 := by omega
      have e5 : (5 : Int32) + nI k = nI (5 + k) := ixc 5
      have e10 : (10 : Int32) + nI k = nI (10 + k) := ixc 10
      have e15 : (15 : Int32) + nI k = nI (15 + k) := ixc 15
      have e20 : (20 : Int32) + nI k = nI (20 + k) := ixc 20
      obtain ⟨g1, g2, g3, g4, g5⟩ := h.1 k hk
      rw [if_neg (le5 hk), e5, e10, e15, e20]
      simp only [lt_e, nI_1, gd_ik (k := k) (n := 5) hk (by omega), gd_ik (k := k) (n := 66) (show k < 66 by omega) (by omega), gd_ik (k := 5 + k) (n := 66) (by omega) (by omega), gd_ik (k := 10 + k) (n := 66) (by omega) (by omega), gd_ik (k := 15 + k) (n := 66) (by omega) (by omega), gd_ik (k := 20 + k) (n := 66) (by omega) (by omega), cl_nI hk (show 5 < 1000000 by omega), cl_nI (show 5 + k < 66 by omega) (show 66 < 1000000 by omega), cl_nI (show 10 + k < 66 by omega) (show 66 < 1000000 by omega), cl_nI (show 15 + k < 66 by omega) (show 66 < 1000000 by omega), cl_nI (show 20 + k < 66 by omega) (show 66 < 1000000 by omega), g1, g2, g3, g4, g5]
      refine ih (k + 1) _ _ _ _ _ (by omega) (by omega) (fun j hj => ?_)
      by_cases e : j = k
      · subst e; rw [pk_us, pk_us, pk_us, pk_us, pk_us]; exact ⟨rfl, rfl, rfl, rfl, rfl⟩
      · rw [pk_un e, pk_un e, pk_un e, pk_un e, pk_un e]; exact h3 j (by omega)
theorem put_eq {P P2 : Int} {t2 : Int32} {had a b c d e fa : Nat → Int32} (h : SV stones thick hollow damp fresh pulls fats had) (h1 : InvS P stones thick hollow damp fresh pulls fats) (h2 : InvS P2 t2 a b c d e fa) : fX11_putBack had fa a b c d e = some (stones, fats, thick, hollow, damp, fresh, pulls) := by
  obtain ⟨-, i2, i3, i4, i5, i6, i7⟩ := h1
  obtain ⟨-, k2, k3, k4, k5, k6, k7⟩ := h2
  exact L11pb2 had fa h (fun j hj => by rw [k7.2 j hj, i7.2 j hj]) 2000 0 a b c d e (by omega) (by omega) (fun j hj => by
    have hj5 : 5 ≤ j := by omega
    rw [k2.2 j hj5, k3.2 j hj5, k4.2 j hj5, k5.1.2 j hj5, k6.2 j hj5, i2.2 j hj5, i3.2 j hj5, i4.2 j hj5, i5.1.2 j hj5, i6.2 j hj5]
    exact ⟨rfl, rfl, rfl, rfl, rfl⟩)
end
