/-! the shop: one pull, several -/
theorem nb_imax (x : Int32) : fX11_notBelow0 x = imax 0 x := by
  unfold fX11_notBelow0
  show (if 0 ≤ x then x else 0) = if 0 < x then x else 0
  by_cases c : (0 : Int32) ≤ x
  · rw [if_pos c]
    by_cases c2 : (0 : Int32) < x
    · rw [if_pos c2]
    · rw [if_neg c2]
      have h0 := l0
      rw [t_le] at c; rw [t_lt] at c2; rw [t_eq]; omega
  · rw [if_neg c, if_neg (fun z => c (by rw [t_lt] at z; rw [t_le]; omega))]
theorem imin_le (c x : Int32) : imin c x = if x ≤ c then x else c := by
  show (if x < c then x else c) = _
  by_cases h : x < c
  · rw [if_pos h, if_pos (by rw [t_lt] at h; rw [t_le]; omega)]
  · rw [if_neg h]
    by_cases h2 : x ≤ c
    · rw [if_pos h2]; rw [t_lt] at h; rw [t_le] at h2; rw [t_eq]; omega
    · rw [if_neg h2]
theorem upd_self {f : Nat → Int32} {k : Nat} : upd f k (f k) = f := by
  funext j
  by_cases e : j = k
  · subst e; rw [pk_us]
  · rw [pk_un e]
theorem gg_ex (s : Nat) (hs : s < 5) (d m : Int32) (fats : Nat → Int32) : ∀ (n p : Nat), p ≤ 8 → 9 ≤ n + p → ∃ r, LX6_greatestGhost_22 (nI s) d m fats n (nI p) = some r ∧ ∀ q, p ≤ q → q < 8 → nI q ≠ d → fats (8 * s + q) = m → (∀ j, p ≤ j → j < q → nI j ≠ d → fats (8 * s + j) ≠ m) → r = nI q := by
  intro n
  induction n with
  | zero => intro p h1 h2; omega
  | succ n ih =>
    intro p h1 h2
    show ∃ r, FX6_greatestGhost_22 (nI s) d m fats (LX6_greatestGhost_22 (nI s) d m fats n) (nI p) = some r ∧ _
    unfold FX6_greatestGhost_22
    by_cases c1 : p = 8
    · subst c1
      rw [if_pos (show (8 : Int32) ≤ nI 8 by decide)]
      exact ⟨_, rfl, fun q a b => by omega⟩
    · have hp : p < 8 := by omega
      obtain ⟨r, e1, e2⟩ := ih (p + 1) (by omega) (by omega)
      rw [if_neg (le8 hp)]
      simp only [lt_e, nI_1]
      by_cases c2 : nI p = d
      · rw [if_pos c2]
        refine ⟨r, e1, fun q a b c d2 e => e2 q ?_ b c d2 (fun j a1 a2 => e j (by omega) a2)⟩
        have : q ≠ p := fun z => c (by rw [z]; exact c2)
        omega
      · rw [if_neg c2, gd_ix ix_sp (show 8 * s + p < 40 by omega) (by omega), ix_sp, cl_nI (n := 40) (by omega) (by omega)]
        by_cases c3 : fats (8 * s + p) = m
        · rw [if_pos c3]
          refine ⟨_, rfl, fun q a b c d2 e => ?_⟩
          by_cases c4 : p = q
          · rw [c4]
          · exact absurd c3 (e p (Nat.le_refl _) (by omega) c2)
        · rw [if_neg c3]
          refine ⟨r, e1, fun q a b c d2 e => e2 q ?_ b c d2 (fun j a1 a2 => e j (by omega) a2)⟩
          have : q ≠ p := fun z => c3 (by rw [← z]; exact d2)
          omega
theorem gg_ok (s : Nat) (hs : s < 5) (d : Int32) (fats : Nat → Int32) (hb : Bd 40 0 60 fats) : ∃ r, fX6_greatestGhost (nI s) d fats = some r ∧ (¬ gm (row s fats) d 8 = 0 → r = oi (gw (row s fats) d 8)) := by
  unfold fX6_greatestGhost
  obtain ⟨r, e1, e2⟩ := gg_ex s hs d (gm (row s fats) d 8) fats 2000 0 (by omega) (by omega)
  rw [nI_0] at e1
  rw [if_neg (nI_pos (by omega)), if_pos (show nI s < 5 by rw [show (5 : Int32) = nI 5 from rfl, nI_ltI (by omega) (by omega)]; exact hs), f6gh s hs, bd_s]
  refine ⟨r, e1, fun hne => ?_⟩
  obtain ⟨-, h2, h3, -⟩ := gm_ok (row s fats) d 8 (row_ok hb hs) 8 (Nat.le_refl _)
  cases hg : gw (row s fats) d 8 with
  | none => exact absurd (h2 hg) hne
  | some q =>
    obtain ⟨a1, a2, a3, a4, a5⟩ := h3 q hg
    refine e2 q (by omega) a1 a2 a3.symm (fun j _ b2 b3 => ?_)
    have := a5 j b2 b3
    intro z
    have z2 : row s fats j = row s fats q := by rw [← a3]; exact z
    rw [z2] at this; omega
def TI (Q : Nat) (pulled fh : Int32) (ofK : Nat → Int32) : Prop := (0 ≤ pulled.toInt ∧ pulled.toInt ≤ Q) ∧ (fh = -6 ∨ 0 ≤ fh.toInt) ∧ ∀ j, 5 ≤ j → ofK j = 0
section
variable {there : Int32} {fresh fine : Nat → Int32} {s p w : Nat}
theorem once_eq {P : Nat} (hP : P < 800000) (hs : s < 5) (hp : p < 8) (hh : ¬ fX6_has (nI s) there = 0) (ef : fresh s = nI p) (w4 : w ≤ 4) (ew : fX11_wearOf (nI p) fine = some (nI w)) (damp pulls fats kindM : Nat → Int32) (hd : Bd 5 0 20 damp) (hpl : Bd 5 0 P pulls) (hf : Bd 40 0 60 fats) (pulled fh ha : Int32) : ∃ (k : Nat) (damp' pulls' fats' : Nat → Int32), k < 5 ∧ fX6_pullOnce (nI s) (nI w) there fresh damp pulls fats = some (nI k, damp', pulls', fats') ∧ fX11_pullOnce (nI s) pulled fh ha fresh damp pulls fats kindM fine = fX11_pullOnce_157 (nI s) (nI p) (nI k) pulled fh ha damp' pulls' fats' kindM ∧ Bd 5 0 20 damp' ∧ Bd 5 0 (P + 1 : Nat) pulls' ∧ Bd 40 0 60 fats' ∧ (k = 3 → ¬ gm (row s fats') (nI p) 8 = 0) := by
  obtain ⟨d, d1, -, ed⟩ := hd.nat (j := s) (hi := 20) (by omega) (by omega) hs
  obtain ⟨c, c1, -, ec⟩ := hpl.nat (j := s) (hi := P) (by omega) (by omega) hs
  obtain ⟨a, a1, -, ea⟩ := hf.nat (j := 8 * s + p) (hi := 60) (by omega) (by omega) (by omega)
  have hd' : Bd 5 0 20 (upd damp s (nI (d - 1))) := hd.up hs (by rw [nI_toInt (by omega)]; omega) (by rw [nI_toInt (by omega)]; omega)
  have hp' : Bd 5 0 (P + 1 : Nat) (upd pulls s (nI (c + 1))) := (hpl.le (by omega)).up hs (by rw [nI_toInt (by omega)]; omega) (by rw [nI_toInt (by omega)]; omega)
  have key : ∀ F : Nat → Int32, Bd 40 0 60 F → F = upd fats (8 * s + p) (F (8 * s + p)) → ∃ (k : Nat) (damp' pulls' fats' : Nat → Int32), k < 5 ∧ fX6_pullOnce_101 (nI s) (nI d) (nI (8 * s + p)) fresh (upd damp s (nI (d - 1))) (upd pulls s (nI (c + 1))) F = some (nI k, damp', pulls', fats') ∧ (if (3 : Int32) < nI d then if nI d < (15 : Int32) then fX11_pullOnce_116 (nI s) (nI p) 0 (nI (8 * s + p)) (nI (8 * s + p)) (F (8 * s + p)) pulled fh ha (upd damp s (nI (d - 1))) (upd pulls s (nI (c + 1))) fats kindM else fX11_pullOnce_116 (nI s) (nI p) 2 (nI (8 * s + p)) (nI (8 * s + p)) (F (8 * s + p)) pulled fh ha (upd damp s (nI (d - 1))) (upd pulls s (nI (c + 1))) fats kindM else fX11_pullOnce_116 (nI s) (nI p) 1 (nI (8 * s + p)) (nI (8 * s + p)) (F (8 * s + p)) pulled fh ha (upd damp s (nI (d - 1))) (upd pulls s (nI (c + 1))) fats kindM) = fX11_pullOnce_157 (nI s) (nI p) (nI k) pulled fh ha damp' pulls' fats' kindM ∧ Bd 5 0 20 damp' ∧ Bd 5 0 (P + 1 : Nat) pulls' ∧ Bd 40 0 60 fats' ∧ (k = 3 → ¬ gm (row s fats') (nI p) 8 = 0) := by
    intro F hF eF
    unfold fX6_pullOnce_101 fX11_pullOnce_116
    have g40 : 8 * s + p < 40 := by omega
    simp only [gd_ik (k := 8 * s + p) (n := 40) g40 (by omega), cl_nI g40 (show 40 < 1000000 by omega), gd_ik (k := s) (n := 5) hs (by omega), cl_nI hs (show 5 < 1000000 by omega), ← eF, ef]
    rw [f6gh s hs, f11gh s hs _ _ hF, bd_s, bd_s]
    by_cases g1 : (3 : Int32) < nI d
    · rw [if_pos g1, if_pos g1]
      by_cases g2 : nI d < (15 : Int32)
      · rw [if_pos g2, if_pos g2]
        simp only [if_true]
        by_cases g3 : gm (row s F) (nI p) 8 ≤ F (8 * s + p)
        · rw [if_pos g3, if_pos g3]
          by_cases g4 : F (8 * s + p) = 0
          · rw [if_pos g4, if_pos g4]; exact ⟨4, _, _, _, by omega, rfl, rfl, hd', hp', hF, fun z => by omega⟩
          · rw [if_neg g4, if_neg g4]; exact ⟨0, _, _, _, by omega, rfl, rfl, hd', hp', hF, fun z => by omega⟩
        · rw [if_neg g3, if_neg g3]
          refine ⟨3, _, _, _, by omega, rfl, rfl, hd', hp', hF, fun _ z => g3 ?_⟩
          rw [z, t_le]; exact (hF.1 _ g40).1
      · rw [if_neg g2, if_neg g2, if_neg (show ¬ (2 : Int32) = 0 by decide)]; exact ⟨2, _, _, _, by omega, rfl, rfl, hd', hp', hF, fun z => by omega⟩
    · rw [if_neg g1, if_neg g1, if_neg (show ¬ (1 : Int32) = 0 by decide)]; exact ⟨1, _, _, _, by omega, rfl, rfl, hd', hp', hF, fun z => by omega⟩
  unfold fX6_pullOnce fX11_pullOnce fX11_pullOnce_37
  have g40 : 8 * s + p < 40 := by omega
  have e1 : imax 0 (nI d - 1) = nI (d - 1) := imax0_sub (a := d) (b := 1) (by omega) (by omega)
  have e2 : fX11_notBelow0 (nI d - 1) = nI (d - 1) := nb_sub (a := d) (b := 1) (by omega) (by omega)
  rw [if_neg hh]
  simp only [gd_ik (k := s) (n := 5) hs (by omega), cl_nI hs (show 5 < 1000000 by omega), ef, if_neg (ins7 hp), lt_e, ed, ec, nI_1, e1, e2, ix_sp, at_sp, gd_ik (k := 8 * s + p) (n := 40) g40 (by omega), cl_nI g40 (show 40 < 1000000 by omega), ew, bd_s, ea, imax0_sub (show a < 1000000 by omega) (show w < 1000000 by omega), nb_sub (show a < 1000000 by omega) (show w < 1000000 by omega)]
  by_cases c : upd pulls s (nI (c + 1)) s - upd pulls s (nI (c + 1)) s / 10 * 10 = 0
  · simp only [if_pos c]
    have k1 := key (upd fats (8 * s + p) (nI (a - w))) (hf.up g40 (by rw [nI_toInt (by omega)]; omega) (by rw [nI_toInt (by omega)]; omega)) (by rw [pk_us])
    rw [pk_us] at k1
    exact k1
  · simp only [if_neg c]
    have k1 := key fats hf upd_self.symm
    rw [ea] at k1
    exact k1
theorem Lpull (hs : s < 5) (hp : p < 8) (hh : ¬ fX6_has (nI s) there = 0) (ef : fresh s = nI p) (w4 : w ≤ 4) (e5 : fX5_wear (nI p) fine = some (nI w)) (ew : fX11_wearOf (nI p) fine = some (nI w)) (thick hollow : Nat → Int32) (v : Nat) (hv : v ≤ 9) : ∀ (e i n m P Q : Nat) (pulled fh ha : Int32) (damp pulls fats ofK : Nat → Int32), i + e = v → e + 1 ≤ n → e + 1 ≤ m → P + e ≤ 800000 → Q + e ≤ 800000 → Bd 5 0 20 damp → Bd 5 0 P pulls → Bd 40 0 60 fats → TI Q pulled fh ofK → ∃ (fh' ha' pu' : Int32) (damp' pulls' fats' ofK' : Nat → Int32), LX9_pullSeveral_25 (nI s) (nI v) (nI p) there fresh fine n (nI i) pulled fh ha damp pulls fats ofK = some (fh', ha', pu', damp', pulls', fats', ofK') ∧ LX11_happen_111 (nI s) (nI v) there thick fresh hollow fine m (nI i) pulled fh ha pulls fats damp ofK = some (pu', fh', ha', there, thick, fresh, pulls', hollow, fats', damp', ofK') ∧ Bd 5 0 20 damp' ∧ Bd 5 0 (P + e : Nat) pulls' ∧ Bd 40 0 60 fats' ∧ TI (Q + e) pu' fh' ofK' := by
  intro e
  induction e with
  | zero =>
    intro i n m P Q pulled fh ha damp pulls fats ofK h1 h2 h3 _ _ hd hpl hf ht
    cases n with
    | zero => omega
    | succ n =>
      cases m with
      | zero => omega
      | succ m =>
        have c : nI v ≤ nI i := (nI_leI (by omega) (by omega)).mpr (by omega)
        refine ⟨fh, ha, pulled, damp, pulls, fats, ofK, ?_, ?_, hd, hpl, hf, ht⟩
        · show FX9_pullSeveral_25 (nI s) (nI v) (nI p) there fresh fine (LX9_pullSeveral_25 (nI s) (nI v) (nI p) there fresh fine n) (nI i) pulled fh ha damp pulls fats ofK = _
          unfold FX9_pullSeveral_25
          rw [if_pos c]
        · show FX11_happen_111 (nI s) (nI v) there thick fresh hollow fine (LX11_happen_111 (nI s) (nI v) there thick fresh hollow fine m) (nI i) pulled fh ha pulls fats damp ofK = _
          unfold FX11_happen_111
          rw [if_pos c]
  | succ e ih =>
    intro i n m P Q pulled fh ha damp pulls fats ofK h1 h2 h3 hP hQ hd hpl hf ht
    cases n with
    | zero => omega
    | succ n =>
      cases m with
      | zero => omega
      | succ m =>
        have c : ¬ nI v ≤ nI i := fun z => by rw [nI_leI (by omega) (by omega)] at z; omega
        obtain ⟨k, damp', pulls', fats', hk, o1, o2, hd', hp', hf', hg⟩ := once_eq (fine := fine) (P := P) (by omega) hs hp hh ef w4 ew damp pulls fats ofK hd hpl hf pulled fh ha
        obtain ⟨r, g1, g2⟩ := gg_ok s hs (nI p) fats' hf'
        show ∃ (fh' ha' pu' : Int32) (damp' pulls' fats' ofK' : Nat → Int32), FX9_pullSeveral_25 (nI s) (nI v) (nI p) there fresh fine (LX9_pullSeveral_25 (nI s) (nI v) (nI p) there fresh fine n) (nI i) pulled fh ha damp pulls fats ofK = some (fh', ha', pu', damp', pulls', fats', ofK') ∧ FX11_happen_111 (nI s) (nI v) there thick fresh hollow fine (LX11_happen_111 (nI s) (nI v) there thick fresh hollow fine m) (nI i) pulled fh ha pulls fats damp ofK = some (pu', fh', ha', there, thick, fresh, pulls', hollow, fats', damp', ofK') ∧ Bd 5 0 20 damp' ∧ Bd 5 0 (P + (e + 1) : Nat) pulls' ∧ Bd 40 0 60 fats' ∧ TI (Q + (e + 1)) pu' fh' ofK'
        unfold FX9_pullSeveral_25 FX11_happen_111
        rw [if_neg c, if_neg c, e5, bd_s, o1, bd_s, o2]
        dsimp only
        rw [g1, bd_s]
        have hin : ¬ fX10_inside (nI k) 0 4 = 0 := by
          rw [ins_iff, nI_toInt (by omega)]
          show ¬ ¬ ((0 : Int) ≤ _ ∧ _ ≤ (4 : Int)); omega
        have goal : ∀ fh2 ha2 : Int32, fX8_add (nI k) r pulled fh ha ofK = some (fh2, ha2, pulled + 1, upd ofK k (ofK k + 1)) → fX11_pullOnce_157 (nI s) (nI p) (nI k) pulled fh ha damp' pulls' fats' ofK = some (pulled + 1, fh2, ha2, damp', pulls', fats', upd ofK k (ofK k + 1)) → (fh2 = fh ∨ fh2 = pulled + 1) → ∃ (fh' ha' pu' : Int32) (damp'' pulls'' fats'' ofK' : Nat → Int32), (Option.bind (fX8_add (nI k) r pulled fh ha ofK) fun v_8 => lt_ (nI i + 1) fun v_9 => LX9_pullSeveral_25 (nI s) (nI v) (nI p) there fresh fine n v_9 v_8.2.2.1 v_8.1 v_8.2.1 damp' pulls' fats' v_8.2.2.2) = some (fh', ha', pu', damp'', pulls'', fats'', ofK') ∧ (Option.bind (fX11_pullOnce_157 (nI s) (nI p) (nI k) pulled fh ha damp' pulls' fats' ofK) fun v_16 => lt_ (nI i + 1) fun v_17 => LX11_happen_111 (nI s) (nI v) there thick fresh hollow fine m v_17 v_16.1 v_16.2.1 v_16.2.2.1 v_16.2.2.2.2.1 v_16.2.2.2.2.2.1 v_16.2.2.2.1 v_16.2.2.2.2.2.2) = some (pu', fh', ha', there, thick, fresh, pulls'', hollow, fats'', damp'', ofK') ∧ Bd 5 0 20 damp'' ∧ Bd 5 0 (P + (e + 1) : Nat) pulls'' ∧ Bd 40 0 60 fats'' ∧ TI (Q + (e + 1)) pu' fh' ofK' := by
          intro fh2 ha2 a1 a2 a3
          rw [a1, a2, bd_s, bd_s]
          simp only [lt_e, nI_1]
          obtain ⟨⟨t1, t2⟩, t3, t4⟩ := ht
          have t5 : (pulled + 1).toInt = pulled.toInt + 1 := t_add (by have := l1; omega) (by have := l1; omega)
          obtain ⟨x1, x2, x3, x4, x5, x6, x7, y1, y2, y3, y4, y5, y6⟩ := ih (i + 1) n m (P + 1) (Q + 1) (pulled + 1) fh2 ha2 damp' pulls' fats' (upd ofK k (ofK k + 1)) (by omega) (by omega) (by omega) (by omega) (by omega) hd' hp' hf' ⟨⟨by omega, by omega⟩, by
            rcases a3 with rfl | rfl
            · exact t3
            · exact Or.inr (by omega), fun j hj => by rw [pk_un (by omega)]; exact t4 j hj⟩
          rw [show P + 1 + e = P + (e + 1) by omega] at y4
          rw [show Q + 1 + e = Q + (e + 1) by omega] at y6
          exact ⟨x1, x2, x3, x4, x5, x6, x7, y1, y2, y3, y4, y5, y6⟩
        have e8 : ∀ y : Option (Int32 × Int32 × Int32 × (Nat → Int32)), (if nI k = (3 : Int32) then if fh = -6 then some (pulled + 1, r, pulled + 1, upd ofK k (ofK k + 1)) else some (fh, ha, pulled + 1, upd ofK k (ofK k + 1)) else some (fh, ha, pulled + 1, upd ofK k (ofK k + 1))) = y → fX8_add (nI k) r pulled fh ha ofK = y := by
          intro y hy
          unfold fX8_add
          simp only [if_neg hin, lt_e, gd_ik (k := k) (n := 5) hk (by omega), cl_nI hk (show 5 < 1000000 by omega)]
          exact hy
        have e11 : ∀ y, (if nI k = (3 : Int32) then if 0 ≤ fh then some (pulled + 1, fh, ha, damp', pulls', fats', upd ofK k (ofK k + 1)) else some (pulled + 1, pulled + 1, oi (gw (row s fats') (nI p) 8), damp', pulls', fats', upd ofK k (ofK k + 1)) else some (pulled + 1, fh, ha, damp', pulls', fats', upd ofK k (ofK k + 1))) = y → fX11_pullOnce_157 (nI s) (nI p) (nI k) pulled fh ha damp' pulls' fats' ofK = y := by
          intro y hy
          unfold fX11_pullOnce_157
          rw [f11on s hs (nI p) fats' hf']
          simp only [bd_s, lt_e, gd_ik (k := k) (n := 5) hk (by omega), cl_nI hk (show 5 < 1000000 by omega)]
          exact hy
        by_cases k3 : nI k = (3 : Int32)
        · have ek : k = 3 := (nI_eq (by omega) (by omega)).mp k3
          have er := g2 (hg ek)
          by_cases f6 : fh = -6
          · refine goal (pulled + 1) r (e8 _ ?_) (e11 _ ?_) (Or.inr rfl)
            · rw [if_pos k3, if_pos f6]
            · rw [if_pos k3, if_neg (by rw [f6]; decide), er]
          · refine goal fh ha (e8 _ ?_) (e11 _ ?_) (Or.inl rfl)
            · rw [if_pos k3, if_neg f6]
            · rw [if_pos k3, if_pos]
              have := ht.2.1.resolve_left f6
              rw [t_le]; exact this
        · refine goal fh ha (e8 _ ?_) (e11 _ ?_) (Or.inl rfl)
          · rw [if_neg k3]
          · rw [if_neg k3]
end
