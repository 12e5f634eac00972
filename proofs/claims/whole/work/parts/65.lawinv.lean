/-! what holds between two calls of the law -/
theorem InvS.up {P P' : Nat} {t : Int32} {a b c d e f : Nat → Int32} (h : InvS P t a b c d e f) (hp : P ≤ P') : InvS P' t a b c d e f := by
  obtain ⟨i1, i2, i3, i4, i5, i6, i7⟩ := h
  exact ⟨i1, i2, i3, i4, i5, i6.le (by omega), i7⟩
def IM (P : Nat) (kept : Nat → Int32) (k : Nat) (gk : Option Nat) (ik : Int32) (i : Option ImT) : Prop := match i with
  | none => gk = none ∧ ik = 0
  | some (w, sc, ar) => gk = some (w 0) ∧ ik = 1 ∧ InvS P (sc 0) (ar 0) (ar 1) (ar 2) (ar 3) (ar 4) (ar 5) ∧ InvR (sc 1) (sc 2) (ar 6) (ar 7) (ar 8) (ar 9) ∧ ∃ shows L : Nat → Int32, InvG (sc 3) (sc 4) (ar 10) (ar 11) shows ∧ HL L (sc 0) (sc 1) (sc 2) (sc 3) (ar 0) (ar 1) (ar 2) (ar 3) (ar 4) (ar 5) (ar 6) (ar 7) (ar 8) (ar 9) (ar 10) (ar 11) shows ∧ ∀ n, n < 123 → kept (140 * k + n) = L n
theorem IM.up {P P' : Nat} {kept : Nat → Int32} {k : Nat} {gk : Option Nat} {ik : Int32} {i : Option ImT} (h : IM P kept k gk ik i) (hp : P ≤ P') : IM P' kept k gk ik i := by
  unfold IM at h ⊢
  match i, h with
  | none, h => exact h
  | some (w, sc, ar), h => exact ⟨h.1, h.2.1, h.2.2.1.up hp, h.2.2.2⟩
theorem IM.off {P : Nat} {kept kept' : Nat → Int32} {k : Nat} {gk : Option Nat} {ik : Int32} {i : Option ImT} (h : IM P kept k gk ik i) (hk : ∀ n, n < 123 → kept' (140 * k + n) = kept (140 * k + n)) : IM P kept' k gk ik i := by
  unfold IM at h ⊢
  match i, h with
  | none, h => exact h
  | some (w, sc, ar), h =>
    obtain ⟨h1, h2, h3, h4, sh, L, h5, h6, h7⟩ := h
    exact ⟨h1, h2, h3, h4, sh, L, h5, h6, fun n hn => by rw [hk n hn]; exact h7 n hn⟩
def LI (P : Nat) (there flat least gsize shown size : Int32) (thick hollow damp fresh pulls fats deep fine pay hair drawn pull signs t_deep t_fine t_pay t_hair t_thick t_hollow t_damp t_fresh t_pulls t_fats t_ofK best shows kindM kept isK : Nat → Int32) (g : Nat → Option Nat) (i0 i1 : Option ImT) : Prop := InvS P there thick hollow damp fresh pulls fats ∧ InvR flat least deep fine pay hair ∧ InvG gsize shown drawn pull shows ∧ InvP size signs ∧ TS t_deep t_fine t_pay t_hair t_thick t_hollow t_damp t_fresh t_pulls t_fats t_ofK ∧ SP 5 kindM ∧ (∀ j, j < 32 → best (256 + j) = 0) ∧ IM P kept 0 (g 0) (isK 0) i0 ∧ IM P kept 1 (g 1) (isK 1) i1
/-! the reference's row of an image, as a function of its places -/
def lay (Ts Tf Tl Tn : Int32) (Tth Tho Tda Tfr Tpu Tfa Tde Tfi Tpa Tha Tpi Tpl Tsh : Nat → Int32) : Nat → Int32 := fun n =>
  if n = 0 then Ts else if n = 1 then Tf else if n = 2 then Tl else if n = 3 then Tn else if n < 29 then
    (if (n - 4) % 5 = 0 then Tth ((n - 4) / 5) else if (n - 4) % 5 = 1 then Tho ((n - 4) / 5) else if (n - 4) % 5 = 2 then Tda ((n - 4) / 5) else if (n - 4) % 5 = 3 then Tfr ((n - 4) / 5) else Tpu ((n - 4) / 5))
  else if n < 69 then Tfa (n - 29) else if n < 117 then
    (if (n - 69) % 6 = 0 then Tde ((n - 69) / 6) else if (n - 69) % 6 = 1 then Tfi ((n - 69) / 6) else if (n - 69) % 6 = 2 then Tpa ((n - 69) / 6) else if (n - 69) % 6 = 3 then Tpi ((n - 69) / 6) else if (n - 69) % 6 = 4 then Tpl ((n - 69) / 6) else Tsh ((n - 69) / 6))
  else Tha (n - 117)
theorem lay_ok (Ts Tf Tl Tn : Int32) (Tth Tho Tda Tfr Tpu Tfa Tde Tfi Tpa Tha Tpi Tpl Tsh : Nat → Int32) : HL (lay Ts Tf Tl Tn Tth Tho Tda Tfr Tpu Tfa Tde Tfi Tpa Tha Tpi Tpl Tsh) Ts Tf Tl Tn Tth Tho Tda Tfr Tpu Tfa Tde Tfi Tpa Tha Tpi Tpl Tsh := by
  refine ⟨⟨rfl, rfl, rfl, rfl⟩, fun s hs => ?_, fun k hk => ?_, fun p hp => ?_, fun c hc => ?_⟩
  · refine ⟨?_, ?_, ?_, ?_, ?_⟩
    · unfold lay; rw [if_neg (by omega), if_neg (by omega), if_neg (by omega), if_neg (by omega), if_pos (by omega), if_pos (by omega)]; congr 1; omega
    · unfold lay; rw [if_neg (by omega), if_neg (by omega), if_neg (by omega), if_neg (by omega), if_pos (by omega), if_neg (by omega), if_pos (by omega)]; congr 1; omega
    · unfold lay; rw [if_neg (by omega), if_neg (by omega), if_neg (by omega), if_neg (by omega), if_pos (by omega), if_neg (by omega), if_neg (by omega), if_pos (by omega)]; congr 1; omega
    · unfold lay; rw [if_neg (by omega), if_neg (by omega), if_neg (by omega), if_neg (by omega), if_pos (by omega), if_neg (by omega), if_neg (by omega), if_neg (by omega), if_pos (by omega)]; congr 1; omega
    · unfold lay; rw [if_neg (by omega), if_neg (by omega), if_neg (by omega), if_neg (by omega), if_pos (by omega), if_neg (by omega), if_neg (by omega), if_neg (by omega), if_neg (by omega)]; congr 1; omega
  · unfold lay; rw [if_neg (by omega), if_neg (by omega), if_neg (by omega), if_neg (by omega), if_neg (by omega), if_pos (by omega)]; congr 1; omega
  · refine ⟨?_, ?_, ?_, ?_, ?_, ?_⟩
    · unfold lay; rw [if_neg (by omega), if_neg (by omega), if_neg (by omega), if_neg (by omega), if_neg (by omega), if_neg (by omega), if_pos (by omega), if_pos (by omega)]; congr 1; omega
    · unfold lay; rw [if_neg (by omega), if_neg (by omega), if_neg (by omega), if_neg (by omega), if_neg (by omega), if_neg (by omega), if_pos (by omega), if_neg (by omega), if_pos (by omega)]; congr 1; omega
    · unfold lay; rw [if_neg (by omega), if_neg (by omega), if_neg (by omega), if_neg (by omega), if_neg (by omega), if_neg (by omega), if_pos (by omega), if_neg (by omega), if_neg (by omega), if_pos (by omega)]; congr 1; omega
    · unfold lay; rw [if_neg (by omega), if_neg (by omega), if_neg (by omega), if_neg (by omega), if_neg (by omega), if_neg (by omega), if_pos (by omega), if_neg (by omega), if_neg (by omega), if_neg (by omega), if_pos (by omega)]; congr 1; omega
    · unfold lay; rw [if_neg (by omega), if_neg (by omega), if_neg (by omega), if_neg (by omega), if_neg (by omega), if_neg (by omega), if_pos (by omega), if_neg (by omega), if_neg (by omega), if_neg (by omega), if_neg (by omega), if_pos (by omega)]; congr 1; omega
    · unfold lay; rw [if_neg (by omega), if_neg (by omega), if_neg (by omega), if_neg (by omega), if_neg (by omega), if_neg (by omega), if_pos (by omega), if_neg (by omega), if_neg (by omega), if_neg (by omega), if_neg (by omega), if_neg (by omega)]; congr 1; omega
  · unfold lay; rw [if_neg (by omega), if_neg (by omega), if_neg (by omega), if_neg (by omega), if_neg (by omega), if_neg (by omega), if_neg (by omega)]; congr 1; omega
theorem fl_in {b n : Nat} {L kept : Nat → Int32} {j : Nat} (h : j < n) : fl b n L kept (b + j) = L j := by
  unfold fl; rw [if_pos (by omega)]; congr 1; omega
theorem fl_out {b n : Nat} {L kept : Nat → Int32} {j : Nat} (h : ¬ (b ≤ j ∧ j < b + n)) : fl b n L kept j = kept j := by
  unfold fl; rw [if_neg h]
theorem fl_same {b n : Nat} {L kept : Nat → Int32} (h : ∀ j, j < n → kept (b + j) = L j) : fl b n L kept = kept := by
  funext j; unfold fl; split
  · rw [← h (j - b) (by omega)]; congr 1; omega
  · rfl
theorem in1_nI {k : Nat} (hk : k < 2) : ¬ fX10_inside (nI k) 0 1 = 0 := by
  rw [ins_iff, nI_toInt (by omega)]
  show ¬ ¬ ((0 : Int) ≤ _ ∧ _ ≤ (1 : Int)); omega
theorem image11 {P : Nat} {there flat least gsize shown : Int32} {thick hollow damp fresh pulls fats deep fine pay hair drawn pull shows : Nat → Int32} (hS : InvS P there thick hollow damp fresh pulls fats) (hR : InvR flat least deep fine pay hair) (hG : InvG gsize shown drawn pull shows) (k : Nat) (hk : k < 2) (keptAt isW : Int32) (kept isK : Nat → Int32) : ∃ kept' : Nat → Int32, fX11_image (nI k) there flat least gsize keptAt isW kept fats thick hollow damp fresh pulls hair deep fine pay drawn pull shows isK = some (1, flat, 1, nI (140 * k + 123), least, gsize, there, kept', fats, thick, hollow, damp, fresh, pulls, hair, deep, fine, pay, drawn, pull, shows, upd isK k 1) ∧ (∃ L, HL L there flat least gsize thick hollow damp fresh pulls fats deep fine pay hair drawn pull shows ∧ ∀ n, n < 123 → kept' (140 * k + n) = L n) ∧ ∀ j, ¬ (140 * k ≤ j ∧ j < 140 * k + 123) → kept' j = kept j := by
  have hL := lay_ok there flat least gsize thick hollow damp fresh pulls fats deep fine pay hair drawn pull shows
  obtain ⟨-, i2, i3, i4, i5, i6, i7⟩ := hS
  obtain ⟨-, -, r3, r4, r5, r6⟩ := hR
  obtain ⟨-, g2, g3, g4, -⟩ := hG
  refine ⟨fl (140 * k) 123 (lay there flat least gsize thick hollow damp fresh pulls fats deep fine pay hair drawn pull shows) kept, ?_, ⟨_, hL, fun n hn => fl_in hn⟩, fun j hj => fl_out hj⟩
  have ag : ∀ {N : Nat} {a : Nat → Int32}, SP N a → AG 1 N 0 a a := fun h => AG.init h h (fun _ => rfl)
  have e := all_eq hL (w := 1) (b := 140 * k) (kept := kept) (by omega) (fun z => absurd z (by decide)) there flat least gsize thick hollow damp fresh pulls fats deep fine pay hair drawn pull shows (fun _ => ⟨rfl, rfl, rfl, rfl⟩) (ag i2.2) (ag i3.2) (ag i4.2) (ag i5.1.2) (ag i6.2) (ag i7.2) (ag r3.2) (ag r4.2) (ag r5.2) (ag r6.2) (ag g2.2) (ag g3.2) (ag g4.2)
  unfold fX11_image
  rw [in_0_1, if_neg (in1_nI hk), show (140 : Int32) = nI 140 from rfl, pk_mul, lt_e, e, bd_s, gd_ix rfl hk (by omega), cl_nI hk (by omega)]
  rfl
theorem image11_out {x1 : Int32} (h : fX10_inside x1 0 1 = 0) (there flat least gsize keptAt isW : Int32) (kept fats thick hollow damp fresh pulls hair deep fine pay drawn pull shows isK : Nat → Int32) : fX11_image x1 there flat least gsize keptAt isW kept fats thick hollow damp fresh pulls hair deep fine pay drawn pull shows isK = some (-2, flat, isW, keptAt, least, gsize, there, kept, fats, thick, hollow, damp, fresh, pulls, hair, deep, fine, pay, drawn, pull, shows, isK) := by
  unfold fX11_image
  rw [in_0_1, if_pos h]
theorem restore11_out {x1 : Int32} (h : fX10_inside x1 0 1 = 0) (there flat least gsize keptAt isW : Int32) (kept fats thick hollow damp fresh pulls hair deep fine pay drawn pull shows isK : Nat → Int32) : fX11_restore x1 there flat least gsize keptAt isW isK kept fats thick hollow damp fresh pulls hair deep fine pay drawn pull shows = some (-2, flat, isW, keptAt, least, gsize, there, kept, fats, thick, hollow, damp, fresh, pulls, hair, deep, fine, pay, drawn, pull, shows) := by
  unfold fX11_restore
  rw [in_0_1, if_pos h]
theorem restore11_none {k : Nat} (hk : k < 2) (there flat least gsize keptAt isW : Int32) (kept fats thick hollow damp fresh pulls hair deep fine pay drawn pull shows isK : Nat → Int32) (h : isK k = 0) : fX11_restore (nI k) there flat least gsize keptAt isW isK kept fats thick hollow damp fresh pulls hair deep fine pay drawn pull shows = some (-3, flat, isW, keptAt, least, gsize, there, kept, fats, thick, hollow, damp, fresh, pulls, hair, deep, fine, pay, drawn, pull, shows) := by
  unfold fX11_restore
  rw [in_0_1, if_neg (in1_nI hk), gd_ix rfl hk (by omega), cl_nI hk (by omega), if_pos h]
theorem restore11 {P P' : Nat} {there flat least gsize shown k_there k_flat k_least k_gsize k_shown : Int32} {thick hollow damp fresh pulls fats deep fine pay hair drawn pull shows k_thick k_hollow k_damp k_fresh k_pulls k_fats k_deep k_fine k_pay k_hair k_drawn k_pull k_shows L : Nat → Int32} (hS : InvS P there thick hollow damp fresh pulls fats) (hR : InvR flat least deep fine pay hair) (hG : InvG gsize shown drawn pull shows) (kS : InvS P' k_there k_thick k_hollow k_damp k_fresh k_pulls k_fats) (kR : InvR k_flat k_least k_deep k_fine k_pay k_hair) (kG : InvG k_gsize k_shown k_drawn k_pull k_shows) (hL : HL L k_there k_flat k_least k_gsize k_thick k_hollow k_damp k_fresh k_pulls k_fats k_deep k_fine k_pay k_hair k_drawn k_pull k_shows) (k : Nat) (hk : k < 2) (keptAt isW : Int32) (kept isK : Nat → Int32) (h1 : isK k = 1) (h2 : ∀ n, n < 123 → kept (140 * k + n) = L n) : fX11_restore (nI k) there flat least gsize keptAt isW isK kept fats thick hollow damp fresh pulls hair deep fine pay drawn pull shows = some (1, k_flat, 0, nI (140 * k + 123), k_least, k_gsize, k_there, kept, k_fats, k_thick, k_hollow, k_damp, k_fresh, k_pulls, k_hair, k_deep, k_fine, k_pay, k_drawn, k_pull, k_shows) := by
  obtain ⟨-, i2, i3, i4, i5, i6, i7⟩ := hS
  obtain ⟨-, -, r3, r4, r5, r6⟩ := hR
  obtain ⟨-, g2, g3, g4, -⟩ := hG
  obtain ⟨-, j2, j3, j4, j5, j6, j7⟩ := kS
  obtain ⟨-, -, s3, s4, s5, s6⟩ := kR
  obtain ⟨-, f2, f3, f4, -⟩ := kG
  have ag : ∀ {N : Nat} {a T : Nat → Int32}, SP N a → SP N T → AG 0 N 0 a T := fun h h' => AG.init h h' (fun z => absurd rfl z)
  have e := all_eq hL (w := 0) (b := 140 * k) (kept := kept) (by omega) (fun _ => h2) there flat least gsize thick hollow damp fresh pulls fats deep fine pay hair drawn pull shows (fun z => absurd rfl z) (ag i2.2 j2.2) (ag i3.2 j3.2) (ag i4.2 j4.2) (ag i5.1.2 j5.1.2) (ag i6.2 j6.2) (ag i7.2 j7.2) (ag r3.2 s3.2) (ag r4.2 s4.2) (ag r5.2 s5.2) (ag r6.2 s6.2) (ag g2.2 f2.2) (ag g3.2 f3.2) (ag g4.2 f4.2)
  rw [fl_same h2] at e
  unfold fX11_restore
  rw [in_0_1, if_neg (in1_nI hk), gd_ix rfl hk (by omega), cl_nI hk (by omega), if_neg (by rw [h1]; decide), show (140 : Int32) = nI 140 from rfl, pk_mul, lt_e, e, bd_s]
theorem L5init : ∀ (n p : Nat) (a b c : Nat → Int32), p ≤ 8 → 9 ≤ n + p → SP 8 a → SP 8 b → SP 8 c → (∀ j, j < p → a j = 30 ∧ b j = 5 ∧ c j = 10) → ∃ r, LX5_init n (nI p) a b c = some r ∧ LX11_init n (nI p) a b c = some r ∧ Bd 8 1 60 r.1 ∧ Bd 8 1 9 r.2.1 ∧ Bd 8 0 999 r.2.2 := by
  intro n
  induction n with
  | zero => intro p a b c h1 h2; omega
  | succ n ih =>
    intro p a b c h1 h2 h3 h4 h5 h6
    have u5 : LX5_init (n + 1) (nI p) a b c = FX5_init (LX5_init n) (nI p) a b c := rfl
    have u11 : LX11_init (n + 1) (nI p) a b c = FX11_init (LX11_init n) (nI p) a b c := rfl
    rw [u5, u11]
    unfold FX5_init FX11_init
    by_cases c1 : p = 8
    · subst c1
      rw [if_pos (show (8 : Int32) ≤ nI 8 by decide), if_pos (show (8 : Int32) ≤ nI 8 by decide)]
      refine ⟨_, rfl, rfl, ⟨fun j hj => ?_, h3⟩, ⟨fun j hj => ?_, h4⟩, ⟨fun j hj => ?_, h5⟩⟩
      · show 1 ≤ (a j).toInt ∧ (a j).toInt ≤ 60
        rw [(h6 j hj).1]; decide
      · show 1 ≤ (b j).toInt ∧ (b j).toInt ≤ 9
        rw [(h6 j hj).2.1]; decide
      · show 0 ≤ (c j).toInt ∧ (c j).toInt ≤ 999
        rw [(h6 j hj).2.2]; decide
    · have hp : p < 8 := by omega
      rw [if_neg (le8 hp), if_neg (le8 hp), gd_ix rfl hp (by omega), gd_ix rfl hp (by omega), lt_e, lt_e, nI_1, cl_nI hp (by omega)]
      refine ih (p + 1) _ _ _ (by omega) (by omega) (fun j hj => ?_) (fun j hj => ?_) (fun j hj => ?_) (fun j hj => ?_)
      · rw [pk_un (by omega)]; exact h3 j hj
      · rw [pk_un (by omega)]; exact h4 j hj
      · rw [pk_un (by omega)]; exact h5 j hj
      · by_cases e : j = p
        · subst e; rw [pk_us, pk_us, pk_us]; exact ⟨rfl, rfl, rfl⟩
        · rw [pk_un e, pk_un e, pk_un e]; exact h6 j (by omega)
theorem init_eq : ∃ r, fX5_init = some r ∧ fX11_init = some r ∧ Bd 8 1 60 r.1 ∧ Bd 8 1 9 r.2.1 ∧ Bd 8 0 999 r.2.2 := by
  have := L5init 2000 0 (fun _ => 0) (fun _ => 0) (fun _ => 0) (by omega) (by omega) (fun _ _ => rfl) (fun _ _ => rfl) (fun _ _ => rfl) (fun j hj => by omega)
  rw [nI_0] at this
  exact this
/-! worlds in another order -/
theorem pm_A {α : Type} (X Y R Z : List α) : (X ++ (Y ++ (R ++ Z))).Perm ((X ++ R) ++ (Y ++ Z)) := by
  rw [List.append_assoc]; exact (List.perm_append_comm_assoc Y R Z).append_left X
theorem pm_B {α : Type} (X Y R Z : List α) : (X ++ (Y ++ (Z ++ R))).Perm ((X ++ R) ++ (Y ++ Z)) := by
  rw [List.append_assoc, ← List.append_assoc Y Z R]; exact (List.perm_append_comm).append_left X
theorem pm_A' {α : Type} (X Y R Z : List α) : (Y ++ ((X ++ R) ++ Z)).Perm (X ++ (Y ++ (R ++ Z))) := by
  rw [List.append_assoc]; exact List.perm_append_comm_assoc Y X (R ++ Z)
theorem pm_B' {α : Type} (X Y R Z : List α) : (Y ++ ((X ++ R) ++ Z)).Perm (X ++ (Y ++ (Z ++ R))) :=
  (pm_A' X Y R Z).trans (((List.perm_append_comm).append_left Y).append_left X)
