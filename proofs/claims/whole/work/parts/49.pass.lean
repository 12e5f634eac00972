/-! an IMAGE of the reference: 123 numbers in a row -/
def fl (b n : Nat) (L kept : Nat → Int32) : Nat → Int32 := fun j => if b ≤ j ∧ j < b + n then L (j - b) else kept j
theorem fl_0 {b : Nat} {L kept : Nat → Int32} : fl b 0 L kept = kept := by
  funext j; unfold fl; rw [if_neg (by omega)]
theorem fl_up {b n : Nat} {L kept : Nat → Int32} : upd (fl b n L kept) (b + n) (L n) = fl b (n + 1) L kept := by
  funext j
  by_cases e : j = b + n
  · subst e; rw [pk_us]; unfold fl; rw [if_pos (by omega)]; congr 1; omega
  · rw [pk_un e]; unfold fl
    by_cases c : b ≤ j ∧ j < b + n
    · rw [if_pos c, if_pos (by omega)]
    · rw [if_neg c, if_neg (by omega)]
theorem pass_eq {b n : Nat} {L kept : Nat → Int32} {v w t : Int32} (hb : b + n < 280) (e : L n = t) (h0 : w = 0 → kept (b + n) = t) (h1 : ¬ w = 0 → v = t) : fX11_pass v (nI (b + n)) w (fl b n L kept) = some (t, nI (b + (n + 1)), fl b (n + 1) L kept) := by
  unfold fX11_pass
  have ek : fl b n L kept (b + n) = kept (b + n) := by unfold fl; rw [if_neg (by omega)]
  by_cases c : w = 0
  · rw [if_pos c, gd_ix rfl hb (by omega), lt_e, lt_e, nI_1, cl_nI hb (by omega), ek, h0 c, ← e, fl_up, Nat.add_assoc]
  · rw [if_neg c, gd_ix rfl hb (by omega), lt_e, nI_1, cl_nI hb (by omega), h1 c, ← e, fl_up, Nat.add_assoc]
def AG (w : Int32) (N s : Nat) (a T : Nat → Int32) : Prop := (∀ j, j < s ∨ N ≤ j → a j = T j) ∧ (¬ w = 0 → a = T)
theorem AG.up {w : Int32} {N s : Nat} {a T : Nat → Int32} (h : AG w N s a T) : AG w N (s + 1) (upd a s (T s)) T := by
  refine ⟨fun j hj => ?_, fun hw => ?_⟩
  · by_cases e : j = s
    · subst e; exact pk_us
    · rw [pk_un e]; exact h.1 j (by omega)
  · rw [h.2 hw]; exact upd_self
theorem AG.at_ {w : Int32} {N s : Nat} {a T : Nat → Int32} (h : AG w N s a T) (k : Nat) (hw : ¬ w = 0) : a k = T k := by rw [h.2 hw]
theorem AG.fin {w : Int32} {N : Nat} {a T : Nat → Int32} (h : AG w N N a T) : a = T := funext (fun j => h.1 j (by omega))
theorem AG.init {w : Int32} {N : Nat} {a T : Nat → Int32} (h1 : SP N a) (h2 : SP N T) (h3 : ¬ w = 0 → a = T) : AG w N 0 a T := ⟨fun j hj => by rw [h1 j (by omega), h2 j (by omega)], h3⟩
def HL (L : Nat → Int32) (Ts Tf Tl Tn : Int32) (Tth Tho Tda Tfr Tpu Tfa Tde Tfi Tpa Tha Tpi Tpl Tsh : Nat → Int32) : Prop := (L 0 = Ts ∧ L 1 = Tf ∧ L 2 = Tl ∧ L 3 = Tn) ∧ (∀ s, s < 5 → L (4 + 5 * s) = Tth s ∧ L (4 + 5 * s + 1) = Tho s ∧ L (4 + 5 * s + 1 + 1) = Tda s ∧ L (4 + 5 * s + 1 + 1 + 1) = Tfr s ∧ L (4 + 5 * s + 1 + 1 + 1 + 1) = Tpu s) ∧ (∀ k, k < 40 → L (29 + k) = Tfa k) ∧ (∀ p, p < 8 → L (69 + 6 * p) = Tde p ∧ L (69 + 6 * p + 1) = Tfi p ∧ L (69 + 6 * p + 1 + 1) = Tpa p ∧ L (69 + 6 * p + 1 + 1 + 1) = Tpi p ∧ L (69 + 6 * p + 1 + 1 + 1 + 1) = Tpl p ∧ L (69 + 6 * p + 1 + 1 + 1 + 1 + 1) = Tsh p) ∧ ∀ c, c < 6 → L (117 + c) = Tha c
section
variable {L kept : Nat → Int32} {Ts Tf Tl Tn w : Int32} {Tth Tho Tda Tfr Tpu Tfa Tde Tfi Tpa Tha Tpi Tpl Tsh : Nat → Int32} {b : Nat}
theorem L143 (hL : HL L Ts Tf Tl Tn Tth Tho Tda Tfr Tpu Tfa Tde Tfi Tpa Tha Tpi Tpl Tsh) (hb : b + 123 ≤ 280) (hR : w = 0 → ∀ n, n < 123 → kept (b + n) = L n) : ∀ (n k : Nat) (fa : Nat → Int32), k ≤ 40 → 41 ≤ n + k → AG w 40 k fa Tfa → LX11_passStones_143 Ts Tf Tl Tn w Tth Tho Tda Tfr Tpu n (nI k) (nI (b + (29 + k))) (fl b (29 + k) L kept) fa = some (Tf, nI (b + 69), Tl, Tn, Ts, fl b 69 L kept, Tfa, Tth, Tho, Tda, Tfr, Tpu) := by
  intro n
  induction n with
  | zero => intro k fa h1 h2; omega
  | succ n ih =>
    intro k fa h1 h2 h3
    show FX11_passStones_143 Ts Tf Tl Tn w Tth Tho Tda Tfr Tpu (LX11_passStones_143 Ts Tf Tl Tn w Tth Tho Tda Tfr Tpu n) (nI k) (nI (b + (29 + k))) (fl b (29 + k) L kept) fa = _
    unfold FX11_passStones_143
    by_cases c : k = 40
    · subst c
      rw [if_pos (show (40 : Int32) ≤ nI 40 by decide), h3.fin]
    · have hk : k < 40 := by omega
      have e := hL.2.2.1 k hk
      rw [if_neg (le40 hk), gd_ix rfl hk (by omega), cl_nI hk (by omega), pass_eq (by omega) e (fun z => by rw [hR z _ (by omega), e]) (fun z => h3.at_ k z), bd_s, lt_e, nI_1]
      exact ih (k + 1) _ (by omega) (by omega) h3.up
theorem L50 (hL : HL L Ts Tf Tl Tn Tth Tho Tda Tfr Tpu Tfa Tde Tfi Tpa Tha Tpi Tpl Tsh) (hb : b + 123 ≤ 280) (hR : w = 0 → ∀ n, n < 123 → kept (b + n) = L n) (fa : Nat → Int32) (hf : AG w 40 0 fa Tfa) : ∀ (n s : Nat) (a1 a2 a3 a4 a5 : Nat → Int32), s ≤ 5 → 6 ≤ n + s → AG w 5 s a1 Tth → AG w 5 s a2 Tho → AG w 5 s a3 Tda → AG w 5 s a4 Tfr → AG w 5 s a5 Tpu → LX11_passStones_50 Ts Tf Tl Tn w fa n (nI s) (nI (b + (4 + 5 * s))) (fl b (4 + 5 * s) L kept) a1 a2 a3 a4 a5 = some (Tf, nI (b + 69), Tl, Tn, Ts, fl b 69 L kept, Tfa, Tth, Tho, Tda, Tfr, Tpu) := by
  intro n
  induction n with
  | zero => intro s a1 a2 a3 a4 a5 h1 h2; omega
  | succ n ih =>
    intro s a1 a2 a3 a4 a5 h1 h2 g1 g2 g3 g4 g5
    show FX11_passStones_50 Ts Tf Tl Tn w fa (LX11_passStones_50 Ts Tf Tl Tn w fa n) (nI s) (nI (b + (4 + 5 * s))) (fl b (4 + 5 * s) L kept) a1 a2 a3 a4 a5 = _
    unfold FX11_passStones_50
    by_cases c : s = 5
    · subst c
      rw [if_pos (show (5 : Int32) ≤ nI 5 by decide), g1.fin, g2.fin, g3.fin, g4.fin, g5.fin]
      exact L143 hL hb hR 2000 0 fa (by omega) (by omega) hf
    · have hs : s < 5 := by omega
      obtain ⟨e1, e2, e3, e4, e5⟩ := hL.2.1 s hs
      rw [if_neg (le5 hs), gd_ix rfl hs (by omega), cl_nI hs (by omega)]
      rw [pass_eq (by omega) e1 (fun z => by rw [hR z _ (by omega), e1]) (fun z => g1.at_ s z), bd_s]
      dsimp only
      rw [pass_eq (by omega) e2 (fun z => by rw [hR z _ (by omega), e2]) (fun z => g2.at_ s z), bd_s]
      dsimp only
      rw [pass_eq (by omega) e3 (fun z => by rw [hR z _ (by omega), e3]) (fun z => g3.at_ s z), bd_s]
      dsimp only
      rw [pass_eq (by omega) e4 (fun z => by rw [hR z _ (by omega), e4]) (fun z => g4.at_ s z), bd_s]
      dsimp only
      rw [pass_eq (by omega) e5 (fun z => by rw [hR z _ (by omega), e5]) (fun z => g5.at_ s z), bd_s, lt_e, nI_1]
      dsimp only
      have := ih (s + 1) _ _ _ _ _ (by omega) (by omega) g1.up g2.up g3.up g4.up g5.up
      rw [show 4 + 5 * (s + 1) = 4 + 5 * s + 1 + 1 + 1 + 1 + 1 by omega] at this
      exact this
theorem L116 (hL : HL L Ts Tf Tl Tn Tth Tho Tda Tfr Tpu Tfa Tde Tfi Tpa Tha Tpi Tpl Tsh) (hb : b + 123 ≤ 280) (hR : w = 0 → ∀ n, n < 123 → kept (b + n) = L n) : ∀ (n k : Nat) (ha : Nat → Int32), k ≤ 6 → 7 ≤ n + k → AG w 6 k ha Tha → LX11_passAll_116 Ts Tf Tl Tn w Tfa Tth Tho Tda Tfr Tpu Tde Tfi Tpa Tpi Tpl Tsh n (nI k) (nI (b + (117 + k))) (fl b (117 + k) L kept) ha = some (Tf, nI (b + 123), Tl, Tn, Ts, fl b 123 L kept, Tfa, Tth, Tho, Tda, Tfr, Tpu, Tha, Tde, Tfi, Tpa, Tpi, Tpl, Tsh) := by
  intro n
  induction n with
  | zero => intro k ha h1 h2; omega
  | succ n ih =>
    intro k ha h1 h2 h3
    show FX11_passAll_116 Ts Tf Tl Tn w Tfa Tth Tho Tda Tfr Tpu Tde Tfi Tpa Tpi Tpl Tsh (LX11_passAll_116 Ts Tf Tl Tn w Tfa Tth Tho Tda Tfr Tpu Tde Tfi Tpa Tpi Tpl Tsh n) (nI k) (nI (b + (117 + k))) (fl b (117 + k) L kept) ha = _
    unfold FX11_passAll_116 fX11_passAll_137
    by_cases c : k = 6
    · subst c
      rw [if_pos (show (6 : Int32) ≤ nI 6 by decide), h3.fin]
    · have hk : k < 6 := by omega
      have e := hL.2.2.2.2 k hk
      rw [if_neg (show ¬ (6 : Int32) ≤ nI k by rw [show (6 : Int32) = nI 6 from rfl, nI_leI (by omega) (by omega)]; omega), gd_ix rfl hk (by omega), cl_nI hk (by omega), pass_eq (by omega) e (fun z => by rw [hR z _ (by omega), e]) (fun z => h3.at_ k z), bd_s, gd_ik hk (by omega), lt_e, nI_1]
      exact ih (k + 1) _ (by omega) (by omega) h3.up
theorem L6p (hL : HL L Ts Tf Tl Tn Tth Tho Tda Tfr Tpu Tfa Tde Tfi Tpa Tha Tpi Tpl Tsh) (hb : b + 123 ≤ 280) (hR : w = 0 → ∀ n, n < 123 → kept (b + n) = L n) (ha : Nat → Int32) (hh : AG w 6 0 ha Tha) : ∀ (n p : Nat) (a1 a2 a3 a4 a5 a6 : Nat → Int32), p ≤ 8 → 9 ≤ n + p → AG w 8 p a1 Tde → AG w 8 p a2 Tfi → AG w 8 p a3 Tpa → AG w 8 p a4 Tpi → AG w 8 p a5 Tpl → AG w 8 p a6 Tsh → LX11_passAll_6 Ts Tf Tl Tn w Tfa Tth Tho Tda Tfr Tpu ha n (nI p) (nI (b + (69 + 6 * p))) (fl b (69 + 6 * p) L kept) a1 a2 a3 a4 a5 a6 = some (Tf, nI (b + 123), Tl, Tn, Ts, fl b 123 L kept, Tfa, Tth, Tho, Tda, Tfr, Tpu, Tha, Tde, Tfi, Tpa, Tpi, Tpl, Tsh) := by
  intro n
  induction n with
  | zero => intro p a1 a2 a3 a4 a5 a6 h1 h2; omega
  | succ n ih =>
    intro p a1 a2 a3 a4 a5 a6 h1 h2 g1 g2 g3 g4 g5 g6
    show FX11_passAll_6 Ts Tf Tl Tn w Tfa Tth Tho Tda Tfr Tpu ha (LX11_passAll_6 Ts Tf Tl Tn w Tfa Tth Tho Tda Tfr Tpu ha n) (nI p) (nI (b + (69 + 6 * p))) (fl b (69 + 6 * p) L kept) a1 a2 a3 a4 a5 a6 = _
    unfold FX11_passAll_6
    by_cases c : p = 8
    · subst c
      rw [if_pos (show (8 : Int32) ≤ nI 8 by decide), g1.fin, g2.fin, g3.fin, g4.fin, g5.fin, g6.fin]
      exact L116 hL hb hR 2000 0 ha (by omega) (by omega) hh
    · have hp : p < 8 := by omega
      obtain ⟨e1, e2, e3, e4, e5, e6⟩ := hL.2.2.2.1 p hp
      rw [if_neg (le8 hp), gd_ix rfl hp (by omega), cl_nI hp (by omega)]
      rw [pass_eq (by omega) e1 (fun z => by rw [hR z _ (by omega), e1]) (fun z => g1.at_ p z), bd_s]
      unfold fX11_passAll_27
      dsimp only
      rw [gd_ix rfl hp (by omega), gd_ix rfl hp (by omega), cl_nI hp (by omega), pass_eq (by omega) e2 (fun z => by rw [hR z _ (by omega), e2]) (fun z => g2.at_ p z), bd_s]
      unfold fX11_passAll_43
      dsimp only
      rw [gd_ix rfl hp (by omega), gd_ix rfl hp (by omega), cl_nI hp (by omega), pass_eq (by omega) e3 (fun z => by rw [hR z _ (by omega), e3]) (fun z => g3.at_ p z), bd_s]
      unfold fX11_passAll_59
      dsimp only
      rw [gd_ix rfl hp (by omega), gd_ix rfl hp (by omega), cl_nI hp (by omega), pass_eq (by omega) e4 (fun z => by rw [hR z _ (by omega), e4]) (fun z => g4.at_ p z), bd_s]
      unfold fX11_passAll_75
      dsimp only
      rw [gd_ix rfl hp (by omega), gd_ix rfl hp (by omega), cl_nI hp (by omega), pass_eq (by omega) e5 (fun z => by rw [hR z _ (by omega), e5]) (fun z => g5.at_ p z), bd_s]
      unfold fX11_passAll_91
      dsimp only
      rw [gd_ix rfl hp (by omega), gd_ix rfl hp (by omega), cl_nI hp (by omega), pass_eq (by omega) e6 (fun z => by rw [hR z _ (by omega), e6]) (fun z => g6.at_ p z), bd_s]
      unfold fX11_passAll_107
      dsimp only
      rw [gd_ix rfl hp (by omega), cl_nI hp (by omega), lt_e, nI_1]
      have := ih (p + 1) _ _ _ _ _ _ (by omega) (by omega) g1.up g2.up g3.up g4.up g5.up g6.up
      rw [show 69 + 6 * (p + 1) = 69 + 6 * p + 1 + 1 + 1 + 1 + 1 + 1 by omega] at this
      exact this
theorem all_eq (hL : HL L Ts Tf Tl Tn Tth Tho Tda Tfr Tpu Tfa Tde Tfi Tpa Tha Tpi Tpl Tsh) (hb : b + 123 ≤ 280) (hR : w = 0 → ∀ n, n < 123 → kept (b + n) = L n) (s f l n : Int32) (th ho da fr pu fa de fi pa hai pi_ pl_ sh : Nat → Int32) (hs : ¬ w = 0 → s = Ts ∧ f = Tf ∧ l = Tl ∧ n = Tn) (h1 : AG w 5 0 th Tth) (h2 : AG w 5 0 ho Tho) (h3 : AG w 5 0 da Tda) (h4 : AG w 5 0 fr Tfr) (h5 : AG w 5 0 pu Tpu) (h6 : AG w 40 0 fa Tfa) (h7 : AG w 8 0 de Tde) (h8 : AG w 8 0 fi Tfi) (h9 : AG w 8 0 pa Tpa) (h10 : AG w 6 0 hai Tha) (h11 : AG w 8 0 pi_ Tpi) (h12 : AG w 8 0 pl_ Tpl) (h13 : AG w 8 0 sh Tsh) : fX11_passAll s f l n (nI b) w kept fa th ho da fr pu hai de fi pa pi_ pl_ sh = some (Tf, nI (b + 123), Tl, Tn, Ts, fl b 123 L kept, Tfa, Tth, Tho, Tda, Tfr, Tpu, Tha, Tde, Tfi, Tpa, Tpi, Tpl, Tsh) := by
  have hL0 := hL.1
  obtain ⟨e1, e2, e3, e4⟩ := hL0
  unfold fX11_passAll fX11_passStones
  have p1 := pass_eq (b := b) (n := 0) (v := s) (w := w) (kept := kept) (by omega) e1 (fun z => by rw [hR z _ (by omega), e1]) (fun z => (hs z).1)
  rw [fl_0, Nat.add_zero] at p1
  rw [p1, bd_s]
  dsimp only
  rw [pass_eq (by omega) e2 (fun z => by rw [hR z _ (by omega), e2]) (fun z => (hs z).2.1), bd_s]
  dsimp only
  rw [pass_eq (by omega) e3 (fun z => by rw [hR z _ (by omega), e3]) (fun z => (hs z).2.2.1), bd_s]
  dsimp only
  rw [pass_eq (by omega) e4 (fun z => by rw [hR z _ (by omega), e4]) (fun z => (hs z).2.2.2), bd_s]
  dsimp only
  have q1 := L50 hL hb hR fa h6 2000 0 th ho da fr pu (by omega) (by omega) h1 h2 h3 h4 h5
  rw [nI_0, show 4 + 5 * 0 = 3 + 1 from rfl] at q1
  rw [q1, bd_s]
  unfold fX11_passAll_4
  dsimp only
  have q2 := L6p hL hb hR hai h10 2000 0 de fi pa pi_ pl_ sh (by omega) (by omega) h7 h8 h9 h11 h12 h13
  rw [nI_0, show 69 + 6 * 0 = 69 from rfl] at q2
  exact q2
end
