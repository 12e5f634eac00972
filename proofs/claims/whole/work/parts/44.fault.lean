/-! the first fault, and the ACTS where there is none -/
section
variable {n : Nat} {signs : Nat → Int32}
def Lf (n : Nat) (signs : Nat → Int32) (r : Int32) (a' : Nat) (act' much' wher' : Nat → Int32) : Prop := (∃ q, q ≤ 60 ∧ r = nI q) ∨ (r = -6 ∧ ps n signs a' = n ∧ a' ≤ 30 ∧ AR n signs a' act' much' wher')
theorem Lfault (hn : n ≤ 60) : ∀ (e i a f1 f2 : Nat) (act much wher : Nat → Int32), n ≤ i + e → e + 1 ≤ f1 → e + 1 ≤ f2 → i = ps n signs a → i ≤ n → 2 * a ≤ i → AR n signs a act much wher → ∃ (r : Int32) (a' : Nat) (act' much' wher' : Nat → Int32), LX3_firstFault_2 (nI n) signs f1 (nI i) = some r ∧ LX11_fault_9 (nI n) signs f2 0 (nI i) (nI a) act much wher = some (r, nI a', act', much', wher') ∧ Lf n signs r a' act' much' wher' := by
  intro e
  induction e using Nat.strongRecOn with
  | ind e ih =>
    intro i a f1 f2 act much wher h1 h2 h3 h4 h5 h6 h7
    cases f1 with
    | zero => omega
    | succ f1 =>
    by_cases cn : i = n
    · subst cn
      refine ⟨-6, a, act, much, wher, ?_, ?_, Or.inr ⟨rfl, h4.symm, by omega, h7⟩⟩
      · show FX3_firstFault_2 (nI i) signs (LX3_firstFault_2 (nI i) signs f1) (nI i) = _
        unfold FX3_firstFault_2
        rw [if_pos (by rw [t_le]; omega)]
      · rw [fl_end hn f2 (by omega), if_pos rfl]
    have hi : i < n := by omega
    have ha : a < 60 := by omega
    rw [cstep hn hi]
    by_cases c0 : fX10_inside (signs i) 97 101 = 0
    · rw [if_pos c0]
      exact ⟨nI i, a, _, _, _, rfl, fl_bad hn hi f2 (by omega) (ro0n ha c0), Or.inl ⟨i, by omega, rfl⟩⟩
    rw [if_neg c0]
    cases f2 with
    | zero => omega
    | succ f2 =>
    rw [fl_go hn hi f2 (ro0s ha c0) (by decide)]
    have hr := read_eq (signs := signs) hn hi
    by_cases cn1 : i + 1 = n
    · have e1 : sg n signs (i + 1) = 0 := sg_out (by omega)
      rw [e1, if_pos (by decide), if_pos (by decide), if_pos (by decide), if_neg (by decide), cn1, fl_end hn f2 (by omega), if_neg (by decide)]
      exact ⟨nI n, a, _, _, _, rfl, rfl, Or.inl ⟨n, hn, rfl⟩⟩
    have hi1 : i + 1 < n := by omega
    cases f2 with
    | zero => omega
    | succ f2 =>
    have e1 : sg n signs (i + 1) = signs (i + 1) := sg_in hi1
    have hq1 : ps n signs (a + 1) = i + (if th3 (signs (i + 1)) then 3 else 2) := by
      show ps n signs a + _ = _
      rw [← h4, e1]
    rw [c62 hn (by omega) _ rfl, e1]
    rw [e1] at hr
    have two : ∀ (x y : Int32), th3 (signs (i + 1)) = false → GA x y → fX3_readAct (nI i) (nI n) signs = some (y, x, signs i - 97) → fX11_readOn 1 (signs (i + 1)) (nI a) act much (upd wher a (signs i - 97)) = some (0, nI (a + 1), upd act a x, upd much a y, upd wher a (signs i - 97)) → ∃ (r : Int32) (a' : Nat) (act' much' wher' : Nat → Int32), LX3_firstFault_2 (nI n) signs f1 (nI (i + 2)) = some r ∧ LX11_fault_9 (nI n) signs (f2 + 1) 1 (nI (i + 1)) (nI a) act much (upd wher a (signs i - 97)) = some (r, nI a', act', much', wher') ∧ Lf n signs r a' act' much' wher' := by
      intro x y g1 g2 g3 g4
      rw [fl_go hn hi1 f2 g4 (by decide)]
      rw [g1] at hq1
      refine ih (e - 2) (by omega) (i + 2) (a + 1) f1 f2 _ _ _ (by omega) (by omega) (by omega) hq1.symm (by omega) (by omega) (h7.snoc (by omega) g2 (by rw [← h4]; exact g3) _ pk_us (fun k hk => pk_un (by omega)))
    have three : ∀ (due z x y : Int32), th3 (signs (i + 1)) = true → 0 ≤ due → ¬ due = 0 → fX11_readOn 1 (signs (i + 1)) (nI a) act much (upd wher a (signs i - 97)) = some (due, nI a, upd act a z, much, upd wher a (signs i - 97)) → ∀ (b : Prop) [Decidable b], (i + 2 < n → b → ∃ ac mu wh, fX11_readOn due (signs (i + 2)) (nI a) (upd act a z) much (upd wher a (signs i - 97)) = some (-6, nI a, ac, mu, wh)) → (¬ i + 2 < n → b) → (i + 2 < n → ¬ b → ∃ x y, GA x y ∧ fX3_readAct (nI i) (nI n) signs = some (y, x, signs i - 97) ∧ ∃ act', act' a = x ∧ (∀ k, k < a → act' k = act k) ∧ fX11_readOn due (signs (i + 2)) (nI a) (upd act a z) much (upd wher a (signs i - 97)) = some (0, nI (a + 1), act', upd much a y, upd wher a (signs i - 97))) → ∃ (r : Int32) (a' : Nat) (act' much' wher' : Nat → Int32), (if b then some (nI (i + 2)) else LX3_firstFault_2 (nI n) signs f1 (nI (i + 3))) = some r ∧ LX11_fault_9 (nI n) signs (f2 + 1) 1 (nI (i + 1)) (nI a) act much (upd wher a (signs i - 97)) = some (r, nI a', act', much', wher') ∧ Lf n signs r a' act' much' wher' := by
      intro due z x y g1 g2 g3 g4 b _ b1 b2 b3
      rw [fl_go hn hi1 f2 g4 g2]
      rw [g1] at hq1
      by_cases cn2 : i + 2 < n
      · cases f2 with
        | zero => omega
        | succ f2 =>
        by_cases cb : b
        · obtain ⟨ac, mu, wh, g5⟩ := b1 cn2 cb
          rw [if_pos cb]
          exact ⟨nI (i + 2), a, _, _, _, rfl, fl_bad hn cn2 _ (by omega) g5, Or.inl ⟨i + 2, by omega, rfl⟩⟩
        · obtain ⟨x, y, g5, g6, act', g7, g8, g9⟩ := b3 cn2 cb
          rw [if_neg cb, fl_go hn cn2 f2 g9 (by decide)]
          exact ih (e - 3) (by omega) (i + 3) (a + 1) f1 f2 _ _ _ (by omega) (by omega) (by omega) hq1.symm (by omega) (by omega) (h7.snoc (by omega) g5 (by rw [← h4]; exact g6) _ g7 g8)
      · rw [if_pos (b2 cn2)]
        have en : i + 1 + 1 = n := by omega
        rw [en, fl_end hn f2 (by omega), if_neg g3]
        exact ⟨nI n, a, _, _, _, rfl, rfl, Or.inl ⟨n, hn, rfl⟩⟩
    have tt : ∀ z : Int32, z = 111 ∨ z = 120 ∨ z = 119 ∨ z = 43 → fX10_inside z 65 72 = 0 ∧ fX10_inside z 49 57 = 0 ∧ th3 z = true := by
      intro z hz
      rcases hz with rfl | rfl | rfl | rfl <;> decide
    have tdg : ∀ z : Int32, fX3_takesDigit z = 0 ∨ z = 111 ∨ z = 120 ∨ z = 119 := by
      intro z
      unfold fX3_takesDigit
      by_cases q1 : z = 111
      · exact Or.inr (Or.inl q1)
      by_cases q2 : z = 120
      · exact Or.inr (Or.inr (Or.inl q2))
      by_cases q3 : z = 119
      · exact Or.inr (Or.inr (Or.inr q3))
      rw [if_neg q1, if_neg q2, if_neg q3]; exact Or.inl rfl
    have sout : ¬ i + 2 < n → sg n signs (i + 2) = 0 := fun h => sg_out h
    have sin : i + 2 < n → sg n signs (i + 2) = signs (i + 2) := fun h => sg_in h
    by_cases cp : fX10_inside (signs (i + 1)) 65 72 = 0
    · rw [if_pos cp] at hr ⊢
      by_cases cd : fX10_inside (signs (i + 1)) 49 57 = 0
      · rw [if_pos cd] at hr ⊢
        have r1 := ro1x (act := act) (much := much) (wher := upd wher a (signs i - 97)) ha cd cp
        by_cases ct : fX3_takesDigit (signs (i + 1)) = 0
        · rw [if_pos ct, if_pos ct]
          by_cases c43 : signs (i + 1) = 43
          · rw [if_pos c43, if_pos c43]
            rw [if_pos c43] at hr
            refine three 3 3 0 0 ((tt _ (Or.inr (Or.inr (Or.inr c43)))).2.2) (by decide) (by decide) (by rw [r1, c43]; rfl) (fX10_inside (sg n signs (i + 2)) 97 101 = 0) ?_ ?_ ?_
            · intro g1 g2; rw [sin g1] at g2; exact ⟨_, _, _, ro3n g2⟩
            · intro g1; rw [sout g1]; decide
            · intro g1 g2
              rw [sin g1] at g2 hr
              refine ⟨5, signs (i + 2) - 97, ⟨by simp, fun z => absurd z (by decide), fun z => absurd z (by decide)⟩, hr, _, pk_us, fun k hk => ?_, ro3s ha g2⟩
              rw [pk_un (by omega), pk_un (by omega)]
          · rw [if_neg c43]
            have q1 : ¬ signs (i + 1) = 111 := fun z => by rw [z] at ct; exact absurd ct (by decide)
            have q2 : ¬ signs (i + 1) = 120 := fun z => by rw [z] at ct; exact absurd ct (by decide)
            have q3 : ¬ signs (i + 1) = 119 := fun z => by rw [z] at ct; exact absurd ct (by decide)
            rw [if_neg c43, if_neg q1, if_neg q2, if_neg q3] at r1
            exact ⟨nI (i + 1), a, _, _, _, rfl, fl_bad hn hi1 _ (by omega) r1, Or.inl ⟨i + 1, by omega, rfl⟩⟩
        · rw [if_neg ct, if_neg ct]
          have c43 : ¬ signs (i + 1) = 43 := fun z => ct (by rw [z]; decide)
          have hz := (tdg (signs (i + 1))).resolve_left ct
          have fin : ∀ kd : Int32, (kd = 1 ∨ kd = 2 ∨ kd = 3) → th3 (signs (i + 1)) = true → fX11_readOn 1 (signs (i + 1)) (nI a) act much (upd wher a (signs i - 97)) = some (2, nI a, upd act a kd, much, upd wher a (signs i - 97)) → fX3_readAct (nI i) (nI n) signs = some (sg n signs (i + 2) - 48, kd, signs i - 97) → ∃ (r : Int32) (a' : Nat) (act' much' wher' : Nat → Int32), (if fX10_inside (sg n signs (i + 2)) 49 57 = 0 then some (nI (i + 2)) else LX3_firstFault_2 (nI n) signs f1 (nI (i + 3))) = some r ∧ LX11_fault_9 (nI n) signs (f2 + 1) 1 (nI (i + 1)) (nI a) act much (upd wher a (signs i - 97)) = some (r, nI a', act', much', wher') ∧ Lf n signs r a' act' much' wher' := by
            intro kd hkd ht hro hrd
            refine three 2 kd 0 0 ht (by decide) (by decide) hro (fX10_inside (sg n signs (i + 2)) 49 57 = 0) ?_ ?_ ?_
            · intro g1 g2; rw [sin g1] at g2; exact ⟨_, _, _, ro2n g2⟩
            · intro g1; rw [sout g1]; decide
            · intro g1 g2
              rw [sin g1] at g2 hrd
              obtain ⟨q, hq, eq⟩ := dg_of g2
              refine ⟨kd, signs (i + 2) - 48, ⟨by rcases hkd with rfl | rfl | rfl <;> simp, ?_, fun _ => ⟨q, hq, eq⟩⟩, hrd, _, ?_, fun k hk => ?_, ro2d ha g2⟩
              · rcases hkd with rfl | rfl | rfl <;> exact fun z => absurd z (by decide)
              · rw [pk_us, pk_us]
              · rw [pk_un (by omega), pk_un (by omega)]
          rw [if_neg c43] at hr
          rcases hz with z | z | z
          · rw [if_neg (by rw [z]; decide), if_pos z] at hr
            exact fin 1 (Or.inl rfl) (tt _ (Or.inl z)).2.2 (by rw [r1, z]; rfl) hr
          · rw [if_neg (by rw [z]; decide), if_neg (by rw [z]; decide)] at hr
            exact fin 2 (Or.inr (Or.inl rfl)) (tt _ (Or.inr (Or.inl z))).2.2 (by rw [r1, z]; rfl) hr
          · rw [if_pos z] at hr
            exact fin 3 (Or.inr (Or.inr rfl)) (tt _ (Or.inr (Or.inr (Or.inl z)))).2.2 (by rw [r1, z]; rfl) hr
      · rw [if_neg cd] at hr ⊢
        have ct : fX3_takesDigit (signs (i + 1)) = 0 := (tdg (signs (i + 1))).resolve_right (fun z => cd (tt _ (by rcases z with z | z | z <;> simp [z])).2.1)
        have c43 : ¬ signs (i + 1) = 43 := fun z => cd (by rw [z]; decide)
        rw [if_pos ct, if_neg c43]
        obtain ⟨q, hq, eq⟩ := dg_of cd
        exact two 4 (signs (i + 1) - 48) (by unfold th3; rw [if_pos ct, decide_eq_false c43]) ⟨by simp, fun z => absurd z (by decide), fun _ => ⟨q, hq, eq⟩⟩ hr (ro1d ha cd)
    · rw [if_neg cp] at hr ⊢
      have ct : fX3_takesDigit (signs (i + 1)) = 0 := (tdg (signs (i + 1))).resolve_right (fun z => cp (tt _ (by rcases z with z | z | z <;> simp [z])).1)
      have c43 : ¬ signs (i + 1) = 43 := fun z => cp (by rw [z]; decide)
      have cd : fX10_inside (signs (i + 1)) 49 57 = 0 := by
        have := ins_t cp
        have e65 : (65 : Int32).toInt = 65 := rfl
        have e57 : (57 : Int32).toInt = 57 := rfl
        rw [ins_iff]; omega
      rw [if_pos ct, if_neg c43]
      obtain ⟨q, hq, eq⟩ := pc_of cp
      exact two 0 (signs (i + 1) - 65) (by unfold th3; rw [if_pos ct, decide_eq_false c43]) ⟨by simp, fun _ => ⟨q, hq, eq⟩, fun z => absurd z (by decide)⟩ hr (ro1p ha cd cp)
end
theorem p_fault (size : Int32) (signs act much wher : Nat → Int32) (h : InvP size signs) : ∃ (r : Int32) (n a' : Nat) (act' much' wher' : Nat → Int32), size = nI n ∧ n ≤ 60 ∧ fX3_firstFault size signs = some r ∧ fX10_fault size signs = some r ∧ fX11_fault size signs act much wher = some (r, nI a', act', much', wher') ∧ Lf n signs r a' act' much' wher' := by
  obtain ⟨n, hn, rfl⟩ := t_of (x := size) (n := 61) h.1.1 (by have := h.1.2; omega) (by omega)
  obtain ⟨r, a', ac, mu, wh, e1, e2, e3⟩ := Lfault (signs := signs) (n := n) (by omega) n 0 0 2000 2000 act much wher (by omega) (by omega) (by omega) rfl (by omega) (by omega) (fun k hk => by omega)
  rw [nI_0] at e1 e2
  refine ⟨r, n, a', ac, mu, wh, rfl, by omega, e1, ?_, e2, e3⟩
  unfold fX10_fault fX3_firstFault
  rw [e1, bd_s]
