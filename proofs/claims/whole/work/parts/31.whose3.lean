theorem G_ok {flat least size shown : Int32} {drawn pull shows deep fine pay hair : Nat → Int32} (h : InvG size shown drawn pull shows) (hr : InvR flat least deep fine pay hair) : ∃ l u : Nat → Nat, (∀ f, 1 ≤ l f) ∧ (∀ f, l f ≤ 20) ∧ (∀ f, u f ≤ 20) ∧ (∀ f, f < 8 → fX4_countTwos (nI f) size shown drawn pull deep fine = some (nI (cn l u f))) ∧ (∀ f, f < 8 → fX4_fewestMinutes (nI f) size shown drawn pull deep fine = some (nI (l f))) ∧ (∀ f, f < 8 → fX4_mostMinutes (nI f) size shown drawn pull deep fine = some (nI (u f))) ∧ (∀ f, f < 8 → ∀ g, 1 ≤ g → g ≤ 20 → fX11_fits (nI f) (nI g) size drawn pull deep fine shows = some (if l f ≤ g ∧ g ≤ u f then 1 else 0)) := by
  obtain ⟨h1, h2, h3, h4, h5, h6⟩ := h
  obtain ⟨r1, r2, r3, r4, r5, r6⟩ := hr
  obtain ⟨k, hk, rfl⟩ := t_of (x := size) (n := 9) h1.1 (by omega) (by omega)
  have A : ∀ f, f < 8 → fX4_fewestMinutes (nI f) (nI k) shown drawn pull deep fine = some (nI (lo deep fine drawn pull shows f k)) := fun f hf => (Llo k f shown deep fine drawn pull shows (by omega) hf r3 r4 h2 h3 h4 h6 2000 0 (by omega) (by omega)).1
  have B : ∀ f, f < 8 → fX4_mostMinutes (nI f) (nI k) shown drawn pull deep fine = some (nI (hi deep fine drawn pull shows f k)) := fun f hf => (Llo k f shown deep fine drawn pull shows (by omega) hf r3 r4 h2 h3 h4 h6 2000 0 (by omega) (by omega)).2
  have Q : ∀ f, f < 8 → 1 ≤ lo deep fine drawn pull shows f k ∧ lo deep fine drawn pull shows f k ≤ 20 ∧ hi deep fine drawn pull shows f k ≤ 20 := fun f hf => lohi_le r3 hf k
  refine ⟨fun f => if f < 8 then lo deep fine drawn pull shows f k else 1, fun f => if f < 8 then hi deep fine drawn pull shows f k else 0, fun f => ?_, fun f => ?_, fun f => ?_, fun f hf => ?_, fun f hf => ?_, fun f hf => ?_, fun f hf g g1 g2 => ?_⟩
  · by_cases hf : f < 8
    · simp only [if_pos hf]; exact (Q f hf).1
    · simp only [if_neg hf]; omega
  · by_cases hf : f < 8
    · simp only [if_pos hf]; exact (Q f hf).2.1
    · simp only [if_neg hf]; omega
  · by_cases hf : f < 8
    · simp only [if_pos hf]; exact (Q f hf).2.2
    · simp only [if_neg hf]; omega
  · unfold fX4_countTwos cn
    rw [A f hf, B f hf, bd_s, bd_s, cnt_imax (Q f hf).2.2 (Q f hf).1 (Q f hf).2.1]
    simp only [if_pos hf]
  · rw [A f hf]; simp only [if_pos hf]
  · rw [B f hf]; simp only [if_pos hf]
  · simp only [if_pos hf]
    have := Lfits k f g deep fine drawn pull shows (by omega) hf g1 g2 r3 r4 h2 h3 h4 2000 0 (by omega) (by omega)
    have e0 : fitB deep fine drawn pull shows f g 0 = true := by
      unfold fitB lo hi; rw [decide_eq_true_iff]; omega
    rw [e0] at this
    unfold fX11_fits
    refine Eq.trans this ?_
    unfold fitB
    by_cases c : lo deep fine drawn pull shows f k ≤ g ∧ g ≤ hi deep fine drawn pull shows f k
    · rw [if_pos c, decide_eq_true c]; rfl
    · rw [if_neg c, decide_eq_false c]; rfl
theorem p_whose (x1 flat least size shown : Int32) (drawn pull shows deep fine pay hair : Nat → Int32) (h : InvG size shown drawn pull shows) (hr : InvR flat least deep fine pay hair) : ∃ r : Int32, fX10_whose x1 size shown drawn pull deep fine = some r ∧ fX11_whose x1 size drawn pull deep fine shows = some r := by
  obtain ⟨l, u, a1, a2, a3, a4, a5, a6, a7⟩ := G_ok h hr
  exact Mw0 x1 a1 a2 a3 a4 a5 a7 8 0 2000 1840 (by omega) (by omega) (by omega)
theorem p_suspects (flat least size shown : Int32) (drawn pull shows deep fine pay hair : Nat → Int32) (h : InvG size shown drawn pull shows) (hr : InvR flat least deep fine pay hair) : ∃ r : Int32, fX10_suspects size shown drawn pull deep fine = some r ∧ fX11_suspects size drawn pull deep fine shows = some r := by
  obtain ⟨l, u, a1, a2, a3, a4, a5, a6, a7⟩ := G_ok h hr
  obtain ⟨r, h1, h2, -⟩ := Ms0 a1 a2 a3 a4 a7 8 0 2000 1840 0 (by omega) (by omega) (by omega) (by omega)
  exact ⟨r, h1, h2⟩
theorem p_next (x1 x2 flat least size shown : Int32) (drawn pull shows deep fine pay hair : Nat → Int32) (h : InvG size shown drawn pull shows) (hr : InvR flat least deep fine pay hair) : ∃ r : Int32, fX10_next x1 x2 size shown drawn pull deep fine = some r ∧ fX11_next x1 x2 size drawn pull deep fine shows = some r := by
  unfold fX10_next fX11_next
  rw [in_0_999, in_0_1]
  by_cases c1 : fX10_inside x1 0 999 = 0
  · simp only [if_pos c1]; exact ⟨_, rfl, rfl⟩
  simp only [if_neg c1]
  by_cases c2 : fX10_inside x2 0 1 = 0
  · simp only [if_pos c2]; exact ⟨_, rfl, rfl⟩
  simp only [if_neg c2]
  obtain ⟨n, hn, rfl⟩ := ins_nI (n := 999) c1 rfl (by omega)
  obtain ⟨l, u, a1, a2, a3, a4, a5, a6, a7⟩ := G_ok h hr
  obtain ⟨r1, r2, r3, r4, r5, r6⟩ := hr
  have w20 : ∀ d f, f < 8 → ms deep fine f d n ≤ 20 := fun d f hf => Nat.le_trans (ms_le r3 hf) (by omega)
  have h4 : ∀ j, j < 8 → fX4_mostLeft (nI j) (nI n) size shown drawn pull deep fine = some (nI (ml l u (fun f => ms deep fine f j n))) := fun j hj => L4ml j n _ a1 a2 a3 (w20 j) a4 a5 a6 (fun f hf => ms_eq r3 r4 hf hj hn) 2000 0 (by omega) (by omega)
  have h11 : ∀ j, j < 8 → fX11_mostLeft (nI j) (nI n) size drawn pull deep fine shows = some (nI (ml l u (fun f => ms deep fine f j n))) := fun j hj => M11ml0 j n _ a1 a2 a3 a7 (fun f hf g g1 g2 => shows_eq r3 r4 hf hj hn g1 g2) 8 0 1840 (by omega) (by omega)
  obtain ⟨r, -, s2, s3⟩ := Ms0 (shown := shown) a1 a2 a3 a4 a7 8 0 2000 1840 0 (by omega) (by omega) (by omega) (by omega)
  have s2' : fX11_suspects size drawn pull deep fine shows = some r := s2
  rw [s2', bd_s]
  have hsm := sm_le a1 a3 8
  have zero_iff : sm l u 8 = 0 ↔ ∀ j, 0 ≤ j → j < 8 → cn l u j = 0 := by
    constructor
    · intro hz j _ hj
      have key : ∀ f, f ≤ 8 → sm l u f ≤ sm l u 8 := by
        intro f hf
        have : ∀ e, sm l u f ≤ sm l u (f + e) := by
          intro e
          induction e with
          | zero => exact Nat.le_refl _
          | succ e ih => exact Nat.le_trans ih (Nat.le_add_right _ _)
        have := this (8 - f)
        rwa [show f + (8 - f) = 8 by omega] at this
      have k1 := key (j + 1) (by omega)
      have k2 : sm l u (j + 1) = sm l u j + cn l u j := rfl
      omega
    · intro hz
      have : ∀ f, f ≤ 8 → sm l u f = 0 := by
        intro f
        induction f with
        | zero => intro _; rfl
        | succ f ih =>
          intro hf
          show sm l u f + cn l u f = 0
          rw [ih (by omega), hz f (by omega) (by omega)]
      exact this 8 (by omega)
  have mlv : ∀ w, ml l u w ≤ 160 ∧ (0 < sm l u 8 → 1 ≤ ml l u w) ∧ (sm l u 8 = 0 → ml l u w = 0) := by
    intro w
    have := ys_le l u w 8
    unfold ml; omega
  have first : ∀ p : Nat, LX10_next_33 (nI n) x2 size shown drawn pull deep fine (p + 1) (-6) 2147483647 0 = LX10_next_33 (nI n) x2 size shown drawn pull deep fine p (nI 0) (nI (ml l u (fun f => ms deep fine f 0 n))) (nI 1) := by
    intro p
    show FX10_next_33 (nI n) x2 size shown drawn pull deep fine (LX10_next_33 (nI n) x2 size shown drawn pull deep fine p) (-6) 2147483647 0 = _
    unfold FX10_next_33
    have e := h4 0 (by omega)
    rw [nI_0] at e
    have m0 := (mlv (fun f => ms deep fine f 0 n)).1
    rw [if_neg (by decide), e, bd_s, if_neg (by rw [t_le, nI_toInt (by omega)]; show ¬ (2147483647 : Int) ≤ _; omega)]
    rfl
  rw [first 1999]
  by_cases c3 : sm l u 8 = 0
  · have er : r = 0 := s3.mpr ⟨rfl, zero_iff.mp c3⟩
    rw [if_pos er]
    have z0 := fun w => (mlv w).2.2 c3
    have stay : ∀ (e d p : Nat), d + e = 8 → e + 1 ≤ p → LX10_next_33 (nI n) x2 size shown drawn pull deep fine p (nI 0) (nI 0) (nI d) = some (-6) := by
      intro e
      induction e with
      | zero =>
        intro d p h1 h2
        have ed : d = 8 := by omega
        subst ed
        cases p with
        | zero => omega
        | succ p =>
          show FX10_next_33 (nI n) x2 size shown drawn pull deep fine (LX10_next_33 (nI n) x2 size shown drawn pull deep fine p) (nI 0) (nI 0) (nI 8) = _
          unfold FX10_next_33
          rw [if_pos (show (8 : Int32) ≤ nI 8 by decide), if_pos (show nI 0 = 0 from rfl)]
      | succ e ih =>
        intro d p h1 h2
        cases p with
        | zero => omega
        | succ p =>
          show FX10_next_33 (nI n) x2 size shown drawn pull deep fine (LX10_next_33 (nI n) x2 size shown drawn pull deep fine p) (nI 0) (nI 0) (nI d) = _
          unfold FX10_next_33
          rw [if_neg (le8 (by omega)), h4 d (by omega), bd_s, z0, if_pos (by decide), lt_e, nI_1]
          exact ih (d + 1) p (by omega) (by omega)
    rw [z0]
    exact ⟨_, stay 7 1 1999 (by omega) (by omega), rfl⟩
  · have er : ¬ r = 0 := fun hr0 => c3 (zero_iff.mpr (s3.mp hr0).2)
    rw [if_neg er]
    exact Lnext x2 n (fun j => ml l u (fun f => ms deep fine f j n)) (fun j _ => ⟨(mlv _).1, (mlv _).2.1 (by omega)⟩) h4 h11 7 1 0 1999 2000 (by omega) (by omega) (by omega) (by omega)
