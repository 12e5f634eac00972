def BB (y : Nat → Nat) (can : Nat → Nat → Bool) : Nat → Nat → Nat
  | 0, _ => 0
  | q + 1, t => bt_ (BB y can q) (y (7 - q)) (can (7 - q)) t
theorem BB_le {y : Nat → Nat} {can : Nat → Nat → Bool} (hy : ∀ p, y p ≤ 999) : ∀ q t, t < 32 → BB y can q t ≤ 999 * q := by
  intro q
  induction q with
  | zero => intro t _; exact Nat.le_refl _
  | succ q ih =>
    intro t ht
    have h1 := bt_le (pay := y (7 - q)) (can := can (7 - q)) ih ht
    have h2 := hy (7 - q)
    show bt_ _ _ _ _ ≤ _
    omega
theorem BB_p {y : Nat → Nat} {can : Nat → Nat → Bool} {p : Nat} (hp : p < 8) (t : Nat) : BB y can (8 - p) t = bt_ (BB y can (8 - (p + 1))) (y p) (can p) t := by
  rw [show 8 - p = (7 - p) + 1 by omega, show 8 - (p + 1) = 7 - p by omega]
  show bt_ (BB y can (7 - p)) (y (7 - (7 - p))) (can (7 - (7 - p))) t = _
  rw [show 7 - (7 - p) = p by omega]
def TR (y : Nat → Nat) (can : Nat → Nat → Bool) (c j : Nat) (tab : Nat → Int32) : Prop := ∀ p t, p ≤ 8 → t < 32 → (c ≤ p ∨ (p + 1 = c ∧ t < j)) → tab (32 * p + t) = nI (BB y can (8 - p) t)
section
variable {y : Nat → Nat} {can : Nat → Nat → Bool} {allowed pay canL : Nat → Int32}
theorem TR.put {p t : Nat} {tab : Nat → Int32} (hp : p < 8) (ht : t < 32) (h : TR y can (p + 1) t tab) : TR y can (p + 1) (t + 1) (upd tab (32 * p + t) (nI (BB y can (8 - p) t))) := by
  intro p2 t2 h1 h2 h3
  by_cases e : 32 * p2 + t2 = 32 * p + t
  · have e1 : p2 = p := by omega
    have e2 : t2 = t := by omega
    subst e1; subst e2
    exact pk_us
  · rw [pk_un e]
    refine h p2 t2 h1 h2 ?_
    rcases h3 with h3 | ⟨h3, h4⟩
    · exact Or.inl h3
    · have : t2 ≠ t := fun z => e (by omega)
      exact Or.inr ⟨h3, by omega⟩
theorem le32 {t : Nat} (h : t < 32) : ¬ (32 : Int32) ≤ nI t := by
  rw [show (32 : Int32) = nI 32 from rfl, nI_leI (by omega) (by omega)]; omega
theorem L72 (hy : ∀ p, y p ≤ 999) (A : Nat → Nat) (hA : ∀ p, p < 8 → A p < 32) (ea : ∀ p, p < 8 → allowed p = nI (A p)) (hc : ∀ p s, p < 8 → s < 5 → (A p).testBit s = can p s) (ey : ∀ p, p < 8 → pay p = nI (y p)) (p : Nat) (hp : p < 8) (k64 : Int32 → (Nat → Int32) → Option ((Nat → Int32) × (Nat → Int32) × (Nat → Int32))) : ∀ (n t : Nat) (tab : Nat → Int32), t ≤ 32 → 33 ≤ n + t → TR y can (p + 1) t tab → ∃ tab', LX2_fill_72 (nI p) allowed pay k64 n (nI t) tab = k64 (xm p) tab' ∧ TR y can p 0 tab' := by
  intro n
  induction n with
  | zero => intro t tab h1 h2; omega
  | succ n ih =>
    intro t tab h1 h2 h3
    show ∃ tab', FX2_fill_72 (nI p) allowed pay k64 (LX2_fill_72 (nI p) allowed pay k64 n) (nI t) tab = _ ∧ _
    unfold FX2_fill_72
    by_cases c1 : t = 32
    · subst c1
      rw [if_pos (show (32 : Int32) ≤ nI 32 by decide), lt_e, xm_pred]
      refine ⟨tab, rfl, fun p2 t2 g1 g2 g3 => h3 p2 t2 g1 g2 ?_⟩
      rcases g3 with g3 | ⟨-, g3⟩
      · by_cases e : p2 = p
        · exact Or.inr ⟨by omega, by omega⟩
        · exact Or.inl (by omega)
      · omega
    · have ht : t < 32 := by omega
      have ei : nI p * (32 : Int32) + nI t = nI (32 * p + t) := by rw [show (32 : Int32) = nI 32 from rfl, pk_mul, nI_add, Nat.mul_comm]
      have hb := best2 (best := tab) (can := can p) hp ht (hA p hp) (ea p hp) (fun s hs => hc p s hp hs) (R := BB y can (8 - (p + 1))) (fun t ht => h3 (p + 1) t (by omega) ht (Or.inl (Nat.le_refl _))) (K := 999 * (8 - (p + 1))) (fun t ht => BB_le hy _ t ht) (by omega) (ey p hp) (hy p)
      rw [if_neg (le32 ht), hb, bd_s, gd_ix ei (show 32 * p + t < 288 by omega) (by omega), lt_e, nI_1, ei, cl_nI (n := 288) (by omega) (by omega), ← BB_p hp]
      exact ih (t + 1) _ (by omega) (by omega) (h3.put hp ht)
theorem L64 (hy : ∀ p, y p ≤ 999) (A : Nat → Nat) (hA : ∀ p, p < 8 → A p < 32) (ea : ∀ p, p < 8 → allowed p = nI (A p)) (hc : ∀ p s, p < 8 → s < 5 → (A p).testBit s = can p s) (ey : ∀ p, p < 8 → pay p = nI (y p)) : ∀ (n c : Nat) (tab : Nat → Int32), c ≤ 8 → c + 1 ≤ n → TR y can c 0 tab → ∃ tab', LX2_fill_64 allowed pay n (xm c) tab = some (tab', allowed, pay) ∧ TR y can 0 0 tab' := by
  intro n
  induction n with
  | zero => intro c tab h1 h2; omega
  | succ n ih =>
    intro c tab h1 h2 h3
    show ∃ tab', FX2_fill_64 allowed pay (LX2_fill_64 allowed pay n) (xm c) tab = _ ∧ _
    unfold FX2_fill_64
    cases c with
    | zero => rw [if_pos (by decide)]; exact ⟨tab, rfl, h3⟩
    | succ p =>
      rw [if_neg (show ¬ xm (p + 1) < 0 from nI_pos (by omega))]
      obtain ⟨tab', e1, e2⟩ := L72 hy A hA ea hc ey p (by omega) (LX2_fill_64 allowed pay n) 2000 0 tab (by omega) (by omega) h3
      rw [nI_0] at e1
      rw [show xm (p + 1) = nI p from rfl, e1]
      exact ih p tab' (by omega) (by omega) e2
theorem L161 (hy : ∀ p, y p ≤ 999) (hc : ∀ p s, p < 8 → s < 5 → canL (8 * s + p) = if can p s then 1 else 0) (ey : ∀ p, p < 8 → pay p = nI (y p)) (p : Nat) (hp : p < 8) (k154 : Int32 → (Nat → Int32) → Option ((Nat → Int32) × (Nat → Int32))) : ∀ (n t : Nat) (tab : Nat → Int32), t ≤ 32 → 33 ≤ n + t → TR y can (p + 1) t tab → ∃ tab', LX11_layOrders_161 (nI p) pay canL k154 n (nI t) tab = k154 (xm p) tab' ∧ TR y can p 0 tab' := by
  intro n
  induction n with
  | zero => intro t tab h1 h2; omega
  | succ n ih =>
    intro t tab h1 h2 h3
    show ∃ tab', FX11_layOrders_161 (nI p) pay canL k154 (LX11_layOrders_161 (nI p) pay canL k154 n) (nI t) tab = _ ∧ _
    unfold FX11_layOrders_161
    by_cases c1 : t = 32
    · subst c1
      rw [if_pos (show (32 : Int32) ≤ nI 32 by decide), lt_e, xm_pred]
      refine ⟨tab, rfl, fun p2 t2 g1 g2 g3 => h3 p2 t2 g1 g2 ?_⟩
      rcases g3 with g3 | ⟨-, g3⟩
      · by_cases e : p2 = p
        · exact Or.inr ⟨by omega, by omega⟩
        · exact Or.inl (by omega)
      · omega
    · have ht : t < 32 := by omega
      have ei : (32 : Int32) * nI p + nI t = nI (32 * p + t) := by rw [show (32 : Int32) = nI 32 from rfl, pk_mul, nI_add]
      have hb := best11 (most := tab) (can := can p) hp ht (fun s hs => hc p s hp hs) (R := BB y can (8 - (p + 1))) (fun t ht => h3 (p + 1) t (by omega) ht (Or.inl (Nat.le_refl _))) (K := 999 * (8 - (p + 1))) (fun t ht => BB_le hy _ t ht) (by omega) (ey p hp) (hy p)
      rw [if_neg (le32 ht), hb, bd_s, gd_ix ei (show 32 * p + t < 288 by omega) (by omega), lt_e, nI_1, ei, cl_nI (n := 288) (by omega) (by omega), ← BB_p hp]
      exact ih (t + 1) _ (by omega) (by omega) (h3.put hp ht)
theorem L154 (hy : ∀ p, y p ≤ 999) (hc : ∀ p s, p < 8 → s < 5 → canL (8 * s + p) = if can p s then 1 else 0) (ey : ∀ p, p < 8 → pay p = nI (y p)) : ∀ (n c : Nat) (tab : Nat → Int32), c ≤ 8 → c + 1 ≤ n → TR y can c 0 tab → ∃ tab', LX11_layOrders_154 pay canL n (xm c) tab = some (tab', canL) ∧ TR y can 0 0 tab' := by
  intro n
  induction n with
  | zero => intro c tab h1 h2; omega
  | succ n ih =>
    intro c tab h1 h2 h3
    show ∃ tab', FX11_layOrders_154 pay canL (LX11_layOrders_154 pay canL n) (xm c) tab = _ ∧ _
    unfold FX11_layOrders_154
    cases c with
    | zero => rw [if_pos (by decide)]; exact ⟨tab, rfl, h3⟩
    | succ p =>
      rw [if_neg (show ¬ xm (p + 1) < 0 from nI_pos (by omega))]
      obtain ⟨tab', e1, e2⟩ := L161 hy hc ey p (by omega) (LX11_layOrders_154 pay canL n) 2000 0 tab (by omega) (by omega) h3
      rw [nI_0] at e1
      rw [show xm (p + 1) = nI p from rfl, e1]
      exact ih p tab' (by omega) (by omega) e2
theorem L128 : ∀ (n t : Nat) (tab : Nat → Int32), t ≤ 32 → 33 ≤ n + t → (∀ j, j < t → tab (256 + j) = 0) → ∃ tab', LX11_layOrders_128 pay canL n (nI t) tab = LX11_layOrders_154 pay canL 2000 (xm 8) tab' ∧ ∀ j, j < 32 → tab' (256 + j) = 0 := by
  intro n
  induction n with
  | zero => intro t tab h1 h2; omega
  | succ n ih =>
    intro t tab h1 h2 h3
    show ∃ tab', FX11_layOrders_128 pay canL (LX11_layOrders_128 pay canL n) (nI t) tab = _ ∧ _
    unfold FX11_layOrders_128
    by_cases c1 : t = 32
    · subst c1
      rw [if_pos (show (32 : Int32) ≤ nI 32 by decide)]
      exact ⟨tab, rfl, h3⟩
    · have ei : (256 : Int32) + nI t = nI (256 + t) := by rw [show (256 : Int32) = nI 256 from rfl, nI_add]
      rw [if_neg (le32 (by omega)), gd_ix ei (show 256 + t < 288 by omega) (by omega), lt_e, nI_1, ei, cl_nI (n := 288) (by omega) (by omega)]
      refine ih (t + 1) _ (by omega) (by omega) (fun j hj => ?_)
      by_cases e : j = t
      · subst e; exact pk_us
      · rw [pk_un (by omega)]; exact h3 j (by omega)
theorem TR8 {tab : Nat → Int32} (h : ∀ j, j < 32 → tab (256 + j) = 0) : TR y can 8 0 tab := by
  intro p t h1 h2 h3
  have e : p = 8 := by omega
  subst e
  exact h t h2
end
