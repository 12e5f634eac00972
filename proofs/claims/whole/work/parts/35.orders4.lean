section
variable {y : Nat → Nat} {can : Nat → Nat → Bool} {best most allowed pay canL : Nat → Int32}
theorem fd_lt {v : Nat → Option Nat} {x : Nat} : ∀ k, k ≤ 5 → ∀ s, fd v x k = some s → s < 5 := by
  intro k
  induction k with
  | zero => intro _ s h; cases h
  | succ k ih =>
    intro hk s h
    rw [fd] at h
    split at h
    · cases h; omega
    · exact ih (by omega) s h
theorem Lst (hy : ∀ p, y p ≤ 999) (A : Nat → Nat) (hA : ∀ p, p < 8 → A p < 32) (ea : ∀ p, p < 8 → allowed p = nI (A p)) (hc : ∀ p s, p < 8 → s < 5 → (A p).testBit s = can p s) (hc2 : ∀ p s, p < 8 → s < 5 → canL (8 * s + p) = if can p s then 1 else 0) (ey : ∀ p, p < 8 → pay p = nI (y p)) (payR : Nat → Int32) (ey2 : ∀ p, p < 8 → payR p = nI (y p)) (h1 : TR y can 0 0 best) (h2 : TR y can 0 0 most) (w : Nat) (hw : w < 8) : ∀ (e p t n m : Nat) (x3 : Int32), p + e = w + 1 → t < 32 → e + 1 ≤ n → e + 1 ≤ m → ∃ r, LX2_stoneFor_8 (nI w) best allowed pay n (nI t) x3 (nI p) = some r ∧ LX11_orders_90 (nI w) most payR canL m (nI t) x3 (nI p) = some (r, most, canL) := by
  intro e
  induction e with
  | zero =>
    intro p t n m x3 g1 g2 g3 g4
    have ep : p = w + 1 := by omega
    subst ep
    have c : nI w < nI (w + 1) := (nI_ltI (by omega) (by omega)).mpr (by omega)
    cases n with
    | zero => omega
    | succ n =>
      cases m with
      | zero => omega
      | succ m =>
        refine ⟨x3, ?_, ?_⟩
        · show FX2_stoneFor_8 (nI w) best allowed pay (LX2_stoneFor_8 (nI w) best allowed pay n) (nI t) x3 (nI (w + 1)) = _
          unfold FX2_stoneFor_8
          rw [if_pos c]
        · show FX11_orders_90 (nI w) most payR canL (LX11_orders_90 (nI w) most payR canL m) (nI t) x3 (nI (w + 1)) = _
          unfold FX11_orders_90
          rw [if_pos c]
  | succ e ih =>
    intro p t n m x3 g1 g2 g3 g4
    have hp : p < 8 := by omega
    have c : ¬ nI w < nI p := fun z => by rw [nI_ltI (by omega) (by omega)] at z; omega
    have hR1 : ∀ t, t < 32 → best (32 * (p + 1) + t) = nI (BB y can (8 - (p + 1)) t) := fun t ht => h1 (p + 1) t (by omega) ht (Or.inl (by omega))
    have hR2 : ∀ t, t < 32 → most (32 * (p + 1) + t) = nI (BB y can (8 - (p + 1)) t) := fun t ht => h2 (p + 1) t (by omega) ht (Or.inl (by omega))
    have hK : ∀ t, t < 32 → BB y can (8 - (p + 1)) t ≤ 999 * (8 - (p + 1)) := fun t ht => BB_le hy _ t ht
    have hx := BB_le (can := can) hy (8 - p) t g2
    have ex : most (32 * p + t) = nI (BB y can (8 - p) t) := h2 p t (by omega) g2 (Or.inl (by omega))
    have hb := best2 (best := best) (can := can p) hp g2 (hA p hp) (ea p hp) (fun s hs => hc p s hp hs) hR1 hK (by omega) (ey p hp) (hy p)
    rw [← BB_p hp] at hb
    have hf := L2first (best := best) (can := can p) hp g2 (hA p hp) (ea p hp) (fun s hs => hc p s hp hs) hR1 hK (by omega) (ey p hp) (hy p) (BB y can (8 - p) t) (by omega) 2000 5 (by omega) (by omega)
    cases n with
    | zero => omega
    | succ n =>
      cases m with
      | zero => omega
      | succ m =>
        have hm := L103 (most := most) (can := can p) hp g2 (fun s hs => hc2 p s hp hs) hR2 hK (by omega) (ey2 p hp) (hy p) (BB y can (8 - p) t) (by omega) ex (LX11_orders_90 (nI w) most payR canL m) 2000 5 (by omega) (by omega)
        show ∃ r, FX2_stoneFor_8 (nI w) best allowed pay (LX2_stoneFor_8 (nI w) best allowed pay n) (nI t) x3 (nI p) = some r ∧ FX11_orders_90 (nI w) most payR canL (LX11_orders_90 (nI w) most payR canL m) (nI t) x3 (nI p) = some (r, most, canL)
        unfold FX2_stoneFor_8 FX11_orders_90 fX2_firstBest
        have hf' : LX2_firstBest_10 (nI p) (nI t) (nI (BB y can (8 - p) t)) best allowed pay 2000 0 = some (oi (fd (wv (BB y can (8 - (p + 1))) (y p) (can p) t) (BB y can (8 - p) t) 5)) := hf
        have hm' : LX11_orders_103 (nI t) (nI p) most payR canL (LX11_orders_90 (nI w) most payR canL m) 2000 (-6) 4 = _ := hm
        rw [if_neg c, if_neg c, if_neg (le8 hp), hb, bd_s, hf', bd_s, hm']
        simp only [lt_e, nI_1]
        cases hfd : fd (wv (BB y can (8 - (p + 1))) (y p) (can p) t) (BB y can (8 - p) t) 5 with
        | none =>
          rw [if_pos (show oi none = -6 from rfl)]
          exact ih (p + 1) t n m (-6) (by omega) g2 (by omega) (by omega)
        | some s =>
          have hs := fd_lt 5 (by omega) s hfd
          obtain ⟨-, e2, e3⟩ := b5 ⟨t, g2⟩ ⟨s, hs⟩
          dsimp only at e2 e3
          rw [if_neg (show ¬ oi (some s) = -6 from ne_m6 (by omega))]
          show ∃ r, LX2_stoneFor_8 (nI w) best allowed pay n (nI t ||| ((1 : Int32) <<< (nI s &&& 31))) (nI s) (nI (p + 1)) = some r ∧ LX11_orders_90 (nI w) most payR canL m (nI t ||| ((1 : Int32) <<< (nI s &&& 31))) (nI s) (nI (p + 1)) = some (r, most, canL)
          rw [e2]
          exact ih (p + 1) (t ||| 2 ^ s) n m (nI s) (by omega) e3 (by omega) (by omega)
end
