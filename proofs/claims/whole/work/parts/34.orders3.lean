/-! the STONE of a PICTURE in the first best row -/
def fd (v : Nat → Option Nat) (x : Nat) : Nat → Option Nat
  | 0 => none
  | k + 1 => if v (4 - k) = some x then some (4 - k) else fd v x k
section
variable {best allowed pay most canL : Nat → Int32} {R : Nat → Nat} {p t y A K : Nat} {can : Nat → Bool}
theorem L2first (hp : p < 8) (ht : t < 32) (hA : A < 32) (ea : allowed p = nI A) (hc : ∀ s, s < 5 → A.testBit s = can s) (hR : ∀ t, t < 32 → best (32 * (p + 1) + t) = nI (R t)) (hK : ∀ t, t < 32 → R t ≤ K) (hK2 : K ≤ 9000) (ey : pay p = nI y) (hy : y ≤ 999) (x : Nat) (hx : x ≤ 10000) : ∀ (n k : Nat), k ≤ 5 → k + 1 ≤ n → LX2_firstBest_10 (nI p) (nI t) (nI x) best allowed pay n (nI (5 - k)) = some (oi (fd (wv R y can t) x k)) := by
  intro n
  induction n with
  | zero => intro k h1 h2; omega
  | succ n ih =>
    intro k h1 h2
    show FX2_firstBest_10 (nI p) (nI t) (nI x) best allowed pay (LX2_firstBest_10 (nI p) (nI t) (nI x) best allowed pay n) (nI (5 - k)) = _
    unfold FX2_firstBest_10
    cases k with
    | zero => rw [if_pos (show (5 : Int32) ≤ nI (5 - 0) by decide)]; rfl
    | succ k =>
      have hs : 5 - (k + 1) < 5 := by omega
      have i1 := ih k (by omega) (by omega)
      have es : 5 - (k + 1) = 4 - k := by omega
      have h3 : t ||| 2 ^ (5 - (k + 1)) < 32 := (b5 ⟨t, ht⟩ ⟨5 - (k + 1), hs⟩).2.2
      have h4 := hK _ h3
      rw [if_neg (le5 hs), free2 hp ht hs hA ea, bd_s, with2 hp ht hs, hR _ h3, ey, hc _ hs]
      simp only [lt_e, nI_1, bd_s, nI_add]
      rw [show 5 - (k + 1) + 1 = 5 - k by omega]
      rw [fd]
      unfold wv
      rw [es] at h3 h4 ⊢
      cases hcs : can (4 - k) && !t.testBit (4 - k) with
      | false =>
        rw [if_pos (by decide), if_neg (by simp)]
        exact i1
      | true =>
        rw [if_neg (by decide), if_pos rfl]
        by_cases c : y + R (t ||| 2 ^ (4 - k)) = x
        · rw [if_pos (by rw [c]), if_pos (by rw [c])]; rfl
        · rw [if_neg (fun z => c ((nI_eq (by omega) (by omega)).mp z)), if_neg (fun z => c (Option.some.inj z))]
          exact i1
theorem L103 (hp : p < 8) (ht : t < 32) (hc : ∀ s, s < 5 → canL (8 * s + p) = if can s then 1 else 0) (hR : ∀ t, t < 32 → most (32 * (p + 1) + t) = nI (R t)) (hK : ∀ t, t < 32 → R t ≤ K) (hK2 : K ≤ 9000) (ey : pay p = nI y) (hy : y ≤ 999) (x : Nat) (hx : x ≤ 10000) (ex : most (32 * p + t) = nI x) (k90 : Int32 → Int32 → Int32 → Option (Int32 × (Nat → Int32) × (Nat → Int32))) : ∀ (n c : Nat), c ≤ 5 → c + 1 ≤ n → LX11_orders_103 (nI t) (nI p) most pay canL k90 n (oi (fd (wv R y can t) x (5 - c))) (xm c) = (match fd (wv R y can t) x 5 with | none => k90 (nI t) (-6) (nI (p + 1)) | some s => k90 (nI t ||| ((1 : Int32) <<< (nI s &&& 31))) (nI s) (nI (p + 1))) := by
  intro n
  induction n with
  | zero => intro c h1 h2; omega
  | succ n ih =>
    intro c h1 h2
    show FX11_orders_103 (nI t) (nI p) most pay canL k90 (LX11_orders_103 (nI t) (nI p) most pay canL k90 n) _ (xm c) = _
    unfold FX11_orders_103
    cases c with
    | zero =>
      rw [if_pos (by decide)]
      simp only [lt_e, nI_1, or0, Nat.sub_zero]
      cases hfd : fd (wv R y can t) x 5 with
      | none => rw [if_neg (show ¬ (0 : Int32) ≤ oi none by decide)]; rfl
      | some s =>
        have hs : s < 5 := by
          have key : ∀ k, k ≤ 5 → ∀ s, fd (wv R y can t) x k = some s → s < 5 := by
            intro k
            induction k with
            | zero => intro _ s h; cases h
            | succ k ih2 =>
              intro hk s h
              rw [fd] at h
              split at h
              · cases h; omega
              · exact ih2 (by omega) s h
          exact key 5 (by omega) s hfd
        rw [if_pos (show (0 : Int32) ≤ oi (some s) from nI_pos' (by omega))]
        rfl
    | succ s =>
      have hs : s < 5 := by omega
      have i1 := ih s (by omega) (by omega)
      have ei : (32 : Int32) * nI p + nI t = nI (32 * p + t) := by rw [show (32 : Int32) = nI 32 from rfl, pk_mul, nI_add]
      rw [if_neg (show ¬ xm (s + 1) < 0 from nI_pos (by omega)), show xm (s + 1) = nI s from rfl, with11 hp ht hs (hc s hs) hR ey, bd_s, gd_ix ei (show 32 * p + t < 288 by omega) (by omega), ei, cl_nI (n := 288) (by omega) (by omega), ex]
      simp only [lt_e, xm_pred]
      rw [show 5 - s = (4 - s) + 1 by omega, fd, show 4 - (4 - s) = s by omega] at i1
      rw [show 5 - (s + 1) = 4 - s by omega]
      cases hw : wv R y can t s with
      | none =>
        rw [hw, if_neg (by simp)] at i1
        rw [if_neg (show ¬ ov_ none = nI x by show ¬ (-1 : Int32) = _; rw [t_eq, nI_toInt (by omega)]; show ¬ (-1 : Int) = _; omega)]
        exact i1
      | some z =>
        have hz := wv_le (pay := y) (can := can) hK ht hs hw
        rw [hw] at i1
        by_cases c : z = x
        · rw [if_pos (by rw [c])] at i1
          rw [if_pos (show ov_ (some z) = nI x by rw [c]; rfl)]
          exact i1
        · rw [if_neg (fun q => c (Option.some.inj q))] at i1
          rw [if_neg (show ¬ ov_ (some z) = nI x from fun q => c ((nI_eq (by omega) (by omega)).mp q))]
          exact i1
end
