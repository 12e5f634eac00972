/-! ORDERS: the table of the most PAY -/
theorem b5 : ∀ t : Fin 32, ∀ s : Fin 5, ((nI t.val >>> (nI s.val &&& 31)) &&& 1) = (if t.val.testBit s.val then 1 else 0) ∧ nI t.val ||| ((1 : Int32) <<< (nI s.val &&& 31)) = nI (t.val ||| 2 ^ s.val) ∧ t.val ||| 2 ^ s.val < 32 := by decide +kernel
theorem b5n : ∀ a : Fin 32, ∀ t : Fin 32, ∀ s : Fin 5, (((nI a.val &&& (nI t.val ^^^ (-1))) >>> (nI s.val &&& 31)) &&& 1) = (if a.val.testBit s.val && !t.val.testBit s.val then 1 else 0) := by decide +kernel
def bf (base : Nat) (v : Nat → Option Nat) : Nat → Nat
  | 0 => base
  | s + 1 => match v s with
    | none => bf base v s
    | some x => max (bf base v s) x
/-- what PICTURE p on STONE s gives, where it may be: R the row behind -/
def wv (R : Nat → Nat) (pay : Nat) (can : Nat → Bool) (t s : Nat) : Option Nat := if can s && !t.testBit s then some (pay + R (t ||| 2 ^ s)) else none
def bt_ (R : Nat → Nat) (pay : Nat) (can : Nat → Bool) (t : Nat) : Nat := bf (R t) (wv R pay can t) 5
theorem bf_le {base K : Nat} {v : Nat → Option Nat} (hb : base ≤ K) (hv : ∀ s x, s < 5 → v s = some x → x ≤ K) : ∀ s, s ≤ 5 → bf base v s ≤ K := by
  intro s
  induction s with
  | zero => intro _; exact hb
  | succ s ih =>
    intro hs
    unfold bf
    cases h : v s with
    | none => exact ih (by omega)
    | some x => exact Nat.max_le.mpr ⟨ih (by omega), hv s x (by omega) h⟩
theorem wv_le {R : Nat → Nat} {pay K : Nat} {can : Nat → Bool} (hR : ∀ t, t < 32 → R t ≤ K) {t s x : Nat} (ht : t < 32) (hs : s < 5) (h : wv R pay can t s = some x) : x ≤ K + pay := by
  unfold wv at h
  split at h
  · cases h
    have h1 : t ||| 2 ^ s < 32 := (b5 ⟨t, ht⟩ ⟨s, hs⟩).2.2
    have h2 := hR _ h1
    omega
  · cases h
theorem bt_le {R : Nat → Nat} {pay K : Nat} {can : Nat → Bool} (hR : ∀ t, t < 32 → R t ≤ K) {t : Nat} (ht : t < 32) : bt_ R pay can t ≤ K + pay :=
  bf_le (Nat.le_trans (hR t ht) (by omega)) (fun _ _ hs h => wv_le hR ht hs h) 5 (Nat.le_refl _)
theorem le5 {s : Nat} (h : s < 5) : ¬ (5 : Int32) ≤ nI s := by
  rw [show (5 : Int32) = nI 5 from rfl, nI_leI (by omega) (by omega)]; omega
section
variable {best allowed pay most canL : Nat → Int32} {R : Nat → Nat} {p t y A K : Nat} {can : Nat → Bool}
theorem behind2 (hp : p < 8) (ht : t < 32) : fX2_payBehind (nI p) (nI t) best = some (best (32 * (p + 1) + t)) := by
  unfold fX2_payBehind
  rw [lt_e, nI_1, show (32 : Int32) = nI 32 from rfl, pk_mul, nI_add, Nat.mul_comm, if_neg (nI_pos (by omega)), if_neg (by rw [show (288 : Int32) = nI 288 from rfl, nI_leI (by omega) (by omega)]; omega), gd_ix rfl (show 32 * (p + 1) + t < 288 by omega) (by omega), cl_nI (n := 288) (by omega) (by omega)]
theorem free2 {s : Nat} (hp : p < 8) (ht : t < 32) (hs : s < 5) (hA : A < 32) (ea : allowed p = nI A) : fX2_isFree (nI p) (nI s) (nI t) allowed = some (if A.testBit s && !t.testBit s then 1 else 0) := by
  unfold fX2_isFree fX10_hasBit
  have e := b5n ⟨A, hA⟩ ⟨t, ht⟩ ⟨s, hs⟩
  dsimp only at e
  rw [if_neg (ins7 hp), gd_ix rfl hp (by omega), cl_nI hp (by omega), ea, e]
  cases A.testBit s && !t.testBit s <;> rfl
theorem with2 {s : Nat} (hp : p < 8) (ht : t < 32) (hs : s < 5) : fX2_payWith (nI p) (nI s) (nI t) pay best = some (pay p + best (32 * (p + 1) + (t ||| 2 ^ s))) := by
  unfold fX2_payWith
  obtain ⟨-, e2, e3⟩ := b5 ⟨t, ht⟩ ⟨s, hs⟩
  dsimp only at e2 e3
  rw [if_neg (ins7 hp), gd_ix rfl hp (by omega), cl_nI hp (by omega), e2, behind2 hp e3, bd_s]
theorem L2best (hp : p < 8) (ht : t < 32) (hA : A < 32) (ea : allowed p = nI A) (hc : ∀ s, s < 5 → A.testBit s = can s) (hR : ∀ t, t < 32 → best (32 * (p + 1) + t) = nI (R t)) (hK : ∀ t, t < 32 → R t ≤ K) (hK2 : K ≤ 9000) (ey : pay p = nI y) (hy : y ≤ 999) : ∀ (n s : Nat), s ≤ 5 → 6 ≤ n + s → LX2_bestFrom_10 (nI p) (nI t) best allowed pay n (nI (bf (R t) (wv R y can t) s)) (nI s) = some (nI (bt_ R y can t)) := by
  intro n
  induction n with
  | zero => intro s h1 h2; omega
  | succ n ih =>
    intro s h1 h2
    show FX2_bestFrom_10 (nI p) (nI t) best allowed pay (LX2_bestFrom_10 (nI p) (nI t) best allowed pay n) _ (nI s) = _
    unfold FX2_bestFrom_10
    by_cases c1 : s = 5
    · subst c1; rw [if_pos (show (5 : Int32) ≤ nI 5 by decide)]; rfl
    · have hs : s < 5 := by omega
      have i1 := ih (s + 1) (by omega) (by omega)
      have hb := bf_le (K := K + y) (Nat.le_trans (hK t ht) (by omega)) (fun s x h3 h => wv_le (pay := y) (can := can) hK ht h3 h) s h1
      have h3 : t ||| 2 ^ s < 32 := (b5 ⟨t, ht⟩ ⟨s, hs⟩).2.2
      have h4 := hK _ h3
      rw [if_neg (le5 hs), free2 hp ht hs hA ea, bd_s, with2 hp ht hs, hR _ h3, ey, hc s hs]
      simp only [lt_e, nI_1, bd_s, nI_add]
      rw [bf] at i1
      unfold wv at i1 hb ⊢
      cases hcs : can s && !t.testBit s with
      | false =>
        simp only [hcs] at i1
        rw [if_pos (by decide)]
        exact i1
      | true =>
        simp only [hcs, if_true] at i1
        rw [if_pos rfl, if_neg (by decide), imax_nI (by omega) (by omega)]
        exact i1
theorem best2 (hp : p < 8) (ht : t < 32) (hA : A < 32) (ea : allowed p = nI A) (hc : ∀ s, s < 5 → A.testBit s = can s) (hR : ∀ t, t < 32 → best (32 * (p + 1) + t) = nI (R t)) (hK : ∀ t, t < 32 → R t ≤ K) (hK2 : K ≤ 9000) (ey : pay p = nI y) (hy : y ≤ 999) : fX2_bestFrom (nI p) (nI t) best allowed pay = some (nI (bt_ R y can t)) := by
  unfold fX2_bestFrom
  rw [behind2 hp ht, bd_s, hR t ht]
  exact L2best hp ht hA ea hc hR hK hK2 ey hy 2000 0 (by omega) (by omega)
def ov_ (o : Option Nat) : Int32 := match o with | none => -1 | some x => nI x
theorem with11 {s : Nat} (hp : p < 8) (ht : t < 32) (hs : s < 5) (hc : canL (8 * s + p) = if can s then 1 else 0) (hR : ∀ t, t < 32 → most (32 * (p + 1) + t) = nI (R t)) (ey : pay p = nI y) : fX11_withOn (nI p) (nI t) (nI s) pay most canL = some (ov_ (wv R y can t s)) := by
  unfold fX11_withOn fX11_withOn_26 wv
  obtain ⟨e1, e2, e3⟩ := b5 ⟨t, ht⟩ ⟨s, hs⟩
  dsimp only at e1 e2 e3
  have ei : (32 : Int32) * (nI p + 1) + nI (t ||| 2 ^ s) = nI (32 * (p + 1) + (t ||| 2 ^ s)) := by rw [nI_1, show (32 : Int32) = nI 32 from rfl, pk_mul, nI_add]
  rw [e1, e2]
  cases hb : t.testBit s with
  | true =>
    rw [if_pos rfl, if_neg (by decide), if_pos rfl]
    simp
    rfl
  | false =>
    rw [if_neg (show ¬ (false = true) by decide), if_pos rfl, gd_ix at_sp (show 8 * s + p < 40 by omega) (by omega), at_sp, cl_nI (n := 40) (by omega) (by omega), hc]
    cases hcs : can s with
    | false => rw [if_pos (by decide), if_pos rfl]; rfl
    | true =>
      rw [if_neg (by decide), if_neg (by decide), gd_ix rfl hp (by omega), gd_ix ei (show 32 * (p + 1) + (t ||| 2 ^ s) < 288 by omega) (by omega), ei, cl_nI hp (by omega), cl_nI (n := 288) (by omega) (by omega), hR _ e3, ey, nI_add]
      rfl
theorem L11best (hp : p < 8) (ht : t < 32) (hc : ∀ s, s < 5 → canL (8 * s + p) = if can s then 1 else 0) (hR : ∀ t, t < 32 → most (32 * (p + 1) + t) = nI (R t)) (hK : ∀ t, t < 32 → R t ≤ K) (hK2 : K ≤ 9000) (ey : pay p = nI y) (hy : y ≤ 999) : ∀ (n s : Nat), s ≤ 5 → 6 ≤ n + s → LX11_bestFrom_17 (nI p) (nI t) most pay canL n (nI (bf (R t) (wv R y can t) s)) (nI s) = some (nI (bt_ R y can t)) := by
  intro n
  induction n with
  | zero => intro s h1 h2; omega
  | succ n ih =>
    intro s h1 h2
    show FX11_bestFrom_17 (nI p) (nI t) most pay canL (LX11_bestFrom_17 (nI p) (nI t) most pay canL n) _ (nI s) = _
    unfold FX11_bestFrom_17
    by_cases c1 : s = 5
    · subst c1; rw [if_pos (show (5 : Int32) ≤ nI 5 by decide)]; rfl
    · have hs : s < 5 := by omega
      have i1 := ih (s + 1) (by omega) (by omega)
      have hb := bf_le (K := K + y) (Nat.le_trans (hK t ht) (by omega)) (fun s x h3 h => wv_le (pay := y) (can := can) hK ht h3 h) s h1
      rw [if_neg (le5 hs), with11 hp ht hs (hc s hs) hR ey, bd_s]
      simp only [lt_e, nI_1]
      rw [bf] at i1
      cases hw : wv R y can t s with
      | none =>
        simp only [hw] at i1
        rw [if_pos (show ov_ none ≤ nI _ by show (-1 : Int32) ≤ _; rw [t_le, nI_toInt (by omega)]; show (-1 : Int) ≤ _; omega)]
        exact i1
      | some x =>
        simp only [hw] at i1
        have hx := wv_le (pay := y) (can := can) hK ht hs hw
        show (if nI x ≤ nI _ then _ else _) = _
        by_cases c2 : x ≤ bf (R t) (wv R y can t) s
        · rw [if_pos ((nI_leI (by omega) (by omega)).mpr c2)]
          rw [Nat.max_eq_left c2] at i1; exact i1
        · rw [if_neg (fun z => c2 ((nI_leI (by omega) (by omega)).mp z))]
          rw [Nat.max_eq_right (by omega)] at i1; exact i1
theorem best11 (hp : p < 8) (ht : t < 32) (hc : ∀ s, s < 5 → canL (8 * s + p) = if can s then 1 else 0) (hR : ∀ t, t < 32 → most (32 * (p + 1) + t) = nI (R t)) (hK : ∀ t, t < 32 → R t ≤ K) (hK2 : K ≤ 9000) (ey : pay p = nI y) (hy : y ≤ 999) : fX11_bestFrom (nI p) (nI t) most pay canL = some (nI (bt_ R y can t)) := by
  unfold fX11_bestFrom
  have ei : (32 : Int32) * (nI p + 1) + nI t = nI (32 * (p + 1) + t) := by rw [nI_1, show (32 : Int32) = nI 32 from rfl, pk_mul, nI_add]
  rw [gd_ix ei (show 32 * (p + 1) + t < 288 by omega) (by omega), ei, cl_nI (n := 288) (by omega) (by omega), lt_e, hR t ht]
  exact L11best hp ht hc hR hK hK2 ey hy 2000 0 (by omega) (by omega)
end
