/-! ORDERS: the tables are filled -/
theorem gd_ik {α : Type} {k n : Nat} {x : Option α} (h : k < n) (hn : n < 2 ^ 31) : gd (nI k < 0 ∨ n ≤ k) x = x := by
  have := gd_ix (x := x) (i := nI k) (k := k) (n := n) rfl h hn
  rw [nI_clamp (by omega)] at this
  exact this
def sb (x1 : Int32) (p : Nat) : Bool := decide (((x1 >>> (nI p &&& 31)) &&& 1) = 1)
theorem sb_has {x1 : Int32} {p : Nat} : (fX10_hasBit x1 (nI p) = 0 ↔ sb x1 p = false) ∧ (((x1 >>> (nI p &&& 31)) &&& 1) = 1 ↔ sb x1 p = true) := by
  unfold fX10_hasBit sb
  by_cases c : ((x1 >>> (nI p &&& 31)) &&& 1) = 1
  · rw [if_pos c, decide_eq_true c]; exact ⟨⟨fun h => absurd h (by decide), fun h => absurd h (by decide)⟩, ⟨fun _ => rfl, fun _ => c⟩⟩
  · rw [if_neg c, decide_eq_false c]; exact ⟨⟨fun _ => rfl, fun _ => rfl⟩, ⟨fun h => absurd h c, fun h => absurd h (by decide)⟩⟩
def aN (x1 x2 there flat least : Int32) (hollow thick fats deep fine : Nat → Int32) (p : Nat) : Nat := if sb x1 p then ab (fun s => tk there flat least hollow thick s && ls_ fats deep fine x2 p s) 5 else 0
def cnO (x1 x2 there flat least : Int32) (hollow thick fats deep fine : Nat → Int32) (p s : Nat) : Bool := (sb x1 p && tk there flat least hollow thick s) && ls_ fats deep fine x2 p s
section
variable {x1 x2 there flat least : Int32} {hollow thick fats deep fine : Nat → Int32}
theorem aN_lt (p : Nat) : aN x1 x2 there flat least hollow thick fats deep fine p < 32 := by
  unfold aN; split
  · exact ab_lt _ 5 (by omega)
  · omega
theorem aN_bit {p s : Nat} (hs : s < 5) : (aN x1 x2 there flat least hollow thick fats deep fine p).testBit s = cnO x1 x2 there flat least hollow thick fats deep fine p s := by
  unfold aN cnO
  cases sb x1 p with
  | false => rw [if_neg (by decide)]; simp
  | true => rw [if_pos rfl, ab_bit _ hs]; simp
theorem L2fill3 (best pay : Nat → Int32) (h6 : Bd 40 0 60 fats) (hd : Bd 8 1 60 deep) (hf : Bd 8 1 9 fine) (hp0 : Bd 8 0 999 pay) : ∀ (n p : Nat) (al pa : Nat → Int32), p ≤ 8 → 9 ≤ n + p → (∀ q, q < p → al q = nI (aN x1 x2 there flat least hollow thick fats deep fine q) ∧ pa q = nI (dN pay q)) → ∃ al' pa', LX2_fill_3 x1 x2 best flat least there pay hollow thick fats deep fine n (nI p) al pa = LX2_fill_64 al' pa' 2000 (xm 8) best ∧ ∀ q, q < 8 → al' q = nI (aN x1 x2 there flat least hollow thick fats deep fine q) ∧ pa' q = nI (dN pay q) := by
  intro n
  induction n with
  | zero => intro p al pa h1 h2; omega
  | succ n ih =>
    intro p al pa h1 h2 h3
    show ∃ al' pa', FX2_fill_3 x1 x2 best flat least there pay hollow thick fats deep fine (LX2_fill_3 x1 x2 best flat least there pay hollow thick fats deep fine n) (nI p) al pa = _ ∧ _
    unfold FX2_fill_3
    by_cases c1 : p = 8
    · subst c1
      rw [if_pos (show (8 : Int32) ≤ nI 8 by decide)]
      exact ⟨al, pa, rfl, h3⟩
    · have hp : p < 8 := by omega
      have ep := dN_ok (lo := 0) (hi := 999) hp0 (by omega) hp
      have epay : fX5_payOf (nI p) pay = some (pay p) := by
        unfold fX5_payOf
        rw [if_neg (ins7 hp), gd_ix rfl hp (by omega), cl_nI hp (by omega)]
      rw [if_neg (le8 hp), epay, bd_s, gd_ix rfl hp (by omega), cl_nI hp (by omega)]
      simp only [lt_e, nI_1]
      have key : ∀ v : Int32, v = nI (aN x1 x2 there flat least hollow thick fats deep fine p) → ∀ q, q < p + 1 → upd al p v q = nI (aN x1 x2 there flat least hollow thick fats deep fine q) ∧ upd pa p (pay p) q = nI (dN pay q) := by
        intro v hv q hq
        by_cases e : q = p
        · subst e; rw [pk_us, pk_us]; exact ⟨hv, ep.1⟩
        · rw [pk_un e, pk_un e]; exact h3 q (by omega)
      by_cases c2 : fX10_hasBit x1 (nI p) = 0
      · rw [if_pos c2]
        refine ih (p + 1) _ _ (by omega) (by omega) (key _ ?_)
        unfold aN
        rw [sb_has.1.mp c2]; rfl
      · rw [if_neg c2]
        have hb : sb x1 p = true := by
          cases h : sb x1 p with
          | false => exact absurd (sb_has.1.mpr h) c2
          | true => rfl
        have e := Lstones p x2 there flat least hollow thick fats deep fine h6 hd hf hp 2000 0 (by omega) (by omega)
        have e' : fX2_stonesFor (nI p) x2 there flat least hollow thick fats deep fine = some (nI (ab (fun s => tk there flat least hollow thick s && ls_ fats deep fine x2 p s) 5)) := e
        rw [e', bd_s]
        refine ih (p + 1) _ _ (by omega) (by omega) (key _ ?_)
        unfold aN
        rw [hb]; rfl
theorem lay68 (h6 : Bd 40 0 60 fats) (hd : Bd 8 1 60 deep) (hf : Bd 8 1 9 fine) {p s : Nat} (hp : p < 8) (hs : s < 5) (b : Bool) (canL : Nat → Int32) (k11 : Int32 → (Nat → Int32) → Option ((Nat → Int32) × (Nat → Int32))) : fX11_layOrders_68 x2 (nI p) (nI s) (if b then 1 else 0) canL deep fats fine k11 = k11 (nI (s + 1)) (upd canL (8 * s + p) (if b && ls_ fats deep fine x2 p s then 1 else 0)) := by
  unfold fX11_layOrders_68
  simp only [at_sp, gd_ik (k := 8 * s + p) (n := 40) (show 8 * s + p < 40 by omega) (by omega), cl_nI (show 8 * s + p < 40 by omega) (show 40 < 1000000 by omega), lt_e, nI_1]
  cases b with
  | false => rw [if_pos (by decide)]; rfl
  | true =>
    obtain ⟨-, r, e1, e2, e3⟩ := wl_eq (fats := fats) (deep := deep) (fine := fine) x2 h6 hd hf hs hp
    rw [if_neg (by decide), gd_ix rfl hp (by omega), cl_nI hp (by omega), e1, bd_s, e2, bd_s]
    cases hl : ls_ fats deep fine x2 p s with
    | false => rw [if_pos (e3.mpr hl)]; rfl
    | true =>
      rw [if_neg (fun z => by rw [e3.mp z] at hl; cases hl)]; rfl
def CL (can : Nat → Nat → Bool) (p s : Nat) (c : Nat → Int32) : Prop := ∀ q r, q < 8 → r < 5 → (q < p ∨ (q = p ∧ r < s)) → c (8 * r + q) = if can q r then 1 else 0
theorem L11lay11 (h6 : Bd 40 0 60 fats) (hd : Bd 8 1 60 deep) (hf : Bd 8 1 9 fine) {p : Nat} (hp : p < 8) (k2 : Int32 → (Nat → Int32) → Option ((Nat → Int32) × (Nat → Int32))) : ∀ (n s : Nat) (c : Nat → Int32), s ≤ 5 → 6 ≤ n + s → CL (cnO x1 x2 there flat least hollow thick fats deep fine) p s c → ∃ c', LX11_layOrders_11 x1 x2 (nI p) there flat least deep fats fine hollow thick k2 n (nI s) c = k2 (nI (p + 1)) c' ∧ CL (cnO x1 x2 there flat least hollow thick fats deep fine) (p + 1) 0 c' := by
  intro n
  induction n with
  | zero => intro s c h1 h2; omega
  | succ n ih =>
    intro s c h1 h2 h3
    show ∃ c', FX11_layOrders_11 x1 x2 (nI p) there flat least deep fats fine hollow thick k2 (LX11_layOrders_11 x1 x2 (nI p) there flat least deep fats fine hollow thick k2 n) (nI s) c = _ ∧ _
    unfold FX11_layOrders_11
    by_cases c1 : s = 5
    · subst c1
      rw [if_pos (show (5 : Int32) ≤ nI 5 by decide), lt_e, nI_1]
      refine ⟨c, rfl, fun q r g1 g2 g3 => h3 q r g1 g2 ?_⟩
      rcases g3 with g3 | ⟨-, g3⟩
      · by_cases e : q = p
        · exact Or.inr ⟨e, g2⟩
        · exact Or.inl (by omega)
      · omega
    · have hs : s < 5 := by omega
      have done : ∀ b : Bool, b = (sb x1 p && tk there flat least hollow thick s) → ∃ c', fX11_layOrders_68 x2 (nI p) (nI s) (if b then 1 else 0) c deep fats fine (LX11_layOrders_11 x1 x2 (nI p) there flat least deep fats fine hollow thick k2 n) = k2 (nI (p + 1)) c' ∧ CL (cnO x1 x2 there flat least hollow thick fats deep fine) (p + 1) 0 c' := by
        intro b hb
        rw [lay68 h6 hd hf hp hs]
        refine ih (s + 1) _ (by omega) (by omega) (fun q r g1 g2 g3 => ?_)
        by_cases e : 8 * r + q = 8 * s + p
        · have e1 : r = s := by omega
          have e2 : q = p := by omega
          subst e1; subst e2
          rw [pk_us, hb]; rfl
        · rw [pk_un e]
          refine h3 q r g1 g2 ?_
          rcases g3 with g3 | ⟨g3, g4⟩
          · exact Or.inl g3
          · have : r ≠ s := fun z => e (by omega)
            exact Or.inr ⟨g3, by omega⟩
      have d0 := done false
      have d1 := done true
      rw [if_neg (by decide)] at d0
      rw [if_pos rfl] at d1
      rw [if_neg (le5 hs), gd_ix rfl hs (by omega), cl_nI hs (by omega), has_eq]
      unfold tk at d0 d1
      by_cases g1 : ((x1 >>> (nI p &&& 31)) &&& 1) = 1
      · rw [if_pos g1]
        rw [sb_has.2.mp g1] at d0 d1
        by_cases g2 : fX6_has (nI s) there = 0
        · rw [if_pos g2]; exact d0 (by rw [decide_eq_false (fun h => h.1 g2)]; rfl)
        · rw [if_neg g2]
          by_cases g3 : flat < hollow s
          · rw [if_pos g3]; exact d0 (by rw [decide_eq_false (fun h => h.2.1 g3)]; rfl)
          · rw [if_neg g3]
            by_cases g4 : thick s < least
            · rw [if_pos g4]; exact d0 (by rw [decide_eq_false (fun h => h.2.2 g4)]; rfl)
            · rw [if_neg g4]; exact d1 (by rw [decide_eq_true ⟨g2, g3, g4⟩]; rfl)
      · rw [if_neg g1]
        refine d0 ?_
        cases h : sb x1 p with
        | false => rfl
        | true => exact absurd (sb_has.2.mpr h) g1
theorem L11lay2 (most pay : Nat → Int32) (h6 : Bd 40 0 60 fats) (hd : Bd 8 1 60 deep) (hf : Bd 8 1 9 fine) : ∀ (n p : Nat) (c : Nat → Int32), p ≤ 8 → 9 ≤ n + p → CL (cnO x1 x2 there flat least hollow thick fats deep fine) p 0 c → ∃ c', LX11_layOrders_2 x1 x2 there flat least most pay deep fats fine hollow thick n (nI p) c = LX11_layOrders_128 pay c' 2000 (nI 0) most ∧ CL (cnO x1 x2 there flat least hollow thick fats deep fine) 8 0 c' := by
  intro n
  induction n with
  | zero => intro p c h1 h2; omega
  | succ n ih =>
    intro p c h1 h2 h3
    show ∃ c', FX11_layOrders_2 x1 x2 there flat least most pay deep fats fine hollow thick (LX11_layOrders_2 x1 x2 there flat least most pay deep fats fine hollow thick n) (nI p) c = _ ∧ _
    unfold FX11_layOrders_2
    by_cases c1 : p = 8
    · subst c1
      rw [if_pos (show (8 : Int32) ≤ nI 8 by decide)]
      exact ⟨c, rfl, h3⟩
    · have hp : p < 8 := by omega
      rw [if_neg (le8 hp)]
      obtain ⟨c', e1, e2⟩ := L11lay11 (x1 := x1) (x2 := x2) (there := there) (flat := flat) (least := least) (hollow := hollow) (thick := thick) h6 hd hf hp (LX11_layOrders_2 x1 x2 there flat least most pay deep fats fine hollow thick n) 2000 0 c (by omega) (by omega) h3
      rw [nI_0] at e1
      rw [e1]
      exact ih (p + 1) c' (by omega) (by omega) e2
end
theorem p_orders {P : Int} (x1 x2 x3 there flat least : Int32) (thick hollow damp fresh pulls fats deep fine pay hair best allowed pay2 most canL : Nat → Int32) (h : InvS P there thick hollow damp fresh pulls fats) (hr : InvR flat least deep fine pay hair) (hb : ∀ j, j < 32 → best (256 + j) = 0) : ∃ (r : Int32) (B A Q M C : Nat → Int32), fX10_orders x1 x2 x3 best allowed pay2 flat least there pay hollow thick fats deep fine = some (r, B, A, Q) ∧ fX11_orders x1 x2 x3 there flat least most pay canL deep fats fine hollow thick = some (r, M, C) ∧ ∀ j, j < 32 → B (256 + j) = 0 := by
  obtain ⟨-, -, hd, hf, hy, -⟩ := hr
  have h6 := h.2.2.2.2.2.2
  have hy9 : ∀ p, dN pay p ≤ 999 := by
    intro p
    by_cases hp : p < 8
    · exact (dN_ok (lo := 0) (hi := 999) hy (by omega) hp).2.2
    · unfold dN; rw [hy.2 p (by omega)]; decide
  have ey : ∀ p, p < 8 → pay p = nI (dN pay p) := fun p hp => (dN_ok (lo := 0) (hi := 999) hy (by omega) hp).1
  have key : (x3 = -1 ∨ ∃ w, w < 8 ∧ x3 = nI w) → ∃ (r : Int32) (B A Q M C : Nat → Int32), fX10_orders_25 x1 x2 x3 best allowed pay2 flat least there pay hollow thick fats deep fine = some (r, B, A, Q) ∧ fX11_orders_26 x1 x2 x3 1 there flat least most pay canL deep fats fine hollow thick = some (r, M, C) ∧ ∀ j, j < 32 → B (256 + j) = 0 := by
    intro hx
    unfold fX10_orders_25 fX11_orders_26
    rw [in_0_255, in_0_999, if_neg (show ¬ (1 : Int32) = 0 by decide)]
    by_cases c1 : fX10_inside x1 0 255 = 0
    · rw [if_pos c1, if_pos c1]; exact ⟨_, _, _, _, _, _, rfl, rfl, hb⟩
    rw [if_neg c1, if_neg c1]
    by_cases c2 : fX10_inside x2 0 999 = 0
    · rw [if_pos c2, if_pos c2]; exact ⟨_, _, _, _, _, _, rfl, rfl, hb⟩
    rw [if_neg c2, if_neg c2]
    obtain ⟨al, pa, e1, e2⟩ := L2fill3 (x1 := x1) (x2 := x2) (there := there) (flat := flat) (least := least) (hollow := hollow) (thick := thick) best pay h6 hd hf hy 2000 0 allowed pay2 (by omega) (by omega) (fun q hq => by omega)
    have hA : ∀ p, p < 8 → aN x1 x2 there flat least hollow thick fats deep fine p < 32 := fun p _ => aN_lt p
    have hcA : ∀ p s, p < 8 → s < 5 → (aN x1 x2 there flat least hollow thick fats deep fine p).testBit s = cnO x1 x2 there flat least hollow thick fats deep fine p s := fun p s _ hs => aN_bit hs
    have ea : ∀ p, p < 8 → al p = nI (aN x1 x2 there flat least hollow thick fats deep fine p) := fun p hp => (e2 p hp).1
    have epa : ∀ p, p < 8 → pa p = nI (dN pay p) := fun p hp => (e2 p hp).2
    obtain ⟨B, e3, e4⟩ := L64 (can := cnO x1 x2 there flat least hollow thick fats deep fine) hy9 (aN x1 x2 there flat least hollow thick fats deep fine) hA ea hcA epa 2000 8 best (by omega) (by omega) (TR8 hb)
    have ef : fX2_fill x1 x2 best allowed pay2 flat least there pay hollow thick fats deep fine = some (B, al, pa) := by
      unfold fX2_fill
      rw [← e3, ← e1, nI_0]
    obtain ⟨C, g1, g2⟩ := L11lay2 (x1 := x1) (x2 := x2) (there := there) (flat := flat) (least := least) (hollow := hollow) (thick := thick) most pay h6 hd hf 2000 0 canL (by omega) (by omega) (fun q r _ _ h => by omega)
    have hc2 : ∀ p s, p < 8 → s < 5 → C (8 * s + p) = if cnO x1 x2 there flat least hollow thick fats deep fine p s then 1 else 0 := fun p s hp hs => g2 p s hp hs (Or.inl hp)
    obtain ⟨M0, g3, g4⟩ := L128 (pay := pay) (canL := C) 2000 0 most (by omega) (by omega) (fun j hj => by omega)
    obtain ⟨M, g5, g6⟩ := L154 (can := cnO x1 x2 there flat least hollow thick fats deep fine) hy9 hc2 ey 2000 8 M0 (by omega) (by omega) (TR8 g4)
    have eg : fX11_layOrders x1 x2 there flat least most pay canL deep fats fine hollow thick = some (M, C) := by
      unfold fX11_layOrders
      rw [← g5, ← g3, ← g1, nI_0]
    rw [ef, eg, bd_s, bd_s]
    dsimp only
    have hB : ∀ j, j < 32 → B (256 + j) = 0 := fun j hj => e4 8 j (by omega) hj (Or.inl (by omega))
    by_cases c3 : x3 = -1
    · rw [if_pos c3, if_pos c3]
      have a1 : B 0 = nI (BB (dN pay) (cnO x1 x2 there flat least hollow thick fats deep fine) (8 - 0) 0) := e4 0 0 (by omega) (by omega) (Or.inl (by omega))
      have a2 : M 0 = nI (BB (dN pay) (cnO x1 x2 there flat least hollow thick fats deep fine) (8 - 0) 0) := g6 0 0 (by omega) (by omega) (Or.inl (by omega))
      refine ⟨_, _, _, _, M, C, rfl, ?_, hB⟩
      show some (M 0, M, C) = some (B 0, M, C)
      rw [a1, a2]
    · rw [if_neg c3, if_neg c3]
      obtain ⟨w, hw, rfl⟩ := hx.resolve_left c3
      obtain ⟨r, k1, k2⟩ := Lst (can := cnO x1 x2 there flat least hollow thick fats deep fine) (best := B) (most := M) (allowed := al) (pay := pa) (canL := C) hy9 (aN x1 x2 there flat least hollow thick fats deep fine) hA ea hcA hc2 epa pay ey e4 g6 w hw (w + 1) 0 0 2000 2000 (-6) (by omega) (by omega) (by omega) (by omega)
      rw [nI_0] at k1 k2
      refine ⟨r, B, al, pa, M, C, ?_, k2, hB⟩
      unfold fX2_stoneFor
      rw [k1, bd_s]
  unfold fX10_orders fX11_orders
  rw [pic_eq]
  by_cases c1 : x3 = -1
  · rw [if_pos c1, if_pos c1]; exact key (Or.inl c1)
  rw [if_neg c1, if_neg c1]
  by_cases c2 : fX10_inside x3 0 7 = 0
  · rw [if_pos c2, if_pos c2]; exact ⟨_, _, _, _, _, _, rfl, rfl, hb⟩
  rw [if_neg c2, if_neg c2]
  obtain ⟨w, hw, rfl⟩ := ins_nI (n := 7) c2 rfl (by omega)
  by_cases c3 : sb x1 w = true
  · rw [if_neg (fun z => by rw [sb_has.1.mp z] at c3; cases c3), if_pos (sb_has.2.mpr c3)]; exact key (Or.inr ⟨w, by omega, rfl⟩)
  · rw [if_pos (sb_has.1.mpr (by simpa using c3)), if_neg (fun z => c3 (sb_has.2.mp z))]; exact ⟨_, _, _, _, _, _, rfl, rfl, hb⟩
