/-! COLOURS -/
def xm (c : Nat) : Int32 := match c with | 0 => -1 | c + 1 => nI c
theorem xm_pred (c : Nat) : nI c + (-1) = xm c := by
  cases c with
  | zero => rfl
  | succ c => exact pk_m1 c
theorem xm_sub (c : Nat) : nI c - 1 = xm c := by
  cases c with
  | zero => rfl
  | succ c => exact nI_pred c
theorem b6 : ∀ t : Fin 64, ∀ c : Fin 6, ((nI t.val >>> (nI c.val &&& 31)) &&& 1) = (if t.val.testBit c.val then 1 else 0) ∧ nI t.val ||| ((1 : Int32) <<< (nI c.val &&& 31)) = nI (t.val ||| 2 ^ c.val) ∧ t.val ||| 2 ^ c.val < 64 ∧ (t.val.testBit c.val = false → t.val < t.val ||| 2 ^ c.val) := by decide +kernel
theorem n6 : ∀ t : Fin 64, fX11_ones (nI t.val) = some (fJ6_bitCount_0f7a4 (nI t.val)) ∧ 0 ≤ (fJ6_bitCount_0f7a4 (nI t.val)).toInt ∧ (fJ6_bitCount_0f7a4 (nI t.val)).toInt ≤ 6 := by decide +kernel
theorem o6 : ∀ k : Fin 7, ∀ t : Fin 64, t.val + 1 < 2 ^ k.val → (∃ c : Fin 6, c.val < k.val ∧ t.val.testBit c.val = false) ∧ ∀ c : Fin 6, c.val < k.val → t.val ||| 2 ^ c.val < 2 ^ k.val := by decide +kernel
def cv (T hair : Nat → Int32) (t c : Nat) : Int32 := iabs (fJ6_bitCount_0f7a4 (nI t) - hair c) + T (t ||| 2 ^ c)
def Spec (v : Nat → Int32) (t c b : Nat) : Prop := b < c ∧ t.testBit b = false ∧ (∀ j, j < c → t.testBit j = false → (v b).toInt ≤ (v j).toInt) ∧ ∀ j, j < b → t.testBit j = false → (v b).toInt < (v j).toInt
theorem Spec.one {v : Nat → Int32} {t c a b : Nat} (h1 : Spec v t c a) (h2 : Spec v t c b) : a = b := by
  obtain ⟨p1, p2, p3, p4⟩ := h1
  obtain ⟨q1, q2, q3, q4⟩ := h2
  rcases Nat.lt_trichotomy a b with h | h | h
  · have := q4 a h p2; have := p3 b q1 q2; omega
  · exact h
  · have := p4 b h q2; have := q3 a p1 p2; omega
theorem iabs_ti {x : Int32} (h1 : -20 ≤ x.toInt) (h2 : x.toInt ≤ 20) : 0 ≤ (iabs x).toInt ∧ (iabs x).toInt ≤ 20 ∧ ((-15 ≤ x.toInt ∧ x.toInt ≤ 15) → (iabs x).toInt ≤ 15) := by
  have b0 := l0
  unfold iabs
  by_cases h : (0 : Int32) ≤ x
  · rw [if_pos h]; rw [t_le] at h; omega
  · rw [if_neg h]; rw [t_le] at h; rw [t_sub (by omega) (by omega)]; omega
theorem iabs_size (x : Int32) : fX11_size x = iabs x := by
  unfold fX11_size iabs
  by_cases h : (0 : Int32) ≤ x
  · rw [if_pos h, if_pos h]
  · rw [if_neg h, if_neg h, Int32.zero_sub]
/-- the tables behind t are as they should be -/
def TOk (K t : Nat) (T : Nat → Int32) : Prop := ∀ u, t < u → u < K → 0 ≤ (T u).toInt ∧ (T u).toInt ≤ 15 * (63 - u : Int)
theorem cv_ok {K t c : Nat} {T hair : Nat → Int32} (hT : TOk K t T) (hh : Bd 6 (-9) 9 hair) (ht : t < 64) (hc : c < 6) (ho : t.testBit c = false) (hK : t ||| 2 ^ c < K) : 0 ≤ (cv T hair t c).toInt ∧ (cv T hair t c).toInt ≤ 15 * (63 - t : Int) := by
  obtain ⟨-, n1, n2⟩ := n6 ⟨t, ht⟩
  obtain ⟨-, -, b3, b4⟩ := b6 ⟨t, ht⟩ ⟨c, hc⟩
  dsimp only at n1 n2 b3 b4
  have b4 := b4 ho
  have h1 := hT _ b4 hK
  have h2 := hh.1 c hc
  have h3 : (fJ6_bitCount_0f7a4 (nI t) - hair c).toInt = (fJ6_bitCount_0f7a4 (nI t)).toInt - (hair c).toInt := t_sub (by omega) (by omega)
  have h4 := iabs_ti (x := fJ6_bitCount_0f7a4 (nI t) - hair c) (by omega) (by omega)
  unfold cv
  rw [t_add (by omega) (by omega)]
  omega
theorem missed_eq {t c : Nat} {T hair : Nat → Int32} (ht : t < 64) (hc : c < 6) : fX1_missedWith (nI t) (nI c) T hair = some (cv T hair t c) := by
  obtain ⟨-, e2, e3, -⟩ := b6 ⟨t, ht⟩ ⟨c, hc⟩
  dsimp only at e2 e3
  unfold fX1_missedWith
  have hc2 := nI_toInt (n := c) (by omega)
  rw [if_neg (nI_pos (by omega)), if_pos (by rw [show (6 : Int32) = nI 6 from rfl, nI_ltI (by omega) (by omega)]; exact hc), lt_e, gd_ix rfl hc (by omega), lt_e, cl_nI hc (by omega), e2, if_neg (nI_pos (by omega)), if_neg (by rw [show (64 : Int32) = nI 64 from rfl, nI_leI (by omega) (by omega)]; omega), gd_ix rfl e3 (by omega), cl_nI e3 (by omega)]
  rfl
theorem L1best (K k t : Nat) (T hair : Nat → Int32) (hk : k ≤ 6) (ht : t < 64) (hT : TOk K t T) (hh : Bd 6 (-9) 9 hair) (hK : ∀ c, c < k → t ||| 2 ^ c < K) (hex : ∃ c, c < k ∧ t.testBit c = false) : ∀ (n c : Nat) (b f : Int32), c ≤ k → k + 1 ≤ n + c → ((f = 2147483647 ∧ ∀ j, j < c → t.testBit j = true) ∨ ∃ q, b = nI q ∧ f = cv T hair t q ∧ Spec (cv T hair t) t c q) → ∃ q, LX1_firstBest_10 (nI t) (nI k) T hair n b f (nI c) = some (nI q) ∧ Spec (cv T hair t) t k q := by
  intro n
  induction n with
  | zero => intro c b f h1 h2; omega
  | succ n ih =>
    intro c b f h1 h2 h3
    show ∃ q, FX1_firstBest_10 (nI t) (nI k) T hair (LX1_firstBest_10 (nI t) (nI k) T hair n) b f (nI c) = some (nI q) ∧ _
    unfold FX1_firstBest_10
    by_cases c1 : c = k
    · subst c1
      rw [if_pos ((nI_leI (by omega) (by omega)).mpr (Nat.le_refl _))]
      rcases h3 with ⟨-, h⟩ | ⟨q, rfl, -, h⟩
      · obtain ⟨j, hj, hj2⟩ := hex
        rw [h j hj] at hj2; cases hj2
      · exact ⟨q, rfl, h⟩
    · rw [if_neg (fun z => by rw [nI_leI (by omega) (by omega)] at z; omega)]
      obtain ⟨e1, -, -, -⟩ := b6 ⟨t, ht⟩ ⟨c, by omega⟩
      dsimp only at e1
      unfold fX10_hasBit
      rw [e1]
      simp only [lt_e, nI_1]
      cases hb : t.testBit c with
      | true =>
        rw [if_pos rfl, if_pos rfl, if_neg (by decide)]
        refine ih (c + 1) b f (by omega) (by omega) ?_
        rcases h3 with ⟨ef, h⟩ | ⟨q, eb, ef, s1, s2, s3, s4⟩
        · exact Or.inl ⟨ef, fun j hj => by by_cases e : j = c; · rw [e]; exact hb
                                           · exact h j (by omega)⟩
        · refine Or.inr ⟨q, eb, ef, by omega, s2, fun j hj ho => ?_, s4⟩
          by_cases e : j = c
          · rw [e, hb] at ho; cases ho
          · exact s3 j (by omega) ho
      | false =>
        rw [if_neg (show ¬ (false = true) by decide), if_pos (by decide), missed_eq ht (by omega), bd_s]
        have hv := cv_ok hT hh ht (show c < 6 by omega) hb (hK c (by omega))
        rcases h3 with ⟨ef, h⟩ | ⟨q, eb, ef, s1, s2, s3, s4⟩
        · rw [if_neg (by rw [ef, t_le]; show ¬ (2147483647 : Int) ≤ _; omega)]
          refine ih (c + 1) (nI c) _ (by omega) (by omega) (Or.inr ⟨c, rfl, rfl, by omega, hb, fun j hj ho => ?_, fun j hj ho => ?_⟩)
          · by_cases e : j = c
            · rw [e]; omega
            · rw [h j (by omega)] at ho; cases ho
          · rw [h j hj] at ho; cases ho
        · by_cases c2 : f ≤ cv T hair t c
          · rw [if_pos c2]
            rw [ef, t_le] at c2
            refine ih (c + 1) b f (by omega) (by omega) (Or.inr ⟨q, eb, ef, by omega, s2, fun j hj ho => ?_, s4⟩)
            by_cases e : j = c
            · rw [e]; exact c2
            · exact s3 j (by omega) ho
          · rw [if_neg c2]
            rw [ef, t_le] at c2
            refine ih (c + 1) (nI c) _ (by omega) (by omega) (Or.inr ⟨c, rfl, rfl, by omega, hb, fun j hj ho => ?_, fun j hj ho => ?_⟩)
            · by_cases e : j = c
              · rw [e]; omega
              · have := s3 j (by omega) ho; omega
            · have := s3 j hj ho; omega
def Desc (v : Nat → Int32) (t k c b : Nat) : Prop := c ≤ b ∧ b < k ∧ t.testBit b = false ∧ (∀ j, c ≤ j → j < k → t.testBit j = false → (v b).toInt ≤ (v j).toInt) ∧ ∀ j, c ≤ j → j < b → t.testBit j = false → (v b).toInt < (v j).toInt
theorem L61 (K k t : Nat) (T hair : Nat → Int32) (hk : k ≤ 6) (ht : t < 64) (hT : TOk K t T) (hh : Bd 6 (-9) 9 hair) (hK : ∀ c, c < k → t ||| 2 ^ c < K) (hex : ∃ c, c < k ∧ t.testBit c = false) (k47 : Int32 → Int32 → (Nat → Int32) → Option (Int32 × (Nat → Int32))) : ∀ (n c : Nat) (x4 x6 : Int32), c ≤ k → c + 1 ≤ n → ((x6 = -6 ∧ ∀ j, c ≤ j → j < k → t.testBit j = true) ∨ ∃ q, x4 = nI q ∧ x6 = cv T hair t q ∧ Desc (cv T hair t) t k c q) → ∃ q, LX11_colours_61 (nI t) T hair k47 n x4 x6 (xm c) = k47 (nI q) (xm t) (upd T t (cv T hair t q)) ∧ Spec (cv T hair t) t k q := by
  intro n
  induction n with
  | zero => intro c x4 x6 h1 h2; omega
  | succ n ih =>
    intro c x4 x6 h1 h2 h3
    show ∃ q, FX11_colours_61 (nI t) T hair k47 (LX11_colours_61 (nI t) T hair k47 n) x4 x6 (xm c) = _ ∧ _
    unfold FX11_colours_61
    cases c with
    | zero =>
      rw [if_pos (by decide), gd_ix rfl ht (by omega), lt_e, cl_nI ht (by omega), xm_pred]
      rcases h3 with ⟨-, h⟩ | ⟨q, rfl, rfl, s0, s1, s2, s3, s4⟩
      · obtain ⟨j, hj, hj2⟩ := hex
        rw [h j (by omega) hj] at hj2; cases hj2
      · exact ⟨q, rfl, s1, s2, fun j hj ho => s3 j (by omega) hj ho, fun j hj ho => s4 j (by omega) hj ho⟩
    | succ c =>
      obtain ⟨e1, e2, e3, -⟩ := b6 ⟨t, ht⟩ ⟨c, by omega⟩
      obtain ⟨n1, -, -⟩ := n6 ⟨t, ht⟩
      dsimp only at e1 e2 e3 n1
      rw [if_neg (show ¬ xm (c + 1) < 0 from nI_pos (by omega))]
      show ∃ q, (if nI t >>> (nI c &&& 31) &&& 1 = 0 then fX11_colours_81 x4 (nI t) x6 (nI c) 1 T hair (LX11_colours_61 (nI t) T hair k47 n) else fX11_colours_81 x4 (nI t) x6 (nI c) 0 T hair (LX11_colours_61 (nI t) T hair k47 n)) = _ ∧ _
      rw [e1]
      unfold fX11_colours_81 fX11_colours_145
      simp only [lt_e, xm_pred]
      cases hb : t.testBit c with
      | true =>
        rw [if_pos rfl, if_neg (by decide)]
        simp only [if_true]
        refine ih c x4 x6 (by omega) (by omega) ?_
        rcases h3 with ⟨ef, h⟩ | ⟨q, eb, ef, s0, s1, s2, s3, s4⟩
        · refine Or.inl ⟨ef, fun j hj hj2 => ?_⟩
          by_cases e : j = c
          · rw [e]; exact hb
          · exact h j (by omega) hj2
        · refine Or.inr ⟨q, eb, ef, by omega, s1, s2, fun j hj hj2 ho => ?_, fun j hj hj2 ho => ?_⟩
          · by_cases e : j = c
            · rw [e, hb] at ho; cases ho
            · exact s3 j (by omega) hj2 ho
          · by_cases e : j = c
            · rw [e, hb] at ho; cases ho
            · exact s4 j (by omega) hj2 ho
      | false =>
        have hv := cv_ok hT hh ht (show c < 6 by omega) hb (hK c (by omega))
        have ev : fX11_size (fJ6_bitCount_0f7a4 (nI t) - hair c) + T (t ||| 2 ^ c) = cv T hair t c := by rw [iabs_size]; rfl
        rw [if_neg (show ¬ (false = true) by decide), if_pos rfl, if_neg (show ¬ (1 : Int32) = 0 by decide), n1, bd_s, gd_ix rfl (show c < 6 by omega) (by omega), gd_ix e2 e3 (by omega), e2, cl_nI (n := 6) (by omega) (by omega), cl_nI e3 (by omega), ev]
        simp only [if_neg (show ¬ (1 : Int32) = 0 by decide)]
        have up : (∀ j, c + 1 ≤ j → j < k → t.testBit j = false → (cv T hair t c).toInt ≤ (cv T hair t j).toInt) → ∃ q, LX11_colours_61 (nI t) T hair k47 n (nI c) (cv T hair t c) (xm c) = k47 (nI q) (xm t) (upd T t (cv T hair t q)) ∧ Spec (cv T hair t) t k q := fun hle => by
          refine ih c (nI c) (cv T hair t c) (by omega) (by omega) (Or.inr ⟨c, rfl, rfl, by omega, by omega, hb, fun j hj hj2 ho => ?_, fun j hj hj2 ho => by omega⟩)
          by_cases e : j = c
          · rw [e]; omega
          · exact hle j (by omega) hj2 ho
        rcases h3 with ⟨ef, h⟩ | ⟨q, eb, ef, s0, s1, s2, s3, s4⟩
        · rw [if_pos (show x6 < 0 by rw [ef]; decide)]
          exact up (fun j hj hj2 ho => by rw [h j hj hj2] at ho; cases ho)
        · have hq := cv_ok hT hh ht (show q < 6 by omega) s2 (hK q s1)
          rw [if_neg (show ¬ x6 < 0 by rw [ef, t_lt, l0]; omega)]
          by_cases c2 : x6 < cv T hair t c
          · simp only [if_pos c2, if_pos trivial]
            rw [ef, t_lt] at c2
            refine ih c x4 x6 (by omega) (by omega) (Or.inr ⟨q, eb, ef, by omega, s1, s2, fun j hj hj2 ho => ?_, fun j hj hj2 ho => ?_⟩)
            · by_cases e : j = c
              · rw [e]; omega
              · exact s3 j (by omega) hj2 ho
            · by_cases e : j = c
              · rw [e]; omega
              · exact s4 j (by omega) hj2 ho
          · rw [if_neg c2]
            rw [ef, t_lt] at c2
            exact up (fun j hj hj2 ho => by have := s3 j hj hj2 ho; omega)
theorem cv_cong {K t k : Nat} {T T2 hair : Nat → Int32} (ht : t < 64) (hk : k ≤ 6) (hK : ∀ c, c < k → t ||| 2 ^ c < K) (h : ∀ u, t < u → u < K → T u = T2 u) {c : Nat} (hc : c < k) (ho : t.testBit c = false) : cv T hair t c = cv T2 hair t c := by
  obtain ⟨-, -, -, e4⟩ := b6 ⟨t, ht⟩ ⟨c, by omega⟩
  unfold cv
  rw [h _ (e4 ho) (hK c hc)]
theorem Spec.cong {v v2 : Nat → Int32} {t k b : Nat} (h : ∀ c, c < k → t.testBit c = false → v c = v2 c) (s : Spec v t k b) : Spec v2 t k b := by
  obtain ⟨s1, s2, s3, s4⟩ := s
  refine ⟨s1, s2, fun j hj ho => ?_, fun j hj ho => ?_⟩
  · rw [← h b s1 s2, ← h j hj ho]; exact s3 j hj ho
  · rw [← h b s1 s2, ← h j (by omega) ho]; exact s4 j hj ho
theorem Lcol (k : Nat) (x2 : Int32) (hair : Nat → Int32) (hk1 : 1 ≤ k) (hk : k ≤ 6) (hh : Bd 6 (-9) 9 hair) : ∀ (c n m : Nat) (T1 T2 : Nat → Int32) (first : Int32), c + 1 ≤ 2 ^ k → c + 1 ≤ n → c + 1 ≤ m → (∀ u, c ≤ u → u < 2 ^ k → T1 u = T2 u) → (∀ u, c ≤ u → u < 2 ^ k → 0 ≤ (T1 u).toInt ∧ (T1 u).toInt ≤ 15 * (63 - u : Int)) → (c = 0 → ∃ q, first = nI q ∧ Spec (cv T1 hair 0) 0 k q) → ∃ (A1 A2 : Nat → Int32) (q : Nat), LX1_fill_35 (nI k) hair n (xm c) T1 = some (nI k, A1) ∧ LX11_colours_47 (nI k) x2 hair m first (xm c) T2 = (if x2 = 0 then some (A2 0, A2) else some (nI q, A2)) ∧ A1 0 = A2 0 ∧ (∀ u, 0 < u → u < 2 ^ k → 0 ≤ (A1 u).toInt ∧ (A1 u).toInt ≤ 15 * (63 - u : Int)) ∧ Spec (cv A1 hair 0) 0 k q := by
  have hk64 : 2 ^ k ≤ 64 := Nat.pow_le_pow_right (n := 2) (by omega) hk
  intro c
  induction c with
  | zero =>
    intro n m T1 T2 first h1 h2 h3 h4 h5 h6
    obtain ⟨q, eq, hq⟩ := h6 rfl
    cases n with
    | zero => omega
    | succ n =>
      cases m with
      | zero => omega
      | succ m =>
        refine ⟨T1, T2, q, ?_, ?_, h4 0 (by omega) (by omega), fun u hu hu2 => h5 u (by omega) hu2, hq⟩
        · show FX1_fill_35 (nI k) hair (LX1_fill_35 (nI k) hair n) (xm 0) T1 = _
          unfold FX1_fill_35
          rw [if_pos (by decide)]
        · show FX11_colours_47 (nI k) x2 hair (LX11_colours_47 (nI k) x2 hair m) first (xm 0) T2 = _
          unfold FX11_colours_47
          rw [if_pos (by decide), eq]
          rfl
  | succ t ih =>
    intro n m T1 T2 first h1 h2 h3 h4 h5 h6
    have ht : t < 64 := by omega
    obtain ⟨⟨c0, hc0, ho0⟩, hK⟩ := o6 ⟨k, by omega⟩ ⟨t, ht⟩ (by dsimp only; omega)
    dsimp only at hc0 ho0 hK
    have hK : ∀ c, c < k → t ||| 2 ^ c < 2 ^ k := fun c hc => hK ⟨c, by omega⟩ hc
    have hex : ∃ c, c < k ∧ t.testBit c = false := ⟨c0.val, hc0, ho0⟩
    have hT1 : TOk (2 ^ k) t T1 := fun u hu hu2 => h5 u (by omega) hu2
    have hT2 : TOk (2 ^ k) t T2 := fun u hu hu2 => by rw [← h4 u (by omega) hu2]; exact h5 u (by omega) hu2
    have cong : ∀ c, c < k → t.testBit c = false → cv T1 hair t c = cv T2 hair t c := fun c hc ho => cv_cong ht hk hK (fun u hu hu2 => h4 u (by omega) hu2) hc ho
    cases n with
    | zero => omega
    | succ n =>
      cases m with
      | zero => omega
      | succ m =>
        obtain ⟨b, eb, sb⟩ := L1best (2 ^ k) k t T1 hair hk ht hT1 hh hK hex 2000 0 (-6) 2147483647 (by omega) (by omega) (Or.inl ⟨rfl, fun j hj => by omega⟩)
        rw [nI_0] at eb
        obtain ⟨b2, eb2, sb2⟩ := L61 (2 ^ k) k t T2 hair hk ht hT2 hh hK hex (LX11_colours_47 (nI k) x2 hair m) 2000 k first (-6) (by omega) (by omega) (Or.inl ⟨rfl, fun j hj hj2 => by omega⟩)
        have e : b2 = b := Spec.one sb2 (Spec.cong cong sb)
        subst e
        obtain ⟨v1, v2⟩ := cv_ok hT1 hh ht (show b2 < 6 by have := sb.1; omega) sb.2.1 (hK b2 sb.1)
        have evv := cong b2 sb.1 sb.2.1
        have step := ih n m (upd T1 t (cv T1 hair t b2)) (upd T2 t (cv T2 hair t b2)) (nI b2) (by omega) (by omega) (by omega) (fun u hu hu2 => ?_) (fun u hu hu2 => ?_) (fun h0 => ?_)
        · obtain ⟨A1, A2, q, g1, g2, g3⟩ := step
          refine ⟨A1, A2, q, ?_, ?_, g3⟩
          · show FX1_fill_35 (nI k) hair (LX1_fill_35 (nI k) hair n) (nI t) T1 = _
            unfold FX1_fill_35 fX1_firstBest
            rw [if_neg (nI_pos (by omega)), eb, bd_s, missed_eq ht (by have := sb.1; omega), bd_s, gd_ix rfl ht (by omega), lt_e, cl_nI ht (by omega), xm_pred]
            exact g1
          · show FX11_colours_47 (nI k) x2 hair (LX11_colours_47 (nI k) x2 hair m) first (nI t) T2 = _
            unfold FX11_colours_47
            rw [if_neg (nI_pos (by omega)), lt_e, xm_sub, eb2]
            exact g2
        · by_cases e : u = t
          · rw [e, pk_us, pk_us, evv]
          · rw [pk_un e, pk_un e]; exact h4 u (by omega) hu2
        · by_cases e : u = t
          · subst e; rw [pk_us]; exact ⟨v1, v2⟩
          · rw [pk_un e]; exact h5 u (by omega) hu2
        · subst h0
          refine ⟨b2, rfl, Spec.cong (fun c hc ho => ?_) sb⟩
          exact cv_cong (by omega) hk hK (fun u hu hu2 => by rw [pk_un (by omega)]) hc ho
theorem p_colours (x1 x2 flat least size : Int32) (tab tab2 deep fine pay hair : Nat → Int32) (hr : InvR flat least deep fine pay hair) : ∃ (r s' : Int32) (A B : Nat → Int32), fX10_colours x1 x2 size tab hair = some (r, s', A) ∧ fX11_colours x1 x2 tab2 hair = some (r, B) := by
  unfold fX10_colours fX11_colours
  rw [in_1_6, in_0_1]
  by_cases c1 : fX10_inside x1 1 6 = 0
  · simp only [if_pos c1]; exact ⟨_, _, _, _, rfl, rfl⟩
  simp only [if_neg c1]
  by_cases c2 : fX10_inside x2 0 1 = 0
  · simp only [if_pos c2]; exact ⟨_, _, _, _, rfl, rfl⟩
  simp only [if_neg c2]
  have a1 := ins_t c1
  have b1 : (1 : Int32).toInt = 1 := rfl
  have b6' : (6 : Int32).toInt = 6 := rfl
  obtain ⟨k, hk, rfl⟩ := t_of (x := x1) (n := 7) (by omega) (by omega) (by omega)
  rw [nI_toInt (by omega)] at a1
  have hk1 : 1 ≤ k := by omega
  have hk6 : k ≤ 6 := by omega
  have esz : imax 0 (imin 6 (nI k)) = nI k := by
    rcases (show k = 1 ∨ k = 2 ∨ k = 3 ∨ k = 4 ∨ k = 5 ∨ k = 6 by omega) with rfl | rfl | rfl | rfl | rfl | rfl <;> decide
  have eall : ((1 : Int32) <<< (nI k &&& 31)) - 1 = nI (2 ^ k - 1) := by
    rcases (show k = 1 ∨ k = 2 ∨ k = 3 ∨ k = 4 ∨ k = 5 ∨ k = 6 by omega) with rfl | rfl | rfl | rfl | rfl | rfl <;> decide
  have hk64 : 2 ^ k ≤ 64 := Nat.pow_le_pow_right (n := 2) (by omega) hk6
  have hk2 : 2 ≤ 2 ^ k := by
    have := Nat.pow_le_pow_right (n := 2) (i := 1) (j := k) (by omega) hk1
    omega
  unfold fX1_fill
  simp only [lt_e, esz, eall]
  simp only [gd_ix (i := nI (2 ^ k - 1)) (k := 2 ^ k - 1) (n := 64) rfl (by omega) (by omega)]
  rw [cl_nI (n := 64) (by omega) (by omega), xm_sub]
  obtain ⟨A1, A2, q, g1, g2, g3, g4, g5⟩ := Lcol k x2 hair hk1 hk6 hr.2.2.2.2.2 (2 ^ k - 1) 2000 2000 (upd tab (2 ^ k - 1) 0) (upd tab2 (2 ^ k - 1) 0) (-6) (by omega) (by omega) (by omega) (fun u h1 h2 => by rw [show u = 2 ^ k - 1 by omega, pk_us, pk_us]) (fun u h1 h2 => by rw [show u = 2 ^ k - 1 by omega, pk_us, l0]; omega) (fun h => by omega)
  rw [g1, g2, bd_s]
  by_cases c3 : x2 = 0
  · simp only [if_pos c3]
    exact ⟨_, _, _, A2, rfl, by rw [← g3]; rfl⟩
  · simp only [if_neg c3]
    obtain ⟨⟨c0, hc0, ho0⟩, hK⟩ := o6 ⟨k, by omega⟩ ⟨0, by omega⟩ (by dsimp only; omega)
    dsimp only at hc0 ho0 hK
    obtain ⟨b, eb, sb⟩ := L1best (2 ^ k) k 0 A1 hair hk6 (by omega) (fun u hu hu2 => g4 u hu hu2) hr.2.2.2.2.2 (fun c hc => hK ⟨c, by omega⟩ hc) ⟨c0.val, hc0, ho0⟩ 2000 0 (-6) 2147483647 (by omega) (by omega) (Or.inl ⟨rfl, fun j hj => by omega⟩)
    rw [nI_0] at eb
    have e : b = q := Spec.one sb g5
    subst e
    unfold fX1_firstBest
    rw [eb, bd_s]
    exact ⟨_, _, _, _, rfl, rfl⟩
