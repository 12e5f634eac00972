theorem sus8 : ∀ t : Fin 256, ∀ f : Fin 8, ¬ (nI t.val ||| ((1 : Int32) <<< (nI f.val &&& 31))) = 0 ∧ (nI t.val ||| ((1 : Int32) <<< (nI f.val &&& 31))) ||| ((1 : Int32) <<< (nI f.val &&& 31)) = nI t.val ||| ((1 : Int32) <<< (nI f.val &&& 31)) ∧ (nI t.val ||| 0) = nI t.val := by decide +kernel
theorem or0 (x : Int32) : x ||| 0 = x := Int32.or_zero
section
variable {size shown : Int32} {drawn pull deep fine shows : Nat → Int32} {l u : Nat → Nat}
theorem Ms (hl : ∀ f, 1 ≤ l f) (hu : ∀ f, u f ≤ 20) (hf : ∀ f, f < 8 → ∀ g, 1 ≤ g → g ≤ 20 → fX11_fits (nI f) (nI g) size drawn pull deep fine shows = some (if l f ≤ g ∧ g ≤ u f then 1 else 0)) (f : Nat) (hf8 : f < 8) (t : Nat) (ht : t < 256) (m : Nat) : ∀ (d r : Nat), r + d = 20 → LX11_suspects_4 size drawn pull deep fine shows (m + d) (if 0 < min (u f) r + 1 - l f then nI t ||| ((1 : Int32) <<< (nI f &&& 31)) else nI t) (nI (20 * f + r)) = LX11_suspects_4 size drawn pull deep fine shows m (if 0 < cn l u f then nI t ||| ((1 : Int32) <<< (nI f &&& 31)) else nI t) (nI (20 * (f + 1))) := by
  have h1 := hl f
  have h2 := hu f
  obtain ⟨-, s2, -⟩ := sus8 ⟨t, ht⟩ ⟨f, hf8⟩
  dsimp only at s2
  intro d
  induction d with
  | zero =>
    intro r hr
    have e : min (u f) r + 1 - l f = cn l u f := by unfold cn; omega
    rw [e, show 20 * f + r = 20 * (f + 1) by omega]
    rfl
  | succ d ih =>
    intro r hr
    have i1 := ih (r + 1) (by omega)
    show FX11_suspects_4 size drawn pull deep fine shows (LX11_suspects_4 size drawn pull deep fine shows (m + d)) _ (nI (20 * f + r)) = _
    unfold FX11_suspects_4
    rw [if_neg (fun z => by rw [show (160 : Int32) = nI 160 from rfl, nI_leI (by omega) (by omega)] at z; omega)]
    have ed : nI (20 * f + r) / 20 = nI f := by
      rw [show (20 : Int32) = nI 20 from rfl, pk_div (by omega) (by omega) (by omega), show (20 * f + r) / 20 = f by omega]
    have er : nI (20 * f + r) - nI (20 * f + r) / 20 * 20 = nI r := by
      have := pk_rem (a := 20 * f + r) (d := 20) (by omega) (by omega) (by omega)
      rw [show (20 * f + r) % 20 = r by omega] at this
      exact this
    have eg : (1 : Int32) + nI r = nI (r + 1) := by rw [show (1 : Int32) = nI 1 from rfl, nI_add, Nat.add_comm]
    rw [er, eg, ed, hf f hf8 (r + 1) (by omega) (by omega), bd_s]
    simp only [lt_e, nI_1]
    rw [show 20 * f + r + 1 = 20 * f + (r + 1) by omega]
    by_cases c1 : l f ≤ r + 1 ∧ r + 1 ≤ u f
    · rw [if_pos c1, if_neg (by decide)]
      rw [if_pos (show 0 < min (u f) (r + 1) + 1 - l f by omega)] at i1
      by_cases c2 : 0 < min (u f) r + 1 - l f
      · rw [if_pos c2, s2]; exact i1
      · rw [if_neg c2]; exact i1
    · rw [if_neg c1, if_pos rfl, or0]
      have e2 : (0 < min (u f) (r + 1) + 1 - l f) = (0 < min (u f) r + 1 - l f) := by
        apply propext; constructor <;> intro _ <;> omega
      simp only [e2] at i1
      exact i1
theorem Ms0 (hl : ∀ f, 1 ≤ l f) (hl2 : ∀ f, l f ≤ 20) (hu : ∀ f, u f ≤ 20) (hc : ∀ f, f < 8 → fX4_countTwos (nI f) size shown drawn pull deep fine = some (nI (cn l u f))) (hf : ∀ f, f < 8 → ∀ g, 1 ≤ g → g ≤ 20 → fX11_fits (nI f) (nI g) size drawn pull deep fine shows = some (if l f ≤ g ∧ g ≤ u f then 1 else 0)) : ∀ (e f n m t : Nat), t < 256 → f + e = 8 → e + 1 ≤ n → 1 ≤ m → ∃ r, LX10_suspects_4 size shown drawn pull deep fine n (nI t) (nI f) = some r ∧ LX11_suspects_4 size drawn pull deep fine shows (m + 20 * e) (nI t) (nI (20 * f)) = some r ∧ (r = 0 ↔ nI t = 0 ∧ ∀ j, f ≤ j → j < 8 → cn l u j = 0) := by
  intro e
  induction e with
  | zero =>
    intro f n m t ht h1 h2 h3
    have ef : f = 8 := by omega
    subst ef
    cases n with
    | zero => omega
    | succ n =>
      cases m with
      | zero => omega
      | succ m =>
        refine ⟨nI t, ?_, ?_, fun h => ⟨h, fun j hj hj2 => by omega⟩, fun h => h.1⟩
        · show FX10_suspects_4 size shown drawn pull deep fine (LX10_suspects_4 size shown drawn pull deep fine n) _ (nI 8) = _
          unfold FX10_suspects_4
          rw [if_pos (show (8 : Int32) ≤ nI 8 by decide)]
        · show FX11_suspects_4 size drawn pull deep fine shows (LX11_suspects_4 size drawn pull deep fine shows m) _ (nI 160) = _
          unfold FX11_suspects_4
          rw [if_pos (show (160 : Int32) ≤ nI 160 by decide)]
  | succ e ih =>
    intro f n m t ht h1 h2 h3
    have hf8 : f < 8 := by omega
    have q1 := hl f
    have q2 := hu f
    have q3 := hl2 f
    have hcn : cn l u f ≤ 20 := by unfold cn; omega
    obtain ⟨s1, s2, -⟩ := sus8 ⟨t, ht⟩ ⟨f, hf8⟩
    obtain ⟨s3, -⟩ := sh_or ⟨t, ht⟩ ⟨f, hf8⟩
    dsimp only at s1 s2 s3
    cases n with
    | zero => omega
    | succ n =>
      have hM := Ms hl hu hf f hf8 t ht (m + 20 * e) 20 0 (by omega)
      simp only [show min (u f) 0 + 1 - l f = 0 by omega, Nat.add_zero, Nat.lt_irrefl, if_false] at hM
      rw [show m + 20 * (e + 1) = m + 20 * e + 20 by omega, hM]
      show ∃ r, FX10_suspects_4 size shown drawn pull deep fine (LX10_suspects_4 size shown drawn pull deep fine n) _ (nI f) = some r ∧ _
      unfold FX10_suspects_4
      rw [if_neg (le8 hf8), hc f hf8, bd_s]
      simp only [lt_e, nI_1]
      by_cases c1 : 0 < cn l u f
      · rw [if_neg (show ¬ nI (cn l u f) ≤ 0 from nI_nle c1 (by omega)), if_pos c1]
        obtain ⟨t2, ht2, et⟩ := t_of (x := nI t ||| ((1 : Int32) <<< (nI f &&& 31))) (n := 256) s3.1 (by omega) (by omega)
        rw [et]
        obtain ⟨r, i1, i2, i3⟩ := ih (f + 1) n m t2 ht2 (by omega) (by omega) h3
        refine ⟨r, i1, i2, ?_⟩
        rw [i3]
        refine ⟨fun h => absurd (by rw [et]; exact h.1) s1, fun h => ?_⟩
        have := h.2 f (by omega) hf8
        omega
      · have c0 : cn l u f = 0 := by omega
        rw [if_pos (show nI (cn l u f) ≤ 0 by rw [c0]; decide), if_neg c1]
        obtain ⟨r, i1, i2, i3⟩ := ih (f + 1) n m t ht (by omega) (by omega) h3
        refine ⟨r, i1, i2, ?_⟩
        rw [i3]
        refine ⟨fun h => ⟨h.1, fun j hj hj2 => ?_⟩, fun h => ⟨h.1, fun j hj hj2 => h.2 j (by omega) hj2⟩⟩
        by_cases e : j = f
        · rw [e]; exact c0
        · exact h.2 j (by omega) hj2
end
