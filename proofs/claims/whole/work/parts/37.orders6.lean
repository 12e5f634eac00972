def ab (c : Nat → Bool) : Nat → Nat
  | 0 => 0
  | s + 1 => if c s then ab c s ||| 2 ^ s else ab c s
theorem ab_lt (c : Nat → Bool) : ∀ s, s ≤ 5 → ab c s < 32 := by
  intro s
  induction s with
  | zero => intro _; show 0 < 32; omega
  | succ s ih =>
    intro hs
    have h := ih (by omega)
    unfold ab
    split
    · exact (b5 ⟨_, h⟩ ⟨s, by omega⟩).2.2
    · exact h
theorem ab_bit (c : Nat → Bool) {s : Nat} (hs : s < 5) : (ab c 5).testBit s = c s := by
  simp only [ab]
  rcases (show s = 0 ∨ s = 1 ∨ s = 2 ∨ s = 3 ∨ s = 4 by omega) with rfl | rfl | rfl | rfl | rfl <;> cases c 0 <;> cases c 1 <;> cases c 2 <;> cases c 3 <;> cases c 4 <;> rfl
theorem Lstones (p : Nat) (x2 there flat least : Int32) (hollow thick fats deep fine : Nat → Int32) (h6 : Bd 40 0 60 fats) (hd : Bd 8 1 60 deep) (hf : Bd 8 1 9 fine) (hp : p < 8) : ∀ (n s : Nat), s ≤ 5 → 6 ≤ n + s → LX2_stonesFor_6 (nI p) x2 there flat least hollow thick fats deep fine n (nI (ab (fun s => tk there flat least hollow thick s && ls_ fats deep fine x2 p s) s)) (nI s) = some (nI (ab (fun s => tk there flat least hollow thick s && ls_ fats deep fine x2 p s) 5)) := by
  intro n
  induction n with
  | zero => intro s h1 h2; omega
  | succ n ih =>
    intro s h1 h2
    show FX2_stonesFor_6 (nI p) x2 there flat least hollow thick fats deep fine (LX2_stonesFor_6 (nI p) x2 there flat least hollow thick fats deep fine n) _ (nI s) = _
    unfold FX2_stonesFor_6
    by_cases c1 : s = 5
    · subst c1; rw [if_pos (show (5 : Int32) ≤ nI 5 by decide)]
    · have hs : s < 5 := by omega
      have i1 := ih (s + 1) (by omega) (by omega)
      have hl := ab_lt (fun s => tk there flat least hollow thick s && ls_ fats deep fine x2 p s) s h1
      have e2 := (b5 ⟨_, hl⟩ ⟨s, hs⟩).2.1
      dsimp only at e2
      rw [if_neg (le5 hs), takes_eq hs, bd_s, (wl_eq x2 h6 hd hf hs hp).1, bd_s, e2]
      simp only [lt_e, nI_1]
      rw [ab] at i1
      cases ht : tk there flat least hollow thick s with
      | false =>
        simp only [ht, Bool.false_and] at i1
        rw [if_pos (by decide)]; exact i1
      | true =>
        rw [if_neg (by decide)]
        cases hq : ls_ fats deep fine x2 p s with
        | false =>
          simp only [ht, hq, Bool.and_false] at i1
          rw [if_pos (by decide)]; exact i1
        | true =>
          simp only [ht, hq, Bool.and_true, if_true] at i1
          rw [if_neg (by decide)]; exact i1
