/-! the PAD: its signs, its ACTS -/
def sg (n : Nat) (signs : Nat → Int32) (j : Nat) : Int32 := if j < n then signs j else 0
theorem sg_eq {n j : Nat} {signs : Nat → Int32} (hn : n ≤ 60) (hj : j < 1000) : fX3_signAt (nI j) (nI n) signs = some (sg n signs j) := by
  unfold fX3_signAt sg
  rw [if_neg (nI_pos (by omega))]
  by_cases c : j < n
  · rw [if_neg (fun z => by rw [nI_leI (by omega) (by omega)] at z; omega), if_neg (fun z => by rw [show (60 : Int32) = nI 60 from rfl, nI_leI (by omega) (by omega)] at z; omega), gd_ix rfl (show j < 60 by omega) (by omega), cl_nI (n := 60) (by omega) (by omega), if_pos c]
  · rw [if_pos ((nI_leI (by omega) (by omega)).mpr (by omega)), if_neg c]
theorem sg_in {n j : Nat} {signs : Nat → Int32} (hj : j < n) : sg n signs j = signs j := if_pos hj
theorem sg_out {n j : Nat} {signs : Nat → Int32} (hj : ¬ j < n) : sg n signs j = 0 := if_neg hj
def th3 (c : Int32) : Bool := if fX3_takesDigit c = 0 then decide (c = 43) else true
theorem third_eq {n i : Nat} {signs : Nat → Int32} (hn : n ≤ 60) (hi : i < 900) : fX3_hasThird (nI i) (nI n) signs = some (if th3 (sg n signs (i + 1)) then 1 else 0) := by
  unfold fX3_hasThird th3
  rw [nI_1, sg_eq hn (by omega), bd_s]
  by_cases c : fX3_takesDigit (sg n signs (i + 1)) = 0
  · rw [if_pos c, if_pos c]
    by_cases c2 : sg n signs (i + 1) = 43
    · rw [if_pos c2, decide_eq_true c2]; rfl
    · rw [if_neg c2, decide_eq_false c2]; rfl
  · rw [if_neg c, if_neg c]; rfl
def ps (n : Nat) (signs : Nat → Int32) : Nat → Nat
  | 0 => 0
  | k + 1 => ps n signs k + (if th3 (sg n signs (ps n signs k + 1)) then 3 else 2)
def GA (kd am : Int32) : Prop := (kd = 0 ∨ kd = 1 ∨ kd = 2 ∨ kd = 3 ∨ kd = 4 ∨ kd = 5) ∧ (kd = 0 → ∃ p, p < 8 ∧ am = nI p) ∧ (kd = 1 ∨ kd = 2 ∨ kd = 3 ∨ kd = 4 → ∃ v, v ≤ 9 ∧ am = nI v)
def AR (n : Nat) (signs : Nat → Int32) (a : Nat) (act much wher : Nat → Int32) : Prop := ∀ k, k < a → ps n signs k < n ∧ GA (act k) (much k) ∧ fX3_readAct (nI (ps n signs k)) (nI n) signs = some (much k, act k, wher k)
theorem AR.snoc {n a : Nat} {signs act much wher : Nat → Int32} {x y z : Int32} (h : AR n signs a act much wher) (h1 : ps n signs a < n) (h2 : GA x y) (h3 : fX3_readAct (nI (ps n signs a)) (nI n) signs = some (y, x, z)) (act' : Nat → Int32) (ha : act' a = x) (hb : ∀ k, k < a → act' k = act k) : AR n signs (a + 1) act' (upd much a y) (upd wher a z) := by
  intro k hk
  by_cases e : k = a
  · subst e
    rw [ha, pk_us, pk_us]; exact ⟨h1, h2, h3⟩
  · rw [hb k (by omega), pk_un e, pk_un e]; exact h k (by omega)
/-! what the reference does with a sign -/
section
variable {a : Nat} {c : Int32} {act much wher : Nat → Int32}
theorem close_eq (x y : Int32) (ha : a < 60) : fX11_close x y (nI a) act much = some (0, nI (a + 1), upd act a x, upd much a y) := by
  unfold fX11_close
  rw [gd_ix rfl ha (by omega), cl_nI ha (by omega), lt_e, nI_1]
theorem st_of (h : ¬ fX10_inside c 97 101 = 0) : ∃ q, q < 5 ∧ c - 97 = nI q := by
  have h1 := ins_t h
  have e1 : (97 : Int32).toInt = 97 := rfl
  have e2 : (101 : Int32).toInt = 101 := rfl
  have e3 : (c - 97).toInt = c.toInt - 97 := by rw [t_sub (by omega) (by omega), e1]
  exact t_of (by omega) (show _ < ((5 : Nat) : Int) by omega) (by omega)
theorem dg_of (h : ¬ fX10_inside c 49 57 = 0) : ∃ q, q ≤ 9 ∧ c - 48 = nI q := by
  have h1 := ins_t h
  have e1 : (49 : Int32).toInt = 49 := rfl
  have e2 : (57 : Int32).toInt = 57 := rfl
  have e0 : (48 : Int32).toInt = 48 := rfl
  have e3 : (c - 48).toInt = c.toInt - 48 := by rw [t_sub (by omega) (by omega), e0]
  obtain ⟨k, a1, a2⟩ := t_of (x := c - 48) (n := 10) (by omega) (by omega) (by omega)
  exact ⟨k, by omega, a2⟩
theorem pc_of (h : ¬ fX10_inside c 65 72 = 0) : ∃ q, q < 8 ∧ c - 65 = nI q := by
  have h1 := ins_t h
  have e1 : (65 : Int32).toInt = 65 := rfl
  have e2 : (72 : Int32).toInt = 72 := rfl
  have e3 : (c - 65).toInt = c.toInt - 65 := by rw [t_sub (by omega) (by omega), e1]
  exact t_of (by omega) (show _ < ((8 : Nat) : Int) by omega) (by omega)
theorem stof_y (h : ¬ fX10_inside c 97 101 = 0) : fX11_stoneOf c = c - 97 := by
  unfold fX11_stoneOf; rw [in_97_101, if_neg h]
theorem stof_n (h : fX10_inside c 97 101 = 0) : fX11_stoneOf c = -6 := by
  unfold fX11_stoneOf; rw [in_97_101, if_pos h]
theorem ro0s (ha : a < 60) (h : ¬ fX10_inside c 97 101 = 0) : fX11_readOn 0 c (nI a) act much wher = some (1, nI a, act, much, upd wher a (c - 97)) := by
  unfold fX11_readOn
  obtain ⟨q, hq, e⟩ := st_of h
  rw [lt_e, if_pos rfl, lt_e, gd_ix rfl ha (by omega), cl_nI ha (by omega), stof_y h, if_pos (by rw [e]; exact ge0 (by omega))]
theorem ro0n (ha : a < 60) (h : fX10_inside c 97 101 = 0) : fX11_readOn 0 c (nI a) act much wher = some (-6, nI a, act, much, upd wher a (-6)) := by
  unfold fX11_readOn
  rw [lt_e, if_pos rfl, lt_e, gd_ix rfl ha (by omega), cl_nI ha (by omega), stof_n h, if_neg (by decide)]
theorem ro1d (ha : a < 60) (h : ¬ fX10_inside c 49 57 = 0) : fX11_readOn 1 c (nI a) act much wher = some (0, nI (a + 1), upd act a 4, upd much a (c - 48), wher) := by
  unfold fX11_readOn
  rw [lt_e, in_49_57, if_neg (by decide), if_neg (by decide), if_neg (by decide), if_neg h, close_eq _ _ ha, bd_s]
theorem ro1p (ha : a < 60) (h : fX10_inside c 49 57 = 0) (h2 : ¬ fX10_inside c 65 72 = 0) : fX11_readOn 1 c (nI a) act much wher = some (0, nI (a + 1), upd act a 0, upd much a (c - 65), wher) := by
  unfold fX11_readOn
  rw [lt_e, in_49_57, in_65_72, if_neg (by decide), if_neg (by decide), if_neg (by decide), if_pos h, if_neg h2, close_eq _ _ ha, bd_s]
theorem ro1x (ha : a < 60) (h : fX10_inside c 49 57 = 0) (h2 : fX10_inside c 65 72 = 0) : fX11_readOn 1 c (nI a) act much wher = some (if c = 43 then 3 else if c = 111 then 2 else if c = 120 then 2 else if c = 119 then 2 else -6, nI a, upd act a (if c = 111 then 1 else if c = 120 then 2 else 3), much, wher) := by
  unfold fX11_readOn fX11_readOn_169
  rw [lt_e, in_49_57, in_65_72, if_neg (show ¬ (1 : Int32) = 0 by decide), if_neg (show ¬ (1 : Int32) = 2 by decide), if_neg (show ¬ (1 : Int32) = 3 by decide), if_pos h, if_pos h2]
  simp only [gd_ik (k := a) (n := 60) ha (by omega), cl_nI ha (show 60 < 1000000 by omega)]
  by_cases c1 : c = 43
  · subst c1; rfl
  · by_cases c2 : c = 111
    · subst c2; rfl
    · by_cases c3 : c = 120
      · subst c3; rfl
      · by_cases c4 : c = 119
        · subst c4; rfl
        · simp only [if_neg c1, if_neg c2, if_neg c3, if_neg c4]
theorem ro2d (ha : a < 60) (h : ¬ fX10_inside c 49 57 = 0) : fX11_readOn 2 c (nI a) act much wher = some (0, nI (a + 1), upd act a (act a), upd much a (c - 48), wher) := by
  unfold fX11_readOn
  rw [lt_e, in_49_57, if_neg (by decide), if_pos rfl, if_neg h, gd_ix rfl ha (by omega), cl_nI ha (by omega), close_eq _ _ ha, bd_s]
theorem ro2n (h : fX10_inside c 49 57 = 0) : fX11_readOn 2 c (nI a) act much wher = some (-6, nI a, act, much, wher) := by
  unfold fX11_readOn
  rw [lt_e, in_49_57, if_neg (by decide), if_pos rfl, if_pos h]
theorem ro3s (ha : a < 60) (h : ¬ fX10_inside c 97 101 = 0) : fX11_readOn 3 c (nI a) act much wher = some (0, nI (a + 1), upd act a 5, upd much a (c - 97), wher) := by
  unfold fX11_readOn
  obtain ⟨q, hq, e⟩ := st_of h
  rw [lt_e, if_neg (by decide), if_neg (by decide), if_pos rfl, stof_y h, if_pos (by rw [e]; exact ge0 (by omega)), close_eq _ _ ha, bd_s]
theorem ro3n (h : fX10_inside c 97 101 = 0) : fX11_readOn 3 c (nI a) act much wher = some (-6, nI a, act, much, wher) := by
  unfold fX11_readOn
  rw [lt_e, if_neg (by decide), if_neg (by decide), if_pos rfl, stof_n h, if_neg (by decide)]
end
section
variable {n : Nat} {signs : Nat → Int32}
theorem fl_end {due acts : Int32} {act much wher : Nat → Int32} (hn : n ≤ 60) (m : Nat) (hm : 1 ≤ m) : LX11_fault_9 (nI n) signs m due (nI n) acts act much wher = if due = 0 then some (-6, acts, act, much, wher) else some (nI n, acts, act, much, wher) := by
  cases m with
  | zero => omega
  | succ m =>
    show FX11_fault_9 (nI n) signs (LX11_fault_9 (nI n) signs m) due (nI n) acts act much wher = _
    unfold FX11_fault_9
    rw [if_pos (by rw [t_le]; omega)]
theorem fl_bad {i : Nat} {due acts acts' : Int32} {act much wher act' much' wher' : Nat → Int32} (hn : n ≤ 60) (hi : i < n) (m : Nat) (hm : 1 ≤ m) (h : fX11_readOn due (signs i) acts act much wher = some (-6, acts', act', much', wher')) : LX11_fault_9 (nI n) signs m due (nI i) acts act much wher = some (nI i, acts', act', much', wher') := by
  cases m with
  | zero => omega
  | succ m =>
    show FX11_fault_9 (nI n) signs (LX11_fault_9 (nI n) signs m) due (nI i) acts act much wher = _
    unfold FX11_fault_9
    rw [if_neg (fun z => by rw [nI_leI (by omega) (by omega)] at z; omega), gd_ix rfl (show i < 60 by omega) (by omega), cl_nI (n := 60) (by omega) (by omega), h, bd_s]
    exact if_neg (show ¬ (0 : Int32) ≤ -6 by decide)
theorem fl_go {i : Nat} {due due' acts acts' : Int32} {act much wher act' much' wher' : Nat → Int32} (hn : n ≤ 60) (hi : i < n) (m : Nat) (h : fX11_readOn due (signs i) acts act much wher = some (due', acts', act', much', wher')) (hd : 0 ≤ due') : LX11_fault_9 (nI n) signs (m + 1) due (nI i) acts act much wher = LX11_fault_9 (nI n) signs m due' (nI (i + 1)) acts' act' much' wher' := by
  show FX11_fault_9 (nI n) signs (LX11_fault_9 (nI n) signs m) due (nI i) acts act much wher = _
  unfold FX11_fault_9
  rw [if_neg (fun z => by rw [nI_leI (by omega) (by omega)] at z; omega), gd_ix rfl (show i < 60 by omega) (by omega), cl_nI (n := 60) (by omega) (by omega), h, bd_s, lt_e, nI_1]
  exact if_pos hd
/-- what the class's loop does behind the verb -/
theorem c62 {i : Nat} {c : Int32} (hn : n ≤ 60) (hi : i < 100) (k2 : Int32 → Option Int32) (hv : sg n signs (i + 1) = c) : fX3_firstFault_62 (nI i) c (nI n) signs k2 = if fX3_takesDigit c = 0 then (if c = 43 then (if fX10_inside (sg n signs (i + 2)) 97 101 = 0 then some (nI (i + 2)) else k2 (nI (i + 3))) else k2 (nI (i + 2))) else (if fX10_inside (sg n signs (i + 2)) 49 57 = 0 then some (nI (i + 2)) else k2 (nI (i + 3))) := by
  unfold fX3_firstFault_62 fX3_firstFault_84 fX3_isStone fX3_isDigit
  have e2 : nI i + 2 = nI (i + 2) := nI_add i 2
  have e3 : nI i + 3 = nI (i + 3) := nI_add i 3
  rw [third_eq hn (by omega), bd_s, hv, e2, sg_eq hn (by omega), bd_s]
  simp only [lt_e, e3]
  unfold th3
  by_cases c1 : fX3_takesDigit c = 0
  · simp only [if_pos c1]
    by_cases c2 : c = 43
    · simp only [if_pos c2, decide_eq_true c2]
      by_cases c3 : fX10_inside (sg n signs (i + 2)) 97 101 = 0
      · rw [if_pos c3, if_pos c3]
      · rw [if_neg c3, if_neg c3]; rfl
    · simp only [if_neg c2, decide_eq_false c2]; rfl
  · have c2 : ¬ c = 43 := fun z => c1 (by rw [z]; decide)
    simp only [if_neg c1, if_neg c2]
    by_cases c3 : fX10_inside (sg n signs (i + 2)) 49 57 = 0
    · rw [if_pos c3, if_pos c3]
    · rw [if_neg c3, if_neg c3]; rfl
theorem cstep {i m : Nat} (hn : n ≤ 60) (hi : i < n) : LX3_firstFault_2 (nI n) signs (m + 1) (nI i) = if fX10_inside (signs i) 97 101 = 0 then some (nI i) else (if fX10_inside (sg n signs (i + 1)) 65 72 = 0 then (if fX10_inside (sg n signs (i + 1)) 49 57 = 0 then (if fX3_takesDigit (sg n signs (i + 1)) = 0 then (if sg n signs (i + 1) = 43 then fX3_firstFault_62 (nI i) (sg n signs (i + 1)) (nI n) signs (LX3_firstFault_2 (nI n) signs m) else some (nI (i + 1))) else fX3_firstFault_62 (nI i) (sg n signs (i + 1)) (nI n) signs (LX3_firstFault_2 (nI n) signs m)) else fX3_firstFault_62 (nI i) (sg n signs (i + 1)) (nI n) signs (LX3_firstFault_2 (nI n) signs m)) else fX3_firstFault_62 (nI i) (sg n signs (i + 1)) (nI n) signs (LX3_firstFault_2 (nI n) signs m)) := by
  show FX3_firstFault_2 (nI n) signs (LX3_firstFault_2 (nI n) signs m) (nI i) = _
  unfold FX3_firstFault_2 fX3_isStone fX3_isPicture fX3_isDigit
  rw [if_neg (fun z => by rw [nI_leI (by omega) (by omega)] at z; omega), sg_eq hn (by omega), bd_s, sg_in hi, nI_1, sg_eq hn (by omega), bd_s]
theorem read_eq {i : Nat} (hn : n ≤ 60) (hi : i < n) : fX3_readAct (nI i) (nI n) signs = if fX10_inside (sg n signs (i + 1)) 65 72 = 0 then (if fX10_inside (sg n signs (i + 1)) 49 57 = 0 then (if sg n signs (i + 1) = 43 then some (sg n signs (i + 2) - 97, 5, signs i - 97) else if sg n signs (i + 1) = 119 then some (sg n signs (i + 2) - 48, 3, signs i - 97) else if sg n signs (i + 1) = 111 then some (sg n signs (i + 2) - 48, 1, signs i - 97) else some (sg n signs (i + 2) - 48, 2, signs i - 97)) else some (sg n signs (i + 1) - 48, 4, signs i - 97)) else some (sg n signs (i + 1) - 65, 0, signs i - 97) := by
  unfold fX3_readAct fX3_isPicture fX3_isDigit fX0_become
  have e2 : nI i + 2 = nI (i + 2) := nI_add i 2
  rw [sg_eq hn (by omega), bd_s, sg_in hi, lt_e, nI_1, sg_eq hn (by omega), bd_s, e2, sg_eq hn (by omega), bd_s]
  rfl
end
