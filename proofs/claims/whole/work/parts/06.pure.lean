abbrev imax (x y : Int32) : Int32 := if x < y then y else x
abbrev imin (x y : Int32) : Int32 := if y < x then y else x
abbrev iabs (x : Int32) : Int32 := if 0 ≤ x then x else 0 - x
abbrev lmax (x y : Int64) : Int64 := if y < x then x else y
theorem nb_0 : narrow .boolean (.int 0) = .int 0 := rfl
theorem nb_1 : narrow .boolean (.int 1) = .int 1 := rfl
theorem nb_h {x : Int32} (h : ¬ ¬ (x = 0 ∨ x = 1)) : narrow .boolean (.int x) = .int x := by
  rcases Decidable.not_not.mp h with rfl | rfl <;> rfl
def fX0_become (x1 : Int32) (x2 : Int32) (x3 : Int32) : Int32 × Int32 × Int32 :=
  (x3, x2, x1)
def fX10_hasBit (x0 : Int32) (x1 : Int32) : Int32 :=
  if ((x0 >>> (x1 &&& 31)) &&& (1 : Int32)) = (1 : Int32) then
    (1 : Int32)
  else
    (0 : Int32)
theorem fbX10_hasBit (x0 : Int32) (x1 : Int32) : narrow .boolean (.int (fX10_hasBit x0 x1)) = .int (fX10_hasBit x0 x1) := by
  unfold fX10_hasBit
  repeat' split
  all_goals first | with_reducible rfl | rfl
def fJ6_bitCount_0f7a4 (x0 : Int32) : Int32 :=
  lt_ (x0 - (((Int32.toUInt32 x0 >>> (Int32.toUInt32 (1 : Int32) &&& Int32.toUInt32 31)).toInt32) &&& (1431655765 : Int32))) fun v_1 =>
  lt_ ((v_1 &&& (858993459 : Int32)) + (((Int32.toUInt32 v_1 >>> (Int32.toUInt32 (2 : Int32) &&& Int32.toUInt32 31)).toInt32) &&& (858993459 : Int32))) fun v_2 =>
  lt_ ((v_2 + ((Int32.toUInt32 v_2 >>> (Int32.toUInt32 (4 : Int32) &&& Int32.toUInt32 31)).toInt32)) &&& (252645135 : Int32)) fun v_3 =>
  lt_ (v_3 + ((Int32.toUInt32 v_3 >>> (Int32.toUInt32 (8 : Int32) &&& Int32.toUInt32 31)).toInt32)) fun v_4 =>
  lt_ (v_4 + ((Int32.toUInt32 v_4 >>> (Int32.toUInt32 (16 : Int32) &&& Int32.toUInt32 31)).toInt32)) fun v_5 =>
  (v_5 &&& (63 : Int32))
def fX1_missedWith (x2 : Int32) (x3 : Int32) (v_least : Nat → Int32) (v_arg1 : Nat → Int32) : Option (Int32) :=
  if x3 < 0 then
    some (0 : Int32)
  else
    if x3 < (6 : Int32) then
      lt_ (x2 ||| ((1 : Int32) <<< (x3 &&& 31))) fun v_3 =>
      gd (x3 < 0 ∨ 6 ≤ Int32.toNatClampNeg x3) <|
      lt_ (iabs ((fJ6_bitCount_0f7a4 x2) - (v_arg1 (Int32.toNatClampNeg x3)))) fun v_5 =>
      if v_3 < 0 then
        some v_5
      else
        if (64 : Int32) ≤ v_3 then
          some v_5
        else
          gd (v_3 < 0 ∨ 64 ≤ Int32.toNatClampNeg v_3) <|
          some (v_5 + (v_least (Int32.toNatClampNeg v_3)))
    else
      some (0 : Int32)
def FX1_firstBest_10 (x2 : Int32) (v_size : Int32) (v_least : Nat → Int32) (v_arg1 : Nat → Int32) (k10 : (Int32) → (Int32) → (Int32) → Option (Int32)) (x3 : Int32) (x4 : Int32) (x5 : Int32) : Option (Int32) :=
  if v_size ≤ x5 then
    some x3
  else
    if (fX10_hasBit x2 x5) = 0 then
      Option.bind (fX1_missedWith x2 x5 v_least v_arg1) fun v_4 =>
      if x4 ≤ v_4 then
        lt_ (x5 + (1 : Int32)) fun v_6 =>
        k10 x3 x4 v_6
      else
        lt_ (x5 + (1 : Int32)) fun v_7 =>
        k10 x5 v_4 v_7
    else
      lt_ (x5 + (1 : Int32)) fun v_3 =>
      k10 x3 x4 v_3
def LX1_firstBest_10 (x2 : Int32) (v_size : Int32) (v_least : Nat → Int32) (v_arg1 : Nat → Int32) (n : Nat) : (Int32) → (Int32) → (Int32) → Option (Int32) := Nat.rec (fun _ _ _ => none) (fun _ k => FX1_firstBest_10 x2 v_size v_least v_arg1 k) n
def fX1_firstBest (x2 : Int32) (v_size : Int32) (v_least : Nat → Int32) (v_arg1 : Nat → Int32) : Option (Int32) :=
  LX1_firstBest_10 x2 v_size v_least v_arg1 2000 (-6 : Int32) (2147483647 : Int32) (0 : Int32)
def FX1_fill_35 (v_size : Int32) (v_arg1 : Nat → Int32) (k35 : (Int32) → (Nat → Int32) → Option (Int32 × (Nat → Int32))) (x4 : Int32) (v_least : Nat → Int32) : Option (Int32 × (Nat → Int32)) :=
  if x4 < 0 then
    some (v_size, v_least)
  else
    Option.bind (fX1_firstBest x4 v_size v_least v_arg1) fun v_6 =>
    Option.bind (fX1_missedWith x4 v_6 v_least v_arg1) fun v_7 =>
    gd (x4 < 0 ∨ 64 ≤ Int32.toNatClampNeg x4) <|
    lt_ (x4 + (-1 : Int32)) fun v_9 =>
    k35 v_9 (upd v_least (Int32.toNatClampNeg x4) v_7)
def LX1_fill_35 (v_size : Int32) (v_arg1 : Nat → Int32) (n : Nat) : (Int32) → (Nat → Int32) → Option (Int32 × (Nat → Int32)) := Nat.rec (fun _ _ => none) (fun _ k => FX1_fill_35 v_size v_arg1 k) n
def fX1_fill (x2 : Int32) (v_least : Nat → Int32) (v_arg1 : Nat → Int32) : Option (Int32 × (Nat → Int32)) :=
  lt_ (imax (0 : Int32) (imin (6 : Int32) x2)) fun v_1 =>
  lt_ (((1 : Int32) <<< (v_1 &&& 31)) - (1 : Int32)) fun v_2 =>
  gd (v_2 < 0 ∨ 64 ≤ Int32.toNatClampNeg v_2) <|
  lt_ (v_2 - (1 : Int32)) fun v_4 =>
  LX1_fill_35 v_1 v_arg1 2000 v_4 (upd v_least (Int32.toNatClampNeg v_2) (0 : Int32))
def fX2_payBehind (x1 : Int32) (x2 : Int32) (v_best : Nat → Int32) : Option (Int32) :=
  lt_ (((x1 + (1 : Int32)) * (32 : Int32)) + x2) fun v_1 =>
  if v_1 < 0 then
    some (0 : Int32)
  else
    if (288 : Int32) ≤ v_1 then
      some (0 : Int32)
    else
      gd (v_1 < 0 ∨ 288 ≤ Int32.toNatClampNeg v_1) <|
      some (v_best (Int32.toNatClampNeg v_1))
def fX10_inside (x0 : Int32) (x1 : Int32) (x2 : Int32) : Int32 :=
  if x0 < x1 then
    (0 : Int32)
  else
    if x2 < x0 then
      (0 : Int32)
    else
      (1 : Int32)
theorem fbX10_inside (x0 : Int32) (x1 : Int32) (x2 : Int32) : narrow .boolean (.int (fX10_inside x0 x1 x2)) = .int (fX10_inside x0 x1 x2) := by
  unfold fX10_inside
  repeat' split
  all_goals first | with_reducible rfl | rfl
def fX2_isFree (x1 : Int32) (x2 : Int32) (x3 : Int32) (v_allowed : Nat → Int32) : Option (Int32) :=
  if (fX10_inside x1 (0 : Int32) (7 : Int32)) = 0 then
    some (0 : Int32)
  else
    gd (x1 < 0 ∨ 8 ≤ Int32.toNatClampNeg x1) <|
    if (fX10_hasBit ((v_allowed (Int32.toNatClampNeg x1)) &&& (x3 ^^^ (-1 : Int32))) x2) = 0 then
      some (0 : Int32)
    else
      some (1 : Int32)
def fX2_payWith (x1 : Int32) (x2 : Int32) (x3 : Int32) (v_pay : Nat → Int32) (v_best : Nat → Int32) : Option (Int32) :=
  if (fX10_inside x1 (0 : Int32) (7 : Int32)) = 0 then
    some (0 : Int32)
  else
    gd (x1 < 0 ∨ 8 ≤ Int32.toNatClampNeg x1) <|
    Option.bind (fX2_payBehind x1 (x3 ||| ((1 : Int32) <<< (x2 &&& 31))) v_best) fun v_3 =>
    some ((v_pay (Int32.toNatClampNeg x1)) + v_3)
def FX2_bestFrom_10 (x1 : Int32) (x2 : Int32) (v_best : Nat → Int32) (v_allowed : Nat → Int32) (v_pay : Nat → Int32) (k10 : (Int32) → (Int32) → Option (Int32)) (x3 : Int32) (x4 : Int32) : Option (Int32) :=
  if (5 : Int32) ≤ x4 then
    some x3
  else
    Option.bind (fX2_isFree x1 x4 x2 v_allowed) fun v_3 =>
    if v_3 = 0 then
      lt_ (x4 + (1 : Int32)) fun v_5 =>
      k10 x3 v_5
    else
      Option.bind (fX2_payWith x1 x4 x2 v_pay v_best) fun v_6 =>
      lt_ (imax x3 v_6) fun v_7 =>
      lt_ (x4 + (1 : Int32)) fun v_8 =>
      k10 v_7 v_8
def LX2_bestFrom_10 (x1 : Int32) (x2 : Int32) (v_best : Nat → Int32) (v_allowed : Nat → Int32) (v_pay : Nat → Int32) (n : Nat) : (Int32) → (Int32) → Option (Int32) := Nat.rec (fun _ _ => none) (fun _ k => FX2_bestFrom_10 x1 x2 v_best v_allowed v_pay k) n
def fX2_bestFrom (x1 : Int32) (x2 : Int32) (v_best : Nat → Int32) (v_allowed : Nat → Int32) (v_pay : Nat → Int32) : Option (Int32) :=
  Option.bind (fX2_payBehind x1 x2 v_best) fun v_1 =>
  LX2_bestFrom_10 x1 x2 v_best v_allowed v_pay 2000 v_1 (0 : Int32)
def fX5_payOf (x1 : Int32) (v_pay : Nat → Int32) : Option (Int32) :=
  if (fX10_inside x1 (0 : Int32) (7 : Int32)) = 0 then
    some (0 : Int32)
  else
    gd (x1 < 0 ∨ 8 ≤ Int32.toNatClampNeg x1) <|
    some (v_pay (Int32.toNatClampNeg x1))
def fX6_has (x1 : Int32) (v_there : Int32) : Int32 :=
  if x1 < 0 then
    (0 : Int32)
  else
    if (5 : Int32) ≤ x1 then
      (0 : Int32)
    else
      if ((v_there >>> (x1 &&& 31)) &&& (1 : Int32)) = (1 : Int32) then
        (1 : Int32)
      else
        (0 : Int32)
theorem fbX6_has (x1 : Int32) (v_there : Int32) : narrow .boolean (.int (fX6_has x1 v_there)) = .int (fX6_has x1 v_there) := by
  unfold fX6_has
  repeat' split
  all_goals first | with_reducible rfl | rfl
def fX4_takesOrders (x1 : Int32) (v_shelf_there : Int32) (v_rules_flat : Int32) (v_rules_least : Int32) (v_shelf_hollow : Nat → Int32) (v_shelf_thick : Nat → Int32) : Option (Int32) :=
  if (fX6_has x1 v_shelf_there) = 0 then
    some (0 : Int32)
  else
    gd (x1 < 0 ∨ 5 ≤ Int32.toNatClampNeg x1) <|
    if v_rules_flat < (v_shelf_hollow (Int32.toNatClampNeg x1)) then
      some (0 : Int32)
    else
      if (v_shelf_thick (Int32.toNatClampNeg x1)) < v_rules_least then
        some (0 : Int32)
      else
        some (1 : Int32)
def FX6_ghostFat_16 (x1 : Int32) (x2 : Int32) (v_fats : Nat → Int32) (k16 : (Int32) → (Int32) → Option (Int32)) (x3 : Int32) (x4 : Int32) : Option (Int32) :=
  if (8 : Int32) ≤ x4 then
    some x3
  else
    gd (((x1 * (8 : Int32)) + x4) < 0 ∨ 40 ≤ Int32.toNatClampNeg ((x1 * (8 : Int32)) + x4)) <|
    lt_ (v_fats (Int32.toNatClampNeg ((x1 * (8 : Int32)) + x4))) fun v_5 =>
    if x4 = x2 then
      lt_ (x4 + (1 : Int32)) fun v_7 =>
      k16 x3 v_7
    else
      if v_5 ≤ x3 then
        lt_ (x4 + (1 : Int32)) fun v_9 =>
        k16 x3 v_9
      else
        lt_ (x4 + (1 : Int32)) fun v_10 =>
        k16 v_5 v_10
def LX6_ghostFat_16 (x1 : Int32) (x2 : Int32) (v_fats : Nat → Int32) (n : Nat) : (Int32) → (Int32) → Option (Int32) := Nat.rec (fun _ _ => none) (fun _ k => FX6_ghostFat_16 x1 x2 v_fats k) n
def fX6_ghostFat (x1 : Int32) (x2 : Int32) (v_fats : Nat → Int32) : Option (Int32) :=
  if x1 < 0 then
    some (0 : Int32)
  else
    if x1 < (5 : Int32) then
      LX6_ghostFat_16 x1 x2 v_fats 2000 (0 : Int32) (0 : Int32)
    else
      some (0 : Int32)
def fX5_deepOf (x1 : Int32) (v_deep : Nat → Int32) : Option (Int32) :=
  if (fX10_inside x1 (0 : Int32) (7 : Int32)) = 0 then
    some (0 : Int32)
  else
    gd (x1 < 0 ∨ 8 ≤ Int32.toNatClampNeg x1) <|
    some (v_deep (Int32.toNatClampNeg x1))
def fX5_wear (x1 : Int32) (v_fine : Nat → Int32) : Option (Int32) :=
  if (fX10_inside x1 (0 : Int32) (7 : Int32)) = 0 then
    some (1 : Int32)
  else
    gd (x1 < 0 ∨ 8 ≤ Int32.toNatClampNeg x1) <|
    some (((v_fine (Int32.toNatClampNeg x1)) / (3 : Int32)) + (1 : Int32))
def fX10_pullsAhead (x0 : Int32) (x1 : Int32) (x2 : Int32) (x3 : Int32) : Option (Int32) :=
  lt_ (imax (1 : Int32) x1) fun v_1 =>
  if v_1 ≤ x0 then
    gd ((imax (1 : Int32) x2) = 0) <|
    lt_ (((x0 - v_1) / (imax (1 : Int32) x2)) + (1 : Int32)) fun v_4 =>
    some (((((x3 / (10 : Int32)) + v_4) * (10 : Int32)) - x3) - (1 : Int32))
  else
    some (0 : Int32)
def fX4_wouldLast (x1 : Int32) (x2 : Int32) (x3 : Int32) (x4 : Int32) (v_shelf_fats : Nat → Int32) (v_rules_deep : Nat → Int32) (v_rules_fine : Nat → Int32) : Option (Int32) :=
  Option.bind (fX6_ghostFat x1 x2 v_shelf_fats) fun v_1 =>
  lt_ (imax (0 : Int32) (v_1 - ((3 : Int32) * x3))) fun v_2 =>
  Option.bind (fX5_deepOf x2 v_rules_deep) fun v_3 =>
  Option.bind (fX5_wear x2 v_rules_fine) fun v_4 =>
  Option.bind (fX10_pullsAhead v_3 v_2 v_4 (0 : Int32)) fun v_5 =>
  if v_5 < x4 then
    some (0 : Int32)
  else
    some (1 : Int32)
def FX2_stonesFor_6 (x2 : Int32) (x3 : Int32) (v_arg1_shelf_there : Int32) (v_arg1_rules_flat : Int32) (v_arg1_rules_least : Int32) (v_arg1_shelf_hollow : Nat → Int32) (v_arg1_shelf_thick : Nat → Int32) (v_arg1_shelf_fats : Nat → Int32) (v_arg1_rules_deep : Nat → Int32) (v_arg1_rules_fine : Nat → Int32) (k6 : (Int32) → (Int32) → Option (Int32)) (x4 : Int32) (x5 : Int32) : Option (Int32) :=
  if (5 : Int32) ≤ x5 then
    some x4
  else
    Option.bind (fX4_takesOrders x5 v_arg1_shelf_there v_arg1_rules_flat v_arg1_rules_least v_arg1_shelf_hollow v_arg1_shelf_thick) fun v_2 =>
    if v_2 = 0 then
      lt_ (x5 + (1 : Int32)) fun v_4 =>
      k6 x4 v_4
    else
      Option.bind (fX4_wouldLast x5 x2 (0 : Int32) x3 v_arg1_shelf_fats v_arg1_rules_deep v_arg1_rules_fine) fun v_5 =>
      if v_5 = 0 then
        lt_ (x5 + (1 : Int32)) fun v_7 =>
        k6 x4 v_7
      else
        lt_ (x4 ||| ((1 : Int32) <<< (x5 &&& 31))) fun v_8 =>
        lt_ (x5 + (1 : Int32)) fun v_9 =>
        k6 v_8 v_9
def LX2_stonesFor_6 (x2 : Int32) (x3 : Int32) (v_arg1_shelf_there : Int32) (v_arg1_rules_flat : Int32) (v_arg1_rules_least : Int32) (v_arg1_shelf_hollow : Nat → Int32) (v_arg1_shelf_thick : Nat → Int32) (v_arg1_shelf_fats : Nat → Int32) (v_arg1_rules_deep : Nat → Int32) (v_arg1_rules_fine : Nat → Int32) (n : Nat) : (Int32) → (Int32) → Option (Int32) := Nat.rec (fun _ _ => none) (fun _ k => FX2_stonesFor_6 x2 x3 v_arg1_shelf_there v_arg1_rules_flat v_arg1_rules_least v_arg1_shelf_hollow v_arg1_shelf_thick v_arg1_shelf_fats v_arg1_rules_deep v_arg1_rules_fine k) n
def fX2_stonesFor (x2 : Int32) (x3 : Int32) (v_arg1_shelf_there : Int32) (v_arg1_rules_flat : Int32) (v_arg1_rules_least : Int32) (v_arg1_shelf_hollow : Nat → Int32) (v_arg1_shelf_thick : Nat → Int32) (v_arg1_shelf_fats : Nat → Int32) (v_arg1_rules_deep : Nat → Int32) (v_arg1_rules_fine : Nat → Int32) : Option (Int32) :=
  LX2_stonesFor_6 x2 x3 v_arg1_shelf_there v_arg1_rules_flat v_arg1_rules_least v_arg1_shelf_hollow v_arg1_shelf_thick v_arg1_shelf_fats v_arg1_rules_deep v_arg1_rules_fine 2000 (0 : Int32) (0 : Int32)
def FX2_fill_72 (x4 : Int32) (v_allowed : Nat → Int32) (v_pay : Nat → Int32) (k64 : (Int32) → (Nat → Int32) → Option ((Nat → Int32) × (Nat → Int32) × (Nat → Int32))) (k72 : (Int32) → (Nat → Int32) → Option ((Nat → Int32) × (Nat → Int32) × (Nat → Int32))) (x5 : Int32) (v_best : Nat → Int32) : Option ((Nat → Int32) × (Nat → Int32) × (Nat → Int32)) :=
  if (32 : Int32) ≤ x5 then
    lt_ (x4 + (-1 : Int32)) fun v_4 =>
    k64 v_4 v_best
  else
    Option.bind (fX2_bestFrom x4 x5 v_best v_allowed v_pay) fun v_5 =>
    gd (((x4 * (32 : Int32)) + x5) < 0 ∨ 288 ≤ Int32.toNatClampNeg ((x4 * (32 : Int32)) + x5)) <|
    lt_ (x5 + (1 : Int32)) fun v_7 =>
    k72 v_7 (upd v_best (Int32.toNatClampNeg ((x4 * (32 : Int32)) + x5)) v_5)
def LX2_fill_72 (x4 : Int32) (v_allowed : Nat → Int32) (v_pay : Nat → Int32) (k64 : (Int32) → (Nat → Int32) → Option ((Nat → Int32) × (Nat → Int32) × (Nat → Int32))) (n : Nat) : (Int32) → (Nat → Int32) → Option ((Nat → Int32) × (Nat → Int32) × (Nat → Int32)) := Nat.rec (fun _ _ => none) (fun _ k => FX2_fill_72 x4 v_allowed v_pay k64 k) n
def FX2_fill_64 (v_allowed : Nat → Int32) (v_pay : Nat → Int32) (k64 : (Int32) → (Nat → Int32) → Option ((Nat → Int32) × (Nat → Int32) × (Nat → Int32))) (x4 : Int32) (v_best : Nat → Int32) : Option ((Nat → Int32) × (Nat → Int32) × (Nat → Int32)) :=
  if x4 < 0 then
    some (v_best, v_allowed, v_pay)
  else
    LX2_fill_72 x4 v_allowed v_pay k64 2000 (0 : Int32) v_best
def LX2_fill_64 (v_allowed : Nat → Int32) (v_pay : Nat → Int32) (n : Nat) : (Int32) → (Nat → Int32) → Option ((Nat → Int32) × (Nat → Int32) × (Nat → Int32)) := Nat.rec (fun _ _ => none) (fun _ k => FX2_fill_64 v_allowed v_pay k) n
def FX2_fill_3 (x2 : Int32) (x3 : Int32) (v_best : Nat → Int32) (v_arg1_rules_flat : Int32) (v_arg1_rules_least : Int32) (v_arg1_shelf_there : Int32) (v_arg1_rules_pay : Nat → Int32) (v_arg1_shelf_hollow : Nat → Int32) (v_arg1_shelf_thick : Nat → Int32) (v_arg1_shelf_fats : Nat → Int32) (v_arg1_rules_deep : Nat → Int32) (v_arg1_rules_fine : Nat → Int32) (k3 : (Int32) → (Nat → Int32) → (Nat → Int32) → Option ((Nat → Int32) × (Nat → Int32) × (Nat → Int32))) (x4 : Int32) (v_allowed : Nat → Int32) (v_pay : Nat → Int32) : Option ((Nat → Int32) × (Nat → Int32) × (Nat → Int32)) :=
  if (8 : Int32) ≤ x4 then
    LX2_fill_64 v_allowed v_pay 2000 (7 : Int32) v_best
  else
    Option.bind (fX5_payOf x4 v_arg1_rules_pay) fun v_8 =>
    gd (x4 < 0 ∨ 8 ≤ Int32.toNatClampNeg x4) <|
    if (fX10_hasBit x2 x4) = 0 then
      lt_ (x4 + (1 : Int32)) fun v_11 =>
      k3 v_11 (upd v_allowed (Int32.toNatClampNeg x4) (0 : Int32)) (upd v_pay (Int32.toNatClampNeg x4) v_8)
    else
      Option.bind (fX2_stonesFor x4 x3 v_arg1_shelf_there v_arg1_rules_flat v_arg1_rules_least v_arg1_shelf_hollow v_arg1_shelf_thick v_arg1_shelf_fats v_arg1_rules_deep v_arg1_rules_fine) fun v_12 =>
      lt_ (x4 + (1 : Int32)) fun v_13 =>
      k3 v_13 (upd v_allowed (Int32.toNatClampNeg x4) v_12) (upd v_pay (Int32.toNatClampNeg x4) v_8)
def LX2_fill_3 (x2 : Int32) (x3 : Int32) (v_best : Nat → Int32) (v_arg1_rules_flat : Int32) (v_arg1_rules_least : Int32) (v_arg1_shelf_there : Int32) (v_arg1_rules_pay : Nat → Int32) (v_arg1_shelf_hollow : Nat → Int32) (v_arg1_shelf_thick : Nat → Int32) (v_arg1_shelf_fats : Nat → Int32) (v_arg1_rules_deep : Nat → Int32) (v_arg1_rules_fine : Nat → Int32) (n : Nat) : (Int32) → (Nat → Int32) → (Nat → Int32) → Option ((Nat → Int32) × (Nat → Int32) × (Nat → Int32)) := Nat.rec (fun _ _ _ => none) (fun _ k => FX2_fill_3 x2 x3 v_best v_arg1_rules_flat v_arg1_rules_least v_arg1_shelf_there v_arg1_rules_pay v_arg1_shelf_hollow v_arg1_shelf_thick v_arg1_shelf_fats v_arg1_rules_deep v_arg1_rules_fine k) n
def fX2_fill (x2 : Int32) (x3 : Int32) (v_best : Nat → Int32) (v_allowed : Nat → Int32) (v_pay : Nat → Int32) (v_arg1_rules_flat : Int32) (v_arg1_rules_least : Int32) (v_arg1_shelf_there : Int32) (v_arg1_rules_pay : Nat → Int32) (v_arg1_shelf_hollow : Nat → Int32) (v_arg1_shelf_thick : Nat → Int32) (v_arg1_shelf_fats : Nat → Int32) (v_arg1_rules_deep : Nat → Int32) (v_arg1_rules_fine : Nat → Int32) : Option ((Nat → Int32) × (Nat → Int32) × (Nat → Int32)) :=
  LX2_fill_3 x2 x3 v_best v_arg1_rules_flat v_arg1_rules_least v_arg1_shelf_there v_arg1_rules_pay v_arg1_shelf_hollow v_arg1_shelf_thick v_arg1_shelf_fats v_arg1_rules_deep v_arg1_rules_fine 2000 (0 : Int32) v_allowed v_pay
def fX2_mostPay (v_best : Nat → Int32) : Int32 :=
  (v_best (Int32.toNatClampNeg (0 : Int32)))
def FX2_firstBest_10 (x1 : Int32) (x2 : Int32) (x3 : Int32) (v_best : Nat → Int32) (v_allowed : Nat → Int32) (v_pay : Nat → Int32) (k10 : (Int32) → Option (Int32)) (x4 : Int32) : Option (Int32) :=
  if (5 : Int32) ≤ x4 then
    some (-6 : Int32)
  else
    Option.bind (fX2_isFree x1 x4 x2 v_allowed) fun v_3 =>
    if v_3 = 0 then
      lt_ (x4 + (1 : Int32)) fun v_5 =>
      k10 v_5
    else
      Option.bind (fX2_payWith x1 x4 x2 v_pay v_best) fun v_6 =>
      if v_6 = x3 then
        some x4
      else
        lt_ (x4 + (1 : Int32)) fun v_8 =>
        k10 v_8
def LX2_firstBest_10 (x1 : Int32) (x2 : Int32) (x3 : Int32) (v_best : Nat → Int32) (v_allowed : Nat → Int32) (v_pay : Nat → Int32) (n : Nat) : (Int32) → Option (Int32) := Nat.rec (fun _ => none) (fun _ k => FX2_firstBest_10 x1 x2 x3 v_best v_allowed v_pay k) n
def fX2_firstBest (x1 : Int32) (x2 : Int32) (v_best : Nat → Int32) (v_allowed : Nat → Int32) (v_pay : Nat → Int32) : Option (Int32) :=
  Option.bind (fX2_bestFrom x1 x2 v_best v_allowed v_pay) fun v_1 =>
  LX2_firstBest_10 x1 x2 v_1 v_best v_allowed v_pay 2000 (0 : Int32)
def FX2_stoneFor_8 (x1 : Int32) (v_best : Nat → Int32) (v_allowed : Nat → Int32) (v_pay : Nat → Int32) (k8 : (Int32) → (Int32) → (Int32) → Option (Int32)) (x2 : Int32) (x3 : Int32) (x4 : Int32) : Option (Int32) :=
  if x1 < x4 then
    some x3
  else
    if (8 : Int32) ≤ x4 then
      some x3
    else
      Option.bind (fX2_firstBest x4 x2 v_best v_allowed v_pay) fun v_3 =>
      if v_3 = (-6 : Int32) then
        lt_ (x4 + (1 : Int32)) fun v_5 =>
        k8 x2 v_3 v_5
      else
        lt_ (x2 ||| ((1 : Int32) <<< (v_3 &&& 31))) fun v_6 =>
        lt_ (x4 + (1 : Int32)) fun v_7 =>
        k8 v_6 v_3 v_7
def LX2_stoneFor_8 (x1 : Int32) (v_best : Nat → Int32) (v_allowed : Nat → Int32) (v_pay : Nat → Int32) (n : Nat) : (Int32) → (Int32) → (Int32) → Option (Int32) := Nat.rec (fun _ _ _ => none) (fun _ k => FX2_stoneFor_8 x1 v_best v_allowed v_pay k) n
def fX2_stoneFor (x1 : Int32) (v_best : Nat → Int32) (v_allowed : Nat → Int32) (v_pay : Nat → Int32) : Option (Int32) :=
  LX2_stoneFor_8 x1 v_best v_allowed v_pay 2000 (0 : Int32) (-6 : Int32) (0 : Int32)
def fX3_write (x1 : Int32) (v_size : Int32) (v_signs : Nat → Int32) : Option (Int32 × Int32 × (Nat → Int32)) :=
  if (fX10_inside v_size (0 : Int32) (59 : Int32)) = 0 then
    some ((0 : Int32), v_size, v_signs)
  else
    gd (v_size < 0 ∨ 60 ≤ Int32.toNatClampNeg v_size) <|
    lt_ (v_size + (1 : Int32)) fun v_3 =>
    some ((1 : Int32), v_3, (upd v_signs (Int32.toNatClampNeg v_size) x1))
def fX3_signAt (x1 : Int32) (v_size : Int32) (v_signs : Nat → Int32) : Option (Int32) :=
  if x1 < 0 then
    some (0 : Int32)
  else
    if v_size ≤ x1 then
      some (0 : Int32)
    else
      if (60 : Int32) ≤ x1 then
        some (0 : Int32)
      else
        gd (x1 < 0 ∨ 60 ≤ Int32.toNatClampNeg x1) <|
        some (v_signs (Int32.toNatClampNeg x1))
def fX3_isStone (x0 : Int32) : Int32 :=
  (fX10_inside x0 (97 : Int32) (101 : Int32))
theorem fbX3_isStone (x0 : Int32) : narrow .boolean (.int (fX3_isStone x0)) = .int (fX3_isStone x0) := by
  unfold fX3_isStone
  repeat' split
  all_goals first | with_reducible rfl | with_reducible exact fbX10_inside _ _ _ | rfl
def fX3_isPicture (x0 : Int32) : Int32 :=
  (fX10_inside x0 (65 : Int32) (72 : Int32))
theorem fbX3_isPicture (x0 : Int32) : narrow .boolean (.int (fX3_isPicture x0)) = .int (fX3_isPicture x0) := by
  unfold fX3_isPicture
  repeat' split
  all_goals first | with_reducible rfl | with_reducible exact fbX10_inside _ _ _ | rfl
def fX3_takesDigit (x0 : Int32) : Int32 :=
  if x0 = (111 : Int32) then
    (1 : Int32)
  else
    if x0 = (120 : Int32) then
      (1 : Int32)
    else
      if x0 = (119 : Int32) then
        (1 : Int32)
      else
        (0 : Int32)
theorem fbX3_takesDigit (x0 : Int32) : narrow .boolean (.int (fX3_takesDigit x0)) = .int (fX3_takesDigit x0) := by
  unfold fX3_takesDigit
  repeat' split
  all_goals first | with_reducible rfl | rfl
def fX3_hasThird (x1 : Int32) (v_size : Int32) (v_signs : Nat → Int32) : Option (Int32) :=
  Option.bind (fX3_signAt (x1 + (1 : Int32)) v_size v_signs) fun v_1 =>
  if (fX3_takesDigit v_1) = 0 then
    if v_1 = (43 : Int32) then
      some (1 : Int32)
    else
      some (0 : Int32)
  else
    some (1 : Int32)
def fX3_isDigit (x0 : Int32) : Int32 :=
  (fX10_inside x0 (49 : Int32) (57 : Int32))
theorem fbX3_isDigit (x0 : Int32) : narrow .boolean (.int (fX3_isDigit x0)) = .int (fX3_isDigit x0) := by
  unfold fX3_isDigit
  repeat' split
  all_goals first | with_reducible rfl | with_reducible exact fbX10_inside _ _ _ | rfl
def fX3_firstFault_84 (x1 : Int32) (x2 : Int32) (x3 : Int32) (v_size : Int32) (v_signs : Nat → Int32) (k2 : (Int32) → Option (Int32)) : Option (Int32) :=
  if x2 = (43 : Int32) then
    if (fX3_isStone x3) = 0 then
      some (x1 + (2 : Int32))
    else
      Option.bind (fX3_hasThird x1 v_size v_signs) fun v_14 =>
      if v_14 = 0 then
        lt_ (x1 + (2 : Int32)) fun v_16 =>
        k2 v_16
      else
        lt_ (x1 + (3 : Int32)) fun v_17 =>
        k2 v_17
  else
    Option.bind (fX3_hasThird x1 v_size v_signs) fun v_9 =>
    if v_9 = 0 then
      lt_ (x1 + (2 : Int32)) fun v_11 =>
      k2 v_11
    else
      lt_ (x1 + (3 : Int32)) fun v_12 =>
      k2 v_12
def fX3_firstFault_62 (x1 : Int32) (x2 : Int32) (v_size : Int32) (v_signs : Nat → Int32) (k2 : (Int32) → Option (Int32)) : Option (Int32) :=
  Option.bind (fX3_signAt (x1 + (2 : Int32)) v_size v_signs) fun v_6 =>
  if (fX3_takesDigit x2) = 0 then
    fX3_firstFault_84 x1 x2 v_6 v_size v_signs k2
  else
    if (fX3_isDigit v_6) = 0 then
      some (x1 + (2 : Int32))
    else
      fX3_firstFault_84 x1 x2 v_6 v_size v_signs k2
def FX3_firstFault_2 (v_size : Int32) (v_signs : Nat → Int32) (k2 : (Int32) → Option (Int32)) (x1 : Int32) : Option (Int32) :=
  if v_size ≤ x1 then
    some (-6 : Int32)
  else
    Option.bind (fX3_signAt x1 v_size v_signs) fun v_2 =>
    if (fX3_isStone v_2) = 0 then
      some x1
    else
      Option.bind (fX3_signAt (x1 + (1 : Int32)) v_size v_signs) fun v_4 =>
      if (fX3_isPicture v_4) = 0 then
        if (fX3_isDigit v_4) = 0 then
          if (fX3_takesDigit v_4) = 0 then
            if v_4 = (43 : Int32) then
              fX3_firstFault_62 x1 v_4 v_size v_signs k2
            else
              some (x1 + (1 : Int32))
          else
            fX3_firstFault_62 x1 v_4 v_size v_signs k2
        else
          fX3_firstFault_62 x1 v_4 v_size v_signs k2
      else
        fX3_firstFault_62 x1 v_4 v_size v_signs k2
def LX3_firstFault_2 (v_size : Int32) (v_signs : Nat → Int32) (n : Nat) : (Int32) → Option (Int32) := Nat.rec (fun _ => none) (fun _ k => FX3_firstFault_2 v_size v_signs k) n
def fX3_firstFault (v_size : Int32) (v_signs : Nat → Int32) : Option (Int32) :=
  LX3_firstFault_2 v_size v_signs 2000 (0 : Int32)
def fX3_readAct (x1 : Int32) (v_size : Int32) (v_signs : Nat → Int32) : Option (Int32 × Int32 × Int32) :=
  Option.bind (fX3_signAt x1 v_size v_signs) fun v_1 =>
  lt_ (v_1 - (97 : Int32)) fun v_2 =>
  Option.bind (fX3_signAt (x1 + (1 : Int32)) v_size v_signs) fun v_3 =>
  Option.bind (fX3_signAt (x1 + (2 : Int32)) v_size v_signs) fun v_4 =>
  if (fX3_isPicture v_3) = 0 then
    if (fX3_isDigit v_3) = 0 then
      if v_3 = (43 : Int32) then
        lt_ (fX0_become v_2 (5 : Int32) (v_4 - (97 : Int32))) fun v_13 =>
        some (v_13.1, v_13.2.1, v_13.2.2)
      else
        if v_3 = (119 : Int32) then
          lt_ (fX0_become v_2 (3 : Int32) (v_4 - (48 : Int32))) fun v_12 =>
          some (v_12.1, v_12.2.1, v_12.2.2)
        else
          if v_3 = (111 : Int32) then
            lt_ (fX0_become v_2 (1 : Int32) (v_4 - (48 : Int32))) fun v_11 =>
            some (v_11.1, v_11.2.1, v_11.2.2)
          else
            lt_ (fX0_become v_2 (2 : Int32) (v_4 - (48 : Int32))) fun v_10 =>
            some (v_10.1, v_10.2.1, v_10.2.2)
    else
      lt_ (fX0_become v_2 (4 : Int32) (v_3 - (48 : Int32))) fun v_14 =>
      some (v_14.1, v_14.2.1, v_14.2.2)
  else
    lt_ (fX0_become v_2 (0 : Int32) (v_3 - (65 : Int32))) fun v_15 =>
    some (v_15.1, v_15.2.1, v_15.2.2)
def fX6_copyFrom (v_thick : Nat → Int32) (v_hollow : Nat → Int32) (v_damp : Nat → Int32) (v_fresh : Nat → Int32) (v_pulls : Nat → Int32) (v_fats : Nat → Int32) (v_arg1_there : Int32) (v_arg1_thick : Nat → Int32) (v_arg1_hollow : Nat → Int32) (v_arg1_damp : Nat → Int32) (v_arg1_fresh : Nat → Int32) (v_arg1_pulls : Nat → Int32) (v_arg1_fats : Nat → Int32) : Int32 × (Nat → Int32) × (Nat → Int32) × (Nat → Int32) × (Nat → Int32) × (Nat → Int32) × (Nat → Int32) :=
  (v_arg1_there, (va_cpy v_arg1_thick v_thick 0 0 5), (va_cpy v_arg1_hollow v_hollow 0 0 5), (va_cpy v_arg1_damp v_damp 0 0 5), (va_cpy v_arg1_fresh v_fresh 0 0 5), (va_cpy v_arg1_pulls v_pulls 0 0 5), (va_cpy v_arg1_fats v_fats 0 0 40))
def fX5_copyFrom (v_deep : Nat → Int32) (v_fine : Nat → Int32) (v_pay : Nat → Int32) (v_hair : Nat → Int32) (v_arg1_flat : Int32) (v_arg1_least : Int32) (v_arg1_deep : Nat → Int32) (v_arg1_fine : Nat → Int32) (v_arg1_pay : Nat → Int32) (v_arg1_hair : Nat → Int32) : Int32 × Int32 × (Nat → Int32) × (Nat → Int32) × (Nat → Int32) × (Nat → Int32) :=
  (v_arg1_flat, v_arg1_least, (va_cpy v_arg1_deep v_deep 0 0 8), (va_cpy v_arg1_fine v_fine 0 0 8), (va_cpy v_arg1_pay v_pay 0 0 8), (va_cpy v_arg1_hair v_hair 0 0 6))
def fX7_copyFrom (v_drawn : Nat → Int32) (v_pull : Nat → Int32) (v_arg1_size : Int32) (v_arg1_shown : Int32) (v_arg1_drawn : Nat → Int32) (v_arg1_pull : Nat → Int32) : Int32 × Int32 × (Nat → Int32) × (Nat → Int32) :=
  (v_arg1_shown, v_arg1_size, (va_cpy v_arg1_drawn v_drawn 0 0 8), (va_cpy v_arg1_pull v_pull 0 0 8))
def fX4_copyFrom (v_shelf_thick : Nat → Int32) (v_shelf_hollow : Nat → Int32) (v_shelf_damp : Nat → Int32) (v_shelf_fresh : Nat → Int32) (v_shelf_pulls : Nat → Int32) (v_shelf_fats : Nat → Int32) (v_rules_deep : Nat → Int32) (v_rules_fine : Nat → Int32) (v_rules_pay : Nat → Int32) (v_rules_hair : Nat → Int32) (v_sights_drawn : Nat → Int32) (v_sights_pull : Nat → Int32) (v_arg1_shelf_there : Int32) (v_arg1_rules_flat : Int32) (v_arg1_rules_least : Int32) (v_arg1_sights_size : Int32) (v_arg1_sights_shown : Int32) (v_arg1_shelf_thick : Nat → Int32) (v_arg1_shelf_hollow : Nat → Int32) (v_arg1_shelf_damp : Nat → Int32) (v_arg1_shelf_fresh : Nat → Int32) (v_arg1_shelf_pulls : Nat → Int32) (v_arg1_shelf_fats : Nat → Int32) (v_arg1_rules_deep : Nat → Int32) (v_arg1_rules_fine : Nat → Int32) (v_arg1_rules_pay : Nat → Int32) (v_arg1_rules_hair : Nat → Int32) (v_arg1_sights_drawn : Nat → Int32) (v_arg1_sights_pull : Nat → Int32) : Int32 × Int32 × Int32 × Int32 × Int32 × (Nat → Int32) × (Nat → Int32) × (Nat → Int32) × (Nat → Int32) × (Nat → Int32) × (Nat → Int32) × (Nat → Int32) × (Nat → Int32) × (Nat → Int32) × (Nat → Int32) × (Nat → Int32) × (Nat → Int32) :=
  lt_ (fX6_copyFrom v_shelf_thick v_shelf_hollow v_shelf_damp v_shelf_fresh v_shelf_pulls v_shelf_fats v_arg1_shelf_there v_arg1_shelf_thick v_arg1_shelf_hollow v_arg1_shelf_damp v_arg1_shelf_fresh v_arg1_shelf_pulls v_arg1_shelf_fats) fun v_1 =>
  lt_ (fX5_copyFrom v_rules_deep v_rules_fine v_rules_pay v_rules_hair v_arg1_rules_flat v_arg1_rules_least v_arg1_rules_deep v_arg1_rules_fine v_arg1_rules_pay v_arg1_rules_hair) fun v_2 =>
  lt_ (fX7_copyFrom v_sights_drawn v_sights_pull v_arg1_sights_size v_arg1_sights_shown v_arg1_sights_drawn v_arg1_sights_pull) fun v_3 =>
  (v_1.1, v_2.1, v_2.2.1, v_3.1, v_3.2.1, v_1.2.1, v_1.2.2.1, v_1.2.2.2.1, v_1.2.2.2.2.1, v_1.2.2.2.2.2.1, v_1.2.2.2.2.2.2, v_2.2.2.1, v_2.2.2.2.1, v_2.2.2.2.2.1, v_2.2.2.2.2.2, v_3.2.2.1, v_3.2.2.2)
def fX5_minutesShowing (x1 : Int32) (x2 : Int32) (x3 : Int32) (v_deep : Nat → Int32) (v_fine : Nat → Int32) : Option (Int32) :=
  Option.bind (fX5_deepOf x2 v_deep) fun v_1 =>
  Option.bind (fX5_wear x2 v_fine) fun v_2 =>
  lt_ (imax (0 : Int32) (v_1 - (v_2 * (x3 / (10 : Int32))))) fun v_3 =>
  Option.bind (fX5_deepOf x1 v_deep) fun v_4 =>
  lt_ (v_4 - v_3) fun v_5 =>
  if x1 = x2 then
    some (0 : Int32)
  else
    if (1 : Int32) ≤ v_5 then
      some ((v_5 - (1 : Int32)) / (3 : Int32))
    else
      some (0 : Int32)
def FX4_mostMinutes_5 (x1 : Int32) (v_sights_size : Int32) (v_sights_shown : Int32) (v_sights_drawn : Nat → Int32) (v_sights_pull : Nat → Int32) (v_rules_deep : Nat → Int32) (v_rules_fine : Nat → Int32) (k5 : (Int32) → (Int32) → Option (Int32)) (x2 : Int32) (x3 : Int32) : Option (Int32) :=
  if v_sights_size ≤ x3 then
    some x2
  else
    if (8 : Int32) ≤ x3 then
      some x2
    else
      if (fX10_hasBit v_sights_shown x3) = 0 then
        lt_ (x3 + (1 : Int32)) fun v_4 =>
        k5 x2 v_4
      else
        gd (x3 < 0 ∨ 8 ≤ Int32.toNatClampNeg x3) <|
        Option.bind (fX5_minutesShowing x1 (v_sights_drawn (Int32.toNatClampNeg x3)) (v_sights_pull (Int32.toNatClampNeg x3)) v_rules_deep v_rules_fine) fun v_6 =>
        lt_ (imin x2 v_6) fun v_7 =>
        lt_ (x3 + (1 : Int32)) fun v_8 =>
        k5 v_7 v_8
def LX4_mostMinutes_5 (x1 : Int32) (v_sights_size : Int32) (v_sights_shown : Int32) (v_sights_drawn : Nat → Int32) (v_sights_pull : Nat → Int32) (v_rules_deep : Nat → Int32) (v_rules_fine : Nat → Int32) (n : Nat) : (Int32) → (Int32) → Option (Int32) := Nat.rec (fun _ _ => none) (fun _ k => FX4_mostMinutes_5 x1 v_sights_size v_sights_shown v_sights_drawn v_sights_pull v_rules_deep v_rules_fine k) n
def fX4_mostMinutes (x1 : Int32) (v_sights_size : Int32) (v_sights_shown : Int32) (v_sights_drawn : Nat → Int32) (v_sights_pull : Nat → Int32) (v_rules_deep : Nat → Int32) (v_rules_fine : Nat → Int32) : Option (Int32) :=
  LX4_mostMinutes_5 x1 v_sights_size v_sights_shown v_sights_drawn v_sights_pull v_rules_deep v_rules_fine 2000 (20 : Int32) (0 : Int32)
def FX4_fewestMinutes_4 (x1 : Int32) (v_sights_size : Int32) (v_sights_shown : Int32) (v_sights_drawn : Nat → Int32) (v_sights_pull : Nat → Int32) (v_rules_deep : Nat → Int32) (v_rules_fine : Nat → Int32) (k4 : (Int32) → (Int32) → Option (Int32)) (x2 : Int32) (x3 : Int32) : Option (Int32) :=
  if v_sights_size ≤ x3 then
    some x2
  else
    if (8 : Int32) ≤ x3 then
      some x2
    else
      if (fX10_hasBit v_sights_shown x3) = 0 then
        gd (x3 < 0 ∨ 8 ≤ Int32.toNatClampNeg x3) <|
        Option.bind (fX5_minutesShowing x1 (v_sights_drawn (Int32.toNatClampNeg x3)) (v_sights_pull (Int32.toNatClampNeg x3)) v_rules_deep v_rules_fine) fun v_6 =>
        lt_ (imax x2 (v_6 + (1 : Int32))) fun v_7 =>
        lt_ (x3 + (1 : Int32)) fun v_8 =>
        k4 v_7 v_8
      else
        lt_ (x3 + (1 : Int32)) fun v_4 =>
        k4 x2 v_4
def LX4_fewestMinutes_4 (x1 : Int32) (v_sights_size : Int32) (v_sights_shown : Int32) (v_sights_drawn : Nat → Int32) (v_sights_pull : Nat → Int32) (v_rules_deep : Nat → Int32) (v_rules_fine : Nat → Int32) (n : Nat) : (Int32) → (Int32) → Option (Int32) := Nat.rec (fun _ _ => none) (fun _ k => FX4_fewestMinutes_4 x1 v_sights_size v_sights_shown v_sights_drawn v_sights_pull v_rules_deep v_rules_fine k) n
def fX4_fewestMinutes (x1 : Int32) (v_sights_size : Int32) (v_sights_shown : Int32) (v_sights_drawn : Nat → Int32) (v_sights_pull : Nat → Int32) (v_rules_deep : Nat → Int32) (v_rules_fine : Nat → Int32) : Option (Int32) :=
  LX4_fewestMinutes_4 x1 v_sights_size v_sights_shown v_sights_drawn v_sights_pull v_rules_deep v_rules_fine 2000 (1 : Int32) (0 : Int32)
def fX4_countTwos (x1 : Int32) (v_sights_size : Int32) (v_sights_shown : Int32) (v_sights_drawn : Nat → Int32) (v_sights_pull : Nat → Int32) (v_rules_deep : Nat → Int32) (v_rules_fine : Nat → Int32) : Option (Int32) :=
  Option.bind (fX4_mostMinutes x1 v_sights_size v_sights_shown v_sights_drawn v_sights_pull v_rules_deep v_rules_fine) fun v_1 =>
  Option.bind (fX4_fewestMinutes x1 v_sights_size v_sights_shown v_sights_drawn v_sights_pull v_rules_deep v_rules_fine) fun v_2 =>
  some (imax (0 : Int32) ((v_1 - v_2) + (1 : Int32)))
def FX4_mostLeft_8 (x1 : Int32) (x2 : Int32) (v_sights_size : Int32) (v_sights_shown : Int32) (v_sights_drawn : Nat → Int32) (v_sights_pull : Nat → Int32) (v_rules_deep : Nat → Int32) (v_rules_fine : Nat → Int32) (k8 : (Int32) → (Int32) → (Int32) → Option (Int32)) (x3 : Int32) (x4 : Int32) (x5 : Int32) : Option (Int32) :=
  if (8 : Int32) ≤ x5 then
    some (imax x4 (x3 - x4))
  else
    Option.bind (fX4_mostMinutes x5 v_sights_size v_sights_shown v_sights_drawn v_sights_pull v_rules_deep v_rules_fine) fun v_2 =>
    Option.bind (fX5_minutesShowing x5 x1 x2 v_rules_deep v_rules_fine) fun v_3 =>
    lt_ (imin v_2 v_3) fun v_4 =>
    Option.bind (fX4_countTwos x5 v_sights_size v_sights_shown v_sights_drawn v_sights_pull v_rules_deep v_rules_fine) fun v_5 =>
    lt_ (x3 + v_5) fun v_6 =>
    Option.bind (fX4_fewestMinutes x5 v_sights_size v_sights_shown v_sights_drawn v_sights_pull v_rules_deep v_rules_fine) fun v_7 =>
    lt_ (x4 + (imax (0 : Int32) ((v_4 - v_7) + (1 : Int32)))) fun v_8 =>
    lt_ (x5 + (1 : Int32)) fun v_9 =>
    k8 v_6 v_8 v_9
def LX4_mostLeft_8 (x1 : Int32) (x2 : Int32) (v_sights_size : Int32) (v_sights_shown : Int32) (v_sights_drawn : Nat → Int32) (v_sights_pull : Nat → Int32) (v_rules_deep : Nat → Int32) (v_rules_fine : Nat → Int32) (n : Nat) : (Int32) → (Int32) → (Int32) → Option (Int32) := Nat.rec (fun _ _ _ => none) (fun _ k => FX4_mostLeft_8 x1 x2 v_sights_size v_sights_shown v_sights_drawn v_sights_pull v_rules_deep v_rules_fine k) n
def fX4_mostLeft (x1 : Int32) (x2 : Int32) (v_sights_size : Int32) (v_sights_shown : Int32) (v_sights_drawn : Nat → Int32) (v_sights_pull : Nat → Int32) (v_rules_deep : Nat → Int32) (v_rules_fine : Nat → Int32) : Option (Int32) :=
  LX4_mostLeft_8 x1 x2 v_sights_size v_sights_shown v_sights_drawn v_sights_pull v_rules_deep v_rules_fine 2000 (0 : Int32) (0 : Int32) (0 : Int32)
def fX5_tell (x1 : Int32) (x2 : Int32) (v_pay : Nat → Int32) (v_fine : Nat → Int32) (v_deep : Nat → Int32) : Option (Int32) :=
  if (fX10_inside x1 (0 : Int32) (7 : Int32)) = 0 then
    some (-2 : Int32)
  else
    if x2 = (0 : Int32) then
      gd (x1 < 0 ∨ 8 ≤ Int32.toNatClampNeg x1) <|
      some (v_deep (Int32.toNatClampNeg x1))
    else
      if x2 = (1 : Int32) then
        gd (x1 < 0 ∨ 8 ≤ Int32.toNatClampNeg x1) <|
        some (v_fine (Int32.toNatClampNeg x1))
      else
        if x2 = (2 : Int32) then
          gd (x1 < 0 ∨ 8 ≤ Int32.toNatClampNeg x1) <|
          some (v_pay (Int32.toNatClampNeg x1))
        else
          some (-2 : Int32)
def fX6_count (v_there : Int32) : Int32 :=
  (fJ6_bitCount_0f7a4 v_there)
def FX6_countFresh_4 (v_there : Int32) (v_fresh : Nat → Int32) (k4 : (Int32) → (Int32) → Option (Int32)) (x1 : Int32) (x2 : Int32) : Option (Int32) :=
  if (5 : Int32) ≤ x2 then
    some x1
  else
    if (fX6_has x2 v_there) = 0 then
      lt_ (x2 + (1 : Int32)) fun v_3 =>
      k4 x1 v_3
    else
      gd (x2 < 0 ∨ 5 ≤ Int32.toNatClampNeg x2) <|
      if (v_fresh (Int32.toNatClampNeg x2)) = (-6 : Int32) then
        lt_ (x2 + (1 : Int32)) fun v_6 =>
        k4 x1 v_6
      else
        lt_ (x1 + (1 : Int32)) fun v_7 =>
        lt_ (x2 + (1 : Int32)) fun v_8 =>
        k4 v_7 v_8
def LX6_countFresh_4 (v_there : Int32) (v_fresh : Nat → Int32) (n : Nat) : (Int32) → (Int32) → Option (Int32) := Nat.rec (fun _ _ => none) (fun _ k => FX6_countFresh_4 v_there v_fresh k) n
def fX6_countFresh (v_there : Int32) (v_fresh : Nat → Int32) : Option (Int32) :=
  LX6_countFresh_4 v_there v_fresh 2000 (0 : Int32) (0 : Int32)
def FX6_put_62 (x1 : Int32) (v_there : Int32) (v_thick : Nat → Int32) (v_hollow : Nat → Int32) (v_damp : Nat → Int32) (v_fresh : Nat → Int32) (v_pulls : Nat → Int32) (k62 : (Int32) → (Nat → Int32) → Option (Int32 × (Nat → Int32) × (Nat → Int32) × (Nat → Int32) × (Nat → Int32) × (Nat → Int32) × (Nat → Int32))) (x5 : Int32) (v_fats : Nat → Int32) : Option (Int32 × (Nat → Int32) × (Nat → Int32) × (Nat → Int32) × (Nat → Int32) × (Nat → Int32) × (Nat → Int32)) :=
  if (8 : Int32) ≤ x5 then
    some (v_there, v_thick, v_hollow, v_damp, v_fresh, v_pulls, v_fats)
  else
    gd (((x1 * (8 : Int32)) + x5) < 0 ∨ 40 ≤ Int32.toNatClampNeg ((x1 * (8 : Int32)) + x5)) <|
    lt_ (x5 + (1 : Int32)) fun v_6 =>
    k62 v_6 (upd v_fats (Int32.toNatClampNeg ((x1 * (8 : Int32)) + x5)) (0 : Int32))
def LX6_put_62 (x1 : Int32) (v_there : Int32) (v_thick : Nat → Int32) (v_hollow : Nat → Int32) (v_damp : Nat → Int32) (v_fresh : Nat → Int32) (v_pulls : Nat → Int32) (n : Nat) : (Int32) → (Nat → Int32) → Option (Int32 × (Nat → Int32) × (Nat → Int32) × (Nat → Int32) × (Nat → Int32) × (Nat → Int32) × (Nat → Int32)) := Nat.rec (fun _ _ => none) (fun _ k => FX6_put_62 x1 v_there v_thick v_hollow v_damp v_fresh v_pulls k) n
def fX6_put (x1 : Int32) (x2 : Int32) (x3 : Int32) (x4 : Int32) (v_there : Int32) (v_thick : Nat → Int32) (v_hollow : Nat → Int32) (v_damp : Nat → Int32) (v_fresh : Nat → Int32) (v_pulls : Nat → Int32) (v_fats : Nat → Int32) : Option (Int32 × (Nat → Int32) × (Nat → Int32) × (Nat → Int32) × (Nat → Int32) × (Nat → Int32) × (Nat → Int32)) :=
  if (fX10_inside x1 (0 : Int32) (4 : Int32)) = 0 then
    some (v_there, v_thick, v_hollow, v_damp, v_fresh, v_pulls, v_fats)
  else
    lt_ (v_there ||| ((1 : Int32) <<< (x1 &&& 31))) fun v_2 =>
    gd (x1 < 0 ∨ 5 ≤ Int32.toNatClampNeg x1) <|
    LX6_put_62 x1 v_2 (upd v_thick (Int32.toNatClampNeg x1) x2) (upd v_hollow (Int32.toNatClampNeg x1) x3) (upd v_damp (Int32.toNatClampNeg x1) x4) (upd v_fresh (Int32.toNatClampNeg x1) (-6 : Int32)) (upd v_pulls (Int32.toNatClampNeg x1) (0 : Int32)) 2000 (0 : Int32) v_fats
def fX6_take (x1 : Int32) (v_there : Int32) : Int32 :=
  if (fX6_has x1 v_there) = 0 then
    v_there
  else
    lt_ (v_there &&& (((1 : Int32) <<< (x1 &&& 31)) ^^^ (-1 : Int32))) fun v_2 =>
    v_2
def fX6_tell (x1 : Int32) (x2 : Int32) (v_there : Int32) (v_pulls : Nat → Int32) (v_fresh : Nat → Int32) (v_damp : Nat → Int32) (v_hollow : Nat → Int32) (v_thick : Nat → Int32) : Option (Int32) :=
  if (fX6_has x1 v_there) = 0 then
    some (-1 : Int32)
  else
    if x2 = (0 : Int32) then
      gd (x1 < 0 ∨ 5 ≤ Int32.toNatClampNeg x1) <|
      some (v_thick (Int32.toNatClampNeg x1))
    else
      if x2 = (1 : Int32) then
        gd (x1 < 0 ∨ 5 ≤ Int32.toNatClampNeg x1) <|
        some (v_hollow (Int32.toNatClampNeg x1))
      else
        if x2 = (2 : Int32) then
          gd (x1 < 0 ∨ 5 ≤ Int32.toNatClampNeg x1) <|
          some (v_damp (Int32.toNatClampNeg x1))
        else
          if x2 = (3 : Int32) then
            gd (x1 < 0 ∨ 5 ≤ Int32.toNatClampNeg x1) <|
            some (v_fresh (Int32.toNatClampNeg x1))
          else
            if x2 = (4 : Int32) then
              gd (x1 < 0 ∨ 5 ≤ Int32.toNatClampNeg x1) <|
              some (v_pulls (Int32.toNatClampNeg x1))
            else
              some (-2 : Int32)
def fX6_fatOf (x1 : Int32) (x2 : Int32) (v_there : Int32) (v_fats : Nat → Int32) : Option (Int32) :=
  if (fX6_has x1 v_there) = 0 then
    some (0 : Int32)
  else
    if (fX10_inside x2 (0 : Int32) (7 : Int32)) = 0 then
      some (0 : Int32)
    else
      gd (((x1 * (8 : Int32)) + x2) < 0 ∨ 40 ≤ Int32.toNatClampNeg ((x1 * (8 : Int32)) + x2)) <|
      some (v_fats (Int32.toNatClampNeg ((x1 * (8 : Int32)) + x2)))
def FX6_greatestGhost_22 (x1 : Int32) (x2 : Int32) (x3 : Int32) (v_fats : Nat → Int32) (k22 : (Int32) → Option (Int32)) (x4 : Int32) : Option (Int32) :=
  if (8 : Int32) ≤ x4 then
    some (-6 : Int32)
  else
    if x4 = x2 then
      lt_ (x4 + (1 : Int32)) fun v_6 =>
      k22 v_6
    else
      gd (((x1 * (8 : Int32)) + x4) < 0 ∨ 40 ≤ Int32.toNatClampNeg ((x1 * (8 : Int32)) + x4)) <|
      if (v_fats (Int32.toNatClampNeg ((x1 * (8 : Int32)) + x4))) = x3 then
        some x4
      else
        lt_ (x4 + (1 : Int32)) fun v_9 =>
        k22 v_9
def LX6_greatestGhost_22 (x1 : Int32) (x2 : Int32) (x3 : Int32) (v_fats : Nat → Int32) (n : Nat) : (Int32) → Option (Int32) := Nat.rec (fun _ => none) (fun _ k => FX6_greatestGhost_22 x1 x2 x3 v_fats k) n
def fX6_greatestGhost (x1 : Int32) (x2 : Int32) (v_fats : Nat → Int32) : Option (Int32) :=
  if x1 < 0 then
    some (-6 : Int32)
  else
    if x1 < (5 : Int32) then
      Option.bind (fX6_ghostFat x1 x2 v_fats) fun v_3 =>
      LX6_greatestGhost_22 x1 x2 v_3 v_fats 2000 (0 : Int32)
    else
      some (-6 : Int32)
def fX6_draw (x1 : Int32) (x2 : Int32) (x3 : Int32) (v_there : Int32) (v_fats : Nat → Int32) (v_fresh : Nat → Int32) (v_pulls : Nat → Int32) : Option ((Nat → Int32) × (Nat → Int32) × (Nat → Int32)) :=
  if (fX6_has x1 v_there) = 0 then
    some (v_fats, v_fresh, v_pulls)
  else
    if (fX10_inside x2 (0 : Int32) (7 : Int32)) = 0 then
      some (v_fats, v_fresh, v_pulls)
    else
      gd (((x1 * (8 : Int32)) + x2) < 0 ∨ 40 ≤ Int32.toNatClampNeg ((x1 * (8 : Int32)) + x2)) <|
      gd (x1 < 0 ∨ 5 ≤ Int32.toNatClampNeg x1) <|
      some ((upd v_fats (Int32.toNatClampNeg ((x1 * (8 : Int32)) + x2)) x3), (upd v_fresh (Int32.toNatClampNeg x1) x2), (upd v_pulls (Int32.toNatClampNeg x1) (0 : Int32)))
def FX6_grindOff_64 (x1 : Int32) (x2 : Int32) (v_thick : Nat → Int32) (v_hollow : Nat → Int32) (v_fresh : Nat → Int32) (v_pulls : Nat → Int32) (k64 : (Int32) → (Nat → Int32) → Option ((Nat → Int32) × (Nat → Int32) × (Nat → Int32) × (Nat → Int32) × (Nat → Int32))) (x4 : Int32) (v_fats : Nat → Int32) : Option ((Nat → Int32) × (Nat → Int32) × (Nat → Int32) × (Nat → Int32) × (Nat → Int32)) :=
  if (8 : Int32) ≤ x4 then
    gd (x1 < 0 ∨ 5 ≤ Int32.toNatClampNeg x1) <|
    some (v_thick, v_hollow, (upd v_fresh (Int32.toNatClampNeg x1) (-6 : Int32)), (upd v_pulls (Int32.toNatClampNeg x1) (0 : Int32)), v_fats)
  else
    lt_ ((x1 * (8 : Int32)) + x4) fun v_8 =>
    gd (v_8 < 0 ∨ 40 ≤ Int32.toNatClampNeg v_8) <|
    lt_ (imax (0 : Int32) ((v_fats (Int32.toNatClampNeg v_8)) - ((3 : Int32) * x2))) fun v_10 =>
    lt_ (x4 + (1 : Int32)) fun v_11 =>
    k64 v_11 (upd v_fats (Int32.toNatClampNeg v_8) v_10)
def LX6_grindOff_64 (x1 : Int32) (x2 : Int32) (v_thick : Nat → Int32) (v_hollow : Nat → Int32) (v_fresh : Nat → Int32) (v_pulls : Nat → Int32) (n : Nat) : (Int32) → (Nat → Int32) → Option ((Nat → Int32) × (Nat → Int32) × (Nat → Int32) × (Nat → Int32) × (Nat → Int32)) := Nat.rec (fun _ _ => none) (fun _ k => FX6_grindOff_64 x1 x2 v_thick v_hollow v_fresh v_pulls k) n
def fX6_grindOff (x1 : Int32) (x2 : Int32) (x3 : Int32) (v_there : Int32) (v_thick : Nat → Int32) (v_hollow : Nat → Int32) (v_fresh : Nat → Int32) (v_pulls : Nat → Int32) (v_fats : Nat → Int32) : Option ((Nat → Int32) × (Nat → Int32) × (Nat → Int32) × (Nat → Int32) × (Nat → Int32)) :=
  if (fX6_has x1 v_there) = 0 then
    some (v_thick, v_hollow, v_fresh, v_pulls, v_fats)
  else
    gd (x1 < 0 ∨ 5 ≤ Int32.toNatClampNeg x1) <|
    lt_ ((v_thick (Int32.toNatClampNeg x1)) - ((3 : Int32) * x2)) fun v_3 =>
    if x3 = 0 then
      lt_ (imax (0 : Int32) ((v_hollow (Int32.toNatClampNeg x1)) - x2)) fun v_5 =>
      LX6_grindOff_64 x1 x2 (upd v_thick (Int32.toNatClampNeg x1) v_3) (upd v_hollow (Int32.toNatClampNeg x1) v_5) v_fresh v_pulls 2000 (0 : Int32) v_fats
    else
      lt_ (imin (99 : Int32) ((v_hollow (Int32.toNatClampNeg x1)) + ((2 : Int32) * x2))) fun v_12 =>
      LX6_grindOff_64 x1 x2 (upd v_thick (Int32.toNatClampNeg x1) v_3) (upd v_hollow (Int32.toNatClampNeg x1) v_12) v_fresh v_pulls 2000 (0 : Int32) v_fats
def fX6_wet (x1 : Int32) (x2 : Int32) (v_there : Int32) (v_damp : Nat → Int32) : Option ((Nat → Int32)) :=
  if (fX6_has x1 v_there) = 0 then
    some v_damp
  else
    gd (x1 < 0 ∨ 5 ≤ Int32.toNatClampNeg x1) <|
    lt_ (imin (20 : Int32) ((v_damp (Int32.toNatClampNeg x1)) + x2)) fun v_3 =>
    some (upd v_damp (Int32.toNatClampNeg x1) v_3)
def fX6_glueBelow (x1 : Int32) (x2 : Int32) (v_there : Int32) (v_thick : Nat → Int32) : Option (Int32 × (Nat → Int32)) :=
  if (fX6_has x1 v_there) = 0 then
    some (v_there, v_thick)
  else
    if (fX6_has x2 v_there) = 0 then
      some (v_there, v_thick)
    else
      if x1 = x2 then
        some (v_there, v_thick)
      else
        gd (x1 < 0 ∨ 5 ≤ Int32.toNatClampNeg x1) <|
        gd (x2 < 0 ∨ 5 ≤ Int32.toNatClampNeg x2) <|
        lt_ (imin (9999 : Int32) ((v_thick (Int32.toNatClampNeg x1)) + (v_thick (Int32.toNatClampNeg x2)))) fun v_6 =>
        lt_ (fX6_take x2 v_there) fun v_7 =>
        some (v_7, (upd v_thick (Int32.toNatClampNeg x1) v_6))
def fX6_pullOnce_101 (x1 : Int32) (x3 : Int32) (x4 : Int32) (v_fresh : Nat → Int32) (v_damp : Nat → Int32) (v_pulls : Nat → Int32) (v_fats : Nat → Int32) : Option (Int32 × (Nat → Int32) × (Nat → Int32) × (Nat → Int32)) :=
  if (3 : Int32) < x3 then
    if x3 < (15 : Int32) then
      gd (x1 < 0 ∨ 5 ≤ Int32.toNatClampNeg x1) <|
      Option.bind (fX6_ghostFat x1 (v_fresh (Int32.toNatClampNeg x1)) v_fats) fun v_12 =>
      gd (x4 < 0 ∨ 40 ≤ Int32.toNatClampNeg x4) <|
      if v_12 ≤ (v_fats (Int32.toNatClampNeg x4)) then
        if (v_fats (Int32.toNatClampNeg x4)) = 0 then
          some ((4 : Int32), v_damp, v_pulls, v_fats)
        else
          some ((0 : Int32), v_damp, v_pulls, v_fats)
      else
        some ((3 : Int32), v_damp, v_pulls, v_fats)
    else
      some ((2 : Int32), v_damp, v_pulls, v_fats)
  else
    some ((1 : Int32), v_damp, v_pulls, v_fats)
def fX6_pullOnce (x1 : Int32) (x2 : Int32) (v_there : Int32) (v_fresh : Nat → Int32) (v_damp : Nat → Int32) (v_pulls : Nat → Int32) (v_fats : Nat → Int32) : Option (Int32 × (Nat → Int32) × (Nat → Int32) × (Nat → Int32)) :=
  if (fX6_has x1 v_there) = 0 then
    some ((-6 : Int32), v_damp, v_pulls, v_fats)
  else
    gd (x1 < 0 ∨ 5 ≤ Int32.toNatClampNeg x1) <|
    if (fX10_inside (v_fresh (Int32.toNatClampNeg x1)) (0 : Int32) (7 : Int32)) = 0 then
      some ((-6 : Int32), v_damp, v_pulls, v_fats)
    else
      lt_ (v_damp (Int32.toNatClampNeg x1)) fun v_4 =>
      lt_ ((x1 * (8 : Int32)) + (v_fresh (Int32.toNatClampNeg x1))) fun v_5 =>
      lt_ (imax (0 : Int32) (v_4 - (1 : Int32))) fun v_6 =>
      lt_ ((v_pulls (Int32.toNatClampNeg x1)) + (1 : Int32)) fun v_7 =>
      if (((upd v_pulls (Int32.toNatClampNeg x1) v_7) (Int32.toNatClampNeg x1)) - ((upd v_pulls (Int32.toNatClampNeg x1) v_7) (Int32.toNatClampNeg x1)) / (10 : Int32) * (10 : Int32)) = 0 then
        gd (v_5 < 0 ∨ 40 ≤ Int32.toNatClampNeg v_5) <|
        lt_ (imax (0 : Int32) ((v_fats (Int32.toNatClampNeg v_5)) - x2)) fun v_17 =>
        fX6_pullOnce_101 x1 v_4 v_5 v_fresh (upd v_damp (Int32.toNatClampNeg x1) v_6) (upd v_pulls (Int32.toNatClampNeg x1) v_7) (upd v_fats (Int32.toNatClampNeg v_5) v_17)
      else
        fX6_pullOnce_101 x1 v_4 v_5 v_fresh (upd v_damp (Int32.toNatClampNeg x1) v_6) (upd v_pulls (Int32.toNatClampNeg x1) v_7) v_fats
def fX7_add (x1 : Int32) (x2 : Int32) (x3 : Int32) (v_size : Int32) (v_shown : Int32) (v_drawn : Nat → Int32) (v_pull : Nat → Int32) : Option (Int32 × Int32 × Int32 × (Nat → Int32) × (Nat → Int32)) :=
  if (fX10_inside v_size (0 : Int32) (7 : Int32)) = 0 then
    some ((0 : Int32), v_shown, v_size, v_drawn, v_pull)
  else
    gd (v_size < 0 ∨ 8 ≤ Int32.toNatClampNeg v_size) <|
    if x3 = 0 then
      lt_ (v_shown &&& (((1 : Int32) <<< (v_size &&& 31)) ^^^ (-1 : Int32))) fun v_4 =>
      lt_ (v_size + (1 : Int32)) fun v_5 =>
      some ((1 : Int32), v_4, v_5, (upd v_drawn (Int32.toNatClampNeg v_size) x1), (upd v_pull (Int32.toNatClampNeg v_size) x2))
    else
      lt_ (v_shown ||| ((1 : Int32) <<< (v_size &&& 31))) fun v_6 =>
      lt_ (v_size + (1 : Int32)) fun v_7 =>
      some ((1 : Int32), v_6, v_7, (upd v_drawn (Int32.toNatClampNeg v_size) x1), (upd v_pull (Int32.toNatClampNeg v_size) x2))
def FX8_clear_19 (v_pulled : Int32) (v_firstHaunted : Int32) (v_haunter : Int32) (k19 : (Int32) → (Nat → Int32) → Option (Int32 × Int32 × Int32 × (Nat → Int32))) (x1 : Int32) (v_ofKind : Nat → Int32) : Option (Int32 × Int32 × Int32 × (Nat → Int32)) :=
  if (5 : Int32) ≤ x1 then
    some (v_firstHaunted, v_haunter, v_pulled, v_ofKind)
  else
    gd (x1 < 0 ∨ 5 ≤ Int32.toNatClampNeg x1) <|
    lt_ (x1 + (1 : Int32)) fun v_3 =>
    k19 v_3 (upd v_ofKind (Int32.toNatClampNeg x1) (0 : Int32))
def LX8_clear_19 (v_pulled : Int32) (v_firstHaunted : Int32) (v_haunter : Int32) (n : Nat) : (Int32) → (Nat → Int32) → Option (Int32 × Int32 × Int32 × (Nat → Int32)) := Nat.rec (fun _ _ => none) (fun _ k => FX8_clear_19 v_pulled v_firstHaunted v_haunter k) n
def fX8_clear (v_ofKind : Nat → Int32) : Option (Int32 × Int32 × Int32 × (Nat → Int32)) :=
  LX8_clear_19 (0 : Int32) (-6 : Int32) (-6 : Int32) 2000 (0 : Int32) v_ofKind
def fX8_add (x1 : Int32) (x2 : Int32) (v_pulled : Int32) (v_firstHaunted : Int32) (v_haunter : Int32) (v_ofKind : Nat → Int32) : Option (Int32 × Int32 × Int32 × (Nat → Int32)) :=
  if (fX10_inside x1 (0 : Int32) (4 : Int32)) = 0 then
    some (v_firstHaunted, v_haunter, v_pulled, v_ofKind)
  else
    lt_ (v_pulled + (1 : Int32)) fun v_2 =>
    gd (x1 < 0 ∨ 5 ≤ Int32.toNatClampNeg x1) <|
    lt_ ((v_ofKind (Int32.toNatClampNeg x1)) + (1 : Int32)) fun v_4 =>
    if x1 = (3 : Int32) then
      if v_firstHaunted = (-6 : Int32) then
        some (v_2, x2, v_2, (upd v_ofKind (Int32.toNatClampNeg x1) v_4))
      else
        some (v_firstHaunted, v_haunter, v_2, (upd v_ofKind (Int32.toNatClampNeg x1) v_4))
    else
      some (v_firstHaunted, v_haunter, v_2, (upd v_ofKind (Int32.toNatClampNeg x1) v_4))
def fX9_begin (v_rules_deep : Nat → Int32) (v_rules_fine : Nat → Int32) (v_rules_pay : Nat → Int32) (v_rules_hair : Nat → Int32) (v_shelf_thick : Nat → Int32) (v_shelf_hollow : Nat → Int32) (v_shelf_damp : Nat → Int32) (v_shelf_fresh : Nat → Int32) (v_shelf_pulls : Nat → Int32) (v_shelf_fats : Nat → Int32) (v_tally_ofKind : Nat → Int32) (v_arg1_rules_flat : Int32) (v_arg1_rules_least : Int32) (v_arg1_shelf_there : Int32) (v_arg1_rules_deep : Nat → Int32) (v_arg1_rules_fine : Nat → Int32) (v_arg1_rules_pay : Nat → Int32) (v_arg1_rules_hair : Nat → Int32) (v_arg1_shelf_thick : Nat → Int32) (v_arg1_shelf_hollow : Nat → Int32) (v_arg1_shelf_damp : Nat → Int32) (v_arg1_shelf_fresh : Nat → Int32) (v_arg1_shelf_pulls : Nat → Int32) (v_arg1_shelf_fats : Nat → Int32) : Option (Int32 × Int32 × Int32 × Int32 × Int32 × Int32 × Int32 × Int32 × Int32 × (Nat → Int32) × (Nat → Int32) × (Nat → Int32) × (Nat → Int32) × (Nat → Int32) × (Nat → Int32) × (Nat → Int32) × (Nat → Int32) × (Nat → Int32) × (Nat → Int32) × (Nat → Int32)) :=
  lt_ (fX5_copyFrom v_rules_deep v_rules_fine v_rules_pay v_rules_hair v_arg1_rules_flat v_arg1_rules_least v_arg1_rules_deep v_arg1_rules_fine v_arg1_rules_pay v_arg1_rules_hair) fun v_1 =>
  lt_ (fX6_copyFrom v_shelf_thick v_shelf_hollow v_shelf_damp v_shelf_fresh v_shelf_pulls v_shelf_fats v_arg1_shelf_there v_arg1_shelf_thick v_arg1_shelf_hollow v_arg1_shelf_damp v_arg1_shelf_fresh v_arg1_shelf_pulls v_arg1_shelf_fats) fun v_2 =>
  Option.bind (fX8_clear v_tally_ofKind) fun v_3 =>
  some ((0 : Int32), (-6 : Int32), (-6 : Int32), v_1.1, v_1.2.1, v_2.1, v_3.1, v_3.2.1, v_3.2.2.1, v_1.2.2.1, v_1.2.2.2.1, v_1.2.2.2.2.1, v_1.2.2.2.2.2, v_2.2.1, v_2.2.2.1, v_2.2.2.2.1, v_2.2.2.2.2.1, v_2.2.2.2.2.2.1, v_2.2.2.2.2.2.2, v_3.2.2.2)
def fX9_reasonAgainstDraw (x1 : Int32) (v_shelf_there : Int32) (v_rules_flat : Int32) (v_shelf_fresh : Nat → Int32) (v_shelf_hollow : Nat → Int32) : Option (Int32) :=
  if (fX6_has x1 v_shelf_there) = 0 then
    some (1 : Int32)
  else
    gd (x1 < 0 ∨ 5 ≤ Int32.toNatClampNeg x1) <|
    if (v_shelf_fresh (Int32.toNatClampNeg x1)) = (-6 : Int32) then
      if (v_shelf_hollow (Int32.toNatClampNeg x1)) ≤ v_rules_flat then
        some (0 : Int32)
      else
        some (5 : Int32)
    else
      some (3 : Int32)
def fX9_reasonAgainstPulls (x1 : Int32) (v_shelf_there : Int32) (v_rules_flat : Int32) (v_rules_least : Int32) (v_shelf_fresh : Nat → Int32) (v_shelf_hollow : Nat → Int32) (v_shelf_thick : Nat → Int32) : Option (Int32) :=
  if (fX6_has x1 v_shelf_there) = 0 then
    some (1 : Int32)
  else
    gd (x1 < 0 ∨ 5 ≤ Int32.toNatClampNeg x1) <|
    if (v_shelf_fresh (Int32.toNatClampNeg x1)) = (-6 : Int32) then
      some (4 : Int32)
    else
      if (v_shelf_hollow (Int32.toNatClampNeg x1)) ≤ v_rules_flat then
        if v_rules_least ≤ (v_shelf_thick (Int32.toNatClampNeg x1)) then
          some (0 : Int32)
        else
          some (6 : Int32)
      else
        some (5 : Int32)
def fX9_reasonAgainst_49 (x1 : Int32) (v_act_kind : Int32) (v_act_amount : Int32) (v_shelf_there : Int32) (v_rules_flat : Int32) (v_rules_least : Int32) (v_shelf_fresh : Nat → Int32) (v_shelf_hollow : Nat → Int32) (v_shelf_thick : Nat → Int32) : Option (Int32) :=
  if v_act_kind = (0 : Int32) then
    Option.bind (fX9_reasonAgainstDraw x1 v_shelf_there v_rules_flat v_shelf_fresh v_shelf_hollow) fun v_4 =>
    some v_4
  else
    if v_act_kind = (1 : Int32) then
      gd (x1 < 0 ∨ 5 ≤ Int32.toNatClampNeg x1) <|
      if v_rules_least ≤ ((v_shelf_thick (Int32.toNatClampNeg x1)) - ((3 : Int32) * v_act_amount)) then
        some (0 : Int32)
      else
        some (6 : Int32)
    else
      if v_act_kind = (2 : Int32) then
        gd (x1 < 0 ∨ 5 ≤ Int32.toNatClampNeg x1) <|
        if v_rules_least ≤ ((v_shelf_thick (Int32.toNatClampNeg x1)) - ((3 : Int32) * v_act_amount)) then
          some (0 : Int32)
        else
          some (6 : Int32)
      else
        if v_act_kind = (3 : Int32) then
          some (0 : Int32)
        else
          if v_act_kind = (4 : Int32) then
            Option.bind (fX9_reasonAgainstPulls x1 v_shelf_there v_rules_flat v_rules_least v_shelf_fresh v_shelf_hollow v_shelf_thick) fun v_13 =>
            some v_13
          else
            if v_act_kind = (5 : Int32) then
              if v_act_amount = x1 then
                some (2 : Int32)
              else
                some (0 : Int32)
            else
              some (0 : Int32)
def fX9_reasonAgainst (v_act_stone : Int32) (v_act_kind : Int32) (v_act_amount : Int32) (v_shelf_there : Int32) (v_rules_flat : Int32) (v_rules_least : Int32) (v_shelf_fresh : Nat → Int32) (v_shelf_hollow : Nat → Int32) (v_shelf_thick : Nat → Int32) : Option (Int32) :=
  if (fX6_has v_act_stone v_shelf_there) = 0 then
    some (1 : Int32)
  else
    if v_act_kind = (5 : Int32) then
      if (fX6_has v_act_amount v_shelf_there) = 0 then
        some (1 : Int32)
      else
        fX9_reasonAgainst_49 v_act_stone v_act_kind v_act_amount v_shelf_there v_rules_flat v_rules_least v_shelf_fresh v_shelf_hollow v_shelf_thick
    else
      fX9_reasonAgainst_49 v_act_stone v_act_kind v_act_amount v_shelf_there v_rules_flat v_rules_least v_shelf_fresh v_shelf_hollow v_shelf_thick
def FX9_pullSeveral_25 (x1 : Int32) (x2 : Int32) (x3 : Int32) (v_shelf_there : Int32) (v_shelf_fresh : Nat → Int32) (v_rules_fine : Nat → Int32) (k25 : (Int32) → (Int32) → (Int32) → (Int32) → (Nat → Int32) → (Nat → Int32) → (Nat → Int32) → (Nat → Int32) → Option (Int32 × Int32 × Int32 × (Nat → Int32) × (Nat → Int32) × (Nat → Int32) × (Nat → Int32))) (x4 : Int32) (v_tally_pulled : Int32) (v_tally_firstHaunted : Int32) (v_tally_haunter : Int32) (v_shelf_damp : Nat → Int32) (v_shelf_pulls : Nat → Int32) (v_shelf_fats : Nat → Int32) (v_tally_ofKind : Nat → Int32) : Option (Int32 × Int32 × Int32 × (Nat → Int32) × (Nat → Int32) × (Nat → Int32) × (Nat → Int32)) :=
  if x2 ≤ x4 then
    some (v_tally_firstHaunted, v_tally_haunter, v_tally_pulled, v_shelf_damp, v_shelf_pulls, v_shelf_fats, v_tally_ofKind)
  else
    Option.bind (fX5_wear x3 v_rules_fine) fun v_5 =>
    Option.bind (fX6_pullOnce x1 v_5 v_shelf_there v_shelf_fresh v_shelf_damp v_shelf_pulls v_shelf_fats) fun v_6 =>
    Option.bind (fX6_greatestGhost x1 x3 v_6.2.2.2) fun v_7 =>
    Option.bind (fX8_add v_6.1 v_7 v_tally_pulled v_tally_firstHaunted v_tally_haunter v_tally_ofKind) fun v_8 =>
    lt_ (x4 + (1 : Int32)) fun v_9 =>
    k25 v_9 v_8.2.2.1 v_8.1 v_8.2.1 v_6.2.1 v_6.2.2.1 v_6.2.2.2 v_8.2.2.2
def LX9_pullSeveral_25 (x1 : Int32) (x2 : Int32) (x3 : Int32) (v_shelf_there : Int32) (v_shelf_fresh : Nat → Int32) (v_rules_fine : Nat → Int32) (n : Nat) : (Int32) → (Int32) → (Int32) → (Int32) → (Nat → Int32) → (Nat → Int32) → (Nat → Int32) → (Nat → Int32) → Option (Int32 × Int32 × Int32 × (Nat → Int32) × (Nat → Int32) × (Nat → Int32) × (Nat → Int32)) := Nat.rec (fun _ _ _ _ _ _ _ _ => none) (fun _ k => FX9_pullSeveral_25 x1 x2 x3 v_shelf_there v_shelf_fresh v_rules_fine k) n
def fX9_pullSeveral (x1 : Int32) (x2 : Int32) (v_shelf_there : Int32) (v_tally_pulled : Int32) (v_tally_firstHaunted : Int32) (v_tally_haunter : Int32) (v_shelf_fresh : Nat → Int32) (v_rules_fine : Nat → Int32) (v_shelf_damp : Nat → Int32) (v_shelf_pulls : Nat → Int32) (v_shelf_fats : Nat → Int32) (v_tally_ofKind : Nat → Int32) : Option (Int32 × Int32 × Int32 × (Nat → Int32) × (Nat → Int32) × (Nat → Int32) × (Nat → Int32)) :=
  if (fX6_has x1 v_shelf_there) = 0 then
    some (v_tally_firstHaunted, v_tally_haunter, v_tally_pulled, v_shelf_damp, v_shelf_pulls, v_shelf_fats, v_tally_ofKind)
  else
    gd (x1 < 0 ∨ 5 ≤ Int32.toNatClampNeg x1) <|
    lt_ (v_shelf_fresh (Int32.toNatClampNeg x1)) fun v_3 =>
    LX9_pullSeveral_25 x1 x2 v_3 v_shelf_there v_shelf_fresh v_rules_fine 2000 (0 : Int32) v_tally_pulled v_tally_firstHaunted v_tally_haunter v_shelf_damp v_shelf_pulls v_shelf_fats v_tally_ofKind
def fX9_carryOut (v_act_stone : Int32) (v_act_kind : Int32) (v_act_amount : Int32) (v_shelf_there : Int32) (v_tally_pulled : Int32) (v_tally_firstHaunted : Int32) (v_tally_haunter : Int32) (v_shelf_thick : Nat → Int32) (v_shelf_fresh : Nat → Int32) (v_rules_fine : Nat → Int32) (v_shelf_damp : Nat → Int32) (v_shelf_pulls : Nat → Int32) (v_shelf_fats : Nat → Int32) (v_tally_ofKind : Nat → Int32) (v_shelf_hollow : Nat → Int32) (v_rules_deep : Nat → Int32) : Option (Int32 × Int32 × Int32 × Int32 × (Nat → Int32) × (Nat → Int32) × (Nat → Int32) × (Nat → Int32) × (Nat → Int32) × (Nat → Int32) × (Nat → Int32)) :=
  if v_act_kind = (0 : Int32) then
    Option.bind (fX5_deepOf v_act_amount v_rules_deep) fun v_2 =>
    Option.bind (fX6_draw v_act_stone v_act_amount v_2 v_shelf_there v_shelf_fats v_shelf_fresh v_shelf_pulls) fun v_3 =>
    some (v_shelf_there, v_tally_firstHaunted, v_tally_haunter, v_tally_pulled, v_shelf_thick, v_3.2.1, v_shelf_damp, v_3.2.2, v_3.1, v_tally_ofKind, v_shelf_hollow)
  else
    if v_act_kind = (1 : Int32) then
      Option.bind (fX6_grindOff v_act_stone v_act_amount (1 : Int32) v_shelf_there v_shelf_thick v_shelf_hollow v_shelf_fresh v_shelf_pulls v_shelf_fats) fun v_5 =>
      some (v_shelf_there, v_tally_firstHaunted, v_tally_haunter, v_tally_pulled, v_5.1, v_5.2.2.1, v_shelf_damp, v_5.2.2.2.1, v_5.2.2.2.2, v_tally_ofKind, v_5.2.1)
    else
      if v_act_kind = (2 : Int32) then
        Option.bind (fX6_grindOff v_act_stone v_act_amount (0 : Int32) v_shelf_there v_shelf_thick v_shelf_hollow v_shelf_fresh v_shelf_pulls v_shelf_fats) fun v_7 =>
        some (v_shelf_there, v_tally_firstHaunted, v_tally_haunter, v_tally_pulled, v_7.1, v_7.2.2.1, v_shelf_damp, v_7.2.2.2.1, v_7.2.2.2.2, v_tally_ofKind, v_7.2.1)
      else
        if v_act_kind = (3 : Int32) then
          Option.bind (fX6_wet v_act_stone v_act_amount v_shelf_there v_shelf_damp) fun v_9 =>
          some (v_shelf_there, v_tally_firstHaunted, v_tally_haunter, v_tally_pulled, v_shelf_thick, v_shelf_fresh, v_9, v_shelf_pulls, v_shelf_fats, v_tally_ofKind, v_shelf_hollow)
        else
          if v_act_kind = (4 : Int32) then
            Option.bind (fX9_pullSeveral v_act_stone v_act_amount v_shelf_there v_tally_pulled v_tally_firstHaunted v_tally_haunter v_shelf_fresh v_rules_fine v_shelf_damp v_shelf_pulls v_shelf_fats v_tally_ofKind) fun v_11 =>
            some (v_shelf_there, v_11.1, v_11.2.1, v_11.2.2.1, v_shelf_thick, v_shelf_fresh, v_11.2.2.2.1, v_11.2.2.2.2.1, v_11.2.2.2.2.2.1, v_11.2.2.2.2.2.2, v_shelf_hollow)
          else
            Option.bind (fX6_glueBelow v_act_stone v_act_amount v_shelf_there v_shelf_thick) fun v_12 =>
            some (v_12.1, v_tally_firstHaunted, v_tally_haunter, v_tally_pulled, v_12.2, v_shelf_fresh, v_shelf_damp, v_shelf_pulls, v_shelf_fats, v_tally_ofKind, v_shelf_hollow)
def FX9_playPad_2 (v_stoppedAt : Int32) (v_why : Int32) (v_rules_flat : Int32) (v_rules_least : Int32) (v_rules_fine : Nat → Int32) (v_rules_deep : Nat → Int32) (v_arg1_size : Int32) (v_arg1_signs : Nat → Int32) (k2 : (Int32) → (Int32) → (Int32) → (Int32) → (Int32) → (Int32) → (Int32) → (Int32) → (Int32) → (Nat → Int32) → (Nat → Int32) → (Nat → Int32) → (Nat → Int32) → (Nat → Int32) → (Nat → Int32) → (Nat → Int32) → Option (Int32 × Int32 × Int32 × Int32 × Int32 × Int32 × Int32 × Int32 × Int32 × Int32 × (Nat → Int32) × (Nat → Int32) × (Nat → Int32) × (Nat → Int32) × (Nat → Int32) × (Nat → Int32) × (Nat → Int32))) (x2 : Int32) (v_acts : Int32) (v_act_stone : Int32) (v_act_kind : Int32) (v_act_amount : Int32) (v_shelf_there : Int32) (v_tally_pulled : Int32) (v_tally_firstHaunted : Int32) (v_tally_haunter : Int32) (v_shelf_fresh : Nat → Int32) (v_shelf_hollow : Nat → Int32) (v_shelf_thick : Nat → Int32) (v_shelf_damp : Nat → Int32) (v_shelf_pulls : Nat → Int32) (v_shelf_fats : Nat → Int32) (v_tally_ofKind : Nat → Int32) : Option (Int32 × Int32 × Int32 × Int32 × Int32 × Int32 × Int32 × Int32 × Int32 × Int32 × (Nat → Int32) × (Nat → Int32) × (Nat → Int32) × (Nat → Int32) × (Nat → Int32) × (Nat → Int32) × (Nat → Int32)) :=
  if v_arg1_size ≤ x2 then
    some (v_acts, v_stoppedAt, v_why, v_act_amount, v_act_kind, v_act_stone, v_shelf_there, v_tally_firstHaunted, v_tally_haunter, v_tally_pulled, v_shelf_fresh, v_shelf_hollow, v_shelf_thick, v_shelf_damp, v_shelf_pulls, v_shelf_fats, v_tally_ofKind)
  else
    Option.bind (fX3_readAct x2 v_arg1_size v_arg1_signs) fun v_2 =>
    Option.bind (fX9_reasonAgainst v_2.2.2 v_2.2.1 v_2.1 v_shelf_there v_rules_flat v_rules_least v_shelf_fresh v_shelf_hollow v_shelf_thick) fun v_3 =>
    if v_3 = 0 then
      Option.bind (fX9_carryOut v_2.2.2 v_2.2.1 v_2.1 v_shelf_there v_tally_pulled v_tally_firstHaunted v_tally_haunter v_shelf_thick v_shelf_fresh v_rules_fine v_shelf_damp v_shelf_pulls v_shelf_fats v_tally_ofKind v_shelf_hollow v_rules_deep) fun v_5 =>
      lt_ (v_acts + (1 : Int32)) fun v_6 =>
      Option.bind (fX3_hasThird x2 v_arg1_size v_arg1_signs) fun v_7 =>
      if v_7 = 0 then
        lt_ (x2 + (2 : Int32)) fun v_9 =>
        k2 v_9 v_6 v_2.2.2 v_2.2.1 v_2.1 v_5.1 v_5.2.2.2.1 v_5.2.1 v_5.2.2.1 v_5.2.2.2.2.2.1 v_5.2.2.2.2.2.2.2.2.2.2 v_5.2.2.2.2.1 v_5.2.2.2.2.2.2.1 v_5.2.2.2.2.2.2.2.1 v_5.2.2.2.2.2.2.2.2.1 v_5.2.2.2.2.2.2.2.2.2.1
      else
        lt_ (x2 + (3 : Int32)) fun v_10 =>
        k2 v_10 v_6 v_2.2.2 v_2.2.1 v_2.1 v_5.1 v_5.2.2.2.1 v_5.2.1 v_5.2.2.1 v_5.2.2.2.2.2.1 v_5.2.2.2.2.2.2.2.2.2.2 v_5.2.2.2.2.1 v_5.2.2.2.2.2.2.1 v_5.2.2.2.2.2.2.2.1 v_5.2.2.2.2.2.2.2.2.1 v_5.2.2.2.2.2.2.2.2.2.1
    else
      some (v_acts, v_acts, v_3, v_2.1, v_2.2.1, v_2.2.2, v_shelf_there, v_tally_firstHaunted, v_tally_haunter, v_tally_pulled, v_shelf_fresh, v_shelf_hollow, v_shelf_thick, v_shelf_damp, v_shelf_pulls, v_shelf_fats, v_tally_ofKind)
def LX9_playPad_2 (v_stoppedAt : Int32) (v_why : Int32) (v_rules_flat : Int32) (v_rules_least : Int32) (v_rules_fine : Nat → Int32) (v_rules_deep : Nat → Int32) (v_arg1_size : Int32) (v_arg1_signs : Nat → Int32) (n : Nat) : (Int32) → (Int32) → (Int32) → (Int32) → (Int32) → (Int32) → (Int32) → (Int32) → (Int32) → (Nat → Int32) → (Nat → Int32) → (Nat → Int32) → (Nat → Int32) → (Nat → Int32) → (Nat → Int32) → (Nat → Int32) → Option (Int32 × Int32 × Int32 × Int32 × Int32 × Int32 × Int32 × Int32 × Int32 × Int32 × (Nat → Int32) × (Nat → Int32) × (Nat → Int32) × (Nat → Int32) × (Nat → Int32) × (Nat → Int32) × (Nat → Int32)) := Nat.rec (fun _ _ _ _ _ _ _ _ _ _ _ _ _ _ _ _ => none) (fun _ k => FX9_playPad_2 v_stoppedAt v_why v_rules_flat v_rules_least v_rules_fine v_rules_deep v_arg1_size v_arg1_signs k) n
def fX9_playPad (v_acts : Int32) (v_stoppedAt : Int32) (v_why : Int32) (v_act_stone : Int32) (v_act_kind : Int32) (v_act_amount : Int32) (v_shelf_there : Int32) (v_rules_flat : Int32) (v_rules_least : Int32) (v_tally_pulled : Int32) (v_tally_firstHaunted : Int32) (v_tally_haunter : Int32) (v_shelf_fresh : Nat → Int32) (v_shelf_hollow : Nat → Int32) (v_shelf_thick : Nat → Int32) (v_rules_fine : Nat → Int32) (v_shelf_damp : Nat → Int32) (v_shelf_pulls : Nat → Int32) (v_shelf_fats : Nat → Int32) (v_tally_ofKind : Nat → Int32) (v_rules_deep : Nat → Int32) (v_arg1_size : Int32) (v_arg1_signs : Nat → Int32) : Option (Int32 × Int32 × Int32 × Int32 × Int32 × Int32 × Int32 × Int32 × Int32 × Int32 × (Nat → Int32) × (Nat → Int32) × (Nat → Int32) × (Nat → Int32) × (Nat → Int32) × (Nat → Int32) × (Nat → Int32)) :=
  LX9_playPad_2 v_stoppedAt v_why v_rules_flat v_rules_least v_rules_fine v_rules_deep v_arg1_size v_arg1_signs 2000 (0 : Int32) v_acts v_act_stone v_act_kind v_act_amount v_shelf_there v_tally_pulled v_tally_firstHaunted v_tally_haunter v_shelf_fresh v_shelf_hollow v_shelf_thick v_shelf_damp v_shelf_pulls v_shelf_fats v_tally_ofKind
def fX9_readDraw (x1 : Int32) : Int32 × Int32 × Int32 :=
  lt_ ((1 : Int32) + ((x1 / (20 : Int32)) - (x1 / (20 : Int32)) / (9 : Int32) * (9 : Int32))) fun v_1 =>
  if ((x1 / (5 : Int32)) - (x1 / (5 : Int32)) / (4 : Int32) * (4 : Int32)) = (0 : Int32) then
    lt_ (fX0_become (x1 - x1 / (5 : Int32) * (5 : Int32)) (0 : Int32) ((x1 / (20 : Int32)) - (x1 / (20 : Int32)) / (8 : Int32) * (8 : Int32))) fun v_3 =>
    (v_3.1, v_3.2.1, v_3.2.2)
  else
    if ((x1 / (5 : Int32)) - (x1 / (5 : Int32)) / (4 : Int32) * (4 : Int32)) = (1 : Int32) then
      lt_ (fX0_become (x1 - x1 / (5 : Int32) * (5 : Int32)) (2 : Int32) v_1) fun v_5 =>
      (v_5.1, v_5.2.1, v_5.2.2)
    else
      if ((x1 / (5 : Int32)) - (x1 / (5 : Int32)) / (4 : Int32) * (4 : Int32)) = (2 : Int32) then
        lt_ (fX0_become (x1 - x1 / (5 : Int32) * (5 : Int32)) (3 : Int32) v_1) fun v_7 =>
        (v_7.1, v_7.2.1, v_7.2.2)
      else
        lt_ (fX0_become (x1 - x1 / (5 : Int32) * (5 : Int32)) (4 : Int32) v_1) fun v_8 =>
        (v_8.1, v_8.2.1, v_8.2.2)
def FX9_playYear_5 (x2 : Int32) (v_rules_flat : Int32) (v_rules_least : Int32) (v_rules_fine : Nat → Int32) (v_rules_deep : Nat → Int32) (k5 : (Int32) → (Int32) → (Int32) → (Int32) → (Int32) → (Int32) → (Int32) → (Int32) → (Int32) → (Nat → Int32) → (Nat → Int32) → (Nat → Int32) → (Nat → Int32) → (Nat → Int32) → (Nat → Int32) → (Nat → Int32) → Option (Int32 × Int32 × Int32 × Int32 × Int32 × Int32 × Int32 × (Nat → Int32) × (Nat → Int32) × (Nat → Int32) × (Nat → Int32) × (Nat → Int32) × (Nat → Int32) × (Nat → Int32))) (x3 : Int32) (x4 : Int32) (v_act_stone : Int32) (v_act_kind : Int32) (v_act_amount : Int32) (v_shelf_there : Int32) (v_tally_pulled : Int32) (v_tally_firstHaunted : Int32) (v_tally_haunter : Int32) (v_shelf_fresh : Nat → Int32) (v_shelf_hollow : Nat → Int32) (v_shelf_thick : Nat → Int32) (v_shelf_damp : Nat → Int32) (v_shelf_pulls : Nat → Int32) (v_shelf_fats : Nat → Int32) (v_tally_ofKind : Nat → Int32) : Option (Int32 × Int32 × Int32 × Int32 × Int32 × Int32 × Int32 × (Nat → Int32) × (Nat → Int32) × (Nat → Int32) × (Nat → Int32) × (Nat → Int32) × (Nat → Int32) × (Nat → Int32)) :=
  if x2 ≤ x4 then
    some (v_act_amount, v_act_kind, v_act_stone, v_shelf_there, v_tally_firstHaunted, v_tally_haunter, v_tally_pulled, v_shelf_fresh, v_shelf_hollow, v_shelf_thick, v_shelf_damp, v_shelf_pulls, v_shelf_fats, v_tally_ofKind)
  else
    lt_ ((((75 : Int32) * x3) + (74 : Int32)) - (((75 : Int32) * x3) + (74 : Int32)) / (65537 : Int32) * (65537 : Int32)) fun v_2 =>
    lt_ (fX9_readDraw v_2) fun v_3 =>
    Option.bind (fX9_reasonAgainst v_3.2.2 v_3.2.1 v_3.1 v_shelf_there v_rules_flat v_rules_least v_shelf_fresh v_shelf_hollow v_shelf_thick) fun v_4 =>
    if v_4 = 0 then
      Option.bind (fX9_carryOut v_3.2.2 v_3.2.1 v_3.1 v_shelf_there v_tally_pulled v_tally_firstHaunted v_tally_haunter v_shelf_thick v_shelf_fresh v_rules_fine v_shelf_damp v_shelf_pulls v_shelf_fats v_tally_ofKind v_shelf_hollow v_rules_deep) fun v_7 =>
      lt_ (x4 + (1 : Int32)) fun v_8 =>
      k5 v_2 v_8 v_3.2.2 v_3.2.1 v_3.1 v_7.1 v_7.2.2.2.1 v_7.2.1 v_7.2.2.1 v_7.2.2.2.2.2.1 v_7.2.2.2.2.2.2.2.2.2.2 v_7.2.2.2.2.1 v_7.2.2.2.2.2.2.1 v_7.2.2.2.2.2.2.2.1 v_7.2.2.2.2.2.2.2.2.1 v_7.2.2.2.2.2.2.2.2.2.1
    else
      lt_ (x4 + (1 : Int32)) fun v_6 =>
      k5 v_2 v_6 v_3.2.2 v_3.2.1 v_3.1 v_shelf_there v_tally_pulled v_tally_firstHaunted v_tally_haunter v_shelf_fresh v_shelf_hollow v_shelf_thick v_shelf_damp v_shelf_pulls v_shelf_fats v_tally_ofKind
def LX9_playYear_5 (x2 : Int32) (v_rules_flat : Int32) (v_rules_least : Int32) (v_rules_fine : Nat → Int32) (v_rules_deep : Nat → Int32) (n : Nat) : (Int32) → (Int32) → (Int32) → (Int32) → (Int32) → (Int32) → (Int32) → (Int32) → (Int32) → (Nat → Int32) → (Nat → Int32) → (Nat → Int32) → (Nat → Int32) → (Nat → Int32) → (Nat → Int32) → (Nat → Int32) → Option (Int32 × Int32 × Int32 × Int32 × Int32 × Int32 × Int32 × (Nat → Int32) × (Nat → Int32) × (Nat → Int32) × (Nat → Int32) × (Nat → Int32) × (Nat → Int32) × (Nat → Int32)) := Nat.rec (fun _ _ _ _ _ _ _ _ _ _ _ _ _ _ _ _ => none) (fun _ k => FX9_playYear_5 x2 v_rules_flat v_rules_least v_rules_fine v_rules_deep k) n
def fX9_playYear (x1 : Int32) (x2 : Int32) (v_act_stone : Int32) (v_act_kind : Int32) (v_act_amount : Int32) (v_shelf_there : Int32) (v_rules_flat : Int32) (v_rules_least : Int32) (v_tally_pulled : Int32) (v_tally_firstHaunted : Int32) (v_tally_haunter : Int32) (v_shelf_fresh : Nat → Int32) (v_shelf_hollow : Nat → Int32) (v_shelf_thick : Nat → Int32) (v_rules_fine : Nat → Int32) (v_shelf_damp : Nat → Int32) (v_shelf_pulls : Nat → Int32) (v_shelf_fats : Nat → Int32) (v_tally_ofKind : Nat → Int32) (v_rules_deep : Nat → Int32) : Option (Int32 × Int32 × Int32 × Int32 × Int32 × Int32 × Int32 × (Nat → Int32) × (Nat → Int32) × (Nat → Int32) × (Nat → Int32) × (Nat → Int32) × (Nat → Int32) × (Nat → Int32)) :=
  LX9_playYear_5 x2 v_rules_flat v_rules_least v_rules_fine v_rules_deep 2000 x1 (0 : Int32) v_act_stone v_act_kind v_act_amount v_shelf_there v_tally_pulled v_tally_firstHaunted v_tally_haunter v_shelf_fresh v_shelf_hollow v_shelf_thick v_shelf_damp v_shelf_pulls v_shelf_fats v_tally_ofKind
def fX10_stone (x1 : Int32) (x2 : Int32) (x3 : Int32) (x4 : Int32) (v_room_shelf_there : Int32) (v_room_shelf_thick : Nat → Int32) (v_room_shelf_hollow : Nat → Int32) (v_room_shelf_damp : Nat → Int32) (v_room_shelf_fresh : Nat → Int32) (v_room_shelf_pulls : Nat → Int32) (v_room_shelf_fats : Nat → Int32) : Option (Int32 × Int32 × (Nat → Int32) × (Nat → Int32) × (Nat → Int32) × (Nat → Int32) × (Nat → Int32) × (Nat → Int32)) :=
  if (fX10_inside x1 (0 : Int32) (4 : Int32)) = 0 then
    some ((-1 : Int32), v_room_shelf_there, v_room_shelf_thick, v_room_shelf_hollow, v_room_shelf_damp, v_room_shelf_fresh, v_room_shelf_pulls, v_room_shelf_fats)
  else
    if (fX10_inside x2 (0 : Int32) (9999 : Int32)) = 0 then
      some ((-2 : Int32), v_room_shelf_there, v_room_shelf_thick, v_room_shelf_hollow, v_room_shelf_damp, v_room_shelf_fresh, v_room_shelf_pulls, v_room_shelf_fats)
    else
      if (fX10_inside x3 (0 : Int32) (99 : Int32)) = 0 then
        some ((-2 : Int32), v_room_shelf_there, v_room_shelf_thick, v_room_shelf_hollow, v_room_shelf_damp, v_room_shelf_fresh, v_room_shelf_pulls, v_room_shelf_fats)
      else
        if (fX10_inside x4 (0 : Int32) (20 : Int32)) = 0 then
          some ((-2 : Int32), v_room_shelf_there, v_room_shelf_thick, v_room_shelf_hollow, v_room_shelf_damp, v_room_shelf_fresh, v_room_shelf_pulls, v_room_shelf_fats)
        else
          Option.bind (fX6_put x1 x2 x3 x4 v_room_shelf_there v_room_shelf_thick v_room_shelf_hollow v_room_shelf_damp v_room_shelf_fresh v_room_shelf_pulls v_room_shelf_fats) fun v_5 =>
          some ((fX6_count v_5.1), v_5.1, v_5.2.1, v_5.2.2.1, v_5.2.2.2.1, v_5.2.2.2.2.1, v_5.2.2.2.2.2.1, v_5.2.2.2.2.2.2)
def fX10_smash (x1 : Int32) (v_room_shelf_there : Int32) : Int32 × Int32 :=
  if (fX6_has x1 v_room_shelf_there) = 0 then
    ((-1 : Int32), v_room_shelf_there)
  else
    lt_ (fX6_take x1 v_room_shelf_there) fun v_2 =>
    ((fX6_count v_2), v_2)
def fX10_picture (x1 : Int32) (x2 : Int32) (x3 : Int32) (x4 : Int32) (v_room_rules_deep : Nat → Int32) (v_room_rules_fine : Nat → Int32) (v_room_rules_pay : Nat → Int32) : Option (Int32 × (Nat → Int32) × (Nat → Int32) × (Nat → Int32)) :=
  if (fX10_inside x1 (0 : Int32) (7 : Int32)) = 0 then
    some ((-1 : Int32), v_room_rules_deep, v_room_rules_fine, v_room_rules_pay)
  else
    if (fX10_inside x2 (1 : Int32) (60 : Int32)) = 0 then
      some ((-2 : Int32), v_room_rules_deep, v_room_rules_fine, v_room_rules_pay)
    else
      if (fX10_inside x3 (1 : Int32) (9 : Int32)) = 0 then
        some ((-2 : Int32), v_room_rules_deep, v_room_rules_fine, v_room_rules_pay)
      else
        if (fX10_inside x4 (0 : Int32) (999 : Int32)) = 0 then
          some ((-2 : Int32), v_room_rules_deep, v_room_rules_fine, v_room_rules_pay)
        else
          gd (x1 < 0 ∨ 8 ≤ Int32.toNatClampNeg x1) <|
          lt_ (v_room_rules_deep (Int32.toNatClampNeg x1)) fun v_6 =>
          some (v_6, (upd v_room_rules_deep (Int32.toNatClampNeg x1) x2), (upd v_room_rules_fine (Int32.toNatClampNeg x1) x3), (upd v_room_rules_pay (Int32.toNatClampNeg x1) x4))
def fX10_set_38 (x1 : Int32) (x2 : Int32) (v_room_rules_flat : Int32) (v_room_rules_least : Int32) : Int32 × Int32 × Int32 :=
  if x1 = (1 : Int32) then
    if (fX10_inside x2 (0 : Int32) (9999 : Int32)) = 0 then
      ((-2 : Int32), v_room_rules_flat, v_room_rules_least)
    else
      (v_room_rules_least, v_room_rules_flat, x2)
  else
    ((-2 : Int32), v_room_rules_flat, v_room_rules_least)
def fX10_set (x1 : Int32) (x2 : Int32) (v_room_rules_flat : Int32) (v_room_rules_least : Int32) : Int32 × Int32 × Int32 :=
  if x1 = 0 then
    if (fX10_inside x2 (0 : Int32) (99 : Int32)) = 0 then
      fX10_set_38 x1 x2 v_room_rules_flat v_room_rules_least
    else
      (v_room_rules_flat, x2, v_room_rules_least)
  else
    fX10_set_38 x1 x2 v_room_rules_flat v_room_rules_least
def fX10_hairs (x1 : Int32) (x2 : Int32) (v_room_rules_hair : Nat → Int32) : Option (Int32 × (Nat → Int32)) :=
  if (fX10_inside x1 (0 : Int32) (5 : Int32)) = 0 then
    some ((-2 : Int32), v_room_rules_hair)
  else
    if (fX10_inside x2 (-9 : Int32) (9 : Int32)) = 0 then
      some ((-2 : Int32), v_room_rules_hair)
    else
      gd (x1 < 0 ∨ 6 ≤ Int32.toNatClampNeg x1) <|
      lt_ (v_room_rules_hair (Int32.toNatClampNeg x1)) fun v_4 =>
      some ((v_4 + (9 : Int32)), (upd v_room_rules_hair (Int32.toNatClampNeg x1) x2))
def fX10_say (x1 : Int32) (v_pad_size : Int32) (v_pad_signs : Nat → Int32) : Option (Int32 × Int32 × (Nat → Int32)) :=
  if (fX10_inside x1 (33 : Int32) (126 : Int32)) = 0 then
    some ((-2 : Int32), v_pad_size, v_pad_signs)
  else
    Option.bind (fX3_write x1 v_pad_size v_pad_signs) fun v_2 =>
    if v_2.1 = 0 then
      some ((-4 : Int32), v_2.2.1, v_2.2.2)
    else
      some (v_2.2.1, v_2.2.1, v_2.2.2)
def fX10_wipe (v_pad_size : Int32) : Int32 × Int32 :=
  (v_pad_size, (0 : Int32))
def fX10_fault (v_pad_size : Int32) (v_pad_signs : Nat → Int32) : Option (Int32) :=
  Option.bind (fX3_firstFault v_pad_size v_pad_signs) fun v_1 =>
  some v_1
def fX10_tryShop (v_pad_size : Int32) (v_trial_acts : Int32) (v_trial_stoppedAt : Int32) (v_trial_why : Int32) (v_pad_signs : Nat → Int32) (v_trial_rules_flat : Int32) (v_trial_rules_least : Int32) (v_trial_shelf_there : Int32) (v_trial_tally_pulled : Int32) (v_trial_tally_firstHaunted : Int32) (v_trial_tally_haunter : Int32) (v_room_rules_flat : Int32) (v_room_rules_least : Int32) (v_room_shelf_there : Int32) (v_trial_act_stone : Int32) (v_trial_act_kind : Int32) (v_trial_act_amount : Int32) (v_trial_rules_deep : Nat → Int32) (v_trial_rules_fine : Nat → Int32) (v_trial_rules_pay : Nat → Int32) (v_trial_rules_hair : Nat → Int32) (v_trial_shelf_thick : Nat → Int32) (v_trial_shelf_hollow : Nat → Int32) (v_trial_shelf_damp : Nat → Int32) (v_trial_shelf_fresh : Nat → Int32) (v_trial_shelf_pulls : Nat → Int32) (v_trial_shelf_fats : Nat → Int32) (v_trial_tally_ofKind : Nat → Int32) (v_room_rules_deep : Nat → Int32) (v_room_rules_fine : Nat → Int32) (v_room_rules_pay : Nat → Int32) (v_room_rules_hair : Nat → Int32) (v_room_shelf_thick : Nat → Int32) (v_room_shelf_hollow : Nat → Int32) (v_room_shelf_damp : Nat → Int32) (v_room_shelf_fresh : Nat → Int32) (v_room_shelf_pulls : Nat → Int32) (v_room_shelf_fats : Nat → Int32) : Option (Int32 × Int32 × Int32 × Int32 × Int32 × Int32 × Int32 × Int32 × Int32 × Int32 × Int32 × Int32 × Int32 × (Nat → Int32) × (Nat → Int32) × (Nat → Int32) × (Nat → Int32) × (Nat → Int32) × (Nat → Int32) × (Nat → Int32) × (Nat → Int32) × (Nat → Int32) × (Nat → Int32) × (Nat → Int32)) :=
  Option.bind (fX3_firstFault v_pad_size v_pad_signs) fun v_1 =>
  if v_1 = (-6 : Int32) then
    Option.bind (fX9_begin v_trial_rules_deep v_trial_rules_fine v_trial_rules_pay v_trial_rules_hair v_trial_shelf_thick v_trial_shelf_hollow v_trial_shelf_damp v_trial_shelf_fresh v_trial_shelf_pulls v_trial_shelf_fats v_trial_tally_ofKind v_room_rules_flat v_room_rules_least v_room_shelf_there v_room_rules_deep v_room_rules_fine v_room_rules_pay v_room_rules_hair v_room_shelf_thick v_room_shelf_hollow v_room_shelf_damp v_room_shelf_fresh v_room_shelf_pulls v_room_shelf_fats) fun v_3 =>
    Option.bind (fX9_playPad v_3.1 v_3.2.1 v_3.2.2.1 v_trial_act_stone v_trial_act_kind v_trial_act_amount v_3.2.2.2.2.2.1 v_3.2.2.2.1 v_3.2.2.2.2.1 v_3.2.2.2.2.2.2.2.2.1 v_3.2.2.2.2.2.2.1 v_3.2.2.2.2.2.2.2.1 v_3.2.2.2.2.2.2.2.2.2.2.2.2.2.2.2.2.1 v_3.2.2.2.2.2.2.2.2.2.2.2.2.2.2.1 v_3.2.2.2.2.2.2.2.2.2.2.2.2.2.1 v_3.2.2.2.2.2.2.2.2.2.2.1 v_3.2.2.2.2.2.2.2.2.2.2.2.2.2.2.2.1 v_3.2.2.2.2.2.2.2.2.2.2.2.2.2.2.2.2.2.1 v_3.2.2.2.2.2.2.2.2.2.2.2.2.2.2.2.2.2.2.1 v_3.2.2.2.2.2.2.2.2.2.2.2.2.2.2.2.2.2.2.2 v_3.2.2.2.2.2.2.2.2.2.1 v_pad_size v_pad_signs) fun v_4 =>
    if v_4.2.1 = (-6 : Int32) then
      some ((0 : Int32), v_4.1, v_4.2.1, v_4.2.2.1, v_3.2.2.2.1, v_3.2.2.2.2.1, v_4.2.2.2.2.2.2.1, v_4.2.2.2.2.2.2.2.1, v_4.2.2.2.2.2.2.2.2.1, v_4.2.2.2.2.2.2.2.2.2.1, v_4.2.2.2.1, v_4.2.2.2.2.1, v_4.2.2.2.2.2.1, v_3.2.2.2.2.2.2.2.2.2.1, v_3.2.2.2.2.2.2.2.2.2.2.1, v_3.2.2.2.2.2.2.2.2.2.2.2.1, v_3.2.2.2.2.2.2.2.2.2.2.2.2.1, v_4.2.2.2.2.2.2.2.2.2.2.2.2.1, v_4.2.2.2.2.2.2.2.2.2.2.2.1, v_4.2.2.2.2.2.2.2.2.2.2.2.2.2.1, v_4.2.2.2.2.2.2.2.2.2.2.1, v_4.2.2.2.2.2.2.2.2.2.2.2.2.2.2.1, v_4.2.2.2.2.2.2.2.2.2.2.2.2.2.2.2.1, v_4.2.2.2.2.2.2.2.2.2.2.2.2.2.2.2.2)
    else
      some ((-3 : Int32), v_4.1, v_4.2.1, v_4.2.2.1, v_3.2.2.2.1, v_3.2.2.2.2.1, v_4.2.2.2.2.2.2.1, v_4.2.2.2.2.2.2.2.1, v_4.2.2.2.2.2.2.2.2.1, v_4.2.2.2.2.2.2.2.2.2.1, v_4.2.2.2.1, v_4.2.2.2.2.1, v_4.2.2.2.2.2.1, v_3.2.2.2.2.2.2.2.2.2.1, v_3.2.2.2.2.2.2.2.2.2.2.1, v_3.2.2.2.2.2.2.2.2.2.2.2.1, v_3.2.2.2.2.2.2.2.2.2.2.2.2.1, v_4.2.2.2.2.2.2.2.2.2.2.2.2.1, v_4.2.2.2.2.2.2.2.2.2.2.2.1, v_4.2.2.2.2.2.2.2.2.2.2.2.2.2.1, v_4.2.2.2.2.2.2.2.2.2.2.1, v_4.2.2.2.2.2.2.2.2.2.2.2.2.2.2.1, v_4.2.2.2.2.2.2.2.2.2.2.2.2.2.2.2.1, v_4.2.2.2.2.2.2.2.2.2.2.2.2.2.2.2.2)
  else
    some ((-5 : Int32), v_trial_acts, v_trial_stoppedAt, v_trial_why, v_trial_rules_flat, v_trial_rules_least, v_trial_shelf_there, v_trial_tally_firstHaunted, v_trial_tally_haunter, v_trial_tally_pulled, v_trial_act_amount, v_trial_act_kind, v_trial_act_stone, v_trial_rules_deep, v_trial_rules_fine, v_trial_rules_pay, v_trial_rules_hair, v_trial_shelf_thick, v_trial_shelf_hollow, v_trial_shelf_damp, v_trial_shelf_fresh, v_trial_shelf_pulls, v_trial_shelf_fats, v_trial_tally_ofKind)
def fX10_judge (x1 : Int32) (v_pad_size : Int32) (v_trial_acts : Int32) (v_trial_stoppedAt : Int32) (v_trial_why : Int32) (v_pad_signs : Nat → Int32) (v_trial_rules_flat : Int32) (v_trial_rules_least : Int32) (v_trial_shelf_there : Int32) (v_trial_tally_pulled : Int32) (v_trial_tally_firstHaunted : Int32) (v_trial_tally_haunter : Int32) (v_room_rules_flat : Int32) (v_room_rules_least : Int32) (v_room_shelf_there : Int32) (v_trial_act_stone : Int32) (v_trial_act_kind : Int32) (v_trial_act_amount : Int32) (v_trial_rules_deep : Nat → Int32) (v_trial_rules_fine : Nat → Int32) (v_trial_rules_pay : Nat → Int32) (v_trial_rules_hair : Nat → Int32) (v_trial_shelf_thick : Nat → Int32) (v_trial_shelf_hollow : Nat → Int32) (v_trial_shelf_damp : Nat → Int32) (v_trial_shelf_fresh : Nat → Int32) (v_trial_shelf_pulls : Nat → Int32) (v_trial_shelf_fats : Nat → Int32) (v_trial_tally_ofKind : Nat → Int32) (v_room_rules_deep : Nat → Int32) (v_room_rules_fine : Nat → Int32) (v_room_rules_pay : Nat → Int32) (v_room_rules_hair : Nat → Int32) (v_room_shelf_thick : Nat → Int32) (v_room_shelf_hollow : Nat → Int32) (v_room_shelf_damp : Nat → Int32) (v_room_shelf_fresh : Nat → Int32) (v_room_shelf_pulls : Nat → Int32) (v_room_shelf_fats : Nat → Int32) : Option (Int32 × Int32 × Int32 × Int32 × Int32 × Int32 × Int32 × Int32 × Int32 × Int32 × Int32 × Int32 × Int32 × (Nat → Int32) × (Nat → Int32) × (Nat → Int32) × (Nat → Int32) × (Nat → Int32) × (Nat → Int32) × (Nat → Int32) × (Nat → Int32) × (Nat → Int32) × (Nat → Int32) × (Nat → Int32)) :=
  if (fX10_inside x1 (0 : Int32) (2 : Int32)) = 0 then
    some ((-2 : Int32), v_trial_acts, v_trial_stoppedAt, v_trial_why, v_trial_rules_flat, v_trial_rules_least, v_trial_shelf_there, v_trial_tally_firstHaunted, v_trial_tally_haunter, v_trial_tally_pulled, v_trial_act_amount, v_trial_act_kind, v_trial_act_stone, v_trial_rules_deep, v_trial_rules_fine, v_trial_rules_pay, v_trial_rules_hair, v_trial_shelf_thick, v_trial_shelf_hollow, v_trial_shelf_damp, v_trial_shelf_fresh, v_trial_shelf_pulls, v_trial_shelf_fats, v_trial_tally_ofKind)
  else
    Option.bind (fX10_tryShop v_pad_size v_trial_acts v_trial_stoppedAt v_trial_why v_pad_signs v_trial_rules_flat v_trial_rules_least v_trial_shelf_there v_trial_tally_pulled v_trial_tally_firstHaunted v_trial_tally_haunter v_room_rules_flat v_room_rules_least v_room_shelf_there v_trial_act_stone v_trial_act_kind v_trial_act_amount v_trial_rules_deep v_trial_rules_fine v_trial_rules_pay v_trial_rules_hair v_trial_shelf_thick v_trial_shelf_hollow v_trial_shelf_damp v_trial_shelf_fresh v_trial_shelf_pulls v_trial_shelf_fats v_trial_tally_ofKind v_room_rules_deep v_room_rules_fine v_room_rules_pay v_room_rules_hair v_room_shelf_thick v_room_shelf_hollow v_room_shelf_damp v_room_shelf_fresh v_room_shelf_pulls v_room_shelf_fats) fun v_2 =>
    if v_2.1 = (-5 : Int32) then
      some ((-5 : Int32), v_2.2.1, v_2.2.2.1, v_2.2.2.2.1, v_2.2.2.2.2.1, v_2.2.2.2.2.2.1, v_2.2.2.2.2.2.2.1, v_2.2.2.2.2.2.2.2.1, v_2.2.2.2.2.2.2.2.2.1, v_2.2.2.2.2.2.2.2.2.2.1, v_2.2.2.2.2.2.2.2.2.2.2.1, v_2.2.2.2.2.2.2.2.2.2.2.2.1, v_2.2.2.2.2.2.2.2.2.2.2.2.2.1, v_2.2.2.2.2.2.2.2.2.2.2.2.2.2.1, v_2.2.2.2.2.2.2.2.2.2.2.2.2.2.2.1, v_2.2.2.2.2.2.2.2.2.2.2.2.2.2.2.2.1, v_2.2.2.2.2.2.2.2.2.2.2.2.2.2.2.2.2.1, v_2.2.2.2.2.2.2.2.2.2.2.2.2.2.2.2.2.2.1, v_2.2.2.2.2.2.2.2.2.2.2.2.2.2.2.2.2.2.2.1, v_2.2.2.2.2.2.2.2.2.2.2.2.2.2.2.2.2.2.2.2.1, v_2.2.2.2.2.2.2.2.2.2.2.2.2.2.2.2.2.2.2.2.2.1, v_2.2.2.2.2.2.2.2.2.2.2.2.2.2.2.2.2.2.2.2.2.2.1, v_2.2.2.2.2.2.2.2.2.2.2.2.2.2.2.2.2.2.2.2.2.2.2.1, v_2.2.2.2.2.2.2.2.2.2.2.2.2.2.2.2.2.2.2.2.2.2.2.2)
    else
      if x1 = 0 then
        some (v_2.2.2.1, v_2.2.1, v_2.2.2.1, v_2.2.2.2.1, v_2.2.2.2.2.1, v_2.2.2.2.2.2.1, v_2.2.2.2.2.2.2.1, v_2.2.2.2.2.2.2.2.1, v_2.2.2.2.2.2.2.2.2.1, v_2.2.2.2.2.2.2.2.2.2.1, v_2.2.2.2.2.2.2.2.2.2.2.1, v_2.2.2.2.2.2.2.2.2.2.2.2.1, v_2.2.2.2.2.2.2.2.2.2.2.2.2.1, v_2.2.2.2.2.2.2.2.2.2.2.2.2.2.1, v_2.2.2.2.2.2.2.2.2.2.2.2.2.2.2.1, v_2.2.2.2.2.2.2.2.2.2.2.2.2.2.2.2.1, v_2.2.2.2.2.2.2.2.2.2.2.2.2.2.2.2.2.1, v_2.2.2.2.2.2.2.2.2.2.2.2.2.2.2.2.2.2.1, v_2.2.2.2.2.2.2.2.2.2.2.2.2.2.2.2.2.2.2.1, v_2.2.2.2.2.2.2.2.2.2.2.2.2.2.2.2.2.2.2.2.1, v_2.2.2.2.2.2.2.2.2.2.2.2.2.2.2.2.2.2.2.2.2.1, v_2.2.2.2.2.2.2.2.2.2.2.2.2.2.2.2.2.2.2.2.2.2.1, v_2.2.2.2.2.2.2.2.2.2.2.2.2.2.2.2.2.2.2.2.2.2.2.1, v_2.2.2.2.2.2.2.2.2.2.2.2.2.2.2.2.2.2.2.2.2.2.2.2)
      else
        if x1 = (1 : Int32) then
          some (v_2.2.2.2.1, v_2.2.1, v_2.2.2.1, v_2.2.2.2.1, v_2.2.2.2.2.1, v_2.2.2.2.2.2.1, v_2.2.2.2.2.2.2.1, v_2.2.2.2.2.2.2.2.1, v_2.2.2.2.2.2.2.2.2.1, v_2.2.2.2.2.2.2.2.2.2.1, v_2.2.2.2.2.2.2.2.2.2.2.1, v_2.2.2.2.2.2.2.2.2.2.2.2.1, v_2.2.2.2.2.2.2.2.2.2.2.2.2.1, v_2.2.2.2.2.2.2.2.2.2.2.2.2.2.1, v_2.2.2.2.2.2.2.2.2.2.2.2.2.2.2.1, v_2.2.2.2.2.2.2.2.2.2.2.2.2.2.2.2.1, v_2.2.2.2.2.2.2.2.2.2.2.2.2.2.2.2.2.1, v_2.2.2.2.2.2.2.2.2.2.2.2.2.2.2.2.2.2.1, v_2.2.2.2.2.2.2.2.2.2.2.2.2.2.2.2.2.2.2.1, v_2.2.2.2.2.2.2.2.2.2.2.2.2.2.2.2.2.2.2.2.1, v_2.2.2.2.2.2.2.2.2.2.2.2.2.2.2.2.2.2.2.2.2.1, v_2.2.2.2.2.2.2.2.2.2.2.2.2.2.2.2.2.2.2.2.2.2.1, v_2.2.2.2.2.2.2.2.2.2.2.2.2.2.2.2.2.2.2.2.2.2.2.1, v_2.2.2.2.2.2.2.2.2.2.2.2.2.2.2.2.2.2.2.2.2.2.2.2)
        else
          if v_2.1 = 0 then
            some (v_2.2.2.2.2.2.2.2.2.2.1, v_2.2.1, v_2.2.2.1, v_2.2.2.2.1, v_2.2.2.2.2.1, v_2.2.2.2.2.2.1, v_2.2.2.2.2.2.2.1, v_2.2.2.2.2.2.2.2.1, v_2.2.2.2.2.2.2.2.2.1, v_2.2.2.2.2.2.2.2.2.2.1, v_2.2.2.2.2.2.2.2.2.2.2.1, v_2.2.2.2.2.2.2.2.2.2.2.2.1, v_2.2.2.2.2.2.2.2.2.2.2.2.2.1, v_2.2.2.2.2.2.2.2.2.2.2.2.2.2.1, v_2.2.2.2.2.2.2.2.2.2.2.2.2.2.2.1, v_2.2.2.2.2.2.2.2.2.2.2.2.2.2.2.2.1, v_2.2.2.2.2.2.2.2.2.2.2.2.2.2.2.2.2.1, v_2.2.2.2.2.2.2.2.2.2.2.2.2.2.2.2.2.2.1, v_2.2.2.2.2.2.2.2.2.2.2.2.2.2.2.2.2.2.2.1, v_2.2.2.2.2.2.2.2.2.2.2.2.2.2.2.2.2.2.2.2.1, v_2.2.2.2.2.2.2.2.2.2.2.2.2.2.2.2.2.2.2.2.2.1, v_2.2.2.2.2.2.2.2.2.2.2.2.2.2.2.2.2.2.2.2.2.2.1, v_2.2.2.2.2.2.2.2.2.2.2.2.2.2.2.2.2.2.2.2.2.2.2.1, v_2.2.2.2.2.2.2.2.2.2.2.2.2.2.2.2.2.2.2.2.2.2.2.2)
          else
            some (v_2.1, v_2.2.1, v_2.2.2.1, v_2.2.2.2.1, v_2.2.2.2.2.1, v_2.2.2.2.2.2.1, v_2.2.2.2.2.2.2.1, v_2.2.2.2.2.2.2.2.1, v_2.2.2.2.2.2.2.2.2.1, v_2.2.2.2.2.2.2.2.2.2.1, v_2.2.2.2.2.2.2.2.2.2.2.1, v_2.2.2.2.2.2.2.2.2.2.2.2.1, v_2.2.2.2.2.2.2.2.2.2.2.2.2.1, v_2.2.2.2.2.2.2.2.2.2.2.2.2.2.1, v_2.2.2.2.2.2.2.2.2.2.2.2.2.2.2.1, v_2.2.2.2.2.2.2.2.2.2.2.2.2.2.2.2.1, v_2.2.2.2.2.2.2.2.2.2.2.2.2.2.2.2.2.1, v_2.2.2.2.2.2.2.2.2.2.2.2.2.2.2.2.2.2.1, v_2.2.2.2.2.2.2.2.2.2.2.2.2.2.2.2.2.2.2.1, v_2.2.2.2.2.2.2.2.2.2.2.2.2.2.2.2.2.2.2.2.1, v_2.2.2.2.2.2.2.2.2.2.2.2.2.2.2.2.2.2.2.2.2.1, v_2.2.2.2.2.2.2.2.2.2.2.2.2.2.2.2.2.2.2.2.2.2.1, v_2.2.2.2.2.2.2.2.2.2.2.2.2.2.2.2.2.2.2.2.2.2.2.1, v_2.2.2.2.2.2.2.2.2.2.2.2.2.2.2.2.2.2.2.2.2.2.2.2)
def fX10_kinds (x1 : Int32) (v_pad_size : Int32) (v_trial_acts : Int32) (v_trial_stoppedAt : Int32) (v_trial_why : Int32) (v_pad_signs : Nat → Int32) (v_trial_rules_flat : Int32) (v_trial_rules_least : Int32) (v_trial_shelf_there : Int32) (v_trial_tally_pulled : Int32) (v_trial_tally_firstHaunted : Int32) (v_trial_tally_haunter : Int32) (v_room_rules_flat : Int32) (v_room_rules_least : Int32) (v_room_shelf_there : Int32) (v_trial_act_stone : Int32) (v_trial_act_kind : Int32) (v_trial_act_amount : Int32) (v_trial_rules_deep : Nat → Int32) (v_trial_rules_fine : Nat → Int32) (v_trial_rules_pay : Nat → Int32) (v_trial_rules_hair : Nat → Int32) (v_trial_shelf_thick : Nat → Int32) (v_trial_shelf_hollow : Nat → Int32) (v_trial_shelf_damp : Nat → Int32) (v_trial_shelf_fresh : Nat → Int32) (v_trial_shelf_pulls : Nat → Int32) (v_trial_shelf_fats : Nat → Int32) (v_trial_tally_ofKind : Nat → Int32) (v_room_rules_deep : Nat → Int32) (v_room_rules_fine : Nat → Int32) (v_room_rules_pay : Nat → Int32) (v_room_rules_hair : Nat → Int32) (v_room_shelf_thick : Nat → Int32) (v_room_shelf_hollow : Nat → Int32) (v_room_shelf_damp : Nat → Int32) (v_room_shelf_fresh : Nat → Int32) (v_room_shelf_pulls : Nat → Int32) (v_room_shelf_fats : Nat → Int32) : Option (Int32 × Int32 × Int32 × Int32 × Int32 × Int32 × Int32 × Int32 × Int32 × Int32 × Int32 × Int32 × Int32 × (Nat → Int32) × (Nat → Int32) × (Nat → Int32) × (Nat → Int32) × (Nat → Int32) × (Nat → Int32) × (Nat → Int32) × (Nat → Int32) × (Nat → Int32) × (Nat → Int32) × (Nat → Int32)) :=
  if (fX10_inside x1 (0 : Int32) (4 : Int32)) = 0 then
    some ((-2 : Int32), v_trial_acts, v_trial_stoppedAt, v_trial_why, v_trial_rules_flat, v_trial_rules_least, v_trial_shelf_there, v_trial_tally_firstHaunted, v_trial_tally_haunter, v_trial_tally_pulled, v_trial_act_amount, v_trial_act_kind, v_trial_act_stone, v_trial_rules_deep, v_trial_rules_fine, v_trial_rules_pay, v_trial_rules_hair, v_trial_shelf_thick, v_trial_shelf_hollow, v_trial_shelf_damp, v_trial_shelf_fresh, v_trial_shelf_pulls, v_trial_shelf_fats, v_trial_tally_ofKind)
  else
    Option.bind (fX10_tryShop v_pad_size v_trial_acts v_trial_stoppedAt v_trial_why v_pad_signs v_trial_rules_flat v_trial_rules_least v_trial_shelf_there v_trial_tally_pulled v_trial_tally_firstHaunted v_trial_tally_haunter v_room_rules_flat v_room_rules_least v_room_shelf_there v_trial_act_stone v_trial_act_kind v_trial_act_amount v_trial_rules_deep v_trial_rules_fine v_trial_rules_pay v_trial_rules_hair v_trial_shelf_thick v_trial_shelf_hollow v_trial_shelf_damp v_trial_shelf_fresh v_trial_shelf_pulls v_trial_shelf_fats v_trial_tally_ofKind v_room_rules_deep v_room_rules_fine v_room_rules_pay v_room_rules_hair v_room_shelf_thick v_room_shelf_hollow v_room_shelf_damp v_room_shelf_fresh v_room_shelf_pulls v_room_shelf_fats) fun v_2 =>
    if v_2.1 = 0 then
      gd (x1 < 0 ∨ 5 ≤ Int32.toNatClampNeg x1) <|
      some ((v_2.2.2.2.2.2.2.2.2.2.2.2.2.2.2.2.2.2.2.2.2.2.2.2 (Int32.toNatClampNeg x1)), v_2.2.1, v_2.2.2.1, v_2.2.2.2.1, v_2.2.2.2.2.1, v_2.2.2.2.2.2.1, v_2.2.2.2.2.2.2.1, v_2.2.2.2.2.2.2.2.1, v_2.2.2.2.2.2.2.2.2.1, v_2.2.2.2.2.2.2.2.2.2.1, v_2.2.2.2.2.2.2.2.2.2.2.1, v_2.2.2.2.2.2.2.2.2.2.2.2.1, v_2.2.2.2.2.2.2.2.2.2.2.2.2.1, v_2.2.2.2.2.2.2.2.2.2.2.2.2.2.1, v_2.2.2.2.2.2.2.2.2.2.2.2.2.2.2.1, v_2.2.2.2.2.2.2.2.2.2.2.2.2.2.2.2.1, v_2.2.2.2.2.2.2.2.2.2.2.2.2.2.2.2.2.1, v_2.2.2.2.2.2.2.2.2.2.2.2.2.2.2.2.2.2.1, v_2.2.2.2.2.2.2.2.2.2.2.2.2.2.2.2.2.2.2.1, v_2.2.2.2.2.2.2.2.2.2.2.2.2.2.2.2.2.2.2.2.1, v_2.2.2.2.2.2.2.2.2.2.2.2.2.2.2.2.2.2.2.2.2.1, v_2.2.2.2.2.2.2.2.2.2.2.2.2.2.2.2.2.2.2.2.2.2.1, v_2.2.2.2.2.2.2.2.2.2.2.2.2.2.2.2.2.2.2.2.2.2.2.1, v_2.2.2.2.2.2.2.2.2.2.2.2.2.2.2.2.2.2.2.2.2.2.2.2)
    else
      some (v_2.1, v_2.2.1, v_2.2.2.1, v_2.2.2.2.1, v_2.2.2.2.2.1, v_2.2.2.2.2.2.1, v_2.2.2.2.2.2.2.1, v_2.2.2.2.2.2.2.2.1, v_2.2.2.2.2.2.2.2.2.1, v_2.2.2.2.2.2.2.2.2.2.1, v_2.2.2.2.2.2.2.2.2.2.2.1, v_2.2.2.2.2.2.2.2.2.2.2.2.1, v_2.2.2.2.2.2.2.2.2.2.2.2.2.1, v_2.2.2.2.2.2.2.2.2.2.2.2.2.2.1, v_2.2.2.2.2.2.2.2.2.2.2.2.2.2.2.1, v_2.2.2.2.2.2.2.2.2.2.2.2.2.2.2.2.1, v_2.2.2.2.2.2.2.2.2.2.2.2.2.2.2.2.2.1, v_2.2.2.2.2.2.2.2.2.2.2.2.2.2.2.2.2.2.1, v_2.2.2.2.2.2.2.2.2.2.2.2.2.2.2.2.2.2.2.1, v_2.2.2.2.2.2.2.2.2.2.2.2.2.2.2.2.2.2.2.2.1, v_2.2.2.2.2.2.2.2.2.2.2.2.2.2.2.2.2.2.2.2.2.1, v_2.2.2.2.2.2.2.2.2.2.2.2.2.2.2.2.2.2.2.2.2.2.1, v_2.2.2.2.2.2.2.2.2.2.2.2.2.2.2.2.2.2.2.2.2.2.2.1, v_2.2.2.2.2.2.2.2.2.2.2.2.2.2.2.2.2.2.2.2.2.2.2.2)
def fX10_behind (x1 : Int32) (x2 : Int32) (v_pad_size : Int32) (v_trial_acts : Int32) (v_trial_stoppedAt : Int32) (v_trial_why : Int32) (v_room_shelf_there : Int32) (v_pad_signs : Nat → Int32) (v_trial_rules_flat : Int32) (v_trial_rules_least : Int32) (v_trial_shelf_there : Int32) (v_trial_tally_pulled : Int32) (v_trial_tally_firstHaunted : Int32) (v_trial_tally_haunter : Int32) (v_room_rules_flat : Int32) (v_room_rules_least : Int32) (v_trial_act_stone : Int32) (v_trial_act_kind : Int32) (v_trial_act_amount : Int32) (v_trial_rules_deep : Nat → Int32) (v_trial_rules_fine : Nat → Int32) (v_trial_rules_pay : Nat → Int32) (v_trial_rules_hair : Nat → Int32) (v_trial_shelf_thick : Nat → Int32) (v_trial_shelf_hollow : Nat → Int32) (v_trial_shelf_damp : Nat → Int32) (v_trial_shelf_fresh : Nat → Int32) (v_trial_shelf_pulls : Nat → Int32) (v_trial_shelf_fats : Nat → Int32) (v_trial_tally_ofKind : Nat → Int32) (v_room_rules_deep : Nat → Int32) (v_room_rules_fine : Nat → Int32) (v_room_rules_pay : Nat → Int32) (v_room_rules_hair : Nat → Int32) (v_room_shelf_thick : Nat → Int32) (v_room_shelf_hollow : Nat → Int32) (v_room_shelf_damp : Nat → Int32) (v_room_shelf_fresh : Nat → Int32) (v_room_shelf_pulls : Nat → Int32) (v_room_shelf_fats : Nat → Int32) : Option (Int32 × Int32 × Int32 × Int32 × Int32 × Int32 × Int32 × Int32 × Int32 × Int32 × Int32 × Int32 × Int32 × (Nat → Int32) × (Nat → Int32) × (Nat → Int32) × (Nat → Int32) × (Nat → Int32) × (Nat → Int32) × (Nat → Int32) × (Nat → Int32) × (Nat → Int32) × (Nat → Int32) × (Nat → Int32)) :=
  if (fX6_has x1 v_room_shelf_there) = 0 then
    some ((-1 : Int32), v_trial_acts, v_trial_stoppedAt, v_trial_why, v_trial_rules_flat, v_trial_rules_least, v_trial_shelf_there, v_trial_tally_firstHaunted, v_trial_tally_haunter, v_trial_tally_pulled, v_trial_act_amount, v_trial_act_kind, v_trial_act_stone, v_trial_rules_deep, v_trial_rules_fine, v_trial_rules_pay, v_trial_rules_hair, v_trial_shelf_thick, v_trial_shelf_hollow, v_trial_shelf_damp, v_trial_shelf_fresh, v_trial_shelf_pulls, v_trial_shelf_fats, v_trial_tally_ofKind)
  else
    if (fX10_inside x2 (0 : Int32) (4 : Int32)) = 0 then
      some ((-2 : Int32), v_trial_acts, v_trial_stoppedAt, v_trial_why, v_trial_rules_flat, v_trial_rules_least, v_trial_shelf_there, v_trial_tally_firstHaunted, v_trial_tally_haunter, v_trial_tally_pulled, v_trial_act_amount, v_trial_act_kind, v_trial_act_stone, v_trial_rules_deep, v_trial_rules_fine, v_trial_rules_pay, v_trial_rules_hair, v_trial_shelf_thick, v_trial_shelf_hollow, v_trial_shelf_damp, v_trial_shelf_fresh, v_trial_shelf_pulls, v_trial_shelf_fats, v_trial_tally_ofKind)
    else
      Option.bind (fX10_tryShop v_pad_size v_trial_acts v_trial_stoppedAt v_trial_why v_pad_signs v_trial_rules_flat v_trial_rules_least v_trial_shelf_there v_trial_tally_pulled v_trial_tally_firstHaunted v_trial_tally_haunter v_room_rules_flat v_room_rules_least v_room_shelf_there v_trial_act_stone v_trial_act_kind v_trial_act_amount v_trial_rules_deep v_trial_rules_fine v_trial_rules_pay v_trial_rules_hair v_trial_shelf_thick v_trial_shelf_hollow v_trial_shelf_damp v_trial_shelf_fresh v_trial_shelf_pulls v_trial_shelf_fats v_trial_tally_ofKind v_room_rules_deep v_room_rules_fine v_room_rules_pay v_room_rules_hair v_room_shelf_thick v_room_shelf_hollow v_room_shelf_damp v_room_shelf_fresh v_room_shelf_pulls v_room_shelf_fats) fun v_3 =>
      if v_3.1 = 0 then
        if (fX6_has x1 v_3.2.2.2.2.2.2.1) = 0 then
          some ((-1 : Int32), v_3.2.1, v_3.2.2.1, v_3.2.2.2.1, v_3.2.2.2.2.1, v_3.2.2.2.2.2.1, v_3.2.2.2.2.2.2.1, v_3.2.2.2.2.2.2.2.1, v_3.2.2.2.2.2.2.2.2.1, v_3.2.2.2.2.2.2.2.2.2.1, v_3.2.2.2.2.2.2.2.2.2.2.1, v_3.2.2.2.2.2.2.2.2.2.2.2.1, v_3.2.2.2.2.2.2.2.2.2.2.2.2.1, v_3.2.2.2.2.2.2.2.2.2.2.2.2.2.1, v_3.2.2.2.2.2.2.2.2.2.2.2.2.2.2.1, v_3.2.2.2.2.2.2.2.2.2.2.2.2.2.2.2.1, v_3.2.2.2.2.2.2.2.2.2.2.2.2.2.2.2.2.1, v_3.2.2.2.2.2.2.2.2.2.2.2.2.2.2.2.2.2.1, v_3.2.2.2.2.2.2.2.2.2.2.2.2.2.2.2.2.2.2.1, v_3.2.2.2.2.2.2.2.2.2.2.2.2.2.2.2.2.2.2.2.1, v_3.2.2.2.2.2.2.2.2.2.2.2.2.2.2.2.2.2.2.2.2.1, v_3.2.2.2.2.2.2.2.2.2.2.2.2.2.2.2.2.2.2.2.2.2.1, v_3.2.2.2.2.2.2.2.2.2.2.2.2.2.2.2.2.2.2.2.2.2.2.1, v_3.2.2.2.2.2.2.2.2.2.2.2.2.2.2.2.2.2.2.2.2.2.2.2)
        else
          Option.bind (fX6_tell x1 x2 v_3.2.2.2.2.2.2.1 v_3.2.2.2.2.2.2.2.2.2.2.2.2.2.2.2.2.2.2.2.2.2.1 v_3.2.2.2.2.2.2.2.2.2.2.2.2.2.2.2.2.2.2.2.2.1 v_3.2.2.2.2.2.2.2.2.2.2.2.2.2.2.2.2.2.2.2.1 v_3.2.2.2.2.2.2.2.2.2.2.2.2.2.2.2.2.2.2.1 v_3.2.2.2.2.2.2.2.2.2.2.2.2.2.2.2.2.2.1) fun v_6 =>
          some (v_6, v_3.2.1, v_3.2.2.1, v_3.2.2.2.1, v_3.2.2.2.2.1, v_3.2.2.2.2.2.1, v_3.2.2.2.2.2.2.1, v_3.2.2.2.2.2.2.2.1, v_3.2.2.2.2.2.2.2.2.1, v_3.2.2.2.2.2.2.2.2.2.1, v_3.2.2.2.2.2.2.2.2.2.2.1, v_3.2.2.2.2.2.2.2.2.2.2.2.1, v_3.2.2.2.2.2.2.2.2.2.2.2.2.1, v_3.2.2.2.2.2.2.2.2.2.2.2.2.2.1, v_3.2.2.2.2.2.2.2.2.2.2.2.2.2.2.1, v_3.2.2.2.2.2.2.2.2.2.2.2.2.2.2.2.1, v_3.2.2.2.2.2.2.2.2.2.2.2.2.2.2.2.2.1, v_3.2.2.2.2.2.2.2.2.2.2.2.2.2.2.2.2.2.1, v_3.2.2.2.2.2.2.2.2.2.2.2.2.2.2.2.2.2.2.1, v_3.2.2.2.2.2.2.2.2.2.2.2.2.2.2.2.2.2.2.2.1, v_3.2.2.2.2.2.2.2.2.2.2.2.2.2.2.2.2.2.2.2.2.1, v_3.2.2.2.2.2.2.2.2.2.2.2.2.2.2.2.2.2.2.2.2.2.1, v_3.2.2.2.2.2.2.2.2.2.2.2.2.2.2.2.2.2.2.2.2.2.2.1, v_3.2.2.2.2.2.2.2.2.2.2.2.2.2.2.2.2.2.2.2.2.2.2.2)
      else
        some (v_3.1, v_3.2.1, v_3.2.2.1, v_3.2.2.2.1, v_3.2.2.2.2.1, v_3.2.2.2.2.2.1, v_3.2.2.2.2.2.2.1, v_3.2.2.2.2.2.2.2.1, v_3.2.2.2.2.2.2.2.2.1, v_3.2.2.2.2.2.2.2.2.2.1, v_3.2.2.2.2.2.2.2.2.2.2.1, v_3.2.2.2.2.2.2.2.2.2.2.2.1, v_3.2.2.2.2.2.2.2.2.2.2.2.2.1, v_3.2.2.2.2.2.2.2.2.2.2.2.2.2.1, v_3.2.2.2.2.2.2.2.2.2.2.2.2.2.2.1, v_3.2.2.2.2.2.2.2.2.2.2.2.2.2.2.2.1, v_3.2.2.2.2.2.2.2.2.2.2.2.2.2.2.2.2.1, v_3.2.2.2.2.2.2.2.2.2.2.2.2.2.2.2.2.2.1, v_3.2.2.2.2.2.2.2.2.2.2.2.2.2.2.2.2.2.2.1, v_3.2.2.2.2.2.2.2.2.2.2.2.2.2.2.2.2.2.2.2.1, v_3.2.2.2.2.2.2.2.2.2.2.2.2.2.2.2.2.2.2.2.2.1, v_3.2.2.2.2.2.2.2.2.2.2.2.2.2.2.2.2.2.2.2.2.2.1, v_3.2.2.2.2.2.2.2.2.2.2.2.2.2.2.2.2.2.2.2.2.2.2.1, v_3.2.2.2.2.2.2.2.2.2.2.2.2.2.2.2.2.2.2.2.2.2.2.2)
def fX10_fat (x1 : Int32) (x2 : Int32) (v_pad_size : Int32) (v_trial_acts : Int32) (v_trial_stoppedAt : Int32) (v_trial_why : Int32) (v_room_shelf_there : Int32) (v_pad_signs : Nat → Int32) (v_trial_rules_flat : Int32) (v_trial_rules_least : Int32) (v_trial_shelf_there : Int32) (v_trial_tally_pulled : Int32) (v_trial_tally_firstHaunted : Int32) (v_trial_tally_haunter : Int32) (v_room_rules_flat : Int32) (v_room_rules_least : Int32) (v_trial_act_stone : Int32) (v_trial_act_kind : Int32) (v_trial_act_amount : Int32) (v_trial_rules_deep : Nat → Int32) (v_trial_rules_fine : Nat → Int32) (v_trial_rules_pay : Nat → Int32) (v_trial_rules_hair : Nat → Int32) (v_trial_shelf_thick : Nat → Int32) (v_trial_shelf_hollow : Nat → Int32) (v_trial_shelf_damp : Nat → Int32) (v_trial_shelf_fresh : Nat → Int32) (v_trial_shelf_pulls : Nat → Int32) (v_trial_shelf_fats : Nat → Int32) (v_trial_tally_ofKind : Nat → Int32) (v_room_rules_deep : Nat → Int32) (v_room_rules_fine : Nat → Int32) (v_room_rules_pay : Nat → Int32) (v_room_rules_hair : Nat → Int32) (v_room_shelf_thick : Nat → Int32) (v_room_shelf_hollow : Nat → Int32) (v_room_shelf_damp : Nat → Int32) (v_room_shelf_fresh : Nat → Int32) (v_room_shelf_pulls : Nat → Int32) (v_room_shelf_fats : Nat → Int32) : Option (Int32 × Int32 × Int32 × Int32 × Int32 × Int32 × Int32 × Int32 × Int32 × Int32 × Int32 × Int32 × Int32 × (Nat → Int32) × (Nat → Int32) × (Nat → Int32) × (Nat → Int32) × (Nat → Int32) × (Nat → Int32) × (Nat → Int32) × (Nat → Int32) × (Nat → Int32) × (Nat → Int32) × (Nat → Int32)) :=
  if (fX6_has x1 v_room_shelf_there) = 0 then
    some ((-1 : Int32), v_trial_acts, v_trial_stoppedAt, v_trial_why, v_trial_rules_flat, v_trial_rules_least, v_trial_shelf_there, v_trial_tally_firstHaunted, v_trial_tally_haunter, v_trial_tally_pulled, v_trial_act_amount, v_trial_act_kind, v_trial_act_stone, v_trial_rules_deep, v_trial_rules_fine, v_trial_rules_pay, v_trial_rules_hair, v_trial_shelf_thick, v_trial_shelf_hollow, v_trial_shelf_damp, v_trial_shelf_fresh, v_trial_shelf_pulls, v_trial_shelf_fats, v_trial_tally_ofKind)
  else
    if (fX10_inside x2 (0 : Int32) (7 : Int32)) = 0 then
      some ((-1 : Int32), v_trial_acts, v_trial_stoppedAt, v_trial_why, v_trial_rules_flat, v_trial_rules_least, v_trial_shelf_there, v_trial_tally_firstHaunted, v_trial_tally_haunter, v_trial_tally_pulled, v_trial_act_amount, v_trial_act_kind, v_trial_act_stone, v_trial_rules_deep, v_trial_rules_fine, v_trial_rules_pay, v_trial_rules_hair, v_trial_shelf_thick, v_trial_shelf_hollow, v_trial_shelf_damp, v_trial_shelf_fresh, v_trial_shelf_pulls, v_trial_shelf_fats, v_trial_tally_ofKind)
    else
      Option.bind (fX10_tryShop v_pad_size v_trial_acts v_trial_stoppedAt v_trial_why v_pad_signs v_trial_rules_flat v_trial_rules_least v_trial_shelf_there v_trial_tally_pulled v_trial_tally_firstHaunted v_trial_tally_haunter v_room_rules_flat v_room_rules_least v_room_shelf_there v_trial_act_stone v_trial_act_kind v_trial_act_amount v_trial_rules_deep v_trial_rules_fine v_trial_rules_pay v_trial_rules_hair v_trial_shelf_thick v_trial_shelf_hollow v_trial_shelf_damp v_trial_shelf_fresh v_trial_shelf_pulls v_trial_shelf_fats v_trial_tally_ofKind v_room_rules_deep v_room_rules_fine v_room_rules_pay v_room_rules_hair v_room_shelf_thick v_room_shelf_hollow v_room_shelf_damp v_room_shelf_fresh v_room_shelf_pulls v_room_shelf_fats) fun v_3 =>
      if v_3.1 = 0 then
        if (fX6_has x1 v_3.2.2.2.2.2.2.1) = 0 then
          some ((-1 : Int32), v_3.2.1, v_3.2.2.1, v_3.2.2.2.1, v_3.2.2.2.2.1, v_3.2.2.2.2.2.1, v_3.2.2.2.2.2.2.1, v_3.2.2.2.2.2.2.2.1, v_3.2.2.2.2.2.2.2.2.1, v_3.2.2.2.2.2.2.2.2.2.1, v_3.2.2.2.2.2.2.2.2.2.2.1, v_3.2.2.2.2.2.2.2.2.2.2.2.1, v_3.2.2.2.2.2.2.2.2.2.2.2.2.1, v_3.2.2.2.2.2.2.2.2.2.2.2.2.2.1, v_3.2.2.2.2.2.2.2.2.2.2.2.2.2.2.1, v_3.2.2.2.2.2.2.2.2.2.2.2.2.2.2.2.1, v_3.2.2.2.2.2.2.2.2.2.2.2.2.2.2.2.2.1, v_3.2.2.2.2.2.2.2.2.2.2.2.2.2.2.2.2.2.1, v_3.2.2.2.2.2.2.2.2.2.2.2.2.2.2.2.2.2.2.1, v_3.2.2.2.2.2.2.2.2.2.2.2.2.2.2.2.2.2.2.2.1, v_3.2.2.2.2.2.2.2.2.2.2.2.2.2.2.2.2.2.2.2.2.1, v_3.2.2.2.2.2.2.2.2.2.2.2.2.2.2.2.2.2.2.2.2.2.1, v_3.2.2.2.2.2.2.2.2.2.2.2.2.2.2.2.2.2.2.2.2.2.2.1, v_3.2.2.2.2.2.2.2.2.2.2.2.2.2.2.2.2.2.2.2.2.2.2.2)
        else
          Option.bind (fX6_fatOf x1 x2 v_3.2.2.2.2.2.2.1 v_3.2.2.2.2.2.2.2.2.2.2.2.2.2.2.2.2.2.2.2.2.2.2.1) fun v_6 =>
          some (v_6, v_3.2.1, v_3.2.2.1, v_3.2.2.2.1, v_3.2.2.2.2.1, v_3.2.2.2.2.2.1, v_3.2.2.2.2.2.2.1, v_3.2.2.2.2.2.2.2.1, v_3.2.2.2.2.2.2.2.2.1, v_3.2.2.2.2.2.2.2.2.2.1, v_3.2.2.2.2.2.2.2.2.2.2.1, v_3.2.2.2.2.2.2.2.2.2.2.2.1, v_3.2.2.2.2.2.2.2.2.2.2.2.2.1, v_3.2.2.2.2.2.2.2.2.2.2.2.2.2.1, v_3.2.2.2.2.2.2.2.2.2.2.2.2.2.2.1, v_3.2.2.2.2.2.2.2.2.2.2.2.2.2.2.2.1, v_3.2.2.2.2.2.2.2.2.2.2.2.2.2.2.2.2.1, v_3.2.2.2.2.2.2.2.2.2.2.2.2.2.2.2.2.2.1, v_3.2.2.2.2.2.2.2.2.2.2.2.2.2.2.2.2.2.2.1, v_3.2.2.2.2.2.2.2.2.2.2.2.2.2.2.2.2.2.2.2.1, v_3.2.2.2.2.2.2.2.2.2.2.2.2.2.2.2.2.2.2.2.2.1, v_3.2.2.2.2.2.2.2.2.2.2.2.2.2.2.2.2.2.2.2.2.2.1, v_3.2.2.2.2.2.2.2.2.2.2.2.2.2.2.2.2.2.2.2.2.2.2.1, v_3.2.2.2.2.2.2.2.2.2.2.2.2.2.2.2.2.2.2.2.2.2.2.2)
      else
        some (v_3.1, v_3.2.1, v_3.2.2.1, v_3.2.2.2.1, v_3.2.2.2.2.1, v_3.2.2.2.2.2.1, v_3.2.2.2.2.2.2.1, v_3.2.2.2.2.2.2.2.1, v_3.2.2.2.2.2.2.2.2.1, v_3.2.2.2.2.2.2.2.2.2.1, v_3.2.2.2.2.2.2.2.2.2.2.1, v_3.2.2.2.2.2.2.2.2.2.2.2.1, v_3.2.2.2.2.2.2.2.2.2.2.2.2.1, v_3.2.2.2.2.2.2.2.2.2.2.2.2.2.1, v_3.2.2.2.2.2.2.2.2.2.2.2.2.2.2.1, v_3.2.2.2.2.2.2.2.2.2.2.2.2.2.2.2.1, v_3.2.2.2.2.2.2.2.2.2.2.2.2.2.2.2.2.1, v_3.2.2.2.2.2.2.2.2.2.2.2.2.2.2.2.2.2.1, v_3.2.2.2.2.2.2.2.2.2.2.2.2.2.2.2.2.2.2.1, v_3.2.2.2.2.2.2.2.2.2.2.2.2.2.2.2.2.2.2.2.1, v_3.2.2.2.2.2.2.2.2.2.2.2.2.2.2.2.2.2.2.2.2.1, v_3.2.2.2.2.2.2.2.2.2.2.2.2.2.2.2.2.2.2.2.2.2.1, v_3.2.2.2.2.2.2.2.2.2.2.2.2.2.2.2.2.2.2.2.2.2.2.1, v_3.2.2.2.2.2.2.2.2.2.2.2.2.2.2.2.2.2.2.2.2.2.2.2)
def fX10_sky (x1 : Int32) (v_pad_size : Int32) (v_trial_acts : Int32) (v_trial_stoppedAt : Int32) (v_trial_why : Int32) (v_pad_signs : Nat → Int32) (v_trial_rules_flat : Int32) (v_trial_rules_least : Int32) (v_trial_shelf_there : Int32) (v_trial_tally_pulled : Int32) (v_trial_tally_firstHaunted : Int32) (v_trial_tally_haunter : Int32) (v_room_rules_flat : Int32) (v_room_rules_least : Int32) (v_room_shelf_there : Int32) (v_trial_act_stone : Int32) (v_trial_act_kind : Int32) (v_trial_act_amount : Int32) (v_trial_rules_deep : Nat → Int32) (v_trial_rules_fine : Nat → Int32) (v_trial_rules_pay : Nat → Int32) (v_trial_rules_hair : Nat → Int32) (v_trial_shelf_thick : Nat → Int32) (v_trial_shelf_hollow : Nat → Int32) (v_trial_shelf_damp : Nat → Int32) (v_trial_shelf_fresh : Nat → Int32) (v_trial_shelf_pulls : Nat → Int32) (v_trial_shelf_fats : Nat → Int32) (v_trial_tally_ofKind : Nat → Int32) (v_room_rules_deep : Nat → Int32) (v_room_rules_fine : Nat → Int32) (v_room_rules_pay : Nat → Int32) (v_room_rules_hair : Nat → Int32) (v_room_shelf_thick : Nat → Int32) (v_room_shelf_hollow : Nat → Int32) (v_room_shelf_damp : Nat → Int32) (v_room_shelf_fresh : Nat → Int32) (v_room_shelf_pulls : Nat → Int32) (v_room_shelf_fats : Nat → Int32) : Option (Int32 × Int32 × Int32 × Int32 × Int32 × Int32 × Int32 × Int32 × Int32 × Int32 × Int32 × Int32 × Int32 × (Nat → Int32) × (Nat → Int32) × (Nat → Int32) × (Nat → Int32) × (Nat → Int32) × (Nat → Int32) × (Nat → Int32) × (Nat → Int32) × (Nat → Int32) × (Nat → Int32) × (Nat → Int32)) :=
  if (fX10_inside x1 (0 : Int32) (1 : Int32)) = 0 then
    some ((-2 : Int32), v_trial_acts, v_trial_stoppedAt, v_trial_why, v_trial_rules_flat, v_trial_rules_least, v_trial_shelf_there, v_trial_tally_firstHaunted, v_trial_tally_haunter, v_trial_tally_pulled, v_trial_act_amount, v_trial_act_kind, v_trial_act_stone, v_trial_rules_deep, v_trial_rules_fine, v_trial_rules_pay, v_trial_rules_hair, v_trial_shelf_thick, v_trial_shelf_hollow, v_trial_shelf_damp, v_trial_shelf_fresh, v_trial_shelf_pulls, v_trial_shelf_fats, v_trial_tally_ofKind)
  else
    Option.bind (fX10_tryShop v_pad_size v_trial_acts v_trial_stoppedAt v_trial_why v_pad_signs v_trial_rules_flat v_trial_rules_least v_trial_shelf_there v_trial_tally_pulled v_trial_tally_firstHaunted v_trial_tally_haunter v_room_rules_flat v_room_rules_least v_room_shelf_there v_trial_act_stone v_trial_act_kind v_trial_act_amount v_trial_rules_deep v_trial_rules_fine v_trial_rules_pay v_trial_rules_hair v_trial_shelf_thick v_trial_shelf_hollow v_trial_shelf_damp v_trial_shelf_fresh v_trial_shelf_pulls v_trial_shelf_fats v_trial_tally_ofKind v_room_rules_deep v_room_rules_fine v_room_rules_pay v_room_rules_hair v_room_shelf_thick v_room_shelf_hollow v_room_shelf_damp v_room_shelf_fresh v_room_shelf_pulls v_room_shelf_fats) fun v_2 =>
    if v_2.1 = 0 then
      if x1 = 0 then
        some (v_2.2.2.2.2.2.2.2.1, v_2.2.1, v_2.2.2.1, v_2.2.2.2.1, v_2.2.2.2.2.1, v_2.2.2.2.2.2.1, v_2.2.2.2.2.2.2.1, v_2.2.2.2.2.2.2.2.1, v_2.2.2.2.2.2.2.2.2.1, v_2.2.2.2.2.2.2.2.2.2.1, v_2.2.2.2.2.2.2.2.2.2.2.1, v_2.2.2.2.2.2.2.2.2.2.2.2.1, v_2.2.2.2.2.2.2.2.2.2.2.2.2.1, v_2.2.2.2.2.2.2.2.2.2.2.2.2.2.1, v_2.2.2.2.2.2.2.2.2.2.2.2.2.2.2.1, v_2.2.2.2.2.2.2.2.2.2.2.2.2.2.2.2.1, v_2.2.2.2.2.2.2.2.2.2.2.2.2.2.2.2.2.1, v_2.2.2.2.2.2.2.2.2.2.2.2.2.2.2.2.2.2.1, v_2.2.2.2.2.2.2.2.2.2.2.2.2.2.2.2.2.2.2.1, v_2.2.2.2.2.2.2.2.2.2.2.2.2.2.2.2.2.2.2.2.1, v_2.2.2.2.2.2.2.2.2.2.2.2.2.2.2.2.2.2.2.2.2.1, v_2.2.2.2.2.2.2.2.2.2.2.2.2.2.2.2.2.2.2.2.2.2.1, v_2.2.2.2.2.2.2.2.2.2.2.2.2.2.2.2.2.2.2.2.2.2.2.1, v_2.2.2.2.2.2.2.2.2.2.2.2.2.2.2.2.2.2.2.2.2.2.2.2)
      else
        some (v_2.2.2.2.2.2.2.2.2.1, v_2.2.1, v_2.2.2.1, v_2.2.2.2.1, v_2.2.2.2.2.1, v_2.2.2.2.2.2.1, v_2.2.2.2.2.2.2.1, v_2.2.2.2.2.2.2.2.1, v_2.2.2.2.2.2.2.2.2.1, v_2.2.2.2.2.2.2.2.2.2.1, v_2.2.2.2.2.2.2.2.2.2.2.1, v_2.2.2.2.2.2.2.2.2.2.2.2.1, v_2.2.2.2.2.2.2.2.2.2.2.2.2.1, v_2.2.2.2.2.2.2.2.2.2.2.2.2.2.1, v_2.2.2.2.2.2.2.2.2.2.2.2.2.2.2.1, v_2.2.2.2.2.2.2.2.2.2.2.2.2.2.2.2.1, v_2.2.2.2.2.2.2.2.2.2.2.2.2.2.2.2.2.1, v_2.2.2.2.2.2.2.2.2.2.2.2.2.2.2.2.2.2.1, v_2.2.2.2.2.2.2.2.2.2.2.2.2.2.2.2.2.2.2.1, v_2.2.2.2.2.2.2.2.2.2.2.2.2.2.2.2.2.2.2.2.1, v_2.2.2.2.2.2.2.2.2.2.2.2.2.2.2.2.2.2.2.2.2.1, v_2.2.2.2.2.2.2.2.2.2.2.2.2.2.2.2.2.2.2.2.2.2.1, v_2.2.2.2.2.2.2.2.2.2.2.2.2.2.2.2.2.2.2.2.2.2.2.1, v_2.2.2.2.2.2.2.2.2.2.2.2.2.2.2.2.2.2.2.2.2.2.2.2)
    else
      some (v_2.1, v_2.2.1, v_2.2.2.1, v_2.2.2.2.1, v_2.2.2.2.2.1, v_2.2.2.2.2.2.1, v_2.2.2.2.2.2.2.1, v_2.2.2.2.2.2.2.2.1, v_2.2.2.2.2.2.2.2.2.1, v_2.2.2.2.2.2.2.2.2.2.1, v_2.2.2.2.2.2.2.2.2.2.2.1, v_2.2.2.2.2.2.2.2.2.2.2.2.1, v_2.2.2.2.2.2.2.2.2.2.2.2.2.1, v_2.2.2.2.2.2.2.2.2.2.2.2.2.2.1, v_2.2.2.2.2.2.2.2.2.2.2.2.2.2.2.1, v_2.2.2.2.2.2.2.2.2.2.2.2.2.2.2.2.1, v_2.2.2.2.2.2.2.2.2.2.2.2.2.2.2.2.2.1, v_2.2.2.2.2.2.2.2.2.2.2.2.2.2.2.2.2.2.1, v_2.2.2.2.2.2.2.2.2.2.2.2.2.2.2.2.2.2.2.1, v_2.2.2.2.2.2.2.2.2.2.2.2.2.2.2.2.2.2.2.2.1, v_2.2.2.2.2.2.2.2.2.2.2.2.2.2.2.2.2.2.2.2.2.1, v_2.2.2.2.2.2.2.2.2.2.2.2.2.2.2.2.2.2.2.2.2.2.1, v_2.2.2.2.2.2.2.2.2.2.2.2.2.2.2.2.2.2.2.2.2.2.2.1, v_2.2.2.2.2.2.2.2.2.2.2.2.2.2.2.2.2.2.2.2.2.2.2.2)
def fX10_done (v_pad_size : Int32) (v_trial_acts : Int32) (v_trial_stoppedAt : Int32) (v_trial_why : Int32) (v_pad_signs : Nat → Int32) (v_trial_rules_flat : Int32) (v_trial_rules_least : Int32) (v_trial_shelf_there : Int32) (v_trial_tally_pulled : Int32) (v_trial_tally_firstHaunted : Int32) (v_trial_tally_haunter : Int32) (v_room_rules_flat : Int32) (v_room_rules_least : Int32) (v_room_shelf_there : Int32) (v_trial_act_stone : Int32) (v_trial_act_kind : Int32) (v_trial_act_amount : Int32) (v_trial_rules_deep : Nat → Int32) (v_trial_rules_fine : Nat → Int32) (v_trial_rules_pay : Nat → Int32) (v_trial_rules_hair : Nat → Int32) (v_trial_shelf_thick : Nat → Int32) (v_trial_shelf_hollow : Nat → Int32) (v_trial_shelf_damp : Nat → Int32) (v_trial_shelf_fresh : Nat → Int32) (v_trial_shelf_pulls : Nat → Int32) (v_trial_shelf_fats : Nat → Int32) (v_trial_tally_ofKind : Nat → Int32) (v_room_rules_deep : Nat → Int32) (v_room_rules_fine : Nat → Int32) (v_room_rules_pay : Nat → Int32) (v_room_rules_hair : Nat → Int32) (v_room_shelf_thick : Nat → Int32) (v_room_shelf_hollow : Nat → Int32) (v_room_shelf_damp : Nat → Int32) (v_room_shelf_fresh : Nat → Int32) (v_room_shelf_pulls : Nat → Int32) (v_room_shelf_fats : Nat → Int32) : Option (Int32 × Int32 × Int32 × Int32 × Int32 × Int32 × Int32 × Int32 × Int32 × Int32 × Int32 × Int32 × Int32 × Int32 × Int32 × (Nat → Int32) × (Nat → Int32) × (Nat → Int32) × (Nat → Int32) × (Nat → Int32) × (Nat → Int32) × (Nat → Int32) × (Nat → Int32) × (Nat → Int32) × (Nat → Int32) × (Nat → Int32) × (Nat → Int32) × (Nat → Int32) × (Nat → Int32) × (Nat → Int32) × (Nat → Int32) × (Nat → Int32)) :=
  Option.bind (fX10_tryShop v_pad_size v_trial_acts v_trial_stoppedAt v_trial_why v_pad_signs v_trial_rules_flat v_trial_rules_least v_trial_shelf_there v_trial_tally_pulled v_trial_tally_firstHaunted v_trial_tally_haunter v_room_rules_flat v_room_rules_least v_room_shelf_there v_trial_act_stone v_trial_act_kind v_trial_act_amount v_trial_rules_deep v_trial_rules_fine v_trial_rules_pay v_trial_rules_hair v_trial_shelf_thick v_trial_shelf_hollow v_trial_shelf_damp v_trial_shelf_fresh v_trial_shelf_pulls v_trial_shelf_fats v_trial_tally_ofKind v_room_rules_deep v_room_rules_fine v_room_rules_pay v_room_rules_hair v_room_shelf_thick v_room_shelf_hollow v_room_shelf_damp v_room_shelf_fresh v_room_shelf_pulls v_room_shelf_fats) fun v_1 =>
  if v_1.1 = 0 then
    lt_ (fX6_copyFrom v_room_shelf_thick v_room_shelf_hollow v_room_shelf_damp v_room_shelf_fresh v_room_shelf_pulls v_room_shelf_fats v_1.2.2.2.2.2.2.1 v_1.2.2.2.2.2.2.2.2.2.2.2.2.2.2.2.2.2.1 v_1.2.2.2.2.2.2.2.2.2.2.2.2.2.2.2.2.2.2.1 v_1.2.2.2.2.2.2.2.2.2.2.2.2.2.2.2.2.2.2.2.1 v_1.2.2.2.2.2.2.2.2.2.2.2.2.2.2.2.2.2.2.2.2.1 v_1.2.2.2.2.2.2.2.2.2.2.2.2.2.2.2.2.2.2.2.2.2.1 v_1.2.2.2.2.2.2.2.2.2.2.2.2.2.2.2.2.2.2.2.2.2.2.1) fun v_3 =>
    some (v_1.2.1, (0 : Int32), v_1.2.1, v_1.2.2.1, v_1.2.2.2.1, v_1.2.2.2.2.1, v_1.2.2.2.2.2.1, v_1.2.2.2.2.2.2.1, v_1.2.2.2.2.2.2.2.1, v_1.2.2.2.2.2.2.2.2.1, v_1.2.2.2.2.2.2.2.2.2.1, v_3.1, v_1.2.2.2.2.2.2.2.2.2.2.1, v_1.2.2.2.2.2.2.2.2.2.2.2.1, v_1.2.2.2.2.2.2.2.2.2.2.2.2.1, v_1.2.2.2.2.2.2.2.2.2.2.2.2.2.1, v_1.2.2.2.2.2.2.2.2.2.2.2.2.2.2.1, v_1.2.2.2.2.2.2.2.2.2.2.2.2.2.2.2.1, v_1.2.2.2.2.2.2.2.2.2.2.2.2.2.2.2.2.1, v_1.2.2.2.2.2.2.2.2.2.2.2.2.2.2.2.2.2.1, v_1.2.2.2.2.2.2.2.2.2.2.2.2.2.2.2.2.2.2.1, v_1.2.2.2.2.2.2.2.2.2.2.2.2.2.2.2.2.2.2.2.1, v_1.2.2.2.2.2.2.2.2.2.2.2.2.2.2.2.2.2.2.2.2.1, v_1.2.2.2.2.2.2.2.2.2.2.2.2.2.2.2.2.2.2.2.2.2.1, v_1.2.2.2.2.2.2.2.2.2.2.2.2.2.2.2.2.2.2.2.2.2.2.1, v_1.2.2.2.2.2.2.2.2.2.2.2.2.2.2.2.2.2.2.2.2.2.2.2, v_3.2.1, v_3.2.2.1, v_3.2.2.2.1, v_3.2.2.2.2.1, v_3.2.2.2.2.2.1, v_3.2.2.2.2.2.2)
  else
    some (v_1.1, v_pad_size, v_1.2.1, v_1.2.2.1, v_1.2.2.2.1, v_1.2.2.2.2.1, v_1.2.2.2.2.2.1, v_1.2.2.2.2.2.2.1, v_1.2.2.2.2.2.2.2.1, v_1.2.2.2.2.2.2.2.2.1, v_1.2.2.2.2.2.2.2.2.2.1, v_room_shelf_there, v_1.2.2.2.2.2.2.2.2.2.2.1, v_1.2.2.2.2.2.2.2.2.2.2.2.1, v_1.2.2.2.2.2.2.2.2.2.2.2.2.1, v_1.2.2.2.2.2.2.2.2.2.2.2.2.2.1, v_1.2.2.2.2.2.2.2.2.2.2.2.2.2.2.1, v_1.2.2.2.2.2.2.2.2.2.2.2.2.2.2.2.1, v_1.2.2.2.2.2.2.2.2.2.2.2.2.2.2.2.2.1, v_1.2.2.2.2.2.2.2.2.2.2.2.2.2.2.2.2.2.1, v_1.2.2.2.2.2.2.2.2.2.2.2.2.2.2.2.2.2.2.1, v_1.2.2.2.2.2.2.2.2.2.2.2.2.2.2.2.2.2.2.2.1, v_1.2.2.2.2.2.2.2.2.2.2.2.2.2.2.2.2.2.2.2.2.1, v_1.2.2.2.2.2.2.2.2.2.2.2.2.2.2.2.2.2.2.2.2.2.1, v_1.2.2.2.2.2.2.2.2.2.2.2.2.2.2.2.2.2.2.2.2.2.2.1, v_1.2.2.2.2.2.2.2.2.2.2.2.2.2.2.2.2.2.2.2.2.2.2.2, v_room_shelf_thick, v_room_shelf_hollow, v_room_shelf_damp, v_room_shelf_fresh, v_room_shelf_pulls, v_room_shelf_fats)
def fX10_clean (x1 : Int32) (v_room_shelf_there : Int32) (v_room_shelf_fresh : Nat → Int32) (v_room_shelf_fats : Nat → Int32) (v_room_rules_fine : Nat → Int32) (v_room_shelf_pulls : Nat → Int32) : Option (Int32) :=
  if (fX6_has x1 v_room_shelf_there) = 0 then
    some (-1 : Int32)
  else
    gd (x1 < 0 ∨ 5 ≤ Int32.toNatClampNeg x1) <|
    lt_ (v_room_shelf_fresh (Int32.toNatClampNeg x1)) fun v_3 =>
    if v_3 = (-6 : Int32) then
      some (-3 : Int32)
    else
      Option.bind (fX6_fatOf x1 v_3 v_room_shelf_there v_room_shelf_fats) fun v_5 =>
      Option.bind (fX6_ghostFat x1 v_3 v_room_shelf_fats) fun v_6 =>
      Option.bind (fX5_wear v_3 v_room_rules_fine) fun v_7 =>
      Option.bind (fX10_pullsAhead v_5 v_6 v_7 (v_room_shelf_pulls (Int32.toNatClampNeg x1))) fun v_8 =>
      some v_8
def FX10_grind_43 (x1 : Int32) (x2 : Int32) (x3 : Int32) (v_room_rules_least : Int32) (v_room_shelf_thick : Nat → Int32) (v_room_shelf_fats : Nat → Int32) (v_room_rules_deep : Nat → Int32) (v_room_rules_fine : Nat → Int32) (k43 : (Int32) → Option (Int32)) (x4 : Int32) : Option (Int32) :=
  if (20 : Int32) < x4 then
    some (-6 : Int32)
  else
    gd (x1 < 0 ∨ 5 ≤ Int32.toNatClampNeg x1) <|
    if v_room_rules_least ≤ ((v_room_shelf_thick (Int32.toNatClampNeg x1)) - ((3 : Int32) * x4)) then
      Option.bind (fX4_wouldLast x1 x2 x4 x3 v_room_shelf_fats v_room_rules_deep v_room_rules_fine) fun v_7 =>
      if v_7 = 0 then
        lt_ (x4 + (1 : Int32)) fun v_9 =>
        k43 v_9
      else
        some x4
    else
      some (-6 : Int32)
def LX10_grind_43 (x1 : Int32) (x2 : Int32) (x3 : Int32) (v_room_rules_least : Int32) (v_room_shelf_thick : Nat → Int32) (v_room_shelf_fats : Nat → Int32) (v_room_rules_deep : Nat → Int32) (v_room_rules_fine : Nat → Int32) (n : Nat) : (Int32) → Option (Int32) := Nat.rec (fun _ => none) (fun _ k => FX10_grind_43 x1 x2 x3 v_room_rules_least v_room_shelf_thick v_room_shelf_fats v_room_rules_deep v_room_rules_fine k) n
def fX10_grind (x1 : Int32) (x2 : Int32) (x3 : Int32) (v_room_shelf_there : Int32) (v_room_rules_least : Int32) (v_room_shelf_thick : Nat → Int32) (v_room_shelf_fats : Nat → Int32) (v_room_rules_deep : Nat → Int32) (v_room_rules_fine : Nat → Int32) : Option (Int32) :=
  if (fX6_has x1 v_room_shelf_there) = 0 then
    some (-1 : Int32)
  else
    if (fX10_inside x2 (0 : Int32) (7 : Int32)) = 0 then
      some (-1 : Int32)
    else
      if (fX10_inside x3 (0 : Int32) (999 : Int32)) = 0 then
        some (-2 : Int32)
      else
        LX10_grind_43 x1 x2 x3 v_room_rules_least v_room_shelf_thick v_room_shelf_fats v_room_rules_deep v_room_rules_fine 2000 (0 : Int32)
def fX10_lives (x1 : Int32) (x2 : Int32) (v_room_shelf_there : Int32) (v_room_rules_least : Int32) (v_room_shelf_thick : Nat → Int32) : Option (Int32) :=
  if (fX6_has x1 v_room_shelf_there) = 0 then
    some (-1 : Int32)
  else
    if (fX10_inside x2 (1 : Int32) (99 : Int32)) = 0 then
      some (-2 : Int32)
    else
      gd (x1 < 0 ∨ 5 ≤ Int32.toNatClampNeg x1) <|
      lt_ ((v_room_shelf_thick (Int32.toNatClampNeg x1)) - v_room_rules_least) fun v_4 =>
      if 0 ≤ v_4 then
        gd (((3 : Int32) * x2) = 0) <|
        some (v_4 / ((3 : Int32) * x2))
      else
        some (0 : Int32)
def fX10_orders_25 (x1 : Int32) (x2 : Int32) (x3 : Int32) (v_orderTable_best : Nat → Int32) (v_orderTable_allowed : Nat → Int32) (v_orderTable_pay : Nat → Int32) (v_room_rules_flat : Int32) (v_room_rules_least : Int32) (v_room_shelf_there : Int32) (v_room_rules_pay : Nat → Int32) (v_room_shelf_hollow : Nat → Int32) (v_room_shelf_thick : Nat → Int32) (v_room_shelf_fats : Nat → Int32) (v_room_rules_deep : Nat → Int32) (v_room_rules_fine : Nat → Int32) : Option (Int32 × (Nat → Int32) × (Nat → Int32) × (Nat → Int32)) :=
  if (fX10_inside x1 (0 : Int32) (255 : Int32)) = 0 then
    some ((-2 : Int32), v_orderTable_best, v_orderTable_allowed, v_orderTable_pay)
  else
    if (fX10_inside x2 (0 : Int32) (999 : Int32)) = 0 then
      some ((-2 : Int32), v_orderTable_best, v_orderTable_allowed, v_orderTable_pay)
    else
      Option.bind (fX2_fill x1 x2 v_orderTable_best v_orderTable_allowed v_orderTable_pay v_room_rules_flat v_room_rules_least v_room_shelf_there v_room_rules_pay v_room_shelf_hollow v_room_shelf_thick v_room_shelf_fats v_room_rules_deep v_room_rules_fine) fun v_4 =>
      if x3 = (-1 : Int32) then
        some ((fX2_mostPay v_4.1), v_4.1, v_4.2.1, v_4.2.2)
      else
        Option.bind (fX2_stoneFor x3 v_4.1 v_4.2.1 v_4.2.2) fun v_6 =>
        some (v_6, v_4.1, v_4.2.1, v_4.2.2)
def fX10_orders (x1 : Int32) (x2 : Int32) (x3 : Int32) (v_orderTable_best : Nat → Int32) (v_orderTable_allowed : Nat → Int32) (v_orderTable_pay : Nat → Int32) (v_room_rules_flat : Int32) (v_room_rules_least : Int32) (v_room_shelf_there : Int32) (v_room_rules_pay : Nat → Int32) (v_room_shelf_hollow : Nat → Int32) (v_room_shelf_thick : Nat → Int32) (v_room_shelf_fats : Nat → Int32) (v_room_rules_deep : Nat → Int32) (v_room_rules_fine : Nat → Int32) : Option (Int32 × (Nat → Int32) × (Nat → Int32) × (Nat → Int32)) :=
  if x3 = (-1 : Int32) then
    fX10_orders_25 x1 x2 x3 v_orderTable_best v_orderTable_allowed v_orderTable_pay v_room_rules_flat v_room_rules_least v_room_shelf_there v_room_rules_pay v_room_shelf_hollow v_room_shelf_thick v_room_shelf_fats v_room_rules_deep v_room_rules_fine
  else
    if (fX10_inside x3 (0 : Int32) (7 : Int32)) = 0 then
      some ((-1 : Int32), v_orderTable_best, v_orderTable_allowed, v_orderTable_pay)
    else
      if (fX10_hasBit x1 x3) = 0 then
        some ((-1 : Int32), v_orderTable_best, v_orderTable_allowed, v_orderTable_pay)
      else
        fX10_orders_25 x1 x2 x3 v_orderTable_best v_orderTable_allowed v_orderTable_pay v_room_rules_flat v_room_rules_least v_room_shelf_there v_room_rules_pay v_room_shelf_hollow v_room_shelf_thick v_room_shelf_fats v_room_rules_deep v_room_rules_fine
def fX10_colours (x1 : Int32) (x2 : Int32) (v_colourTable_size : Int32) (v_colourTable_least : Nat → Int32) (v_room_rules_hair : Nat → Int32) : Option (Int32 × Int32 × (Nat → Int32)) :=
  if (fX10_inside x1 (1 : Int32) (6 : Int32)) = 0 then
    some ((-2 : Int32), v_colourTable_size, v_colourTable_least)
  else
    if (fX10_inside x2 (0 : Int32) (1 : Int32)) = 0 then
      some ((-2 : Int32), v_colourTable_size, v_colourTable_least)
    else
      Option.bind (fX1_fill x1 v_colourTable_least v_room_rules_hair) fun v_3 =>
      if x2 = 0 then
        some ((v_3.2 (Int32.toNatClampNeg (0 : Int32))), v_3.1, v_3.2)
      else
        Option.bind (fX1_firstBest (0 : Int32) v_3.1 v_3.2 v_room_rules_hair) fun v_5 =>
        some (v_5, v_3.1, v_3.2)
def FX10_lowestTerms_9 (x0 : Int64) (x2 : Int64) (x4 : Int32) (k9 : (Int64) → (Int64) → (Int32) → Option (Int64)) (x5 : Int64) (x7 : Int64) (x9 : Int32) : Option (Int64) :=
  if (100 : Int32) ≤ x9 then
    lt_ (lmax (1 : Int64) x5) fun v_2 =>
    if x4 = 0 then
      gd (v_2 = 0) <|
      some (x0 / v_2)
    else
      gd (v_2 = 0) <|
      some (x2 / v_2)
  else
    if (lg_cmp x7 (0 : Int64)) = 0 then
      lt_ (lmax (1 : Int64) x5) fun v_7 =>
      if x4 = 0 then
        gd (v_7 = 0) <|
        some (x0 / v_7)
      else
        gd (v_7 = 0) <|
        some (x2 / v_7)
    else
      gd (x7 = 0) <|
      lt_ (x5 - x5 / x7 * x7) fun v_12 =>
      lt_ (x9 + (1 : Int32)) fun v_13 =>
      k9 x7 v_12 v_13
def LX10_lowestTerms_9 (x0 : Int64) (x2 : Int64) (x4 : Int32) (n : Nat) : (Int64) → (Int64) → (Int32) → Option (Int64) := Nat.rec (fun _ _ _ => none) (fun _ k => FX10_lowestTerms_9 x0 x2 x4 k) n
def fX10_lowestTerms (x0 : Int64) (x2 : Int64) (x4 : Int32) : Option (Int64) :=
  LX10_lowestTerms_9 x0 x2 x4 2000 x0 x2 (0 : Int32)
def FX10_crack_103 (x3 : Int32) (x4 : Int32) (x5 : Int32) (x6 : Int32) (k103 : (Int64) → (Int64) → (Int64) → (Int32) → Option (Int64)) (x7 : Int64) (x9 : Int64) (x11 : Int64) (x13 : Int32) : Option (Int64) :=
  if x3 ≤ x13 then
    if x4 = 0 then
      Option.bind (fX10_lowestTerms x9 x7 x5) fun v_11 =>
      some v_11
    else
      Option.bind (fX10_lowestTerms x11 x7 x5) fun v_10 =>
      some v_10
  else
    lt_ (x7 * (10 : Int64)) fun v_12 =>
    lt_ (x9 * (Int32.toInt64 ((10 : Int32) - x6))) fun v_13 =>
    lt_ ((x11 * (10 : Int64)) + v_13) fun v_14 =>
    lt_ (x13 + (1 : Int32)) fun v_15 =>
    k103 v_12 v_13 v_14 v_15
def LX10_crack_103 (x3 : Int32) (x4 : Int32) (x5 : Int32) (x6 : Int32) (n : Nat) : (Int64) → (Int64) → (Int64) → (Int32) → Option (Int64) := Nat.rec (fun _ _ _ _ => none) (fun _ k => FX10_crack_103 x3 x4 x5 x6 k) n
def fX10_crack (x1 : Int32) (x2 : Int32) (x3 : Int32) (x4 : Int32) (x5 : Int32) (v_room_shelf_there : Int32) (v_room_shelf_thick : Nat → Int32) : Option (Int64) :=
  if (fX6_has x1 v_room_shelf_there) = 0 then
    some (-1000000000000000001 : Int64)
  else
    if (fX10_inside x2 (0 : Int32) (150 : Int32)) = 0 then
      some (-1000000000000000002 : Int64)
    else
      if (fX10_inside x3 (0 : Int32) (9 : Int32)) = 0 then
        some (-1000000000000000002 : Int64)
      else
        if (fX10_inside x4 (0 : Int32) (1 : Int32)) = 0 then
          some (-1000000000000000002 : Int64)
        else
          if (fX10_inside x5 (0 : Int32) (1 : Int32)) = 0 then
            some (-1000000000000000002 : Int64)
          else
            gd (x1 < 0 ∨ 5 ≤ Int32.toNatClampNeg x1) <|
            lt_ (imax (0 : Int32) (imin (10 : Int32) (x2 - ((v_room_shelf_thick (Int32.toNatClampNeg x1)) / (100 : Int32))))) fun v_7 =>
            LX10_crack_103 x3 x4 x5 v_7 2000 (1 : Int64) (1 : Int64) (1 : Int64) (0 : Int32)
def fX10_seen (x1 : Int32) (x2 : Int32) (x3 : Int32) (v_room_sights_size : Int32) (v_room_sights_shown : Int32) (v_room_sights_drawn : Nat → Int32) (v_room_sights_pull : Nat → Int32) : Option (Int32 × Int32 × Int32 × (Nat → Int32) × (Nat → Int32)) :=
  if (fX10_inside x1 (0 : Int32) (7 : Int32)) = 0 then
    some ((-1 : Int32), v_room_sights_shown, v_room_sights_size, v_room_sights_drawn, v_room_sights_pull)
  else
    if (fX10_inside x2 (0 : Int32) (999 : Int32)) = 0 then
      some ((-2 : Int32), v_room_sights_shown, v_room_sights_size, v_room_sights_drawn, v_room_sights_pull)
    else
      Option.bind (fX7_add x1 x2 x3 v_room_sights_size v_room_sights_shown v_room_sights_drawn v_room_sights_pull) fun v_3 =>
      if v_3.1 = 0 then
        some ((-4 : Int32), v_3.2.1, v_3.2.2.1, v_3.2.2.2.1, v_3.2.2.2.2)
      else
        some (v_3.2.2.1, v_3.2.1, v_3.2.2.1, v_3.2.2.2.1, v_3.2.2.2.2)
def fX10_forget (v_room_sights_size : Int32) : Int32 × Int32 :=
  (v_room_sights_size, (0 : Int32))
def FX10_whose_4 (x1 : Int32) (v_room_sights_size : Int32) (v_room_sights_shown : Int32) (v_room_sights_drawn : Nat → Int32) (v_room_sights_pull : Nat → Int32) (v_room_rules_deep : Nat → Int32) (v_room_rules_fine : Nat → Int32) (k4 : (Int32) → (Int32) → Option (Int32)) (x2 : Int32) (x3 : Int32) : Option (Int32) :=
  if (8 : Int32) ≤ x3 then
    if x1 = (-1 : Int32) then
      some x2
    else
      some (-6 : Int32)
  else
    Option.bind (fX4_countTwos x3 v_room_sights_size v_room_sights_shown v_room_sights_drawn v_room_sights_pull v_room_rules_deep v_room_rules_fine) fun v_3 =>
    if x1 < x2 then
      lt_ (x2 + v_3) fun v_5 =>
      lt_ (x3 + (1 : Int32)) fun v_6 =>
      k4 v_5 v_6
    else
      if (x2 + v_3) ≤ x1 then
        lt_ (x2 + v_3) fun v_8 =>
        lt_ (x3 + (1 : Int32)) fun v_9 =>
        k4 v_8 v_9
      else
        Option.bind (fX4_fewestMinutes x3 v_room_sights_size v_room_sights_shown v_room_sights_drawn v_room_sights_pull v_room_rules_deep v_room_rules_fine) fun v_10 =>
        some (((((100 : Int32) * x3) + v_10) + x1) - x2)
def LX10_whose_4 (x1 : Int32) (v_room_sights_size : Int32) (v_room_sights_shown : Int32) (v_room_sights_drawn : Nat → Int32) (v_room_sights_pull : Nat → Int32) (v_room_rules_deep : Nat → Int32) (v_room_rules_fine : Nat → Int32) (n : Nat) : (Int32) → (Int32) → Option (Int32) := Nat.rec (fun _ _ => none) (fun _ k => FX10_whose_4 x1 v_room_sights_size v_room_sights_shown v_room_sights_drawn v_room_sights_pull v_room_rules_deep v_room_rules_fine k) n
def fX10_whose (x1 : Int32) (v_room_sights_size : Int32) (v_room_sights_shown : Int32) (v_room_sights_drawn : Nat → Int32) (v_room_sights_pull : Nat → Int32) (v_room_rules_deep : Nat → Int32) (v_room_rules_fine : Nat → Int32) : Option (Int32) :=
  LX10_whose_4 x1 v_room_sights_size v_room_sights_shown v_room_sights_drawn v_room_sights_pull v_room_rules_deep v_room_rules_fine 2000 (0 : Int32) (0 : Int32)
def FX10_suspects_4 (v_room_sights_size : Int32) (v_room_sights_shown : Int32) (v_room_sights_drawn : Nat → Int32) (v_room_sights_pull : Nat → Int32) (v_room_rules_deep : Nat → Int32) (v_room_rules_fine : Nat → Int32) (k4 : (Int32) → (Int32) → Option (Int32)) (x1 : Int32) (x2 : Int32) : Option (Int32) :=
  if (8 : Int32) ≤ x2 then
    some x1
  else
    Option.bind (fX4_countTwos x2 v_room_sights_size v_room_sights_shown v_room_sights_drawn v_room_sights_pull v_room_rules_deep v_room_rules_fine) fun v_2 =>
    if v_2 ≤ 0 then
      lt_ (x2 + (1 : Int32)) fun v_4 =>
      k4 x1 v_4
    else
      lt_ (x1 ||| ((1 : Int32) <<< (x2 &&& 31))) fun v_5 =>
      lt_ (x2 + (1 : Int32)) fun v_6 =>
      k4 v_5 v_6
def LX10_suspects_4 (v_room_sights_size : Int32) (v_room_sights_shown : Int32) (v_room_sights_drawn : Nat → Int32) (v_room_sights_pull : Nat → Int32) (v_room_rules_deep : Nat → Int32) (v_room_rules_fine : Nat → Int32) (n : Nat) : (Int32) → (Int32) → Option (Int32) := Nat.rec (fun _ _ => none) (fun _ k => FX10_suspects_4 v_room_sights_size v_room_sights_shown v_room_sights_drawn v_room_sights_pull v_room_rules_deep v_room_rules_fine k) n
def fX10_suspects (v_room_sights_size : Int32) (v_room_sights_shown : Int32) (v_room_sights_drawn : Nat → Int32) (v_room_sights_pull : Nat → Int32) (v_room_rules_deep : Nat → Int32) (v_room_rules_fine : Nat → Int32) : Option (Int32) :=
  LX10_suspects_4 v_room_sights_size v_room_sights_shown v_room_sights_drawn v_room_sights_pull v_room_rules_deep v_room_rules_fine 2000 (0 : Int32) (0 : Int32)
def FX10_next_33 (x1 : Int32) (x2 : Int32) (v_room_sights_size : Int32) (v_room_sights_shown : Int32) (v_room_sights_drawn : Nat → Int32) (v_room_sights_pull : Nat → Int32) (v_room_rules_deep : Nat → Int32) (v_room_rules_fine : Nat → Int32) (k33 : (Int32) → (Int32) → (Int32) → Option (Int32)) (x3 : Int32) (x4 : Int32) (x5 : Int32) : Option (Int32) :=
  if (8 : Int32) ≤ x5 then
    if x4 = 0 then
      some (-6 : Int32)
    else
      if x2 = 0 then
        some x3
      else
        some x4
  else
    Option.bind (fX4_mostLeft x5 x1 v_room_sights_size v_room_sights_shown v_room_sights_drawn v_room_sights_pull v_room_rules_deep v_room_rules_fine) fun v_6 =>
    if x4 ≤ v_6 then
      lt_ (x5 + (1 : Int32)) fun v_8 =>
      k33 x3 x4 v_8
    else
      lt_ (x5 + (1 : Int32)) fun v_9 =>
      k33 x5 v_6 v_9
def LX10_next_33 (x1 : Int32) (x2 : Int32) (v_room_sights_size : Int32) (v_room_sights_shown : Int32) (v_room_sights_drawn : Nat → Int32) (v_room_sights_pull : Nat → Int32) (v_room_rules_deep : Nat → Int32) (v_room_rules_fine : Nat → Int32) (n : Nat) : (Int32) → (Int32) → (Int32) → Option (Int32) := Nat.rec (fun _ _ _ => none) (fun _ k => FX10_next_33 x1 x2 v_room_sights_size v_room_sights_shown v_room_sights_drawn v_room_sights_pull v_room_rules_deep v_room_rules_fine k) n
def fX10_next (x1 : Int32) (x2 : Int32) (v_room_sights_size : Int32) (v_room_sights_shown : Int32) (v_room_sights_drawn : Nat → Int32) (v_room_sights_pull : Nat → Int32) (v_room_rules_deep : Nat → Int32) (v_room_rules_fine : Nat → Int32) : Option (Int32) :=
  if (fX10_inside x1 (0 : Int32) (999 : Int32)) = 0 then
    some (-2 : Int32)
  else
    if (fX10_inside x2 (0 : Int32) (1 : Int32)) = 0 then
      some (-2 : Int32)
    else
      LX10_next_33 x1 x2 v_room_sights_size v_room_sights_shown v_room_sights_drawn v_room_sights_pull v_room_rules_deep v_room_rules_fine 2000 (-6 : Int32) (2147483647 : Int32) (0 : Int32)
def fX10_year (x1 : Int32) (x2 : Int32) (x3 : Int32) (v_trial_acts : Int32) (v_trial_stoppedAt : Int32) (v_trial_why : Int32) (v_trial_rules_flat : Int32) (v_trial_rules_least : Int32) (v_trial_shelf_there : Int32) (v_trial_tally_pulled : Int32) (v_trial_tally_firstHaunted : Int32) (v_trial_tally_haunter : Int32) (v_room_rules_flat : Int32) (v_room_rules_least : Int32) (v_room_shelf_there : Int32) (v_trial_act_stone : Int32) (v_trial_act_kind : Int32) (v_trial_act_amount : Int32) (v_trial_rules_deep : Nat → Int32) (v_trial_rules_fine : Nat → Int32) (v_trial_rules_pay : Nat → Int32) (v_trial_rules_hair : Nat → Int32) (v_trial_shelf_thick : Nat → Int32) (v_trial_shelf_hollow : Nat → Int32) (v_trial_shelf_damp : Nat → Int32) (v_trial_shelf_fresh : Nat → Int32) (v_trial_shelf_pulls : Nat → Int32) (v_trial_shelf_fats : Nat → Int32) (v_trial_tally_ofKind : Nat → Int32) (v_room_rules_deep : Nat → Int32) (v_room_rules_fine : Nat → Int32) (v_room_rules_pay : Nat → Int32) (v_room_rules_hair : Nat → Int32) (v_room_shelf_thick : Nat → Int32) (v_room_shelf_hollow : Nat → Int32) (v_room_shelf_damp : Nat → Int32) (v_room_shelf_fresh : Nat → Int32) (v_room_shelf_pulls : Nat → Int32) (v_room_shelf_fats : Nat → Int32) : Option (Int32 × Int32 × Int32 × Int32 × Int32 × Int32 × Int32 × Int32 × Int32 × Int32 × Int32 × Int32 × Int32 × (Nat → Int32) × (Nat → Int32) × (Nat → Int32) × (Nat → Int32) × (Nat → Int32) × (Nat → Int32) × (Nat → Int32) × (Nat → Int32) × (Nat → Int32) × (Nat → Int32) × (Nat → Int32)) :=
  if (fX10_inside x1 (0 : Int32) (9999 : Int32)) = 0 then
    some ((-2 : Int32), v_trial_acts, v_trial_stoppedAt, v_trial_why, v_trial_rules_flat, v_trial_rules_least, v_trial_shelf_there, v_trial_tally_firstHaunted, v_trial_tally_haunter, v_trial_tally_pulled, v_trial_act_amount, v_trial_act_kind, v_trial_act_stone, v_trial_rules_deep, v_trial_rules_fine, v_trial_rules_pay, v_trial_rules_hair, v_trial_shelf_thick, v_trial_shelf_hollow, v_trial_shelf_damp, v_trial_shelf_fresh, v_trial_shelf_pulls, v_trial_shelf_fats, v_trial_tally_ofKind)
  else
    if (fX10_inside x2 (1 : Int32) (99 : Int32)) = 0 then
      some ((-2 : Int32), v_trial_acts, v_trial_stoppedAt, v_trial_why, v_trial_rules_flat, v_trial_rules_least, v_trial_shelf_there, v_trial_tally_firstHaunted, v_trial_tally_haunter, v_trial_tally_pulled, v_trial_act_amount, v_trial_act_kind, v_trial_act_stone, v_trial_rules_deep, v_trial_rules_fine, v_trial_rules_pay, v_trial_rules_hair, v_trial_shelf_thick, v_trial_shelf_hollow, v_trial_shelf_damp, v_trial_shelf_fresh, v_trial_shelf_pulls, v_trial_shelf_fats, v_trial_tally_ofKind)
    else
      if (fX10_inside x3 (0 : Int32) (2 : Int32)) = 0 then
        some ((-2 : Int32), v_trial_acts, v_trial_stoppedAt, v_trial_why, v_trial_rules_flat, v_trial_rules_least, v_trial_shelf_there, v_trial_tally_firstHaunted, v_trial_tally_haunter, v_trial_tally_pulled, v_trial_act_amount, v_trial_act_kind, v_trial_act_stone, v_trial_rules_deep, v_trial_rules_fine, v_trial_rules_pay, v_trial_rules_hair, v_trial_shelf_thick, v_trial_shelf_hollow, v_trial_shelf_damp, v_trial_shelf_fresh, v_trial_shelf_pulls, v_trial_shelf_fats, v_trial_tally_ofKind)
      else
        Option.bind (fX9_begin v_trial_rules_deep v_trial_rules_fine v_trial_rules_pay v_trial_rules_hair v_trial_shelf_thick v_trial_shelf_hollow v_trial_shelf_damp v_trial_shelf_fresh v_trial_shelf_pulls v_trial_shelf_fats v_trial_tally_ofKind v_room_rules_flat v_room_rules_least v_room_shelf_there v_room_rules_deep v_room_rules_fine v_room_rules_pay v_room_rules_hair v_room_shelf_thick v_room_shelf_hollow v_room_shelf_damp v_room_shelf_fresh v_room_shelf_pulls v_room_shelf_fats) fun v_4 =>
        Option.bind (fX9_playYear x1 x2 v_trial_act_stone v_trial_act_kind v_trial_act_amount v_4.2.2.2.2.2.1 v_4.2.2.2.1 v_4.2.2.2.2.1 v_4.2.2.2.2.2.2.2.2.1 v_4.2.2.2.2.2.2.1 v_4.2.2.2.2.2.2.2.1 v_4.2.2.2.2.2.2.2.2.2.2.2.2.2.2.2.2.1 v_4.2.2.2.2.2.2.2.2.2.2.2.2.2.2.1 v_4.2.2.2.2.2.2.2.2.2.2.2.2.2.1 v_4.2.2.2.2.2.2.2.2.2.2.1 v_4.2.2.2.2.2.2.2.2.2.2.2.2.2.2.2.1 v_4.2.2.2.2.2.2.2.2.2.2.2.2.2.2.2.2.2.1 v_4.2.2.2.2.2.2.2.2.2.2.2.2.2.2.2.2.2.2.1 v_4.2.2.2.2.2.2.2.2.2.2.2.2.2.2.2.2.2.2.2 v_4.2.2.2.2.2.2.2.2.2.1) fun v_5 =>
        if x3 = 0 then
          some (v_5.2.2.2.2.2.2.1, v_4.1, v_4.2.1, v_4.2.2.1, v_4.2.2.2.1, v_4.2.2.2.2.1, v_5.2.2.2.1, v_5.2.2.2.2.1, v_5.2.2.2.2.2.1, v_5.2.2.2.2.2.2.1, v_5.1, v_5.2.1, v_5.2.2.1, v_4.2.2.2.2.2.2.2.2.2.1, v_4.2.2.2.2.2.2.2.2.2.2.1, v_4.2.2.2.2.2.2.2.2.2.2.2.1, v_4.2.2.2.2.2.2.2.2.2.2.2.2.1, v_5.2.2.2.2.2.2.2.2.2.1, v_5.2.2.2.2.2.2.2.2.1, v_5.2.2.2.2.2.2.2.2.2.2.1, v_5.2.2.2.2.2.2.2.1, v_5.2.2.2.2.2.2.2.2.2.2.2.1, v_5.2.2.2.2.2.2.2.2.2.2.2.2.1, v_5.2.2.2.2.2.2.2.2.2.2.2.2.2)
        else
          if x3 = (1 : Int32) then
            some ((v_5.2.2.2.2.2.2.2.2.2.2.2.2.2 (Int32.toNatClampNeg (3 : Int32))), v_4.1, v_4.2.1, v_4.2.2.1, v_4.2.2.2.1, v_4.2.2.2.2.1, v_5.2.2.2.1, v_5.2.2.2.2.1, v_5.2.2.2.2.2.1, v_5.2.2.2.2.2.2.1, v_5.1, v_5.2.1, v_5.2.2.1, v_4.2.2.2.2.2.2.2.2.2.1, v_4.2.2.2.2.2.2.2.2.2.2.1, v_4.2.2.2.2.2.2.2.2.2.2.2.1, v_4.2.2.2.2.2.2.2.2.2.2.2.2.1, v_5.2.2.2.2.2.2.2.2.2.1, v_5.2.2.2.2.2.2.2.2.1, v_5.2.2.2.2.2.2.2.2.2.2.1, v_5.2.2.2.2.2.2.2.1, v_5.2.2.2.2.2.2.2.2.2.2.2.1, v_5.2.2.2.2.2.2.2.2.2.2.2.2.1, v_5.2.2.2.2.2.2.2.2.2.2.2.2.2)
          else
            Option.bind (fX6_countFresh v_5.2.2.2.1 v_5.2.2.2.2.2.2.2.1) fun v_8 =>
            some (v_8, v_4.1, v_4.2.1, v_4.2.2.1, v_4.2.2.2.1, v_4.2.2.2.2.1, v_5.2.2.2.1, v_5.2.2.2.2.1, v_5.2.2.2.2.2.1, v_5.2.2.2.2.2.2.1, v_5.1, v_5.2.1, v_5.2.2.1, v_4.2.2.2.2.2.2.2.2.2.1, v_4.2.2.2.2.2.2.2.2.2.2.1, v_4.2.2.2.2.2.2.2.2.2.2.2.1, v_4.2.2.2.2.2.2.2.2.2.2.2.2.1, v_5.2.2.2.2.2.2.2.2.2.1, v_5.2.2.2.2.2.2.2.2.1, v_5.2.2.2.2.2.2.2.2.2.2.1, v_5.2.2.2.2.2.2.2.1, v_5.2.2.2.2.2.2.2.2.2.2.2.1, v_5.2.2.2.2.2.2.2.2.2.2.2.2.1, v_5.2.2.2.2.2.2.2.2.2.2.2.2.2)
def fX10_tellWhole (x1 : Int32) (v_pad_size : Int32) (v_room_sights_size : Int32) (v_room_rules_flat : Int32) (v_room_rules_least : Int32) (v_room_shelf_there : Int32) : Int32 :=
  if x1 = (0 : Int32) then
    v_pad_size
  else
    if x1 = (1 : Int32) then
      v_room_shelf_there
    else
      if x1 = (2 : Int32) then
        v_room_rules_flat
      else
        if x1 = (3 : Int32) then
          v_room_rules_least
        else
          if x1 = (4 : Int32) then
            v_room_sights_size
          else
            (-2 : Int32)
def fX10_told (x1 : Int32) (v_pad_size : Int32) (v_room_rules_flat : Int32) (v_room_rules_least : Int32) (v_room_shelf_there : Int32) (v_room_sights_size : Int32) (v_room_rules_hair : Nat → Int32) (v_room_rules_pay : Nat → Int32) (v_room_rules_fine : Nat → Int32) (v_room_rules_deep : Nat → Int32) (v_room_shelf_fats : Nat → Int32) (v_room_shelf_pulls : Nat → Int32) (v_room_shelf_fresh : Nat → Int32) (v_room_shelf_damp : Nat → Int32) (v_room_shelf_hollow : Nat → Int32) (v_room_shelf_thick : Nat → Int32) : Option (Int32) :=
  if (fX10_inside x1 (0 : Int32) (9 : Int32)) = 0 then
    if (fX10_inside x1 (10 : Int32) (99 : Int32)) = 0 then
      if (fX10_inside x1 (100 : Int32) (999 : Int32)) = 0 then
        if (fX10_inside x1 (1000 : Int32) (9999 : Int32)) = 0 then
          if (fX10_inside x1 (10000 : Int32) (10005 : Int32)) = 0 then
            some (-2 : Int32)
          else
            gd ((x1 - (10000 : Int32)) < 0 ∨ 6 ≤ Int32.toNatClampNeg (x1 - (10000 : Int32))) <|
            some ((v_room_rules_hair (Int32.toNatClampNeg (x1 - (10000 : Int32)))) + (9 : Int32))
        else
          Option.bind (fX5_tell ((x1 / (1000 : Int32)) - (1 : Int32)) (x1 - x1 / (1000 : Int32) * (1000 : Int32)) v_room_rules_pay v_room_rules_fine v_room_rules_deep) fun v_7 =>
          some v_7
      else
        lt_ ((x1 / (100 : Int32)) - (1 : Int32)) fun v_8 =>
        if (fX6_has v_8 v_room_shelf_there) = 0 then
          some (-2 : Int32)
        else
          if (8 : Int32) ≤ (x1 - x1 / (100 : Int32) * (100 : Int32)) then
            some (-2 : Int32)
          else
            Option.bind (fX6_fatOf v_8 (x1 - x1 / (100 : Int32) * (100 : Int32)) v_room_shelf_there v_room_shelf_fats) fun v_14 =>
            some v_14
    else
      lt_ ((x1 / (10 : Int32)) - (1 : Int32)) fun v_15 =>
      if (fX6_has v_15 v_room_shelf_there) = 0 then
        some (-2 : Int32)
      else
        if (4 : Int32) < (x1 - x1 / (10 : Int32) * (10 : Int32)) then
          some (-2 : Int32)
        else
          Option.bind (fX6_tell v_15 (x1 - x1 / (10 : Int32) * (10 : Int32)) v_room_shelf_there v_room_shelf_pulls v_room_shelf_fresh v_room_shelf_damp v_room_shelf_hollow v_room_shelf_thick) fun v_21 =>
          some v_21
  else
    some (fX10_tellWhole x1 v_pad_size v_room_sights_size v_room_rules_flat v_room_rules_least v_room_shelf_there)
def fX11_in (x0 : Int64) (x2 : Int64) (x4 : Int64) : Int32 :=
  if (lg_cmp x0 x2) < 0 then
    (0 : Int32)
  else
    if 0 < (lg_cmp x0 x4) then
      (0 : Int32)
    else
      (1 : Int32)
theorem fbX11_in (x0 : Int64) (x2 : Int64) (x4 : Int64) : narrow .boolean (.int (fX11_in x0 x2 x4)) = .int (fX11_in x0 x2 x4) := by
  unfold fX11_in
  repeat' split
  all_goals first | with_reducible rfl | rfl
def FX11_ones_4 (k4 : (Int32) → (Int32) → Option (Int32)) (x1 : Int32) (x2 : Int32) : Option (Int32) :=
  if x2 = 0 then
    some x1
  else
    lt_ (x1 + (1 : Int32)) fun v_2 =>
    lt_ (x2 &&& (x2 - (1 : Int32))) fun v_3 =>
    k4 v_2 v_3
def LX11_ones_4 (n : Nat) : (Int32) → (Int32) → Option (Int32) := Nat.rec (fun _ _ => none) (fun _ k => FX11_ones_4 k) n
def fX11_ones (x0 : Int32) : Option (Int32) :=
  LX11_ones_4 2000 (0 : Int32) x0
def fX11_size (x0 : Int32) : Int32 :=
  if 0 ≤ x0 then
    x0
  else
    (-x0)
def fX11_notBelow0 (x0 : Int32) : Int32 :=
  if 0 ≤ x0 then
    x0
  else
    (0 : Int32)
def fX11_isStone (x1 : Int32) (v_stones : Int32) : Int32 :=
  if (fX11_in (Int32.toInt64 x1) (0 : Int64) (4 : Int64)) = 0 then
    (0 : Int32)
  else
    if ((v_stones >>> (x1 &&& 31)) &&& (1 : Int32)) = (1 : Int32) then
      (1 : Int32)
    else
      (0 : Int32)
theorem fbX11_isStone (x1 : Int32) (v_stones : Int32) : narrow .boolean (.int (fX11_isStone x1 v_stones)) = .int (fX11_isStone x1 v_stones) := by
  unfold fX11_isStone
  repeat' split
  all_goals first | with_reducible rfl | with_reducible exact fbX11_in _ _ _ | rfl
def fX11_isPicture (x0 : Int32) : Int32 :=
  (fX11_in (Int32.toInt64 x0) (0 : Int64) (7 : Int64))
theorem fbX11_isPicture (x0 : Int32) : narrow .boolean (.int (fX11_isPicture x0)) = .int (fX11_isPicture x0) := by
  unfold fX11_isPicture
  repeat' split
  all_goals first | with_reducible rfl | with_reducible exact fbX11_in _ _ _ | rfl
def fX11_at (x0 : Int32) (x1 : Int32) : Int32 :=
  (((8 : Int32) * x0) + x1)
def FX11_stone_94 (x1 : Int32) (v_stones : Int32) (v_thick : Nat → Int32) (v_hollow : Nat → Int32) (v_damp : Nat → Int32) (v_fresh : Nat → Int32) (v_pulls : Nat → Int32) (k94 : (Int32) → (Nat → Int32) → Option (Int32 × Int32 × (Nat → Int32) × (Nat → Int32) × (Nat → Int32) × (Nat → Int32) × (Nat → Int32) × (Nat → Int32))) (x5 : Int32) (v_fats : Nat → Int32) : Option (Int32 × Int32 × (Nat → Int32) × (Nat → Int32) × (Nat → Int32) × (Nat → Int32) × (Nat → Int32) × (Nat → Int32)) :=
  if (8 : Int32) ≤ x5 then
    lt_ (v_stones ||| ((1 : Int32) <<< (x1 &&& 31))) fun v_7 =>
    Option.bind (fX11_ones v_7) fun v_8 =>
    some (v_8, v_7, v_thick, v_hollow, v_damp, v_fresh, v_pulls, v_fats)
  else
    gd ((fX11_at x1 x5) < 0 ∨ 40 ≤ Int32.toNatClampNeg (fX11_at x1 x5)) <|
    lt_ (x5 + (1 : Int32)) fun v_10 =>
    k94 v_10 (upd v_fats (Int32.toNatClampNeg (fX11_at x1 x5)) (0 : Int32))
def LX11_stone_94 (x1 : Int32) (v_stones : Int32) (v_thick : Nat → Int32) (v_hollow : Nat → Int32) (v_damp : Nat → Int32) (v_fresh : Nat → Int32) (v_pulls : Nat → Int32) (n : Nat) : (Int32) → (Nat → Int32) → Option (Int32 × Int32 × (Nat → Int32) × (Nat → Int32) × (Nat → Int32) × (Nat → Int32) × (Nat → Int32) × (Nat → Int32)) := Nat.rec (fun _ _ => none) (fun _ k => FX11_stone_94 x1 v_stones v_thick v_hollow v_damp v_fresh v_pulls k) n
def fX11_stone (x1 : Int32) (x2 : Int32) (x3 : Int32) (x4 : Int32) (v_stones : Int32) (v_thick : Nat → Int32) (v_hollow : Nat → Int32) (v_damp : Nat → Int32) (v_fresh : Nat → Int32) (v_pulls : Nat → Int32) (v_fats : Nat → Int32) : Option (Int32 × Int32 × (Nat → Int32) × (Nat → Int32) × (Nat → Int32) × (Nat → Int32) × (Nat → Int32) × (Nat → Int32)) :=
  if (fX11_in (Int32.toInt64 x1) (0 : Int64) (4 : Int64)) = 0 then
    some ((-1 : Int32), v_stones, v_thick, v_hollow, v_damp, v_fresh, v_pulls, v_fats)
  else
    if (fX11_in (Int32.toInt64 x2) (0 : Int64) (9999 : Int64)) = 0 then
      some ((-2 : Int32), v_stones, v_thick, v_hollow, v_damp, v_fresh, v_pulls, v_fats)
    else
      if (fX11_in (Int32.toInt64 x3) (0 : Int64) (99 : Int64)) = 0 then
        some ((-2 : Int32), v_stones, v_thick, v_hollow, v_damp, v_fresh, v_pulls, v_fats)
      else
        if (fX11_in (Int32.toInt64 x4) (0 : Int64) (20 : Int64)) = 0 then
          some ((-2 : Int32), v_stones, v_thick, v_hollow, v_damp, v_fresh, v_pulls, v_fats)
        else
          gd (x1 < 0 ∨ 5 ≤ Int32.toNatClampNeg x1) <|
          LX11_stone_94 x1 v_stones (upd v_thick (Int32.toNatClampNeg x1) x2) (upd v_hollow (Int32.toNatClampNeg x1) x3) (upd v_damp (Int32.toNatClampNeg x1) x4) (upd v_fresh (Int32.toNatClampNeg x1) (-6 : Int32)) (upd v_pulls (Int32.toNatClampNeg x1) (0 : Int32)) 2000 (0 : Int32) v_fats
def fX11_smash (x1 : Int32) (v_stones : Int32) : Option (Int32 × Int32) :=
  if (fX11_isStone x1 v_stones) = 0 then
    some ((-1 : Int32), v_stones)
  else
    lt_ (v_stones &&& (((1 : Int32) <<< (x1 &&& 31)) ^^^ (-1 : Int32))) fun v_2 =>
    Option.bind (fX11_ones v_2) fun v_3 =>
    some (v_3, v_2)
def fX11_picture (x1 : Int32) (x2 : Int32) (x3 : Int32) (x4 : Int32) (v_deep : Nat → Int32) (v_fine : Nat → Int32) (v_pay : Nat → Int32) : Option (Int32 × (Nat → Int32) × (Nat → Int32) × (Nat → Int32)) :=
  if (fX11_isPicture x1) = 0 then
    some ((-1 : Int32), v_deep, v_fine, v_pay)
  else
    if (fX11_in (Int32.toInt64 x2) (1 : Int64) (60 : Int64)) = 0 then
      some ((-2 : Int32), v_deep, v_fine, v_pay)
    else
      if (fX11_in (Int32.toInt64 x3) (1 : Int64) (9 : Int64)) = 0 then
        some ((-2 : Int32), v_deep, v_fine, v_pay)
      else
        if (fX11_in (Int32.toInt64 x4) (0 : Int64) (999 : Int64)) = 0 then
          some ((-2 : Int32), v_deep, v_fine, v_pay)
        else
          gd (x1 < 0 ∨ 8 ≤ Int32.toNatClampNeg x1) <|
          lt_ (v_deep (Int32.toNatClampNeg x1)) fun v_6 =>
          some (v_6, (upd v_deep (Int32.toNatClampNeg x1) x2), (upd v_fine (Int32.toNatClampNeg x1) x3), (upd v_pay (Int32.toNatClampNeg x1) x4))
def fX11_set_50 (x1 : Int32) (x2 : Int32) (s0 : Int32) (v_flat : Int32) (v_leastThick : Int32) : Int32 × Int32 × Int32 :=
  if x1 = 0 then
    if x1 = (1 : Int32) then
      (s0, x2, x2)
    else
      (s0, x2, v_leastThick)
  else
    if x1 = (1 : Int32) then
      (s0, v_flat, x2)
    else
      (s0, v_flat, v_leastThick)
def fX11_set (x1 : Int32) (x2 : Int32) (v_flat : Int32) (v_leastThick : Int32) : Int32 × Int32 × Int32 :=
  if (fX11_in (Int32.toInt64 x1) (0 : Int64) (1 : Int64)) = 0 then
    ((-2 : Int32), v_flat, v_leastThick)
  else
    if x1 = 0 then
      if (fX11_in (Int32.toInt64 x2) (0 : Int64) (99 : Int64)) = 0 then
        ((-2 : Int32), v_flat, v_leastThick)
      else
        if x1 = 0 then
          fX11_set_50 x1 x2 v_flat v_flat v_leastThick
        else
          fX11_set_50 x1 x2 v_leastThick v_flat v_leastThick
    else
      if (fX11_in (Int32.toInt64 x2) (0 : Int64) (9999 : Int64)) = 0 then
        ((-2 : Int32), v_flat, v_leastThick)
      else
        if x1 = 0 then
          fX11_set_50 x1 x2 v_flat v_flat v_leastThick
        else
          fX11_set_50 x1 x2 v_leastThick v_flat v_leastThick
def fX11_hairs (x1 : Int32) (x2 : Int32) (v_hair : Nat → Int32) : Option (Int32 × (Nat → Int32)) :=
  if (fX11_in (Int32.toInt64 x1) (0 : Int64) (5 : Int64)) = 0 then
    some ((-2 : Int32), v_hair)
  else
    if (fX11_in (Int32.toInt64 x2) (-9 : Int64) (9 : Int64)) = 0 then
      some ((-2 : Int32), v_hair)
    else
      gd (x1 < 0 ∨ 6 ≤ Int32.toNatClampNeg x1) <|
      lt_ (v_hair (Int32.toNatClampNeg x1)) fun v_4 =>
      some ((v_4 + (9 : Int32)), (upd v_hair (Int32.toNatClampNeg x1) x2))
def fX11_say (x1 : Int32) (v_padMany : Int32) (v_pad : Nat → Int32) : Option (Int32 × Int32 × (Nat → Int32)) :=
  if (fX11_in (Int32.toInt64 x1) (33 : Int64) (126 : Int64)) = 0 then
    some ((-2 : Int32), v_padMany, v_pad)
  else
    if v_padMany = (60 : Int32) then
      some ((-4 : Int32), v_padMany, v_pad)
    else
      gd (v_padMany < 0 ∨ 60 ≤ Int32.toNatClampNeg v_padMany) <|
      lt_ (v_padMany + (1 : Int32)) fun v_4 =>
      some (v_4, v_4, (upd v_pad (Int32.toNatClampNeg v_padMany) x1))
def fX11_wipe (v_padMany : Int32) : Int32 × Int32 :=
  (v_padMany, (0 : Int32))
def fX11_stoneOf (x0 : Int32) : Int32 :=
  if (fX11_in (Int32.toInt64 x0) (97 : Int64) (101 : Int64)) = 0 then
    (-6 : Int32)
  else
    (x0 - (97 : Int32))
def fX11_close (x1 : Int32) (x2 : Int32) (v_acts : Int32) (v_act : Nat → Int32) (v_much : Nat → Int32) : Option (Int32 × Int32 × (Nat → Int32) × (Nat → Int32)) :=
  gd (v_acts < 0 ∨ 60 ≤ Int32.toNatClampNeg v_acts) <|
  lt_ (v_acts + (1 : Int32)) fun v_2 =>
  some ((0 : Int32), v_2, (upd v_act (Int32.toNatClampNeg v_acts) x1), (upd v_much (Int32.toNatClampNeg v_acts) x2))
def fX11_readOn_169 (x2 : Int32) (s1 : Int32) (s2 : Int32) (v_acts : Int32) (v_act : Nat → Int32) (v_much : Nat → Int32) (v_where : Nat → Int32) : Option (Int32 × Int32 × (Nat → Int32) × (Nat → Int32) × (Nat → Int32)) :=
  gd (s1 < 0 ∨ 60 ≤ Int32.toNatClampNeg s1) <|
  if x2 = (43 : Int32) then
    some ((3 : Int32), v_acts, (upd v_act (Int32.toNatClampNeg s1) s2), v_much, v_where)
  else
    if x2 = (111 : Int32) then
      some ((2 : Int32), v_acts, (upd v_act (Int32.toNatClampNeg s1) s2), v_much, v_where)
    else
      if x2 = (120 : Int32) then
        some ((2 : Int32), v_acts, (upd v_act (Int32.toNatClampNeg s1) s2), v_much, v_where)
      else
        if x2 = (119 : Int32) then
          some ((2 : Int32), v_acts, (upd v_act (Int32.toNatClampNeg s1) s2), v_much, v_where)
        else
          some ((-6 : Int32), v_acts, (upd v_act (Int32.toNatClampNeg s1) s2), v_much, v_where)
def fX11_readOn (x1 : Int32) (x2 : Int32) (v_acts : Int32) (v_act : Nat → Int32) (v_much : Nat → Int32) (v_where : Nat → Int32) : Option (Int32 × Int32 × (Nat → Int32) × (Nat → Int32) × (Nat → Int32)) :=
  lt_ (fX11_in (Int32.toInt64 x2) (49 : Int64) (57 : Int64)) fun v_1 =>
  if x1 = 0 then
    lt_ (fX11_stoneOf x2) fun v_21 =>
    gd (v_acts < 0 ∨ 60 ≤ Int32.toNatClampNeg v_acts) <|
    if 0 ≤ (fX11_stoneOf x2) then
      some ((1 : Int32), v_acts, v_act, v_much, (upd v_where (Int32.toNatClampNeg v_acts) v_21))
    else
      some ((-6 : Int32), v_acts, v_act, v_much, (upd v_where (Int32.toNatClampNeg v_acts) v_21))
  else
    if x1 = (2 : Int32) then
      if v_1 = 0 then
        some ((-6 : Int32), v_acts, v_act, v_much, v_where)
      else
        gd (v_acts < 0 ∨ 60 ≤ Int32.toNatClampNeg v_acts) <|
        Option.bind (fX11_close (v_act (Int32.toNatClampNeg v_acts)) (x2 - (48 : Int32)) v_acts v_act v_much) fun v_20 =>
        some (v_20.1, v_20.2.1, v_20.2.2.1, v_20.2.2.2, v_where)
    else
      if x1 = (3 : Int32) then
        if 0 ≤ (fX11_stoneOf x2) then
          Option.bind (fX11_close (5 : Int32) (x2 - (97 : Int32)) v_acts v_act v_much) fun v_17 =>
          some (v_17.1, v_17.2.1, v_17.2.2.1, v_17.2.2.2, v_where)
        else
          some ((-6 : Int32), v_acts, v_act, v_much, v_where)
      else
        if v_1 = 0 then
          if (fX11_in (Int32.toInt64 x2) (65 : Int64) (72 : Int64)) = 0 then
            if x2 = (111 : Int32) then
              fX11_readOn_169 x2 v_acts (1 : Int32) v_acts v_act v_much v_where
            else
              if x2 = (120 : Int32) then
                fX11_readOn_169 x2 v_acts (2 : Int32) v_acts v_act v_much v_where
              else
                fX11_readOn_169 x2 v_acts (3 : Int32) v_acts v_act v_much v_where
          else
            Option.bind (fX11_close (0 : Int32) (x2 - (65 : Int32)) v_acts v_act v_much) fun v_14 =>
            some (v_14.1, v_14.2.1, v_14.2.2.1, v_14.2.2.2, v_where)
        else
          Option.bind (fX11_close (4 : Int32) (x2 - (48 : Int32)) v_acts v_act v_much) fun v_15 =>
          some (v_15.1, v_15.2.1, v_15.2.2.1, v_15.2.2.2, v_where)
def FX11_fault_9 (v_padMany : Int32) (v_pad : Nat → Int32) (k9 : (Int32) → (Int32) → (Int32) → (Nat → Int32) → (Nat → Int32) → (Nat → Int32) → Option (Int32 × Int32 × (Nat → Int32) × (Nat → Int32) × (Nat → Int32))) (x1 : Int32) (x2 : Int32) (v_acts : Int32) (v_act : Nat → Int32) (v_much : Nat → Int32) (v_where : Nat → Int32) : Option (Int32 × Int32 × (Nat → Int32) × (Nat → Int32) × (Nat → Int32)) :=
  if v_padMany ≤ x2 then
    if x1 = 0 then
      some ((-6 : Int32), v_acts, v_act, v_much, v_where)
    else
      some (v_padMany, v_acts, v_act, v_much, v_where)
  else
    gd (x2 < 0 ∨ 60 ≤ Int32.toNatClampNeg x2) <|
    Option.bind (fX11_readOn x1 (v_pad (Int32.toNatClampNeg x2)) v_acts v_act v_much v_where) fun v_4 =>
    if 0 ≤ v_4.1 then
      lt_ (x2 + (1 : Int32)) fun v_6 =>
      k9 v_4.1 v_6 v_4.2.1 v_4.2.2.1 v_4.2.2.2.1 v_4.2.2.2.2
    else
      some (x2, v_4.2.1, v_4.2.2.1, v_4.2.2.2.1, v_4.2.2.2.2)
def LX11_fault_9 (v_padMany : Int32) (v_pad : Nat → Int32) (n : Nat) : (Int32) → (Int32) → (Int32) → (Nat → Int32) → (Nat → Int32) → (Nat → Int32) → Option (Int32 × Int32 × (Nat → Int32) × (Nat → Int32) × (Nat → Int32)) := Nat.rec (fun _ _ _ _ _ _ => none) (fun _ k => FX11_fault_9 v_padMany v_pad k) n
def fX11_fault (v_padMany : Int32) (v_pad : Nat → Int32) (v_act : Nat → Int32) (v_much : Nat → Int32) (v_where : Nat → Int32) : Option (Int32 × Int32 × (Nat → Int32) × (Nat → Int32) × (Nat → Int32)) :=
  LX11_fault_9 v_padMany v_pad 2000 (0 : Int32) (0 : Int32) (0 : Int32) v_act v_much v_where
def fX11_whyNot_41 (x1 : Int32) (x2 : Int32) (x3 : Int32) (s0 : Int32) (v_leastThick : Int32) (v_thick : Nat → Int32) (v_fresh : Nat → Int32) : Option (Int32) :=
  if x1 = (0 : Int32) then
    gd (x2 < 0 ∨ 5 ≤ Int32.toNatClampNeg x2) <|
    if (v_fresh (Int32.toNatClampNeg x2)) < 0 then
      if s0 = 0 then
        some (0 : Int32)
      else
        some (5 : Int32)
    else
      some (3 : Int32)
  else
    if x1 = (1 : Int32) then
      gd (x2 < 0 ∨ 5 ≤ Int32.toNatClampNeg x2) <|
      if v_leastThick ≤ ((v_thick (Int32.toNatClampNeg x2)) - ((3 : Int32) * x3)) then
        some (0 : Int32)
      else
        some (6 : Int32)
    else
      if x1 = (2 : Int32) then
        gd (x2 < 0 ∨ 5 ≤ Int32.toNatClampNeg x2) <|
        if v_leastThick ≤ ((v_thick (Int32.toNatClampNeg x2)) - ((3 : Int32) * x3)) then
          some (0 : Int32)
        else
          some (6 : Int32)
      else
        if x1 = (3 : Int32) then
          some (0 : Int32)
        else
          if x1 = (4 : Int32) then
            gd (x2 < 0 ∨ 5 ≤ Int32.toNatClampNeg x2) <|
            if 0 ≤ (v_fresh (Int32.toNatClampNeg x2)) then
              if s0 = 0 then
                if v_leastThick ≤ (v_thick (Int32.toNatClampNeg x2)) then
                  some (0 : Int32)
                else
                  some (6 : Int32)
              else
                some (5 : Int32)
            else
              some (4 : Int32)
          else
            if x1 = (5 : Int32) then
              if x2 = x3 then
                some (2 : Int32)
              else
                some (0 : Int32)
            else
              gd (x2 < 0 ∨ 5 ≤ Int32.toNatClampNeg x2) <|
              if v_leastThick ≤ ((v_thick (Int32.toNatClampNeg x2)) - ((3 : Int32) * x3)) then
                some (0 : Int32)
              else
                some (6 : Int32)
def fX11_whyNot (x1 : Int32) (x2 : Int32) (x3 : Int32) (v_stones : Int32) (v_flat : Int32) (v_leastThick : Int32) (v_hollow : Nat → Int32) (v_thick : Nat → Int32) (v_fresh : Nat → Int32) : Option (Int32) :=
  if (fX11_isStone x2 v_stones) = 0 then
    some (1 : Int32)
  else
    if x1 = (5 : Int32) then
      if (fX11_isStone x3 v_stones) = 0 then
        some (1 : Int32)
      else
        gd (x2 < 0 ∨ 5 ≤ Int32.toNatClampNeg x2) <|
        if (v_hollow (Int32.toNatClampNeg x2)) ≤ v_flat then
          fX11_whyNot_41 x1 x2 x3 (0 : Int32) v_leastThick v_thick v_fresh
        else
          fX11_whyNot_41 x1 x2 x3 (1 : Int32) v_leastThick v_thick v_fresh
    else
      gd (x2 < 0 ∨ 5 ≤ Int32.toNatClampNeg x2) <|
      if (v_hollow (Int32.toNatClampNeg x2)) ≤ v_flat then
        fX11_whyNot_41 x1 x2 x3 (0 : Int32) v_leastThick v_thick v_fresh
      else
        fX11_whyNot_41 x1 x2 x3 (1 : Int32) v_leastThick v_thick v_fresh
def fX11_wearOf (x1 : Int32) (v_fine : Nat → Int32) : Option (Int32) :=
  gd (x1 < 0 ∨ 8 ≤ Int32.toNatClampNeg x1) <|
  some (((v_fine (Int32.toNatClampNeg x1)) / (3 : Int32)) + (1 : Int32))
def fX11_ghostOn_65 (x3 : Int32) (x4 : Int32) (k6 : (Int32) → (Int32) → Option (Int32)) : Option (Int32) :=
  lt_ (x4 + (1 : Int32)) fun v_4 =>
  k6 x3 v_4
def FX11_ghostOn_6 (x1 : Int32) (x2 : Int32) (v_fats : Nat → Int32) (k6 : (Int32) → (Int32) → Option (Int32)) (x3 : Int32) (x4 : Int32) : Option (Int32) :=
  if (8 : Int32) ≤ x4 then
    some x3
  else
    if x4 = x2 then
      fX11_ghostOn_65 x3 x4 k6
    else
      gd ((fX11_at x1 x4) < 0 ∨ 40 ≤ Int32.toNatClampNeg (fX11_at x1 x4)) <|
      if (v_fats (Int32.toNatClampNeg (fX11_at x1 x4))) ≤ 0 then
        fX11_ghostOn_65 x3 x4 k6
      else
        if x3 < 0 then
          lt_ (x4 + (1 : Int32)) fun v_9 =>
          k6 x4 v_9
        else
          gd ((fX11_at x1 x3) < 0 ∨ 40 ≤ Int32.toNatClampNeg (fX11_at x1 x3)) <|
          if (v_fats (Int32.toNatClampNeg (fX11_at x1 x4))) ≤ (v_fats (Int32.toNatClampNeg (fX11_at x1 x3))) then
            fX11_ghostOn_65 x3 x4 k6
          else
            lt_ (x4 + (1 : Int32)) fun v_13 =>
            k6 x4 v_13
def LX11_ghostOn_6 (x1 : Int32) (x2 : Int32) (v_fats : Nat → Int32) (n : Nat) : (Int32) → (Int32) → Option (Int32) := Nat.rec (fun _ _ => none) (fun _ k => FX11_ghostOn_6 x1 x2 v_fats k) n
def fX11_ghostOn (x1 : Int32) (x2 : Int32) (v_fats : Nat → Int32) : Option (Int32) :=
  LX11_ghostOn_6 x1 x2 v_fats 2000 (-6 : Int32) (0 : Int32)
def fX11_ghostFat (x1 : Int32) (x2 : Int32) (v_fats : Nat → Int32) : Option (Int32) :=
  Option.bind (fX11_ghostOn x1 x2 v_fats) fun v_1 =>
  if 0 ≤ v_1 then
    gd ((fX11_at x1 v_1) < 0 ∨ 40 ≤ Int32.toNatClampNeg (fX11_at x1 v_1)) <|
    some (v_fats (Int32.toNatClampNeg (fX11_at x1 v_1)))
  else
    some (0 : Int32)
def fX11_pullOnce_157 (x1 : Int32) (x2 : Int32) (x3 : Int32) (v_pulled : Int32) (v_skyPull : Int32) (v_skyWhose : Int32) (v_damp : Nat → Int32) (v_pulls : Nat → Int32) (v_fats : Nat → Int32) (v_kindMany : Nat → Int32) : Option (Int32 × Int32 × Int32 × (Nat → Int32) × (Nat → Int32) × (Nat → Int32) × (Nat → Int32)) :=
  lt_ (v_pulled + (1 : Int32)) fun v_13 =>
  gd (x3 < 0 ∨ 5 ≤ Int32.toNatClampNeg x3) <|
  lt_ ((v_kindMany (Int32.toNatClampNeg x3)) + (1 : Int32)) fun v_15 =>
  if x3 = (3 : Int32) then
    if 0 ≤ v_skyPull then
      some (v_13, v_skyPull, v_skyWhose, v_damp, v_pulls, v_fats, (upd v_kindMany (Int32.toNatClampNeg x3) v_15))
    else
      Option.bind (fX11_ghostOn x1 x2 v_fats) fun v_18 =>
      some (v_13, v_13, v_18, v_damp, v_pulls, v_fats, (upd v_kindMany (Int32.toNatClampNeg x3) v_15))
  else
    some (v_13, v_skyPull, v_skyWhose, v_damp, v_pulls, v_fats, (upd v_kindMany (Int32.toNatClampNeg x3) v_15))
def fX11_pullOnce_116 (x1 : Int32) (x2 : Int32) (x3 : Int32) (x4 : Int32) (s1 : Int32) (s2 : Int32) (v_pulled : Int32) (v_skyPull : Int32) (v_skyWhose : Int32) (v_damp : Nat → Int32) (v_pulls : Nat → Int32) (v_fats : Nat → Int32) (v_kindMany : Nat → Int32) : Option (Int32 × Int32 × Int32 × (Nat → Int32) × (Nat → Int32) × (Nat → Int32) × (Nat → Int32)) :=
  gd (s1 < 0 ∨ 40 ≤ Int32.toNatClampNeg s1) <|
  if x3 = 0 then
    Option.bind (fX11_ghostFat x1 x2 (upd v_fats (Int32.toNatClampNeg s1) s2)) fun v_19 =>
    gd (x4 < 0 ∨ 40 ≤ Int32.toNatClampNeg x4) <|
    if v_19 ≤ ((upd v_fats (Int32.toNatClampNeg s1) s2) (Int32.toNatClampNeg x4)) then
      if ((upd v_fats (Int32.toNatClampNeg s1) s2) (Int32.toNatClampNeg x4)) = 0 then
        fX11_pullOnce_157 x1 x2 (4 : Int32) v_pulled v_skyPull v_skyWhose v_damp v_pulls (upd v_fats (Int32.toNatClampNeg s1) s2) v_kindMany
      else
        fX11_pullOnce_157 x1 x2 (0 : Int32) v_pulled v_skyPull v_skyWhose v_damp v_pulls (upd v_fats (Int32.toNatClampNeg s1) s2) v_kindMany
    else
      fX11_pullOnce_157 x1 x2 (3 : Int32) v_pulled v_skyPull v_skyWhose v_damp v_pulls (upd v_fats (Int32.toNatClampNeg s1) s2) v_kindMany
  else
    fX11_pullOnce_157 x1 x2 x3 v_pulled v_skyPull v_skyWhose v_damp v_pulls (upd v_fats (Int32.toNatClampNeg s1) s2) v_kindMany
def fX11_pullOnce_37 (x1 : Int32) (x2 : Int32) (s0 : Int32) (v_pulled : Int32) (v_skyPull : Int32) (v_skyWhose : Int32) (v_damp : Nat → Int32) (v_pulls : Nat → Int32) (v_fats : Nat → Int32) (v_kindMany : Nat → Int32) (v_fine : Nat → Int32) : Option (Int32 × Int32 × Int32 × (Nat → Int32) × (Nat → Int32) × (Nat → Int32) × (Nat → Int32)) :=
  gd (x1 < 0 ∨ 5 ≤ Int32.toNatClampNeg x1) <|
  lt_ (fX11_notBelow0 ((v_damp (Int32.toNatClampNeg x1)) - (1 : Int32))) fun v_6 =>
  lt_ ((v_pulls (Int32.toNatClampNeg x1)) + (1 : Int32)) fun v_7 =>
  lt_ (fX11_at x1 x2) fun v_8 =>
  if (((upd v_pulls (Int32.toNatClampNeg x1) v_7) (Int32.toNatClampNeg x1)) - ((upd v_pulls (Int32.toNatClampNeg x1) v_7) (Int32.toNatClampNeg x1)) / (10 : Int32) * (10 : Int32)) = 0 then
    gd (v_8 < 0 ∨ 40 ≤ Int32.toNatClampNeg v_8) <|
    Option.bind (fX11_wearOf x2 v_fine) fun v_24 =>
    fX11_pullOnce_116 x1 x2 s0 v_8 v_8 (fX11_notBelow0 ((v_fats (Int32.toNatClampNeg v_8)) - v_24)) v_pulled v_skyPull v_skyWhose (upd v_damp (Int32.toNatClampNeg x1) v_6) (upd v_pulls (Int32.toNatClampNeg x1) v_7) v_fats v_kindMany
  else
    gd (v_8 < 0 ∨ 40 ≤ Int32.toNatClampNeg v_8) <|
    fX11_pullOnce_116 x1 x2 s0 v_8 v_8 (v_fats (Int32.toNatClampNeg v_8)) v_pulled v_skyPull v_skyWhose (upd v_damp (Int32.toNatClampNeg x1) v_6) (upd v_pulls (Int32.toNatClampNeg x1) v_7) v_fats v_kindMany
def fX11_pullOnce (x1 : Int32) (v_pulled : Int32) (v_skyPull : Int32) (v_skyWhose : Int32) (v_fresh : Nat → Int32) (v_damp : Nat → Int32) (v_pulls : Nat → Int32) (v_fats : Nat → Int32) (v_kindMany : Nat → Int32) (v_fine : Nat → Int32) : Option (Int32 × Int32 × Int32 × (Nat → Int32) × (Nat → Int32) × (Nat → Int32) × (Nat → Int32)) :=
  gd (x1 < 0 ∨ 5 ≤ Int32.toNatClampNeg x1) <|
  lt_ (v_fresh (Int32.toNatClampNeg x1)) fun v_2 =>
  if (3 : Int32) < (v_damp (Int32.toNatClampNeg x1)) then
    if (v_damp (Int32.toNatClampNeg x1)) < (15 : Int32) then
      fX11_pullOnce_37 x1 v_2 (0 : Int32) v_pulled v_skyPull v_skyWhose v_damp v_pulls v_fats v_kindMany v_fine
    else
      fX11_pullOnce_37 x1 v_2 (2 : Int32) v_pulled v_skyPull v_skyWhose v_damp v_pulls v_fats v_kindMany v_fine
  else
    fX11_pullOnce_37 x1 v_2 (1 : Int32) v_pulled v_skyPull v_skyWhose v_damp v_pulls v_fats v_kindMany v_fine
def FX11_grindFor_30 (x1 : Int32) (x2 : Int32) (x3 : Int32) (v_thick : Nat → Int32) (v_fresh : Nat → Int32) (v_pulls : Nat → Int32) (v_hollow : Nat → Int32) (k30 : (Int32) → (Nat → Int32) → Option ((Nat → Int32) × (Nat → Int32) × (Nat → Int32) × (Nat → Int32) × (Nat → Int32))) (x4 : Int32) (v_fats : Nat → Int32) : Option ((Nat → Int32) × (Nat → Int32) × (Nat → Int32) × (Nat → Int32) × (Nat → Int32)) :=
  if (8 : Int32) ≤ x4 then
    gd (x2 < 0 ∨ 5 ≤ Int32.toNatClampNeg x2) <|
    if x1 = (1 : Int32) then
      lt_ ((v_hollow (Int32.toNatClampNeg x2)) + ((2 : Int32) * x3)) fun v_9 =>
      if v_9 ≤ (99 : Int32) then
        lt_ (fX11_notBelow0 v_9) fun v_11 =>
        some (v_thick, v_fresh, v_pulls, (upd v_hollow (Int32.toNatClampNeg x2) v_11), v_fats)
      else
        some (v_thick, v_fresh, v_pulls, (upd v_hollow (Int32.toNatClampNeg x2) (99 : Int32)), v_fats)
    else
      lt_ ((v_hollow (Int32.toNatClampNeg x2)) + (-x3)) fun v_6 =>
      if v_6 ≤ (99 : Int32) then
        lt_ (fX11_notBelow0 v_6) fun v_8 =>
        some (v_thick, v_fresh, v_pulls, (upd v_hollow (Int32.toNatClampNeg x2) v_8), v_fats)
      else
        some (v_thick, v_fresh, v_pulls, (upd v_hollow (Int32.toNatClampNeg x2) (99 : Int32)), v_fats)
  else
    gd ((fX11_at x2 x4) < 0 ∨ 40 ≤ Int32.toNatClampNeg (fX11_at x2 x4)) <|
    lt_ (fX11_notBelow0 ((v_fats (Int32.toNatClampNeg (fX11_at x2 x4))) - ((3 : Int32) * x3))) fun v_13 =>
    lt_ (x4 + (1 : Int32)) fun v_14 =>
    k30 v_14 (upd v_fats (Int32.toNatClampNeg (fX11_at x2 x4)) v_13)
def LX11_grindFor_30 (x1 : Int32) (x2 : Int32) (x3 : Int32) (v_thick : Nat → Int32) (v_fresh : Nat → Int32) (v_pulls : Nat → Int32) (v_hollow : Nat → Int32) (n : Nat) : (Int32) → (Nat → Int32) → Option ((Nat → Int32) × (Nat → Int32) × (Nat → Int32) × (Nat → Int32) × (Nat → Int32)) := Nat.rec (fun _ _ => none) (fun _ k => FX11_grindFor_30 x1 x2 x3 v_thick v_fresh v_pulls v_hollow k) n
def fX11_grindFor (x1 : Int32) (x2 : Int32) (x3 : Int32) (v_thick : Nat → Int32) (v_fresh : Nat → Int32) (v_pulls : Nat → Int32) (v_hollow : Nat → Int32) (v_fats : Nat → Int32) : Option ((Nat → Int32) × (Nat → Int32) × (Nat → Int32) × (Nat → Int32) × (Nat → Int32)) :=
  gd (x2 < 0 ∨ 5 ≤ Int32.toNatClampNeg x2) <|
  lt_ ((v_thick (Int32.toNatClampNeg x2)) - ((3 : Int32) * x3)) fun v_2 =>
  LX11_grindFor_30 x1 x2 x3 (upd v_thick (Int32.toNatClampNeg x2) v_2) (upd v_fresh (Int32.toNatClampNeg x2) (-6 : Int32)) (upd v_pulls (Int32.toNatClampNeg x2) (0 : Int32)) v_hollow 2000 (0 : Int32) v_fats
def FX11_happen_111 (x2 : Int32) (x3 : Int32) (v_stones : Int32) (v_thick : Nat → Int32) (v_fresh : Nat → Int32) (v_hollow : Nat → Int32) (v_fine : Nat → Int32) (k111 : (Int32) → (Int32) → (Int32) → (Int32) → (Nat → Int32) → (Nat → Int32) → (Nat → Int32) → (Nat → Int32) → Option (Int32 × Int32 × Int32 × Int32 × (Nat → Int32) × (Nat → Int32) × (Nat → Int32) × (Nat → Int32) × (Nat → Int32) × (Nat → Int32) × (Nat → Int32))) (x4 : Int32) (v_pulled : Int32) (v_skyPull : Int32) (v_skyWhose : Int32) (v_pulls : Nat → Int32) (v_fats : Nat → Int32) (v_damp : Nat → Int32) (v_kindMany : Nat → Int32) : Option (Int32 × Int32 × Int32 × Int32 × (Nat → Int32) × (Nat → Int32) × (Nat → Int32) × (Nat → Int32) × (Nat → Int32) × (Nat → Int32) × (Nat → Int32)) :=
  if x3 ≤ x4 then
    some (v_pulled, v_skyPull, v_skyWhose, v_stones, v_thick, v_fresh, v_pulls, v_hollow, v_fats, v_damp, v_kindMany)
  else
    Option.bind (fX11_pullOnce x2 v_pulled v_skyPull v_skyWhose v_fresh v_damp v_pulls v_fats v_kindMany v_fine) fun v_16 =>
    lt_ (x4 + (1 : Int32)) fun v_17 =>
    k111 v_17 v_16.1 v_16.2.1 v_16.2.2.1 v_16.2.2.2.2.1 v_16.2.2.2.2.2.1 v_16.2.2.2.1 v_16.2.2.2.2.2.2
def LX11_happen_111 (x2 : Int32) (x3 : Int32) (v_stones : Int32) (v_thick : Nat → Int32) (v_fresh : Nat → Int32) (v_hollow : Nat → Int32) (v_fine : Nat → Int32) (n : Nat) : (Int32) → (Int32) → (Int32) → (Int32) → (Nat → Int32) → (Nat → Int32) → (Nat → Int32) → (Nat → Int32) → Option (Int32 × Int32 × Int32 × Int32 × (Nat → Int32) × (Nat → Int32) × (Nat → Int32) × (Nat → Int32) × (Nat → Int32) × (Nat → Int32) × (Nat → Int32)) := Nat.rec (fun _ _ _ _ _ _ _ _ => none) (fun _ k => FX11_happen_111 x2 x3 v_stones v_thick v_fresh v_hollow v_fine k) n
def fX11_happen (x1 : Int32) (x2 : Int32) (x3 : Int32) (v_stones : Int32) (v_pulled : Int32) (v_skyPull : Int32) (v_skyWhose : Int32) (v_thick : Nat → Int32) (v_fresh : Nat → Int32) (v_pulls : Nat → Int32) (v_hollow : Nat → Int32) (v_fats : Nat → Int32) (v_damp : Nat → Int32) (v_kindMany : Nat → Int32) (v_fine : Nat → Int32) (v_deep : Nat → Int32) : Option (Int32 × Int32 × Int32 × Int32 × (Nat → Int32) × (Nat → Int32) × (Nat → Int32) × (Nat → Int32) × (Nat → Int32) × (Nat → Int32) × (Nat → Int32)) :=
  if x1 = (0 : Int32) then
    gd (x3 < 0 ∨ 8 ≤ Int32.toNatClampNeg x3) <|
    lt_ (v_deep (Int32.toNatClampNeg x3)) fun v_3 =>
    gd ((fX11_at x2 x3) < 0 ∨ 40 ≤ Int32.toNatClampNeg (fX11_at x2 x3)) <|
    gd (x2 < 0 ∨ 5 ≤ Int32.toNatClampNeg x2) <|
    some (v_pulled, v_skyPull, v_skyWhose, v_stones, v_thick, (upd v_fresh (Int32.toNatClampNeg x2) x3), (upd v_pulls (Int32.toNatClampNeg x2) (0 : Int32)), v_hollow, (upd v_fats (Int32.toNatClampNeg (fX11_at x2 x3)) v_3), v_damp, v_kindMany)
  else
    if x1 = (1 : Int32) then
      Option.bind (fX11_grindFor x1 x2 x3 v_thick v_fresh v_pulls v_hollow v_fats) fun v_7 =>
      some (v_pulled, v_skyPull, v_skyWhose, v_stones, v_7.1, v_7.2.1, v_7.2.2.1, v_7.2.2.2.1, v_7.2.2.2.2, v_damp, v_kindMany)
    else
      if x1 = (2 : Int32) then
        Option.bind (fX11_grindFor x1 x2 x3 v_thick v_fresh v_pulls v_hollow v_fats) fun v_9 =>
        some (v_pulled, v_skyPull, v_skyWhose, v_stones, v_9.1, v_9.2.1, v_9.2.2.1, v_9.2.2.2.1, v_9.2.2.2.2, v_damp, v_kindMany)
      else
        if x1 = (3 : Int32) then
          gd (x2 < 0 ∨ 5 ≤ Int32.toNatClampNeg x2) <|
          if ((v_damp (Int32.toNatClampNeg x2)) + x3) ≤ (20 : Int32) then
            lt_ ((v_damp (Int32.toNatClampNeg x2)) + x3) fun v_13 =>
            some (v_pulled, v_skyPull, v_skyWhose, v_stones, v_thick, v_fresh, v_pulls, v_hollow, v_fats, (upd v_damp (Int32.toNatClampNeg x2) v_13), v_kindMany)
          else
            some (v_pulled, v_skyPull, v_skyWhose, v_stones, v_thick, v_fresh, v_pulls, v_hollow, v_fats, (upd v_damp (Int32.toNatClampNeg x2) (20 : Int32)), v_kindMany)
        else
          if x1 = (4 : Int32) then
            LX11_happen_111 x2 x3 v_stones v_thick v_fresh v_hollow v_fine 2000 (0 : Int32) v_pulled v_skyPull v_skyWhose v_pulls v_fats v_damp v_kindMany
          else
            if x1 = (5 : Int32) then
              gd (x2 < 0 ∨ 5 ≤ Int32.toNatClampNeg x2) <|
              gd (x3 < 0 ∨ 5 ≤ Int32.toNatClampNeg x3) <|
              if ((v_thick (Int32.toNatClampNeg x2)) + (v_thick (Int32.toNatClampNeg x3))) ≤ (9999 : Int32) then
                lt_ ((v_thick (Int32.toNatClampNeg x2)) + (v_thick (Int32.toNatClampNeg x3))) fun v_22 =>
                lt_ (v_stones &&& (((1 : Int32) <<< (x3 &&& 31)) ^^^ (-1 : Int32))) fun v_23 =>
                some (v_pulled, v_skyPull, v_skyWhose, v_23, (upd v_thick (Int32.toNatClampNeg x2) v_22), v_fresh, v_pulls, v_hollow, v_fats, v_damp, v_kindMany)
              else
                lt_ (v_stones &&& (((1 : Int32) <<< (x3 &&& 31)) ^^^ (-1 : Int32))) fun v_24 =>
                some (v_pulled, v_skyPull, v_skyWhose, v_24, (upd v_thick (Int32.toNatClampNeg x2) (9999 : Int32)), v_fresh, v_pulls, v_hollow, v_fats, v_damp, v_kindMany)
            else
              Option.bind (fX11_grindFor x1 x2 x3 v_thick v_fresh v_pulls v_hollow v_fats) fun v_25 =>
              some (v_pulled, v_skyPull, v_skyWhose, v_stones, v_25.1, v_25.2.1, v_25.2.2.1, v_25.2.2.2.1, v_25.2.2.2.2, v_damp, v_kindMany)
def FX11_store_71 (v_stones : Int32) (v_fats : Nat → Int32) (k71 : (Int32) → (Nat → Int32) → Option ((Nat → Int32))) (x2 : Int32) (v_arg1 : Nat → Int32) : Option ((Nat → Int32)) :=
  if (40 : Int32) ≤ x2 then
    some (upd v_arg1 (Int32.toNatClampNeg (65 : Int32)) v_stones)
  else
    gd (x2 < 0 ∨ 40 ≤ Int32.toNatClampNeg x2) <|
    lt_ (v_fats (Int32.toNatClampNeg x2)) fun v_4 =>
    gd (((25 : Int32) + x2) < 0 ∨ 66 ≤ Int32.toNatClampNeg ((25 : Int32) + x2)) <|
    lt_ (x2 + (1 : Int32)) fun v_6 =>
    k71 v_6 (upd v_arg1 (Int32.toNatClampNeg ((25 : Int32) + x2)) v_4)
def LX11_store_71 (v_stones : Int32) (v_fats : Nat → Int32) (n : Nat) : (Int32) → (Nat → Int32) → Option ((Nat → Int32)) := Nat.rec (fun _ _ => none) (fun _ k => FX11_store_71 v_stones v_fats k) n
def FX11_store_2 (v_stones : Int32) (v_fats : Nat → Int32) (v_thick : Nat → Int32) (v_hollow : Nat → Int32) (v_damp : Nat → Int32) (v_fresh : Nat → Int32) (v_pulls : Nat → Int32) (k2 : (Int32) → (Nat → Int32) → Option ((Nat → Int32))) (x2 : Int32) (v_arg1 : Nat → Int32) : Option ((Nat → Int32)) :=
  if (5 : Int32) ≤ x2 then
    LX11_store_71 v_stones v_fats 2000 (0 : Int32) v_arg1
  else
    gd (x2 < 0 ∨ 5 ≤ Int32.toNatClampNeg x2) <|
    lt_ (v_thick (Int32.toNatClampNeg x2)) fun v_8 =>
    gd (x2 < 0 ∨ 66 ≤ Int32.toNatClampNeg x2) <|
    lt_ (v_hollow (Int32.toNatClampNeg x2)) fun v_10 =>
    gd (((5 : Int32) + x2) < 0 ∨ 66 ≤ Int32.toNatClampNeg ((5 : Int32) + x2)) <|
    lt_ (v_damp (Int32.toNatClampNeg x2)) fun v_12 =>
    gd (((10 : Int32) + x2) < 0 ∨ 66 ≤ Int32.toNatClampNeg ((10 : Int32) + x2)) <|
    lt_ (v_fresh (Int32.toNatClampNeg x2)) fun v_14 =>
    gd (((15 : Int32) + x2) < 0 ∨ 66 ≤ Int32.toNatClampNeg ((15 : Int32) + x2)) <|
    lt_ (v_pulls (Int32.toNatClampNeg x2)) fun v_16 =>
    gd (((20 : Int32) + x2) < 0 ∨ 66 ≤ Int32.toNatClampNeg ((20 : Int32) + x2)) <|
    lt_ (x2 + (1 : Int32)) fun v_18 =>
    k2 v_18 (upd (upd (upd (upd (upd v_arg1 (Int32.toNatClampNeg x2) v_8) (Int32.toNatClampNeg ((5 : Int32) + x2)) v_10) (Int32.toNatClampNeg ((10 : Int32) + x2)) v_12) (Int32.toNatClampNeg ((15 : Int32) + x2)) v_14) (Int32.toNatClampNeg ((20 : Int32) + x2)) v_16)
def LX11_store_2 (v_stones : Int32) (v_fats : Nat → Int32) (v_thick : Nat → Int32) (v_hollow : Nat → Int32) (v_damp : Nat → Int32) (v_fresh : Nat → Int32) (v_pulls : Nat → Int32) (n : Nat) : (Int32) → (Nat → Int32) → Option ((Nat → Int32)) := Nat.rec (fun _ _ => none) (fun _ k => FX11_store_2 v_stones v_fats v_thick v_hollow v_damp v_fresh v_pulls k) n
def fX11_store (v_stones : Int32) (v_fats : Nat → Int32) (v_thick : Nat → Int32) (v_hollow : Nat → Int32) (v_damp : Nat → Int32) (v_fresh : Nat → Int32) (v_pulls : Nat → Int32) (v_arg1 : Nat → Int32) : Option ((Nat → Int32)) :=
  LX11_store_2 v_stones v_fats v_thick v_hollow v_damp v_fresh v_pulls 2000 (0 : Int32) v_arg1
def FX11_putBack_86 (v_had : Nat → Int32) (v_thick : Nat → Int32) (v_hollow : Nat → Int32) (v_damp : Nat → Int32) (v_fresh : Nat → Int32) (v_pulls : Nat → Int32) (k86 : (Int32) → (Nat → Int32) → Option (Int32 × (Nat → Int32) × (Nat → Int32) × (Nat → Int32) × (Nat → Int32) × (Nat → Int32) × (Nat → Int32))) (x1 : Int32) (v_fats : Nat → Int32) : Option (Int32 × (Nat → Int32) × (Nat → Int32) × (Nat → Int32) × (Nat → Int32) × (Nat → Int32) × (Nat → Int32)) :=
  if (40 : Int32) ≤ x1 then
    lt_ (v_had (Int32.toNatClampNeg (65 : Int32))) fun v_3 =>
    some (v_3, v_fats, v_thick, v_hollow, v_damp, v_fresh, v_pulls)
  else
    gd (((25 : Int32) + x1) < 0 ∨ 66 ≤ Int32.toNatClampNeg ((25 : Int32) + x1)) <|
    lt_ (v_had (Int32.toNatClampNeg ((25 : Int32) + x1))) fun v_5 =>
    gd (x1 < 0 ∨ 40 ≤ Int32.toNatClampNeg x1) <|
    lt_ (x1 + (1 : Int32)) fun v_7 =>
    k86 v_7 (upd v_fats (Int32.toNatClampNeg x1) v_5)
def LX11_putBack_86 (v_had : Nat → Int32) (v_thick : Nat → Int32) (v_hollow : Nat → Int32) (v_damp : Nat → Int32) (v_fresh : Nat → Int32) (v_pulls : Nat → Int32) (n : Nat) : (Int32) → (Nat → Int32) → Option (Int32 × (Nat → Int32) × (Nat → Int32) × (Nat → Int32) × (Nat → Int32) × (Nat → Int32) × (Nat → Int32)) := Nat.rec (fun _ _ => none) (fun _ k => FX11_putBack_86 v_had v_thick v_hollow v_damp v_fresh v_pulls k) n
def FX11_putBack_2 (v_had : Nat → Int32) (v_fats : Nat → Int32) (k2 : (Int32) → (Nat → Int32) → (Nat → Int32) → (Nat → Int32) → (Nat → Int32) → (Nat → Int32) → Option (Int32 × (Nat → Int32) × (Nat → Int32) × (Nat → Int32) × (Nat → Int32) × (Nat → Int32) × (Nat → Int32))) (x1 : Int32) (v_thick : Nat → Int32) (v_hollow : Nat → Int32) (v_damp : Nat → Int32) (v_fresh : Nat → Int32) (v_pulls : Nat → Int32) : Option (Int32 × (Nat → Int32) × (Nat → Int32) × (Nat → Int32) × (Nat → Int32) × (Nat → Int32) × (Nat → Int32)) :=
  if (5 : Int32) ≤ x1 then
    LX11_putBack_86 v_had v_thick v_hollow v_damp v_fresh v_pulls 2000 (0 : Int32) v_fats
  else
    gd (x1 < 0 ∨ 66 ≤ Int32.toNatClampNeg x1) <|
    lt_ (v_had (Int32.toNatClampNeg x1)) fun v_9 =>
    gd (x1 < 0 ∨ 5 ≤ Int32.toNatClampNeg x1) <|
    gd (((5 : Int32) + x1) < 0 ∨ 66 ≤ Int32.toNatClampNeg ((5 : Int32) + x1)) <|
    lt_ (v_had (Int32.toNatClampNeg ((5 : Int32) + x1))) fun v_12 =>
    gd (((10 : Int32) + x1) < 0 ∨ 66 ≤ Int32.toNatClampNeg ((10 : Int32) + x1)) <|
    lt_ (v_had (Int32.toNatClampNeg ((10 : Int32) + x1))) fun v_14 =>
    gd (((15 : Int32) + x1) < 0 ∨ 66 ≤ Int32.toNatClampNeg ((15 : Int32) + x1)) <|
    lt_ (v_had (Int32.toNatClampNeg ((15 : Int32) + x1))) fun v_16 =>
    gd (((20 : Int32) + x1) < 0 ∨ 66 ≤ Int32.toNatClampNeg ((20 : Int32) + x1)) <|
    lt_ (v_had (Int32.toNatClampNeg ((20 : Int32) + x1))) fun v_18 =>
    lt_ (x1 + (1 : Int32)) fun v_19 =>
    k2 v_19 (upd v_thick (Int32.toNatClampNeg x1) v_9) (upd v_hollow (Int32.toNatClampNeg x1) v_12) (upd v_damp (Int32.toNatClampNeg x1) v_14) (upd v_fresh (Int32.toNatClampNeg x1) v_16) (upd v_pulls (Int32.toNatClampNeg x1) v_18)
def LX11_putBack_2 (v_had : Nat → Int32) (v_fats : Nat → Int32) (n : Nat) : (Int32) → (Nat → Int32) → (Nat → Int32) → (Nat → Int32) → (Nat → Int32) → (Nat → Int32) → Option (Int32 × (Nat → Int32) × (Nat → Int32) × (Nat → Int32) × (Nat → Int32) × (Nat → Int32) × (Nat → Int32)) := Nat.rec (fun _ _ _ _ _ _ => none) (fun _ k => FX11_putBack_2 v_had v_fats k) n
def fX11_putBack (v_had : Nat → Int32) (v_fats : Nat → Int32) (v_thick : Nat → Int32) (v_hollow : Nat → Int32) (v_damp : Nat → Int32) (v_fresh : Nat → Int32) (v_pulls : Nat → Int32) : Option (Int32 × (Nat → Int32) × (Nat → Int32) × (Nat → Int32) × (Nat → Int32) × (Nat → Int32) × (Nat → Int32)) :=
  LX11_putBack_2 v_had v_fats 2000 (0 : Int32) v_thick v_hollow v_damp v_fresh v_pulls
def FX11_beginCount_19 (v_pulled : Int32) (v_skyPull : Int32) (v_skyWhose : Int32) (k19 : (Int32) → (Nat → Int32) → Option (Int32 × Int32 × Int32 × (Nat → Int32))) (x1 : Int32) (v_kindMany : Nat → Int32) : Option (Int32 × Int32 × Int32 × (Nat → Int32)) :=
  if (5 : Int32) ≤ x1 then
    some (v_pulled, v_skyPull, v_skyWhose, v_kindMany)
  else
    gd (x1 < 0 ∨ 5 ≤ Int32.toNatClampNeg x1) <|
    lt_ (x1 + (1 : Int32)) fun v_3 =>
    k19 v_3 (upd v_kindMany (Int32.toNatClampNeg x1) (0 : Int32))
def LX11_beginCount_19 (v_pulled : Int32) (v_skyPull : Int32) (v_skyWhose : Int32) (n : Nat) : (Int32) → (Nat → Int32) → Option (Int32 × Int32 × Int32 × (Nat → Int32)) := Nat.rec (fun _ _ => none) (fun _ k => FX11_beginCount_19 v_pulled v_skyPull v_skyWhose k) n
def fX11_beginCount (v_kindMany : Nat → Int32) : Option (Int32 × Int32 × Int32 × (Nat → Int32)) :=
  LX11_beginCount_19 (0 : Int32) (-6 : Int32) (-6 : Int32) 2000 (0 : Int32) v_kindMany
def fX11_goShop_110 (x1 : Int32) (v_stones : Int32) (v_pulled : Int32) (v_skyPull : Int32) (v_skyWhose : Int32) (v_badAct : Int32) (v_badWhy : Int32) (v_kindMany : Nat → Int32) (v_hollow : Nat → Int32) (v_thick : Nat → Int32) (v_fresh : Nat → Int32) (v_pulls : Nat → Int32) (v_fats : Nat → Int32) (v_damp : Nat → Int32) (k18 : (Int32) → (Int32) → (Int32) → (Int32) → (Int32) → (Int32) → (Int32) → (Nat → Int32) → (Nat → Int32) → (Nat → Int32) → (Nat → Int32) → (Nat → Int32) → (Nat → Int32) → (Nat → Int32) → Option (Int32 × Int32 × Int32 × Int32 × Int32 × Int32 × (Nat → Int32) × (Nat → Int32) × (Nat → Int32) × (Nat → Int32) × (Nat → Int32) × (Nat → Int32) × (Nat → Int32))) : Option (Int32 × Int32 × Int32 × Int32 × Int32 × Int32 × (Nat → Int32) × (Nat → Int32) × (Nat → Int32) × (Nat → Int32) × (Nat → Int32) × (Nat → Int32) × (Nat → Int32)) :=
  lt_ (x1 + (1 : Int32)) fun v_9 =>
  k18 v_9 v_stones v_pulled v_skyPull v_skyWhose v_badAct v_badWhy v_kindMany v_hollow v_thick v_fresh v_pulls v_fats v_damp
def fX11_goShop_81 (x1 : Int32) (x2 : Int32) (s1 : Int32) (v_stones : Int32) (v_pulled : Int32) (v_skyPull : Int32) (v_skyWhose : Int32) (v_badAct : Int32) (v_kindMany : Nat → Int32) (v_act : Nat → Int32) (v_where : Nat → Int32) (v_much : Nat → Int32) (v_hollow : Nat → Int32) (v_thick : Nat → Int32) (v_fresh : Nat → Int32) (v_pulls : Nat → Int32) (v_fats : Nat → Int32) (v_damp : Nat → Int32) (v_fine : Nat → Int32) (v_deep : Nat → Int32) (k18 : (Int32) → (Int32) → (Int32) → (Int32) → (Int32) → (Int32) → (Int32) → (Nat → Int32) → (Nat → Int32) → (Nat → Int32) → (Nat → Int32) → (Nat → Int32) → (Nat → Int32) → (Nat → Int32) → Option (Int32 × Int32 × Int32 × Int32 × Int32 × Int32 × (Nat → Int32) × (Nat → Int32) × (Nat → Int32) × (Nat → Int32) × (Nat → Int32) × (Nat → Int32) × (Nat → Int32))) : Option (Int32 × Int32 × Int32 × Int32 × Int32 × Int32 × (Nat → Int32) × (Nat → Int32) × (Nat → Int32) × (Nat → Int32) × (Nat → Int32) × (Nat → Int32) × (Nat → Int32)) :=
  if x2 = 0 then
    gd (x1 < 0 ∨ 60 ≤ Int32.toNatClampNeg x1) <|
    Option.bind (fX11_happen (v_act (Int32.toNatClampNeg x1)) (v_where (Int32.toNatClampNeg x1)) (v_much (Int32.toNatClampNeg x1)) v_stones v_pulled v_skyPull v_skyWhose v_thick v_fresh v_pulls v_hollow v_fats v_damp v_kindMany v_fine v_deep) fun v_11 =>
    fX11_goShop_110 x1 v_11.2.2.2.1 v_11.1 v_11.2.1 v_11.2.2.1 v_badAct s1 v_11.2.2.2.2.2.2.2.2.2.2 v_11.2.2.2.2.2.2.2.1 v_11.2.2.2.2.1 v_11.2.2.2.2.2.1 v_11.2.2.2.2.2.2.1 v_11.2.2.2.2.2.2.2.2.1 v_11.2.2.2.2.2.2.2.2.2.1 k18
  else
    fX11_goShop_110 x1 v_stones v_pulled v_skyPull v_skyWhose v_badAct s1 v_kindMany v_hollow v_thick v_fresh v_pulls v_fats v_damp k18
def FX11_goShop_18 (v_flat : Int32) (v_leastThick : Int32) (v_acts : Int32) (v_act : Nat → Int32) (v_where : Nat → Int32) (v_much : Nat → Int32) (v_fine : Nat → Int32) (v_deep : Nat → Int32) (k18 : (Int32) → (Int32) → (Int32) → (Int32) → (Int32) → (Int32) → (Int32) → (Nat → Int32) → (Nat → Int32) → (Nat → Int32) → (Nat → Int32) → (Nat → Int32) → (Nat → Int32) → (Nat → Int32) → Option (Int32 × Int32 × Int32 × Int32 × Int32 × Int32 × (Nat → Int32) × (Nat → Int32) × (Nat → Int32) × (Nat → Int32) × (Nat → Int32) × (Nat → Int32) × (Nat → Int32))) (x1 : Int32) (v_stones : Int32) (v_pulled : Int32) (v_skyPull : Int32) (v_skyWhose : Int32) (v_badAct : Int32) (v_badWhy : Int32) (v_kindMany : Nat → Int32) (v_hollow : Nat → Int32) (v_thick : Nat → Int32) (v_fresh : Nat → Int32) (v_pulls : Nat → Int32) (v_fats : Nat → Int32) (v_damp : Nat → Int32) : Option (Int32 × Int32 × Int32 × Int32 × Int32 × Int32 × (Nat → Int32) × (Nat → Int32) × (Nat → Int32) × (Nat → Int32) × (Nat → Int32) × (Nat → Int32) × (Nat → Int32)) :=
  if v_acts ≤ x1 then
    some (v_badAct, v_badWhy, v_pulled, v_skyPull, v_skyWhose, v_stones, v_kindMany, v_hollow, v_thick, v_fresh, v_pulls, v_fats, v_damp)
  else
    if 0 ≤ v_badAct then
      some (v_badAct, v_badWhy, v_pulled, v_skyPull, v_skyWhose, v_stones, v_kindMany, v_hollow, v_thick, v_fresh, v_pulls, v_fats, v_damp)
    else
      gd (x1 < 0 ∨ 60 ≤ Int32.toNatClampNeg x1) <|
      Option.bind (fX11_whyNot (v_act (Int32.toNatClampNeg x1)) (v_where (Int32.toNatClampNeg x1)) (v_much (Int32.toNatClampNeg x1)) v_stones v_flat v_leastThick v_hollow v_thick v_fresh) fun v_5 =>
      if v_5 ≤ 0 then
        if v_5 ≤ 0 then
          fX11_goShop_81 x1 v_5 (-6 : Int32) v_stones v_pulled v_skyPull v_skyWhose (-6 : Int32) v_kindMany v_act v_where v_much v_hollow v_thick v_fresh v_pulls v_fats v_damp v_fine v_deep k18
        else
          fX11_goShop_81 x1 v_5 v_5 v_stones v_pulled v_skyPull v_skyWhose (-6 : Int32) v_kindMany v_act v_where v_much v_hollow v_thick v_fresh v_pulls v_fats v_damp v_fine v_deep k18
      else
        if v_5 ≤ 0 then
          fX11_goShop_81 x1 v_5 (-6 : Int32) v_stones v_pulled v_skyPull v_skyWhose x1 v_kindMany v_act v_where v_much v_hollow v_thick v_fresh v_pulls v_fats v_damp v_fine v_deep k18
        else
          fX11_goShop_81 x1 v_5 v_5 v_stones v_pulled v_skyPull v_skyWhose x1 v_kindMany v_act v_where v_much v_hollow v_thick v_fresh v_pulls v_fats v_damp v_fine v_deep k18
def LX11_goShop_18 (v_flat : Int32) (v_leastThick : Int32) (v_acts : Int32) (v_act : Nat → Int32) (v_where : Nat → Int32) (v_much : Nat → Int32) (v_fine : Nat → Int32) (v_deep : Nat → Int32) (n : Nat) : (Int32) → (Int32) → (Int32) → (Int32) → (Int32) → (Int32) → (Int32) → (Nat → Int32) → (Nat → Int32) → (Nat → Int32) → (Nat → Int32) → (Nat → Int32) → (Nat → Int32) → (Nat → Int32) → Option (Int32 × Int32 × Int32 × Int32 × Int32 × Int32 × (Nat → Int32) × (Nat → Int32) × (Nat → Int32) × (Nat → Int32) × (Nat → Int32) × (Nat → Int32) × (Nat → Int32)) := Nat.rec (fun _ _ _ _ _ _ _ _ _ _ _ _ _ _ => none) (fun _ k => FX11_goShop_18 v_flat v_leastThick v_acts v_act v_where v_much v_fine v_deep k) n
def fX11_goShop_4 (v_stones : Int32) (v_flat : Int32) (v_leastThick : Int32) (v_acts : Int32) (v_pulled : Int32) (v_skyPull : Int32) (v_skyWhose : Int32) (v_kindMany : Nat → Int32) (v_act : Nat → Int32) (v_where : Nat → Int32) (v_much : Nat → Int32) (v_hollow : Nat → Int32) (v_thick : Nat → Int32) (v_fresh : Nat → Int32) (v_pulls : Nat → Int32) (v_fats : Nat → Int32) (v_damp : Nat → Int32) (v_fine : Nat → Int32) (v_deep : Nat → Int32) : Option (Int32 × Int32 × Int32 × Int32 × Int32 × Int32 × (Nat → Int32) × (Nat → Int32) × (Nat → Int32) × (Nat → Int32) × (Nat → Int32) × (Nat → Int32) × (Nat → Int32)) :=
  LX11_goShop_18 v_flat v_leastThick v_acts v_act v_where v_much v_fine v_deep 2000 (0 : Int32) v_stones v_pulled v_skyPull v_skyWhose (-6 : Int32) (-6 : Int32) v_kindMany v_hollow v_thick v_fresh v_pulls v_fats v_damp
def fX11_goShop (v_stones : Int32) (v_flat : Int32) (v_leastThick : Int32) (v_acts : Int32) (v_kindMany : Nat → Int32) (v_act : Nat → Int32) (v_where : Nat → Int32) (v_much : Nat → Int32) (v_hollow : Nat → Int32) (v_thick : Nat → Int32) (v_fresh : Nat → Int32) (v_pulls : Nat → Int32) (v_fats : Nat → Int32) (v_damp : Nat → Int32) (v_fine : Nat → Int32) (v_deep : Nat → Int32) : Option (Int32 × Int32 × Int32 × Int32 × Int32 × Int32 × (Nat → Int32) × (Nat → Int32) × (Nat → Int32) × (Nat → Int32) × (Nat → Int32) × (Nat → Int32) × (Nat → Int32)) :=
  Option.bind (fX11_beginCount v_kindMany) fun v_1 =>
  fX11_goShop_4 v_stones v_flat v_leastThick v_acts v_1.1 v_1.2.1 v_1.2.2.1 v_1.2.2.2 v_act v_where v_much v_hollow v_thick v_fresh v_pulls v_fats v_damp v_fine v_deep
def fX11_refusal_34 (v_stones : Int32) (v_acts : Int32) (v_pulled : Int32) (v_skyPull : Int32) (v_skyWhose : Int32) (v_badAct : Int32) (v_badWhy : Int32) (v_act : Nat → Int32) (v_much : Nat → Int32) (v_where : Nat → Int32) (v_fats : Nat → Int32) (v_thick : Nat → Int32) (v_hollow : Nat → Int32) (v_damp : Nat → Int32) (v_fresh : Nat → Int32) (v_pulls : Nat → Int32) (v_had : Nat → Int32) (v_kindMany : Nat → Int32) (v_leaves : Nat → Int32) : Option (Int32 × Int32 × Int32 × Int32 × Int32 × Int32 × Int32 × Int32 × (Nat → Int32) × (Nat → Int32) × (Nat → Int32) × (Nat → Int32) × (Nat → Int32) × (Nat → Int32) × (Nat → Int32) × (Nat → Int32) × (Nat → Int32) × (Nat → Int32) × (Nat → Int32) × (Nat → Int32)) :=
  if v_badAct < 0 then
    some ((-6 : Int32), v_acts, v_badAct, v_badWhy, v_pulled, v_skyPull, v_skyWhose, v_stones, v_act, v_much, v_where, v_fats, v_thick, v_hollow, v_damp, v_fresh, v_pulls, v_had, v_kindMany, v_leaves)
  else
    some ((-3 : Int32), v_acts, v_badAct, v_badWhy, v_pulled, v_skyPull, v_skyWhose, v_stones, v_act, v_much, v_where, v_fats, v_thick, v_hollow, v_damp, v_fresh, v_pulls, v_had, v_kindMany, v_leaves)
def fX11_refusal_30 (v_acts : Int32) (v_pulled : Int32) (v_skyPull : Int32) (v_skyWhose : Int32) (v_badAct : Int32) (v_badWhy : Int32) (v_act : Nat → Int32) (v_much : Nat → Int32) (v_where : Nat → Int32) (v_fats : Nat → Int32) (v_thick : Nat → Int32) (v_hollow : Nat → Int32) (v_damp : Nat → Int32) (v_fresh : Nat → Int32) (v_pulls : Nat → Int32) (v_had : Nat → Int32) (v_kindMany : Nat → Int32) (v_leaves : Nat → Int32) : Option (Int32 × Int32 × Int32 × Int32 × Int32 × Int32 × Int32 × Int32 × (Nat → Int32) × (Nat → Int32) × (Nat → Int32) × (Nat → Int32) × (Nat → Int32) × (Nat → Int32) × (Nat → Int32) × (Nat → Int32) × (Nat → Int32) × (Nat → Int32) × (Nat → Int32) × (Nat → Int32)) :=
  Option.bind (fX11_putBack v_had v_fats v_thick v_hollow v_damp v_fresh v_pulls) fun v_6 =>
  fX11_refusal_34 v_6.1 v_acts v_pulled v_skyPull v_skyWhose v_badAct v_badWhy v_act v_much v_where v_6.2.1 v_6.2.2.1 v_6.2.2.2.1 v_6.2.2.2.2.1 v_6.2.2.2.2.2.1 v_6.2.2.2.2.2.2 v_had v_kindMany v_leaves
def fX11_refusal_22 (v_stones : Int32) (v_acts : Int32) (v_pulled : Int32) (v_skyPull : Int32) (v_skyWhose : Int32) (v_badAct : Int32) (v_badWhy : Int32) (v_act : Nat → Int32) (v_much : Nat → Int32) (v_where : Nat → Int32) (v_fats : Nat → Int32) (v_thick : Nat → Int32) (v_hollow : Nat → Int32) (v_damp : Nat → Int32) (v_fresh : Nat → Int32) (v_pulls : Nat → Int32) (v_had : Nat → Int32) (v_kindMany : Nat → Int32) (v_leaves : Nat → Int32) : Option (Int32 × Int32 × Int32 × Int32 × Int32 × Int32 × Int32 × Int32 × (Nat → Int32) × (Nat → Int32) × (Nat → Int32) × (Nat → Int32) × (Nat → Int32) × (Nat → Int32) × (Nat → Int32) × (Nat → Int32) × (Nat → Int32) × (Nat → Int32) × (Nat → Int32) × (Nat → Int32)) :=
  Option.bind (fX11_store v_stones v_fats v_thick v_hollow v_damp v_fresh v_pulls v_leaves) fun v_5 =>
  fX11_refusal_30 v_acts v_pulled v_skyPull v_skyWhose v_badAct v_badWhy v_act v_much v_where v_fats v_thick v_hollow v_damp v_fresh v_pulls v_had v_kindMany v_5
def fX11_refusal_18 (v_stones : Int32) (v_flat : Int32) (v_leastThick : Int32) (v_acts : Int32) (v_act : Nat → Int32) (v_much : Nat → Int32) (v_where : Nat → Int32) (v_fats : Nat → Int32) (v_thick : Nat → Int32) (v_hollow : Nat → Int32) (v_damp : Nat → Int32) (v_fresh : Nat → Int32) (v_pulls : Nat → Int32) (v_had : Nat → Int32) (v_kindMany : Nat → Int32) (v_fine : Nat → Int32) (v_deep : Nat → Int32) (v_leaves : Nat → Int32) : Option (Int32 × Int32 × Int32 × Int32 × Int32 × Int32 × Int32 × Int32 × (Nat → Int32) × (Nat → Int32) × (Nat → Int32) × (Nat → Int32) × (Nat → Int32) × (Nat → Int32) × (Nat → Int32) × (Nat → Int32) × (Nat → Int32) × (Nat → Int32) × (Nat → Int32) × (Nat → Int32)) :=
  Option.bind (fX11_goShop v_stones v_flat v_leastThick v_acts v_kindMany v_act v_where v_much v_hollow v_thick v_fresh v_pulls v_fats v_damp v_fine v_deep) fun v_4 =>
  fX11_refusal_22 v_4.2.2.2.2.2.1 v_acts v_4.2.2.1 v_4.2.2.2.1 v_4.2.2.2.2.1 v_4.1 v_4.2.1 v_act v_much v_where v_4.2.2.2.2.2.2.2.2.2.2.2.1 v_4.2.2.2.2.2.2.2.2.1 v_4.2.2.2.2.2.2.2.1 v_4.2.2.2.2.2.2.2.2.2.2.2.2 v_4.2.2.2.2.2.2.2.2.2.1 v_4.2.2.2.2.2.2.2.2.2.2.1 v_had v_4.2.2.2.2.2.2.1 v_leaves
def fX11_refusal_4 (s0 : Int32) (v_stones : Int32) (v_flat : Int32) (v_leastThick : Int32) (v_acts : Int32) (v_pulled : Int32) (v_skyPull : Int32) (v_skyWhose : Int32) (v_badAct : Int32) (v_badWhy : Int32) (v_act : Nat → Int32) (v_much : Nat → Int32) (v_where : Nat → Int32) (v_fats : Nat → Int32) (v_thick : Nat → Int32) (v_hollow : Nat → Int32) (v_damp : Nat → Int32) (v_fresh : Nat → Int32) (v_pulls : Nat → Int32) (v_had : Nat → Int32) (v_kindMany : Nat → Int32) (v_fine : Nat → Int32) (v_deep : Nat → Int32) (v_leaves : Nat → Int32) : Option (Int32 × Int32 × Int32 × Int32 × Int32 × Int32 × Int32 × Int32 × (Nat → Int32) × (Nat → Int32) × (Nat → Int32) × (Nat → Int32) × (Nat → Int32) × (Nat → Int32) × (Nat → Int32) × (Nat → Int32) × (Nat → Int32) × (Nat → Int32) × (Nat → Int32) × (Nat → Int32)) :=
  if s0 < 0 then
    Option.bind (fX11_store v_stones v_fats v_thick v_hollow v_damp v_fresh v_pulls v_had) fun v_3 =>
    fX11_refusal_18 v_stones v_flat v_leastThick v_acts v_act v_much v_where v_fats v_thick v_hollow v_damp v_fresh v_pulls v_3 v_kindMany v_fine v_deep v_leaves
  else
    some ((-5 : Int32), v_acts, v_badAct, v_badWhy, v_pulled, v_skyPull, v_skyWhose, v_stones, v_act, v_much, v_where, v_fats, v_thick, v_hollow, v_damp, v_fresh, v_pulls, v_had, v_kindMany, v_leaves)
def fX11_refusal (v_stones : Int32) (v_flat : Int32) (v_leastThick : Int32) (v_padMany : Int32) (v_pulled : Int32) (v_skyPull : Int32) (v_skyWhose : Int32) (v_badAct : Int32) (v_badWhy : Int32) (v_pad : Nat → Int32) (v_act : Nat → Int32) (v_much : Nat → Int32) (v_where : Nat → Int32) (v_fats : Nat → Int32) (v_thick : Nat → Int32) (v_hollow : Nat → Int32) (v_damp : Nat → Int32) (v_fresh : Nat → Int32) (v_pulls : Nat → Int32) (v_had : Nat → Int32) (v_kindMany : Nat → Int32) (v_fine : Nat → Int32) (v_deep : Nat → Int32) (v_leaves : Nat → Int32) : Option (Int32 × Int32 × Int32 × Int32 × Int32 × Int32 × Int32 × Int32 × (Nat → Int32) × (Nat → Int32) × (Nat → Int32) × (Nat → Int32) × (Nat → Int32) × (Nat → Int32) × (Nat → Int32) × (Nat → Int32) × (Nat → Int32) × (Nat → Int32) × (Nat → Int32) × (Nat → Int32)) :=
  Option.bind (fX11_fault v_padMany v_pad v_act v_much v_where) fun v_1 =>
  fX11_refusal_4 v_1.1 v_stones v_flat v_leastThick v_1.2.1 v_pulled v_skyPull v_skyWhose v_badAct v_badWhy v_1.2.2.1 v_1.2.2.2.1 v_1.2.2.2.2 v_fats v_thick v_hollow v_damp v_fresh v_pulls v_had v_kindMany v_fine v_deep v_leaves
def fX11_judge (x1 : Int32) (v_stones : Int32) (v_flat : Int32) (v_leastThick : Int32) (v_padMany : Int32) (v_acts : Int32) (v_pulled : Int32) (v_skyPull : Int32) (v_skyWhose : Int32) (v_badAct : Int32) (v_badWhy : Int32) (v_pad : Nat → Int32) (v_act : Nat → Int32) (v_much : Nat → Int32) (v_where : Nat → Int32) (v_fats : Nat → Int32) (v_thick : Nat → Int32) (v_hollow : Nat → Int32) (v_damp : Nat → Int32) (v_fresh : Nat → Int32) (v_pulls : Nat → Int32) (v_had : Nat → Int32) (v_kindMany : Nat → Int32) (v_fine : Nat → Int32) (v_deep : Nat → Int32) (v_leaves : Nat → Int32) : Option (Int32 × Int32 × Int32 × Int32 × Int32 × Int32 × Int32 × Int32 × (Nat → Int32) × (Nat → Int32) × (Nat → Int32) × (Nat → Int32) × (Nat → Int32) × (Nat → Int32) × (Nat → Int32) × (Nat → Int32) × (Nat → Int32) × (Nat → Int32) × (Nat → Int32) × (Nat → Int32)) :=
  if (fX11_in (Int32.toInt64 x1) (0 : Int64) (2 : Int64)) = 0 then
    some ((-2 : Int32), v_acts, v_badAct, v_badWhy, v_pulled, v_skyPull, v_skyWhose, v_stones, v_act, v_much, v_where, v_fats, v_thick, v_hollow, v_damp, v_fresh, v_pulls, v_had, v_kindMany, v_leaves)
  else
    Option.bind (fX11_refusal v_stones v_flat v_leastThick v_padMany v_pulled v_skyPull v_skyWhose v_badAct v_badWhy v_pad v_act v_much v_where v_fats v_thick v_hollow v_damp v_fresh v_pulls v_had v_kindMany v_fine v_deep v_leaves) fun v_2 =>
    if v_2.1 = (-5 : Int32) then
      some (v_2.1, v_2.2.1, v_2.2.2.1, v_2.2.2.2.1, v_2.2.2.2.2.1, v_2.2.2.2.2.2.1, v_2.2.2.2.2.2.2.1, v_2.2.2.2.2.2.2.2.1, v_2.2.2.2.2.2.2.2.2.1, v_2.2.2.2.2.2.2.2.2.2.1, v_2.2.2.2.2.2.2.2.2.2.2.1, v_2.2.2.2.2.2.2.2.2.2.2.2.1, v_2.2.2.2.2.2.2.2.2.2.2.2.2.1, v_2.2.2.2.2.2.2.2.2.2.2.2.2.2.1, v_2.2.2.2.2.2.2.2.2.2.2.2.2.2.2.1, v_2.2.2.2.2.2.2.2.2.2.2.2.2.2.2.2.1, v_2.2.2.2.2.2.2.2.2.2.2.2.2.2.2.2.2.1, v_2.2.2.2.2.2.2.2.2.2.2.2.2.2.2.2.2.2.1, v_2.2.2.2.2.2.2.2.2.2.2.2.2.2.2.2.2.2.2.1, v_2.2.2.2.2.2.2.2.2.2.2.2.2.2.2.2.2.2.2.2)
    else
      if x1 ≤ (1 : Int32) then
        if x1 = 0 then
          some (v_2.2.2.1, v_2.2.1, v_2.2.2.1, v_2.2.2.2.1, v_2.2.2.2.2.1, v_2.2.2.2.2.2.1, v_2.2.2.2.2.2.2.1, v_2.2.2.2.2.2.2.2.1, v_2.2.2.2.2.2.2.2.2.1, v_2.2.2.2.2.2.2.2.2.2.1, v_2.2.2.2.2.2.2.2.2.2.2.1, v_2.2.2.2.2.2.2.2.2.2.2.2.1, v_2.2.2.2.2.2.2.2.2.2.2.2.2.1, v_2.2.2.2.2.2.2.2.2.2.2.2.2.2.1, v_2.2.2.2.2.2.2.2.2.2.2.2.2.2.2.1, v_2.2.2.2.2.2.2.2.2.2.2.2.2.2.2.2.1, v_2.2.2.2.2.2.2.2.2.2.2.2.2.2.2.2.2.1, v_2.2.2.2.2.2.2.2.2.2.2.2.2.2.2.2.2.2.1, v_2.2.2.2.2.2.2.2.2.2.2.2.2.2.2.2.2.2.2.1, v_2.2.2.2.2.2.2.2.2.2.2.2.2.2.2.2.2.2.2.2)
        else
          if x1 = (1 : Int32) then
            some (v_2.2.2.2.1, v_2.2.1, v_2.2.2.1, v_2.2.2.2.1, v_2.2.2.2.2.1, v_2.2.2.2.2.2.1, v_2.2.2.2.2.2.2.1, v_2.2.2.2.2.2.2.2.1, v_2.2.2.2.2.2.2.2.2.1, v_2.2.2.2.2.2.2.2.2.2.1, v_2.2.2.2.2.2.2.2.2.2.2.1, v_2.2.2.2.2.2.2.2.2.2.2.2.1, v_2.2.2.2.2.2.2.2.2.2.2.2.2.1, v_2.2.2.2.2.2.2.2.2.2.2.2.2.2.1, v_2.2.2.2.2.2.2.2.2.2.2.2.2.2.2.1, v_2.2.2.2.2.2.2.2.2.2.2.2.2.2.2.2.1, v_2.2.2.2.2.2.2.2.2.2.2.2.2.2.2.2.2.1, v_2.2.2.2.2.2.2.2.2.2.2.2.2.2.2.2.2.2.1, v_2.2.2.2.2.2.2.2.2.2.2.2.2.2.2.2.2.2.2.1, v_2.2.2.2.2.2.2.2.2.2.2.2.2.2.2.2.2.2.2.2)
          else
            some (v_2.2.2.2.2.1, v_2.2.1, v_2.2.2.1, v_2.2.2.2.1, v_2.2.2.2.2.1, v_2.2.2.2.2.2.1, v_2.2.2.2.2.2.2.1, v_2.2.2.2.2.2.2.2.1, v_2.2.2.2.2.2.2.2.2.1, v_2.2.2.2.2.2.2.2.2.2.1, v_2.2.2.2.2.2.2.2.2.2.2.1, v_2.2.2.2.2.2.2.2.2.2.2.2.1, v_2.2.2.2.2.2.2.2.2.2.2.2.2.1, v_2.2.2.2.2.2.2.2.2.2.2.2.2.2.1, v_2.2.2.2.2.2.2.2.2.2.2.2.2.2.2.1, v_2.2.2.2.2.2.2.2.2.2.2.2.2.2.2.2.1, v_2.2.2.2.2.2.2.2.2.2.2.2.2.2.2.2.2.1, v_2.2.2.2.2.2.2.2.2.2.2.2.2.2.2.2.2.2.1, v_2.2.2.2.2.2.2.2.2.2.2.2.2.2.2.2.2.2.2.1, v_2.2.2.2.2.2.2.2.2.2.2.2.2.2.2.2.2.2.2.2)
      else
        if v_2.1 = (-3 : Int32) then
          some (v_2.1, v_2.2.1, v_2.2.2.1, v_2.2.2.2.1, v_2.2.2.2.2.1, v_2.2.2.2.2.2.1, v_2.2.2.2.2.2.2.1, v_2.2.2.2.2.2.2.2.1, v_2.2.2.2.2.2.2.2.2.1, v_2.2.2.2.2.2.2.2.2.2.1, v_2.2.2.2.2.2.2.2.2.2.2.1, v_2.2.2.2.2.2.2.2.2.2.2.2.1, v_2.2.2.2.2.2.2.2.2.2.2.2.2.1, v_2.2.2.2.2.2.2.2.2.2.2.2.2.2.1, v_2.2.2.2.2.2.2.2.2.2.2.2.2.2.2.1, v_2.2.2.2.2.2.2.2.2.2.2.2.2.2.2.2.1, v_2.2.2.2.2.2.2.2.2.2.2.2.2.2.2.2.2.1, v_2.2.2.2.2.2.2.2.2.2.2.2.2.2.2.2.2.2.1, v_2.2.2.2.2.2.2.2.2.2.2.2.2.2.2.2.2.2.2.1, v_2.2.2.2.2.2.2.2.2.2.2.2.2.2.2.2.2.2.2.2)
        else
          if x1 = 0 then
            some (v_2.2.2.1, v_2.2.1, v_2.2.2.1, v_2.2.2.2.1, v_2.2.2.2.2.1, v_2.2.2.2.2.2.1, v_2.2.2.2.2.2.2.1, v_2.2.2.2.2.2.2.2.1, v_2.2.2.2.2.2.2.2.2.1, v_2.2.2.2.2.2.2.2.2.2.1, v_2.2.2.2.2.2.2.2.2.2.2.1, v_2.2.2.2.2.2.2.2.2.2.2.2.1, v_2.2.2.2.2.2.2.2.2.2.2.2.2.1, v_2.2.2.2.2.2.2.2.2.2.2.2.2.2.1, v_2.2.2.2.2.2.2.2.2.2.2.2.2.2.2.1, v_2.2.2.2.2.2.2.2.2.2.2.2.2.2.2.2.1, v_2.2.2.2.2.2.2.2.2.2.2.2.2.2.2.2.2.1, v_2.2.2.2.2.2.2.2.2.2.2.2.2.2.2.2.2.2.1, v_2.2.2.2.2.2.2.2.2.2.2.2.2.2.2.2.2.2.2.1, v_2.2.2.2.2.2.2.2.2.2.2.2.2.2.2.2.2.2.2.2)
          else
            if x1 = (1 : Int32) then
              some (v_2.2.2.2.1, v_2.2.1, v_2.2.2.1, v_2.2.2.2.1, v_2.2.2.2.2.1, v_2.2.2.2.2.2.1, v_2.2.2.2.2.2.2.1, v_2.2.2.2.2.2.2.2.1, v_2.2.2.2.2.2.2.2.2.1, v_2.2.2.2.2.2.2.2.2.2.1, v_2.2.2.2.2.2.2.2.2.2.2.1, v_2.2.2.2.2.2.2.2.2.2.2.2.1, v_2.2.2.2.2.2.2.2.2.2.2.2.2.1, v_2.2.2.2.2.2.2.2.2.2.2.2.2.2.1, v_2.2.2.2.2.2.2.2.2.2.2.2.2.2.2.1, v_2.2.2.2.2.2.2.2.2.2.2.2.2.2.2.2.1, v_2.2.2.2.2.2.2.2.2.2.2.2.2.2.2.2.2.1, v_2.2.2.2.2.2.2.2.2.2.2.2.2.2.2.2.2.2.1, v_2.2.2.2.2.2.2.2.2.2.2.2.2.2.2.2.2.2.2.1, v_2.2.2.2.2.2.2.2.2.2.2.2.2.2.2.2.2.2.2.2)
            else
              some (v_2.2.2.2.2.1, v_2.2.1, v_2.2.2.1, v_2.2.2.2.1, v_2.2.2.2.2.1, v_2.2.2.2.2.2.1, v_2.2.2.2.2.2.2.1, v_2.2.2.2.2.2.2.2.1, v_2.2.2.2.2.2.2.2.2.1, v_2.2.2.2.2.2.2.2.2.2.1, v_2.2.2.2.2.2.2.2.2.2.2.1, v_2.2.2.2.2.2.2.2.2.2.2.2.1, v_2.2.2.2.2.2.2.2.2.2.2.2.2.1, v_2.2.2.2.2.2.2.2.2.2.2.2.2.2.1, v_2.2.2.2.2.2.2.2.2.2.2.2.2.2.2.1, v_2.2.2.2.2.2.2.2.2.2.2.2.2.2.2.2.1, v_2.2.2.2.2.2.2.2.2.2.2.2.2.2.2.2.2.1, v_2.2.2.2.2.2.2.2.2.2.2.2.2.2.2.2.2.2.1, v_2.2.2.2.2.2.2.2.2.2.2.2.2.2.2.2.2.2.2.1, v_2.2.2.2.2.2.2.2.2.2.2.2.2.2.2.2.2.2.2.2)
def fX11_kinds (x1 : Int32) (v_stones : Int32) (v_flat : Int32) (v_leastThick : Int32) (v_padMany : Int32) (v_acts : Int32) (v_pulled : Int32) (v_skyPull : Int32) (v_skyWhose : Int32) (v_badAct : Int32) (v_badWhy : Int32) (v_pad : Nat → Int32) (v_act : Nat → Int32) (v_much : Nat → Int32) (v_where : Nat → Int32) (v_fats : Nat → Int32) (v_thick : Nat → Int32) (v_hollow : Nat → Int32) (v_damp : Nat → Int32) (v_fresh : Nat → Int32) (v_pulls : Nat → Int32) (v_had : Nat → Int32) (v_kindMany : Nat → Int32) (v_fine : Nat → Int32) (v_deep : Nat → Int32) (v_leaves : Nat → Int32) : Option (Int32 × Int32 × Int32 × Int32 × Int32 × Int32 × Int32 × Int32 × (Nat → Int32) × (Nat → Int32) × (Nat → Int32) × (Nat → Int32) × (Nat → Int32) × (Nat → Int32) × (Nat → Int32) × (Nat → Int32) × (Nat → Int32) × (Nat → Int32) × (Nat → Int32) × (Nat → Int32)) :=
  if (fX11_in (Int32.toInt64 x1) (0 : Int64) (4 : Int64)) = 0 then
    some ((-2 : Int32), v_acts, v_badAct, v_badWhy, v_pulled, v_skyPull, v_skyWhose, v_stones, v_act, v_much, v_where, v_fats, v_thick, v_hollow, v_damp, v_fresh, v_pulls, v_had, v_kindMany, v_leaves)
  else
    Option.bind (fX11_refusal v_stones v_flat v_leastThick v_padMany v_pulled v_skyPull v_skyWhose v_badAct v_badWhy v_pad v_act v_much v_where v_fats v_thick v_hollow v_damp v_fresh v_pulls v_had v_kindMany v_fine v_deep v_leaves) fun v_2 =>
    if v_2.1 = (-6 : Int32) then
      gd (x1 < 0 ∨ 5 ≤ Int32.toNatClampNeg x1) <|
      some ((v_2.2.2.2.2.2.2.2.2.2.2.2.2.2.2.2.2.2.2.1 (Int32.toNatClampNeg x1)), v_2.2.1, v_2.2.2.1, v_2.2.2.2.1, v_2.2.2.2.2.1, v_2.2.2.2.2.2.1, v_2.2.2.2.2.2.2.1, v_2.2.2.2.2.2.2.2.1, v_2.2.2.2.2.2.2.2.2.1, v_2.2.2.2.2.2.2.2.2.2.1, v_2.2.2.2.2.2.2.2.2.2.2.1, v_2.2.2.2.2.2.2.2.2.2.2.2.1, v_2.2.2.2.2.2.2.2.2.2.2.2.2.1, v_2.2.2.2.2.2.2.2.2.2.2.2.2.2.1, v_2.2.2.2.2.2.2.2.2.2.2.2.2.2.2.1, v_2.2.2.2.2.2.2.2.2.2.2.2.2.2.2.2.1, v_2.2.2.2.2.2.2.2.2.2.2.2.2.2.2.2.2.1, v_2.2.2.2.2.2.2.2.2.2.2.2.2.2.2.2.2.2.1, v_2.2.2.2.2.2.2.2.2.2.2.2.2.2.2.2.2.2.2.1, v_2.2.2.2.2.2.2.2.2.2.2.2.2.2.2.2.2.2.2.2)
    else
      some (v_2.1, v_2.2.1, v_2.2.2.1, v_2.2.2.2.1, v_2.2.2.2.2.1, v_2.2.2.2.2.2.1, v_2.2.2.2.2.2.2.1, v_2.2.2.2.2.2.2.2.1, v_2.2.2.2.2.2.2.2.2.1, v_2.2.2.2.2.2.2.2.2.2.1, v_2.2.2.2.2.2.2.2.2.2.2.1, v_2.2.2.2.2.2.2.2.2.2.2.2.1, v_2.2.2.2.2.2.2.2.2.2.2.2.2.1, v_2.2.2.2.2.2.2.2.2.2.2.2.2.2.1, v_2.2.2.2.2.2.2.2.2.2.2.2.2.2.2.1, v_2.2.2.2.2.2.2.2.2.2.2.2.2.2.2.2.1, v_2.2.2.2.2.2.2.2.2.2.2.2.2.2.2.2.2.1, v_2.2.2.2.2.2.2.2.2.2.2.2.2.2.2.2.2.2.1, v_2.2.2.2.2.2.2.2.2.2.2.2.2.2.2.2.2.2.2.1, v_2.2.2.2.2.2.2.2.2.2.2.2.2.2.2.2.2.2.2.2)
def fX11_behind (x1 : Int32) (x2 : Int32) (v_stones : Int32) (v_flat : Int32) (v_leastThick : Int32) (v_padMany : Int32) (v_acts : Int32) (v_pulled : Int32) (v_skyPull : Int32) (v_skyWhose : Int32) (v_badAct : Int32) (v_badWhy : Int32) (v_pad : Nat → Int32) (v_act : Nat → Int32) (v_much : Nat → Int32) (v_where : Nat → Int32) (v_fats : Nat → Int32) (v_thick : Nat → Int32) (v_hollow : Nat → Int32) (v_damp : Nat → Int32) (v_fresh : Nat → Int32) (v_pulls : Nat → Int32) (v_had : Nat → Int32) (v_kindMany : Nat → Int32) (v_fine : Nat → Int32) (v_deep : Nat → Int32) (v_leaves : Nat → Int32) : Option (Int32 × Int32 × Int32 × Int32 × Int32 × Int32 × Int32 × Int32 × (Nat → Int32) × (Nat → Int32) × (Nat → Int32) × (Nat → Int32) × (Nat → Int32) × (Nat → Int32) × (Nat → Int32) × (Nat → Int32) × (Nat → Int32) × (Nat → Int32) × (Nat → Int32) × (Nat → Int32)) :=
  if (fX11_isStone x1 v_stones) = 0 then
    some ((-1 : Int32), v_acts, v_badAct, v_badWhy, v_pulled, v_skyPull, v_skyWhose, v_stones, v_act, v_much, v_where, v_fats, v_thick, v_hollow, v_damp, v_fresh, v_pulls, v_had, v_kindMany, v_leaves)
  else
    if (fX11_in (Int32.toInt64 x2) (0 : Int64) (4 : Int64)) = 0 then
      some ((-2 : Int32), v_acts, v_badAct, v_badWhy, v_pulled, v_skyPull, v_skyWhose, v_stones, v_act, v_much, v_where, v_fats, v_thick, v_hollow, v_damp, v_fresh, v_pulls, v_had, v_kindMany, v_leaves)
    else
      Option.bind (fX11_refusal v_stones v_flat v_leastThick v_padMany v_pulled v_skyPull v_skyWhose v_badAct v_badWhy v_pad v_act v_much v_where v_fats v_thick v_hollow v_damp v_fresh v_pulls v_had v_kindMany v_fine v_deep v_leaves) fun v_3 =>
      if v_3.1 = (-6 : Int32) then
        if (((v_3.2.2.2.2.2.2.2.2.2.2.2.2.2.2.2.2.2.2.2 (Int32.toNatClampNeg (65 : Int32))) >>> (x1 &&& 31)) &&& (1 : Int32)) = 0 then
          some ((-1 : Int32), v_3.2.1, v_3.2.2.1, v_3.2.2.2.1, v_3.2.2.2.2.1, v_3.2.2.2.2.2.1, v_3.2.2.2.2.2.2.1, v_3.2.2.2.2.2.2.2.1, v_3.2.2.2.2.2.2.2.2.1, v_3.2.2.2.2.2.2.2.2.2.1, v_3.2.2.2.2.2.2.2.2.2.2.1, v_3.2.2.2.2.2.2.2.2.2.2.2.1, v_3.2.2.2.2.2.2.2.2.2.2.2.2.1, v_3.2.2.2.2.2.2.2.2.2.2.2.2.2.1, v_3.2.2.2.2.2.2.2.2.2.2.2.2.2.2.1, v_3.2.2.2.2.2.2.2.2.2.2.2.2.2.2.2.1, v_3.2.2.2.2.2.2.2.2.2.2.2.2.2.2.2.2.1, v_3.2.2.2.2.2.2.2.2.2.2.2.2.2.2.2.2.2.1, v_3.2.2.2.2.2.2.2.2.2.2.2.2.2.2.2.2.2.2.1, v_3.2.2.2.2.2.2.2.2.2.2.2.2.2.2.2.2.2.2.2)
        else
          gd ((((5 : Int32) * x2) + x1) < 0 ∨ 66 ≤ Int32.toNatClampNeg (((5 : Int32) * x2) + x1)) <|
          some ((v_3.2.2.2.2.2.2.2.2.2.2.2.2.2.2.2.2.2.2.2 (Int32.toNatClampNeg (((5 : Int32) * x2) + x1))), v_3.2.1, v_3.2.2.1, v_3.2.2.2.1, v_3.2.2.2.2.1, v_3.2.2.2.2.2.1, v_3.2.2.2.2.2.2.1, v_3.2.2.2.2.2.2.2.1, v_3.2.2.2.2.2.2.2.2.1, v_3.2.2.2.2.2.2.2.2.2.1, v_3.2.2.2.2.2.2.2.2.2.2.1, v_3.2.2.2.2.2.2.2.2.2.2.2.1, v_3.2.2.2.2.2.2.2.2.2.2.2.2.1, v_3.2.2.2.2.2.2.2.2.2.2.2.2.2.1, v_3.2.2.2.2.2.2.2.2.2.2.2.2.2.2.1, v_3.2.2.2.2.2.2.2.2.2.2.2.2.2.2.2.1, v_3.2.2.2.2.2.2.2.2.2.2.2.2.2.2.2.2.1, v_3.2.2.2.2.2.2.2.2.2.2.2.2.2.2.2.2.2.1, v_3.2.2.2.2.2.2.2.2.2.2.2.2.2.2.2.2.2.2.1, v_3.2.2.2.2.2.2.2.2.2.2.2.2.2.2.2.2.2.2.2)
      else
        some (v_3.1, v_3.2.1, v_3.2.2.1, v_3.2.2.2.1, v_3.2.2.2.2.1, v_3.2.2.2.2.2.1, v_3.2.2.2.2.2.2.1, v_3.2.2.2.2.2.2.2.1, v_3.2.2.2.2.2.2.2.2.1, v_3.2.2.2.2.2.2.2.2.2.1, v_3.2.2.2.2.2.2.2.2.2.2.1, v_3.2.2.2.2.2.2.2.2.2.2.2.1, v_3.2.2.2.2.2.2.2.2.2.2.2.2.1, v_3.2.2.2.2.2.2.2.2.2.2.2.2.2.1, v_3.2.2.2.2.2.2.2.2.2.2.2.2.2.2.1, v_3.2.2.2.2.2.2.2.2.2.2.2.2.2.2.2.1, v_3.2.2.2.2.2.2.2.2.2.2.2.2.2.2.2.2.1, v_3.2.2.2.2.2.2.2.2.2.2.2.2.2.2.2.2.2.1, v_3.2.2.2.2.2.2.2.2.2.2.2.2.2.2.2.2.2.2.1, v_3.2.2.2.2.2.2.2.2.2.2.2.2.2.2.2.2.2.2.2)
def fX11_fat (x1 : Int32) (x2 : Int32) (v_stones : Int32) (v_flat : Int32) (v_leastThick : Int32) (v_padMany : Int32) (v_acts : Int32) (v_pulled : Int32) (v_skyPull : Int32) (v_skyWhose : Int32) (v_badAct : Int32) (v_badWhy : Int32) (v_pad : Nat → Int32) (v_act : Nat → Int32) (v_much : Nat → Int32) (v_where : Nat → Int32) (v_fats : Nat → Int32) (v_thick : Nat → Int32) (v_hollow : Nat → Int32) (v_damp : Nat → Int32) (v_fresh : Nat → Int32) (v_pulls : Nat → Int32) (v_had : Nat → Int32) (v_kindMany : Nat → Int32) (v_fine : Nat → Int32) (v_deep : Nat → Int32) (v_leaves : Nat → Int32) : Option (Int32 × Int32 × Int32 × Int32 × Int32 × Int32 × Int32 × Int32 × (Nat → Int32) × (Nat → Int32) × (Nat → Int32) × (Nat → Int32) × (Nat → Int32) × (Nat → Int32) × (Nat → Int32) × (Nat → Int32) × (Nat → Int32) × (Nat → Int32) × (Nat → Int32) × (Nat → Int32)) :=
  if (fX11_isStone x1 v_stones) = 0 then
    some ((-1 : Int32), v_acts, v_badAct, v_badWhy, v_pulled, v_skyPull, v_skyWhose, v_stones, v_act, v_much, v_where, v_fats, v_thick, v_hollow, v_damp, v_fresh, v_pulls, v_had, v_kindMany, v_leaves)
  else
    if (fX11_isPicture x2) = 0 then
      some ((-1 : Int32), v_acts, v_badAct, v_badWhy, v_pulled, v_skyPull, v_skyWhose, v_stones, v_act, v_much, v_where, v_fats, v_thick, v_hollow, v_damp, v_fresh, v_pulls, v_had, v_kindMany, v_leaves)
    else
      Option.bind (fX11_refusal v_stones v_flat v_leastThick v_padMany v_pulled v_skyPull v_skyWhose v_badAct v_badWhy v_pad v_act v_much v_where v_fats v_thick v_hollow v_damp v_fresh v_pulls v_had v_kindMany v_fine v_deep v_leaves) fun v_3 =>
      if v_3.1 = (-6 : Int32) then
        if (((v_3.2.2.2.2.2.2.2.2.2.2.2.2.2.2.2.2.2.2.2 (Int32.toNatClampNeg (65 : Int32))) >>> (x1 &&& 31)) &&& (1 : Int32)) = 0 then
          some ((-1 : Int32), v_3.2.1, v_3.2.2.1, v_3.2.2.2.1, v_3.2.2.2.2.1, v_3.2.2.2.2.2.1, v_3.2.2.2.2.2.2.1, v_3.2.2.2.2.2.2.2.1, v_3.2.2.2.2.2.2.2.2.1, v_3.2.2.2.2.2.2.2.2.2.1, v_3.2.2.2.2.2.2.2.2.2.2.1, v_3.2.2.2.2.2.2.2.2.2.2.2.1, v_3.2.2.2.2.2.2.2.2.2.2.2.2.1, v_3.2.2.2.2.2.2.2.2.2.2.2.2.2.1, v_3.2.2.2.2.2.2.2.2.2.2.2.2.2.2.1, v_3.2.2.2.2.2.2.2.2.2.2.2.2.2.2.2.1, v_3.2.2.2.2.2.2.2.2.2.2.2.2.2.2.2.2.1, v_3.2.2.2.2.2.2.2.2.2.2.2.2.2.2.2.2.2.1, v_3.2.2.2.2.2.2.2.2.2.2.2.2.2.2.2.2.2.2.1, v_3.2.2.2.2.2.2.2.2.2.2.2.2.2.2.2.2.2.2.2)
        else
          gd (((25 : Int32) + (fX11_at x1 x2)) < 0 ∨ 66 ≤ Int32.toNatClampNeg ((25 : Int32) + (fX11_at x1 x2))) <|
          some ((v_3.2.2.2.2.2.2.2.2.2.2.2.2.2.2.2.2.2.2.2 (Int32.toNatClampNeg ((25 : Int32) + (fX11_at x1 x2)))), v_3.2.1, v_3.2.2.1, v_3.2.2.2.1, v_3.2.2.2.2.1, v_3.2.2.2.2.2.1, v_3.2.2.2.2.2.2.1, v_3.2.2.2.2.2.2.2.1, v_3.2.2.2.2.2.2.2.2.1, v_3.2.2.2.2.2.2.2.2.2.1, v_3.2.2.2.2.2.2.2.2.2.2.1, v_3.2.2.2.2.2.2.2.2.2.2.2.1, v_3.2.2.2.2.2.2.2.2.2.2.2.2.1, v_3.2.2.2.2.2.2.2.2.2.2.2.2.2.1, v_3.2.2.2.2.2.2.2.2.2.2.2.2.2.2.1, v_3.2.2.2.2.2.2.2.2.2.2.2.2.2.2.2.1, v_3.2.2.2.2.2.2.2.2.2.2.2.2.2.2.2.2.1, v_3.2.2.2.2.2.2.2.2.2.2.2.2.2.2.2.2.2.1, v_3.2.2.2.2.2.2.2.2.2.2.2.2.2.2.2.2.2.2.1, v_3.2.2.2.2.2.2.2.2.2.2.2.2.2.2.2.2.2.2.2)
      else
        some (v_3.1, v_3.2.1, v_3.2.2.1, v_3.2.2.2.1, v_3.2.2.2.2.1, v_3.2.2.2.2.2.1, v_3.2.2.2.2.2.2.1, v_3.2.2.2.2.2.2.2.1, v_3.2.2.2.2.2.2.2.2.1, v_3.2.2.2.2.2.2.2.2.2.1, v_3.2.2.2.2.2.2.2.2.2.2.1, v_3.2.2.2.2.2.2.2.2.2.2.2.1, v_3.2.2.2.2.2.2.2.2.2.2.2.2.1, v_3.2.2.2.2.2.2.2.2.2.2.2.2.2.1, v_3.2.2.2.2.2.2.2.2.2.2.2.2.2.2.1, v_3.2.2.2.2.2.2.2.2.2.2.2.2.2.2.2.1, v_3.2.2.2.2.2.2.2.2.2.2.2.2.2.2.2.2.1, v_3.2.2.2.2.2.2.2.2.2.2.2.2.2.2.2.2.2.1, v_3.2.2.2.2.2.2.2.2.2.2.2.2.2.2.2.2.2.2.1, v_3.2.2.2.2.2.2.2.2.2.2.2.2.2.2.2.2.2.2.2)
def fX11_sky (x1 : Int32) (v_stones : Int32) (v_flat : Int32) (v_leastThick : Int32) (v_padMany : Int32) (v_acts : Int32) (v_pulled : Int32) (v_skyPull : Int32) (v_skyWhose : Int32) (v_badAct : Int32) (v_badWhy : Int32) (v_pad : Nat → Int32) (v_act : Nat → Int32) (v_much : Nat → Int32) (v_where : Nat → Int32) (v_fats : Nat → Int32) (v_thick : Nat → Int32) (v_hollow : Nat → Int32) (v_damp : Nat → Int32) (v_fresh : Nat → Int32) (v_pulls : Nat → Int32) (v_had : Nat → Int32) (v_kindMany : Nat → Int32) (v_fine : Nat → Int32) (v_deep : Nat → Int32) (v_leaves : Nat → Int32) : Option (Int32 × Int32 × Int32 × Int32 × Int32 × Int32 × Int32 × Int32 × (Nat → Int32) × (Nat → Int32) × (Nat → Int32) × (Nat → Int32) × (Nat → Int32) × (Nat → Int32) × (Nat → Int32) × (Nat → Int32) × (Nat → Int32) × (Nat → Int32) × (Nat → Int32) × (Nat → Int32)) :=
  if (fX11_in (Int32.toInt64 x1) (0 : Int64) (1 : Int64)) = 0 then
    some ((-2 : Int32), v_acts, v_badAct, v_badWhy, v_pulled, v_skyPull, v_skyWhose, v_stones, v_act, v_much, v_where, v_fats, v_thick, v_hollow, v_damp, v_fresh, v_pulls, v_had, v_kindMany, v_leaves)
  else
    Option.bind (fX11_refusal v_stones v_flat v_leastThick v_padMany v_pulled v_skyPull v_skyWhose v_badAct v_badWhy v_pad v_act v_much v_where v_fats v_thick v_hollow v_damp v_fresh v_pulls v_had v_kindMany v_fine v_deep v_leaves) fun v_2 =>
    if v_2.1 = (-6 : Int32) then
      if x1 = 0 then
        some (v_2.2.2.2.2.2.1, v_2.2.1, v_2.2.2.1, v_2.2.2.2.1, v_2.2.2.2.2.1, v_2.2.2.2.2.2.1, v_2.2.2.2.2.2.2.1, v_2.2.2.2.2.2.2.2.1, v_2.2.2.2.2.2.2.2.2.1, v_2.2.2.2.2.2.2.2.2.2.1, v_2.2.2.2.2.2.2.2.2.2.2.1, v_2.2.2.2.2.2.2.2.2.2.2.2.1, v_2.2.2.2.2.2.2.2.2.2.2.2.2.1, v_2.2.2.2.2.2.2.2.2.2.2.2.2.2.1, v_2.2.2.2.2.2.2.2.2.2.2.2.2.2.2.1, v_2.2.2.2.2.2.2.2.2.2.2.2.2.2.2.2.1, v_2.2.2.2.2.2.2.2.2.2.2.2.2.2.2.2.2.1, v_2.2.2.2.2.2.2.2.2.2.2.2.2.2.2.2.2.2.1, v_2.2.2.2.2.2.2.2.2.2.2.2.2.2.2.2.2.2.2.1, v_2.2.2.2.2.2.2.2.2.2.2.2.2.2.2.2.2.2.2.2)
      else
        some (v_2.2.2.2.2.2.2.1, v_2.2.1, v_2.2.2.1, v_2.2.2.2.1, v_2.2.2.2.2.1, v_2.2.2.2.2.2.1, v_2.2.2.2.2.2.2.1, v_2.2.2.2.2.2.2.2.1, v_2.2.2.2.2.2.2.2.2.1, v_2.2.2.2.2.2.2.2.2.2.1, v_2.2.2.2.2.2.2.2.2.2.2.1, v_2.2.2.2.2.2.2.2.2.2.2.2.1, v_2.2.2.2.2.2.2.2.2.2.2.2.2.1, v_2.2.2.2.2.2.2.2.2.2.2.2.2.2.1, v_2.2.2.2.2.2.2.2.2.2.2.2.2.2.2.1, v_2.2.2.2.2.2.2.2.2.2.2.2.2.2.2.2.1, v_2.2.2.2.2.2.2.2.2.2.2.2.2.2.2.2.2.1, v_2.2.2.2.2.2.2.2.2.2.2.2.2.2.2.2.2.2.1, v_2.2.2.2.2.2.2.2.2.2.2.2.2.2.2.2.2.2.2.1, v_2.2.2.2.2.2.2.2.2.2.2.2.2.2.2.2.2.2.2.2)
    else
      some (v_2.1, v_2.2.1, v_2.2.2.1, v_2.2.2.2.1, v_2.2.2.2.2.1, v_2.2.2.2.2.2.1, v_2.2.2.2.2.2.2.1, v_2.2.2.2.2.2.2.2.1, v_2.2.2.2.2.2.2.2.2.1, v_2.2.2.2.2.2.2.2.2.2.1, v_2.2.2.2.2.2.2.2.2.2.2.1, v_2.2.2.2.2.2.2.2.2.2.2.2.1, v_2.2.2.2.2.2.2.2.2.2.2.2.2.1, v_2.2.2.2.2.2.2.2.2.2.2.2.2.2.1, v_2.2.2.2.2.2.2.2.2.2.2.2.2.2.2.1, v_2.2.2.2.2.2.2.2.2.2.2.2.2.2.2.2.1, v_2.2.2.2.2.2.2.2.2.2.2.2.2.2.2.2.2.1, v_2.2.2.2.2.2.2.2.2.2.2.2.2.2.2.2.2.2.1, v_2.2.2.2.2.2.2.2.2.2.2.2.2.2.2.2.2.2.2.1, v_2.2.2.2.2.2.2.2.2.2.2.2.2.2.2.2.2.2.2.2)
def fX11_done_17 (v_stones : Int32) (v_acts : Int32) (v_pulled : Int32) (v_skyPull : Int32) (v_skyWhose : Int32) (v_badAct : Int32) (v_badWhy : Int32) (v_act : Nat → Int32) (v_much : Nat → Int32) (v_where : Nat → Int32) (v_fats : Nat → Int32) (v_thick : Nat → Int32) (v_hollow : Nat → Int32) (v_damp : Nat → Int32) (v_fresh : Nat → Int32) (v_pulls : Nat → Int32) (v_had : Nat → Int32) (v_kindMany : Nat → Int32) (v_leaves : Nat → Int32) : Option (Int32 × Int32 × Int32 × Int32 × Int32 × Int32 × Int32 × Int32 × Int32 × (Nat → Int32) × (Nat → Int32) × (Nat → Int32) × (Nat → Int32) × (Nat → Int32) × (Nat → Int32) × (Nat → Int32) × (Nat → Int32) × (Nat → Int32) × (Nat → Int32) × (Nat → Int32) × (Nat → Int32)) :=
  some (v_acts, v_acts, v_badAct, v_badWhy, (0 : Int32), v_pulled, v_skyPull, v_skyWhose, v_stones, v_act, v_much, v_where, v_fats, v_thick, v_hollow, v_damp, v_fresh, v_pulls, v_had, v_kindMany, v_leaves)
def fX11_done_4 (s0 : Int32) (v_stones : Int32) (v_flat : Int32) (v_leastThick : Int32) (v_padMany : Int32) (v_acts : Int32) (v_pulled : Int32) (v_skyPull : Int32) (v_skyWhose : Int32) (v_badAct : Int32) (v_badWhy : Int32) (v_act : Nat → Int32) (v_much : Nat → Int32) (v_where : Nat → Int32) (v_fats : Nat → Int32) (v_thick : Nat → Int32) (v_hollow : Nat → Int32) (v_damp : Nat → Int32) (v_fresh : Nat → Int32) (v_pulls : Nat → Int32) (v_had : Nat → Int32) (v_kindMany : Nat → Int32) (v_fine : Nat → Int32) (v_deep : Nat → Int32) (v_leaves : Nat → Int32) : Option (Int32 × Int32 × Int32 × Int32 × Int32 × Int32 × Int32 × Int32 × Int32 × (Nat → Int32) × (Nat → Int32) × (Nat → Int32) × (Nat → Int32) × (Nat → Int32) × (Nat → Int32) × (Nat → Int32) × (Nat → Int32) × (Nat → Int32) × (Nat → Int32) × (Nat → Int32) × (Nat → Int32)) :=
  if s0 = (-6 : Int32) then
    Option.bind (fX11_goShop v_stones v_flat v_leastThick v_acts v_kindMany v_act v_where v_much v_hollow v_thick v_fresh v_pulls v_fats v_damp v_fine v_deep) fun v_3 =>
    fX11_done_17 v_3.2.2.2.2.2.1 v_acts v_3.2.2.1 v_3.2.2.2.1 v_3.2.2.2.2.1 v_3.1 v_3.2.1 v_act v_much v_where v_3.2.2.2.2.2.2.2.2.2.2.2.1 v_3.2.2.2.2.2.2.2.2.1 v_3.2.2.2.2.2.2.2.1 v_3.2.2.2.2.2.2.2.2.2.2.2.2 v_3.2.2.2.2.2.2.2.2.2.1 v_3.2.2.2.2.2.2.2.2.2.2.1 v_had v_3.2.2.2.2.2.2.1 v_leaves
  else
    some (s0, v_acts, v_badAct, v_badWhy, v_padMany, v_pulled, v_skyPull, v_skyWhose, v_stones, v_act, v_much, v_where, v_fats, v_thick, v_hollow, v_damp, v_fresh, v_pulls, v_had, v_kindMany, v_leaves)
def fX11_done (v_stones : Int32) (v_flat : Int32) (v_leastThick : Int32) (v_padMany : Int32) (v_pulled : Int32) (v_skyPull : Int32) (v_skyWhose : Int32) (v_badAct : Int32) (v_badWhy : Int32) (v_pad : Nat → Int32) (v_act : Nat → Int32) (v_much : Nat → Int32) (v_where : Nat → Int32) (v_fats : Nat → Int32) (v_thick : Nat → Int32) (v_hollow : Nat → Int32) (v_damp : Nat → Int32) (v_fresh : Nat → Int32) (v_pulls : Nat → Int32) (v_had : Nat → Int32) (v_kindMany : Nat → Int32) (v_fine : Nat → Int32) (v_deep : Nat → Int32) (v_leaves : Nat → Int32) : Option (Int32 × Int32 × Int32 × Int32 × Int32 × Int32 × Int32 × Int32 × Int32 × (Nat → Int32) × (Nat → Int32) × (Nat → Int32) × (Nat → Int32) × (Nat → Int32) × (Nat → Int32) × (Nat → Int32) × (Nat → Int32) × (Nat → Int32) × (Nat → Int32) × (Nat → Int32) × (Nat → Int32)) :=
  Option.bind (fX11_refusal v_stones v_flat v_leastThick v_padMany v_pulled v_skyPull v_skyWhose v_badAct v_badWhy v_pad v_act v_much v_where v_fats v_thick v_hollow v_damp v_fresh v_pulls v_had v_kindMany v_fine v_deep v_leaves) fun v_1 =>
  fX11_done_4 v_1.1 v_1.2.2.2.2.2.2.2.1 v_flat v_leastThick v_padMany v_1.2.1 v_1.2.2.2.2.1 v_1.2.2.2.2.2.1 v_1.2.2.2.2.2.2.1 v_1.2.2.1 v_1.2.2.2.1 v_1.2.2.2.2.2.2.2.2.1 v_1.2.2.2.2.2.2.2.2.2.1 v_1.2.2.2.2.2.2.2.2.2.2.1 v_1.2.2.2.2.2.2.2.2.2.2.2.1 v_1.2.2.2.2.2.2.2.2.2.2.2.2.1 v_1.2.2.2.2.2.2.2.2.2.2.2.2.2.1 v_1.2.2.2.2.2.2.2.2.2.2.2.2.2.2.1 v_1.2.2.2.2.2.2.2.2.2.2.2.2.2.2.2.1 v_1.2.2.2.2.2.2.2.2.2.2.2.2.2.2.2.2.1 v_1.2.2.2.2.2.2.2.2.2.2.2.2.2.2.2.2.2.1 v_1.2.2.2.2.2.2.2.2.2.2.2.2.2.2.2.2.2.2.1 v_fine v_deep v_1.2.2.2.2.2.2.2.2.2.2.2.2.2.2.2.2.2.2.2
def FX11_lasts_9 (x1 : Int32) (x4 : Int32) (v_fine : Nat → Int32) (k9 : (Int32) → (Int32) → (Int32) → Option (Int32)) (x5 : Int32) (x6 : Int32) (x7 : Int32) : Option (Int32) :=
  if (999 : Int32) < x6 then
    some x6
  else
    lt_ (x7 + (1 : Int32)) fun v_2 =>
    if (v_2 - v_2 / (10 : Int32) * (10 : Int32)) = 0 then
      Option.bind (fX11_wearOf x1 v_fine) fun v_7 =>
      lt_ (fX11_notBelow0 (x5 - v_7)) fun v_8 =>
      if v_8 = 0 then
        some x6
      else
        if x4 ≤ v_8 then
          lt_ (x6 + (1 : Int32)) fun v_11 =>
          k9 v_8 v_11 v_2
        else
          some x6
    else
      if x5 = 0 then
        some x6
      else
        if x4 ≤ x5 then
          lt_ (x6 + (1 : Int32)) fun v_6 =>
          k9 x5 v_6 v_2
        else
          some x6
def LX11_lasts_9 (x1 : Int32) (x4 : Int32) (v_fine : Nat → Int32) (n : Nat) : (Int32) → (Int32) → (Int32) → Option (Int32) := Nat.rec (fun _ _ _ => none) (fun _ k => FX11_lasts_9 x1 x4 v_fine k) n
def fX11_lasts (x1 : Int32) (x2 : Int32) (x3 : Int32) (x4 : Int32) (v_fine : Nat → Int32) : Option (Int32) :=
  LX11_lasts_9 x1 x4 v_fine 2000 x2 (0 : Int32) x3
def fX11_clean (x1 : Int32) (v_stones : Int32) (v_fresh : Nat → Int32) (v_fats : Nat → Int32) (v_pulls : Nat → Int32) (v_fine : Nat → Int32) : Option (Int32) :=
  if (fX11_isStone x1 v_stones) = 0 then
    some (-1 : Int32)
  else
    gd (x1 < 0 ∨ 5 ≤ Int32.toNatClampNeg x1) <|
    lt_ (v_fresh (Int32.toNatClampNeg x1)) fun v_3 =>
    if 0 ≤ v_3 then
      gd ((fX11_at x1 v_3) < 0 ∨ 40 ≤ Int32.toNatClampNeg (fX11_at x1 v_3)) <|
      Option.bind (fX11_ghostFat x1 v_3 v_fats) fun v_6 =>
      Option.bind (fX11_lasts v_3 (v_fats (Int32.toNatClampNeg (fX11_at x1 v_3))) (v_pulls (Int32.toNatClampNeg x1)) v_6 v_fine) fun v_7 =>
      some v_7
    else
      some (-3 : Int32)
def fX11_grind_73 (x2 : Int32) (x3 : Int32) (x4 : Int32) (x5 : Int32) (s0 : Int32) (v_deep : Nat → Int32) (v_fine : Nat → Int32) (k43 : (Int32) → Option (Int32)) : Option (Int32) :=
  if s0 = 0 then
    lt_ (x5 + (1 : Int32)) fun v_9 =>
    k43 v_9
  else
    gd (x2 < 0 ∨ 8 ≤ Int32.toNatClampNeg x2) <|
    Option.bind (fX11_lasts x2 (v_deep (Int32.toNatClampNeg x2)) (0 : Int32) (fX11_notBelow0 (x4 - ((3 : Int32) * x5))) v_fine) fun v_11 =>
    if v_11 < x3 then
      lt_ (x5 + (1 : Int32)) fun v_13 =>
      k43 v_13
    else
      some x5
def FX11_grind_43 (x1 : Int32) (x2 : Int32) (x3 : Int32) (x4 : Int32) (v_leastThick : Int32) (v_thick : Nat → Int32) (v_deep : Nat → Int32) (v_fine : Nat → Int32) (k43 : (Int32) → Option (Int32)) (x5 : Int32) : Option (Int32) :=
  if (20 : Int32) < x5 then
    some (-6 : Int32)
  else
    gd (x1 < 0 ∨ 5 ≤ Int32.toNatClampNeg x1) <|
    if ((v_thick (Int32.toNatClampNeg x1)) - ((3 : Int32) * x5)) < v_leastThick then
      fX11_grind_73 x2 x3 x4 x5 (0 : Int32) v_deep v_fine k43
    else
      fX11_grind_73 x2 x3 x4 x5 (1 : Int32) v_deep v_fine k43
def LX11_grind_43 (x1 : Int32) (x2 : Int32) (x3 : Int32) (x4 : Int32) (v_leastThick : Int32) (v_thick : Nat → Int32) (v_deep : Nat → Int32) (v_fine : Nat → Int32) (n : Nat) : (Int32) → Option (Int32) := Nat.rec (fun _ => none) (fun _ k => FX11_grind_43 x1 x2 x3 x4 v_leastThick v_thick v_deep v_fine k) n
def fX11_grind (x1 : Int32) (x2 : Int32) (x3 : Int32) (v_stones : Int32) (v_leastThick : Int32) (v_fats : Nat → Int32) (v_thick : Nat → Int32) (v_deep : Nat → Int32) (v_fine : Nat → Int32) : Option (Int32) :=
  if (fX11_isStone x1 v_stones) = 0 then
    some (-1 : Int32)
  else
    if (fX11_isPicture x2) = 0 then
      some (-1 : Int32)
    else
      if (fX11_in (Int32.toInt64 x3) (0 : Int64) (999 : Int64)) = 0 then
        some (-2 : Int32)
      else
        Option.bind (fX11_ghostFat x1 x2 v_fats) fun v_4 =>
        LX11_grind_43 x1 x2 x3 v_4 v_leastThick v_thick v_deep v_fine 2000 (0 : Int32)
def fX11_lives (x1 : Int32) (x2 : Int32) (v_stones : Int32) (v_leastThick : Int32) (v_thick : Nat → Int32) : Option (Int32) :=
  if (fX11_isStone x1 v_stones) = 0 then
    some (-1 : Int32)
  else
    if (fX11_in (Int32.toInt64 x2) (1 : Int64) (99 : Int64)) = 0 then
      some (-2 : Int32)
    else
      gd (x1 < 0 ∨ 5 ≤ Int32.toNatClampNeg x1) <|
      lt_ ((v_thick (Int32.toNatClampNeg x1)) - v_leastThick) fun v_4 =>
      if 0 ≤ v_4 then
        gd (((3 : Int32) * x2) = 0) <|
        some (v_4 / ((3 : Int32) * x2))
      else
        some (0 : Int32)
def fX11_withOn_26 (x1 : Int32) (x2 : Int32) (x3 : Int32) (s0 : Int32) (v_pay : Nat → Int32) (v_mostPay : Nat → Int32) : Option (Int32) :=
  if s0 = 0 then
    some (-1 : Int32)
  else
    gd (x1 < 0 ∨ 8 ≤ Int32.toNatClampNeg x1) <|
    gd ((((32 : Int32) * (x1 + (1 : Int32))) + (x2 ||| ((1 : Int32) <<< (x3 &&& 31)))) < 0 ∨ 288 ≤ Int32.toNatClampNeg (((32 : Int32) * (x1 + (1 : Int32))) + (x2 ||| ((1 : Int32) <<< (x3 &&& 31))))) <|
    some ((v_pay (Int32.toNatClampNeg x1)) + (v_mostPay (Int32.toNatClampNeg (((32 : Int32) * (x1 + (1 : Int32))) + (x2 ||| ((1 : Int32) <<< (x3 &&& 31)))))))
def fX11_withOn (x1 : Int32) (x2 : Int32) (x3 : Int32) (v_pay : Nat → Int32) (v_mostPay : Nat → Int32) (v_canLast : Nat → Int32) : Option (Int32) :=
  if ((x2 >>> (x3 &&& 31)) &&& (1 : Int32)) = 0 then
    gd ((fX11_at x3 x1) < 0 ∨ 40 ≤ Int32.toNatClampNeg (fX11_at x3 x1)) <|
    if (v_canLast (Int32.toNatClampNeg (fX11_at x3 x1))) = 0 then
      fX11_withOn_26 x1 x2 x3 (0 : Int32) v_pay v_mostPay
    else
      fX11_withOn_26 x1 x2 x3 (1 : Int32) v_pay v_mostPay
  else
    fX11_withOn_26 x1 x2 x3 (0 : Int32) v_pay v_mostPay
def FX11_bestFrom_17 (x1 : Int32) (x2 : Int32) (v_mostPay : Nat → Int32) (v_pay : Nat → Int32) (v_canLast : Nat → Int32) (k17 : (Int32) → (Int32) → Option (Int32)) (x3 : Int32) (x4 : Int32) : Option (Int32) :=
  if (5 : Int32) ≤ x4 then
    some x3
  else
    Option.bind (fX11_withOn x1 x2 x4 v_pay v_mostPay v_canLast) fun v_4 =>
    if v_4 ≤ x3 then
      lt_ (x4 + (1 : Int32)) fun v_6 =>
      k17 x3 v_6
    else
      lt_ (x4 + (1 : Int32)) fun v_7 =>
      k17 v_4 v_7
def LX11_bestFrom_17 (x1 : Int32) (x2 : Int32) (v_mostPay : Nat → Int32) (v_pay : Nat → Int32) (v_canLast : Nat → Int32) (n : Nat) : (Int32) → (Int32) → Option (Int32) := Nat.rec (fun _ _ => none) (fun _ k => FX11_bestFrom_17 x1 x2 v_mostPay v_pay v_canLast k) n
def fX11_bestFrom (x1 : Int32) (x2 : Int32) (v_mostPay : Nat → Int32) (v_pay : Nat → Int32) (v_canLast : Nat → Int32) : Option (Int32) :=
  gd ((((32 : Int32) * (x1 + (1 : Int32))) + x2) < 0 ∨ 288 ≤ Int32.toNatClampNeg (((32 : Int32) * (x1 + (1 : Int32))) + x2)) <|
  lt_ (v_mostPay (Int32.toNatClampNeg (((32 : Int32) * (x1 + (1 : Int32))) + x2))) fun v_2 =>
  LX11_bestFrom_17 x1 x2 v_mostPay v_pay v_canLast 2000 v_2 (0 : Int32)
def FX11_layOrders_161 (x3 : Int32) (v_pay : Nat → Int32) (v_canLast : Nat → Int32) (k154 : (Int32) → (Nat → Int32) → Option ((Nat → Int32) × (Nat → Int32))) (k161 : (Int32) → (Nat → Int32) → Option ((Nat → Int32) × (Nat → Int32))) (x4 : Int32) (v_mostPay : Nat → Int32) : Option ((Nat → Int32) × (Nat → Int32)) :=
  if (32 : Int32) ≤ x4 then
    lt_ (x3 + (-1 : Int32)) fun v_5 =>
    k154 v_5 v_mostPay
  else
    Option.bind (fX11_bestFrom x3 x4 v_mostPay v_pay v_canLast) fun v_6 =>
    gd ((((32 : Int32) * x3) + x4) < 0 ∨ 288 ≤ Int32.toNatClampNeg (((32 : Int32) * x3) + x4)) <|
    lt_ (x4 + (1 : Int32)) fun v_8 =>
    k161 v_8 (upd v_mostPay (Int32.toNatClampNeg (((32 : Int32) * x3) + x4)) v_6)
def LX11_layOrders_161 (x3 : Int32) (v_pay : Nat → Int32) (v_canLast : Nat → Int32) (k154 : (Int32) → (Nat → Int32) → Option ((Nat → Int32) × (Nat → Int32))) (n : Nat) : (Int32) → (Nat → Int32) → Option ((Nat → Int32) × (Nat → Int32)) := Nat.rec (fun _ _ => none) (fun _ k => FX11_layOrders_161 x3 v_pay v_canLast k154 k) n
def FX11_layOrders_154 (v_pay : Nat → Int32) (v_canLast : Nat → Int32) (k154 : (Int32) → (Nat → Int32) → Option ((Nat → Int32) × (Nat → Int32))) (x3 : Int32) (v_mostPay : Nat → Int32) : Option ((Nat → Int32) × (Nat → Int32)) :=
  if x3 < 0 then
    some (v_mostPay, v_canLast)
  else
    LX11_layOrders_161 x3 v_pay v_canLast k154 2000 (0 : Int32) v_mostPay
def LX11_layOrders_154 (v_pay : Nat → Int32) (v_canLast : Nat → Int32) (n : Nat) : (Int32) → (Nat → Int32) → Option ((Nat → Int32) × (Nat → Int32)) := Nat.rec (fun _ _ => none) (fun _ k => FX11_layOrders_154 v_pay v_canLast k) n
def FX11_layOrders_128 (v_pay : Nat → Int32) (v_canLast : Nat → Int32) (k128 : (Int32) → (Nat → Int32) → Option ((Nat → Int32) × (Nat → Int32))) (x3 : Int32) (v_mostPay : Nat → Int32) : Option ((Nat → Int32) × (Nat → Int32)) :=
  if (32 : Int32) ≤ x3 then
    LX11_layOrders_154 v_pay v_canLast 2000 (7 : Int32) v_mostPay
  else
    gd (((256 : Int32) + x3) < 0 ∨ 288 ≤ Int32.toNatClampNeg ((256 : Int32) + x3)) <|
    lt_ (x3 + (1 : Int32)) fun v_10 =>
    k128 v_10 (upd v_mostPay (Int32.toNatClampNeg ((256 : Int32) + x3)) (0 : Int32))
def LX11_layOrders_128 (v_pay : Nat → Int32) (v_canLast : Nat → Int32) (n : Nat) : (Int32) → (Nat → Int32) → Option ((Nat → Int32) × (Nat → Int32)) := Nat.rec (fun _ _ => none) (fun _ k => FX11_layOrders_128 v_pay v_canLast k) n
def fX11_layOrders_68 (x2 : Int32) (x3 : Int32) (x4 : Int32) (s0 : Int32) (v_canLast : Nat → Int32) (v_deep : Nat → Int32) (v_fats : Nat → Int32) (v_fine : Nat → Int32) (k11 : (Int32) → (Nat → Int32) → Option ((Nat → Int32) × (Nat → Int32))) : Option ((Nat → Int32) × (Nat → Int32)) :=
  if s0 = 0 then
    gd ((fX11_at x4 x3) < 0 ∨ 40 ≤ Int32.toNatClampNeg (fX11_at x4 x3)) <|
    lt_ (x4 + (1 : Int32)) fun v_16 =>
    k11 v_16 (upd v_canLast (Int32.toNatClampNeg (fX11_at x4 x3)) (vp_nar .boolean (0 : Int32)))
  else
    gd (x3 < 0 ∨ 8 ≤ Int32.toNatClampNeg x3) <|
    Option.bind (fX11_ghostFat x4 x3 v_fats) fun v_18 =>
    Option.bind (fX11_lasts x3 (v_deep (Int32.toNatClampNeg x3)) (0 : Int32) v_18 v_fine) fun v_19 =>
    if v_19 < x2 then
      gd ((fX11_at x4 x3) < 0 ∨ 40 ≤ Int32.toNatClampNeg (fX11_at x4 x3)) <|
      lt_ (x4 + (1 : Int32)) fun v_22 =>
      k11 v_22 (upd v_canLast (Int32.toNatClampNeg (fX11_at x4 x3)) (vp_nar .boolean (0 : Int32)))
    else
      gd ((fX11_at x4 x3) < 0 ∨ 40 ≤ Int32.toNatClampNeg (fX11_at x4 x3)) <|
      lt_ (x4 + (1 : Int32)) fun v_24 =>
      k11 v_24 (upd v_canLast (Int32.toNatClampNeg (fX11_at x4 x3)) (vp_nar .boolean (1 : Int32)))
def FX11_layOrders_11 (x1 : Int32) (x2 : Int32) (x3 : Int32) (v_stones : Int32) (v_flat : Int32) (v_leastThick : Int32) (v_deep : Nat → Int32) (v_fats : Nat → Int32) (v_fine : Nat → Int32) (v_hollow : Nat → Int32) (v_thick : Nat → Int32) (k2 : (Int32) → (Nat → Int32) → Option ((Nat → Int32) × (Nat → Int32))) (k11 : (Int32) → (Nat → Int32) → Option ((Nat → Int32) × (Nat → Int32))) (x4 : Int32) (v_canLast : Nat → Int32) : Option ((Nat → Int32) × (Nat → Int32)) :=
  if (5 : Int32) ≤ x4 then
    lt_ (x3 + (1 : Int32)) fun v_12 =>
    k2 v_12 v_canLast
  else
    if ((x1 >>> (x3 &&& 31)) &&& (1 : Int32)) = (1 : Int32) then
      if (fX11_isStone x4 v_stones) = 0 then
        fX11_layOrders_68 x2 x3 x4 (0 : Int32) v_canLast v_deep v_fats v_fine k11
      else
        gd (x4 < 0 ∨ 5 ≤ Int32.toNatClampNeg x4) <|
        if v_flat < (v_hollow (Int32.toNatClampNeg x4)) then
          fX11_layOrders_68 x2 x3 x4 (0 : Int32) v_canLast v_deep v_fats v_fine k11
        else
          if (v_thick (Int32.toNatClampNeg x4)) < v_leastThick then
            fX11_layOrders_68 x2 x3 x4 (0 : Int32) v_canLast v_deep v_fats v_fine k11
          else
            fX11_layOrders_68 x2 x3 x4 (1 : Int32) v_canLast v_deep v_fats v_fine k11
    else
      fX11_layOrders_68 x2 x3 x4 (0 : Int32) v_canLast v_deep v_fats v_fine k11
def LX11_layOrders_11 (x1 : Int32) (x2 : Int32) (x3 : Int32) (v_stones : Int32) (v_flat : Int32) (v_leastThick : Int32) (v_deep : Nat → Int32) (v_fats : Nat → Int32) (v_fine : Nat → Int32) (v_hollow : Nat → Int32) (v_thick : Nat → Int32) (k2 : (Int32) → (Nat → Int32) → Option ((Nat → Int32) × (Nat → Int32))) (n : Nat) : (Int32) → (Nat → Int32) → Option ((Nat → Int32) × (Nat → Int32)) := Nat.rec (fun _ _ => none) (fun _ k => FX11_layOrders_11 x1 x2 x3 v_stones v_flat v_leastThick v_deep v_fats v_fine v_hollow v_thick k2 k) n
def FX11_layOrders_2 (x1 : Int32) (x2 : Int32) (v_stones : Int32) (v_flat : Int32) (v_leastThick : Int32) (v_mostPay : Nat → Int32) (v_pay : Nat → Int32) (v_deep : Nat → Int32) (v_fats : Nat → Int32) (v_fine : Nat → Int32) (v_hollow : Nat → Int32) (v_thick : Nat → Int32) (k2 : (Int32) → (Nat → Int32) → Option ((Nat → Int32) × (Nat → Int32))) (x3 : Int32) (v_canLast : Nat → Int32) : Option ((Nat → Int32) × (Nat → Int32)) :=
  if (8 : Int32) ≤ x3 then
    LX11_layOrders_128 v_pay v_canLast 2000 (0 : Int32) v_mostPay
  else
    LX11_layOrders_11 x1 x2 x3 v_stones v_flat v_leastThick v_deep v_fats v_fine v_hollow v_thick k2 2000 (0 : Int32) v_canLast
def LX11_layOrders_2 (x1 : Int32) (x2 : Int32) (v_stones : Int32) (v_flat : Int32) (v_leastThick : Int32) (v_mostPay : Nat → Int32) (v_pay : Nat → Int32) (v_deep : Nat → Int32) (v_fats : Nat → Int32) (v_fine : Nat → Int32) (v_hollow : Nat → Int32) (v_thick : Nat → Int32) (n : Nat) : (Int32) → (Nat → Int32) → Option ((Nat → Int32) × (Nat → Int32)) := Nat.rec (fun _ _ => none) (fun _ k => FX11_layOrders_2 x1 x2 v_stones v_flat v_leastThick v_mostPay v_pay v_deep v_fats v_fine v_hollow v_thick k) n
def fX11_layOrders (x1 : Int32) (x2 : Int32) (v_stones : Int32) (v_flat : Int32) (v_leastThick : Int32) (v_mostPay : Nat → Int32) (v_pay : Nat → Int32) (v_canLast : Nat → Int32) (v_deep : Nat → Int32) (v_fats : Nat → Int32) (v_fine : Nat → Int32) (v_hollow : Nat → Int32) (v_thick : Nat → Int32) : Option ((Nat → Int32) × (Nat → Int32)) :=
  LX11_layOrders_2 x1 x2 v_stones v_flat v_leastThick v_mostPay v_pay v_deep v_fats v_fine v_hollow v_thick 2000 (0 : Int32) v_canLast
def FX11_orders_103 (x5 : Int32) (x7 : Int32) (v_mostPay : Nat → Int32) (v_pay : Nat → Int32) (v_canLast : Nat → Int32) (k90 : (Int32) → (Int32) → (Int32) → Option (Int32 × (Nat → Int32) × (Nat → Int32))) (k103 : (Int32) → (Int32) → Option (Int32 × (Nat → Int32) × (Nat → Int32))) (x6 : Int32) (x8 : Int32) : Option (Int32 × (Nat → Int32) × (Nat → Int32)) :=
  if x8 < 0 then
    if 0 ≤ x6 then
      lt_ (x5 ||| ((1 : Int32) <<< (x6 &&& 31))) fun v_10 =>
      lt_ (x7 + (1 : Int32)) fun v_11 =>
      k90 v_10 x6 v_11
    else
      lt_ (x5 ||| (0 : Int32)) fun v_12 =>
      lt_ (x7 + (1 : Int32)) fun v_13 =>
      k90 v_12 x6 v_13
  else
    Option.bind (fX11_withOn x7 x5 x8 v_pay v_mostPay v_canLast) fun v_14 =>
    gd ((((32 : Int32) * x7) + x5) < 0 ∨ 288 ≤ Int32.toNatClampNeg (((32 : Int32) * x7) + x5)) <|
    if v_14 = (v_mostPay (Int32.toNatClampNeg (((32 : Int32) * x7) + x5))) then
      lt_ (x8 + (-1 : Int32)) fun v_18 =>
      k103 x8 v_18
    else
      lt_ (x8 + (-1 : Int32)) fun v_17 =>
      k103 x6 v_17
def LX11_orders_103 (x5 : Int32) (x7 : Int32) (v_mostPay : Nat → Int32) (v_pay : Nat → Int32) (v_canLast : Nat → Int32) (k90 : (Int32) → (Int32) → (Int32) → Option (Int32 × (Nat → Int32) × (Nat → Int32))) (n : Nat) : (Int32) → (Int32) → Option (Int32 × (Nat → Int32) × (Nat → Int32)) := Nat.rec (fun _ _ => none) (fun _ k => FX11_orders_103 x5 x7 v_mostPay v_pay v_canLast k90 k) n
def FX11_orders_90 (x3 : Int32) (v_mostPay : Nat → Int32) (v_pay : Nat → Int32) (v_canLast : Nat → Int32) (k90 : (Int32) → (Int32) → (Int32) → Option (Int32 × (Nat → Int32) × (Nat → Int32))) (x5 : Int32) (x6 : Int32) (x7 : Int32) : Option (Int32 × (Nat → Int32) × (Nat → Int32)) :=
  if x3 < x7 then
    some (x6, v_mostPay, v_canLast)
  else
    LX11_orders_103 x5 x7 v_mostPay v_pay v_canLast k90 2000 (-6 : Int32) (4 : Int32)
def LX11_orders_90 (x3 : Int32) (v_mostPay : Nat → Int32) (v_pay : Nat → Int32) (v_canLast : Nat → Int32) (n : Nat) : (Int32) → (Int32) → (Int32) → Option (Int32 × (Nat → Int32) × (Nat → Int32)) := Nat.rec (fun _ _ _ => none) (fun _ k => FX11_orders_90 x3 v_mostPay v_pay v_canLast k) n
def fX11_orders_26 (x1 : Int32) (x2 : Int32) (x3 : Int32) (s0 : Int32) (v_stones : Int32) (v_flat : Int32) (v_leastThick : Int32) (v_mostPay : Nat → Int32) (v_pay : Nat → Int32) (v_canLast : Nat → Int32) (v_deep : Nat → Int32) (v_fats : Nat → Int32) (v_fine : Nat → Int32) (v_hollow : Nat → Int32) (v_thick : Nat → Int32) : Option (Int32 × (Nat → Int32) × (Nat → Int32)) :=
  if s0 = 0 then
    some ((-1 : Int32), v_mostPay, v_canLast)
  else
    if (fX11_in (Int32.toInt64 x1) (0 : Int64) (255 : Int64)) = 0 then
      some ((-2 : Int32), v_mostPay, v_canLast)
    else
      if (fX11_in (Int32.toInt64 x2) (0 : Int64) (999 : Int64)) = 0 then
        some ((-2 : Int32), v_mostPay, v_canLast)
      else
        Option.bind (fX11_layOrders x1 x2 v_stones v_flat v_leastThick v_mostPay v_pay v_canLast v_deep v_fats v_fine v_hollow v_thick) fun v_5 =>
        if x3 = (-1 : Int32) then
          some ((v_5.1 (Int32.toNatClampNeg (0 : Int32))), v_5.1, v_5.2)
        else
          LX11_orders_90 x3 v_5.1 v_pay v_5.2 2000 (0 : Int32) (-6 : Int32) (0 : Int32)
def fX11_orders (x1 : Int32) (x2 : Int32) (x3 : Int32) (v_stones : Int32) (v_flat : Int32) (v_leastThick : Int32) (v_mostPay : Nat → Int32) (v_pay : Nat → Int32) (v_canLast : Nat → Int32) (v_deep : Nat → Int32) (v_fats : Nat → Int32) (v_fine : Nat → Int32) (v_hollow : Nat → Int32) (v_thick : Nat → Int32) : Option (Int32 × (Nat → Int32) × (Nat → Int32)) :=
  if x3 = (-1 : Int32) then
    fX11_orders_26 x1 x2 x3 (1 : Int32) v_stones v_flat v_leastThick v_mostPay v_pay v_canLast v_deep v_fats v_fine v_hollow v_thick
  else
    if (fX11_isPicture x3) = 0 then
      fX11_orders_26 x1 x2 x3 (0 : Int32) v_stones v_flat v_leastThick v_mostPay v_pay v_canLast v_deep v_fats v_fine v_hollow v_thick
    else
      if ((x1 >>> (x3 &&& 31)) &&& (1 : Int32)) = (1 : Int32) then
        fX11_orders_26 x1 x2 x3 (1 : Int32) v_stones v_flat v_leastThick v_mostPay v_pay v_canLast v_deep v_fats v_fine v_hollow v_thick
      else
        fX11_orders_26 x1 x2 x3 (0 : Int32) v_stones v_flat v_leastThick v_mostPay v_pay v_canLast v_deep v_fats v_fine v_hollow v_thick
def fX11_colours_145 (x4 : Int32) (x6 : Int32) (x7 : Int32) (x9 : Int32) (s0 : Int32) (k61 : (Int32) → (Int32) → (Int32) → Option (Int32 × (Nat → Int32))) : Option (Int32 × (Nat → Int32)) :=
  if s0 = 0 then
    if s0 = 0 then
      lt_ (x7 + (-1 : Int32)) fun v_17 =>
      k61 x4 x6 v_17
    else
      lt_ (x7 + (-1 : Int32)) fun v_18 =>
      k61 x7 x6 v_18
  else
    if s0 = 0 then
      lt_ (x7 + (-1 : Int32)) fun v_20 =>
      k61 x4 x9 v_20
    else
      lt_ (x7 + (-1 : Int32)) fun v_21 =>
      k61 x7 x9 v_21
def fX11_colours_81 (x4 : Int32) (x5 : Int32) (x6 : Int32) (x7 : Int32) (s0 : Int32) (v_leastMissed : Nat → Int32) (v_hair : Nat → Int32) (k61 : (Int32) → (Int32) → (Int32) → Option (Int32 × (Nat → Int32))) : Option (Int32 × (Nat → Int32)) :=
  if s0 = 0 then
    if s0 = 0 then
      fX11_colours_145 x4 x6 x7 (0 : Int32) (0 : Int32) k61
    else
      if x6 < 0 then
        fX11_colours_145 x4 x6 x7 (0 : Int32) (1 : Int32) k61
      else
        if x6 < (0 : Int32) then
          fX11_colours_145 x4 x6 x7 (0 : Int32) (0 : Int32) k61
        else
          fX11_colours_145 x4 x6 x7 (0 : Int32) (1 : Int32) k61
  else
    Option.bind (fX11_ones x5) fun v_24 =>
    gd (x7 < 0 ∨ 6 ≤ Int32.toNatClampNeg x7) <|
    gd ((x5 ||| ((1 : Int32) <<< (x7 &&& 31))) < 0 ∨ 64 ≤ Int32.toNatClampNeg (x5 ||| ((1 : Int32) <<< (x7 &&& 31)))) <|
    lt_ ((fX11_size (v_24 - (v_hair (Int32.toNatClampNeg x7)))) + (v_leastMissed (Int32.toNatClampNeg (x5 ||| ((1 : Int32) <<< (x7 &&& 31)))))) fun v_27 =>
    if s0 = 0 then
      fX11_colours_145 x4 x6 x7 v_27 (0 : Int32) k61
    else
      if x6 < 0 then
        fX11_colours_145 x4 x6 x7 v_27 (1 : Int32) k61
      else
        if x6 < v_27 then
          fX11_colours_145 x4 x6 x7 v_27 (0 : Int32) k61
        else
          fX11_colours_145 x4 x6 x7 v_27 (1 : Int32) k61
def FX11_colours_61 (x5 : Int32) (v_leastMissed : Nat → Int32) (v_hair : Nat → Int32) (k47 : (Int32) → (Int32) → (Nat → Int32) → Option (Int32 × (Nat → Int32))) (k61 : (Int32) → (Int32) → (Int32) → Option (Int32 × (Nat → Int32))) (x4 : Int32) (x6 : Int32) (x7 : Int32) : Option (Int32 × (Nat → Int32)) :=
  if x7 < 0 then
    gd (x5 < 0 ∨ 64 ≤ Int32.toNatClampNeg x5) <|
    lt_ (x5 + (-1 : Int32)) fun v_11 =>
    k47 x4 v_11 (upd v_leastMissed (Int32.toNatClampNeg x5) x6)
  else
    if ((x5 >>> (x7 &&& 31)) &&& (1 : Int32)) = 0 then
      fX11_colours_81 x4 x5 x6 x7 (1 : Int32) v_leastMissed v_hair k61
    else
      fX11_colours_81 x4 x5 x6 x7 (0 : Int32) v_leastMissed v_hair k61
def LX11_colours_61 (x5 : Int32) (v_leastMissed : Nat → Int32) (v_hair : Nat → Int32) (k47 : (Int32) → (Int32) → (Nat → Int32) → Option (Int32 × (Nat → Int32))) (n : Nat) : (Int32) → (Int32) → (Int32) → Option (Int32 × (Nat → Int32)) := Nat.rec (fun _ _ _ => none) (fun _ k => FX11_colours_61 x5 v_leastMissed v_hair k47 k) n
def FX11_colours_47 (x1 : Int32) (x2 : Int32) (v_hair : Nat → Int32) (k47 : (Int32) → (Int32) → (Nat → Int32) → Option (Int32 × (Nat → Int32))) (x4 : Int32) (x5 : Int32) (v_leastMissed : Nat → Int32) : Option (Int32 × (Nat → Int32)) :=
  if x5 < 0 then
    if x2 = 0 then
      some ((v_leastMissed (Int32.toNatClampNeg (0 : Int32))), v_leastMissed)
    else
      some (x4, v_leastMissed)
  else
    lt_ (x1 - (1 : Int32)) fun v_8 =>
    LX11_colours_61 x5 v_leastMissed v_hair k47 2000 x4 (-6 : Int32) v_8
def LX11_colours_47 (x1 : Int32) (x2 : Int32) (v_hair : Nat → Int32) (n : Nat) : (Int32) → (Int32) → (Nat → Int32) → Option (Int32 × (Nat → Int32)) := Nat.rec (fun _ _ _ => none) (fun _ k => FX11_colours_47 x1 x2 v_hair k) n
def fX11_colours (x1 : Int32) (x2 : Int32) (v_leastMissed : Nat → Int32) (v_hair : Nat → Int32) : Option (Int32 × (Nat → Int32)) :=
  if (fX11_in (Int32.toInt64 x1) (1 : Int64) (6 : Int64)) = 0 then
    some ((-2 : Int32), v_leastMissed)
  else
    if (fX11_in (Int32.toInt64 x2) (0 : Int64) (1 : Int64)) = 0 then
      some ((-2 : Int32), v_leastMissed)
    else
      lt_ (((1 : Int32) <<< (x1 &&& 31)) - (1 : Int32)) fun v_3 =>
      gd (v_3 < 0 ∨ 64 ≤ Int32.toNatClampNeg v_3) <|
      lt_ (v_3 - (1 : Int32)) fun v_5 =>
      LX11_colours_47 x1 x2 v_hair 2000 (-6 : Int32) v_5 (upd v_leastMissed (Int32.toNatClampNeg v_3) (0 : Int32))
def FX11_lowest_6 (x0 : Int64) (x2 : Int64) (x4 : Int32) (k6 : (Int64) → (Int64) → Option (Int64)) (x5 : Int64) (x7 : Int64) : Option (Int64) :=
  if (lg_cmp x7 (0 : Int64)) = 0 then
    if x4 = 0 then
      gd (x5 = 0) <|
      some (x0 / x5)
    else
      gd (x5 = 0) <|
      some (x2 / x5)
  else
    gd (x7 = 0) <|
    lt_ (x5 - x5 / x7 * x7) fun v_6 =>
    k6 x7 v_6
def LX11_lowest_6 (x0 : Int64) (x2 : Int64) (x4 : Int32) (n : Nat) : (Int64) → (Int64) → Option (Int64) := Nat.rec (fun _ _ => none) (fun _ k => FX11_lowest_6 x0 x2 x4 k) n
def fX11_lowest (x0 : Int64) (x2 : Int64) (x4 : Int32) : Option (Int64) :=
  LX11_lowest_6 x0 x2 x4 2000 x2 x0
def FX11_crack_106 (x3 : Int32) (x4 : Int32) (x5 : Int32) (x7 : Int32) (k106 : (Int64) → (Int64) → (Int64) → (Int32) → Option (Int64)) (x8 : Int64) (x10 : Int64) (x12 : Int64) (x14 : Int32) : Option (Int64) :=
  if x3 < x14 then
    if x4 = 0 then
      Option.bind (fX11_lowest x8 x10 x5) fun v_12 =>
      some v_12
    else
      Option.bind (fX11_lowest (x12 + ((Int32.toInt64 (x3 + (1 : Int32))) * x8)) x10 x5) fun v_11 =>
      some v_11
  else
    lt_ (((10 : Int64) * x12) + ((Int32.toInt64 (x14 * x7)) * x8)) fun v_13 =>
    lt_ (x8 * (Int32.toInt64 ((10 : Int32) - x7))) fun v_14 =>
    lt_ (x10 * (10 : Int64)) fun v_15 =>
    lt_ (x14 + (1 : Int32)) fun v_16 =>
    k106 v_14 v_15 v_13 v_16
def LX11_crack_106 (x3 : Int32) (x4 : Int32) (x5 : Int32) (x7 : Int32) (n : Nat) : (Int64) → (Int64) → (Int64) → (Int32) → Option (Int64) := Nat.rec (fun _ _ _ _ => none) (fun _ k => FX11_crack_106 x3 x4 x5 x7 k) n
def fX11_crack (x1 : Int32) (x2 : Int32) (x3 : Int32) (x4 : Int32) (x5 : Int32) (v_stones : Int32) (v_thick : Nat → Int32) : Option (Int64) :=
  if (fX11_isStone x1 v_stones) = 0 then
    some (-1000000000000000001 : Int64)
  else
    if (fX11_in (Int32.toInt64 x2) (0 : Int64) (150 : Int64)) = 0 then
      some (-1000000000000000002 : Int64)
    else
      if (fX11_in (Int32.toInt64 x3) (0 : Int64) (9 : Int64)) = 0 then
        some (-1000000000000000002 : Int64)
      else
        if (fX11_in (Int32.toInt64 x4) (0 : Int64) (1 : Int64)) = 0 then
          some (-1000000000000000002 : Int64)
        else
          if (fX11_in (Int32.toInt64 x5) (0 : Int64) (1 : Int64)) = 0 then
            some (-1000000000000000002 : Int64)
          else
            gd (x1 < 0 ∨ 5 ≤ Int32.toNatClampNeg x1) <|
            lt_ (fX11_notBelow0 (x2 - ((v_thick (Int32.toNatClampNeg x1)) / (100 : Int32)))) fun v_7 =>
            if v_7 ≤ (10 : Int32) then
              LX11_crack_106 x3 x4 x5 v_7 2000 (1 : Int64) (1 : Int64) (0 : Int64) (1 : Int32)
            else
              LX11_crack_106 x3 x4 x5 (10 : Int32) 2000 (1 : Int64) (1 : Int64) (0 : Int64) (1 : Int32)
def fX11_seen (x1 : Int32) (x2 : Int32) (x3 : Int32) (v_sights : Int32) (v_sightPicture : Nat → Int32) (v_sightPull : Nat → Int32) (v_sightShows : Nat → Int32) : Option (Int32 × Int32 × (Nat → Int32) × (Nat → Int32) × (Nat → Int32)) :=
  if (fX11_isPicture x1) = 0 then
    some ((-1 : Int32), v_sights, v_sightPicture, v_sightPull, v_sightShows)
  else
    if (fX11_in (Int32.toInt64 x2) (0 : Int64) (999 : Int64)) = 0 then
      some ((-2 : Int32), v_sights, v_sightPicture, v_sightPull, v_sightShows)
    else
      if v_sights = (8 : Int32) then
        some ((-4 : Int32), v_sights, v_sightPicture, v_sightPull, v_sightShows)
      else
        gd (v_sights < 0 ∨ 8 ≤ Int32.toNatClampNeg v_sights) <|
        if x3 = 0 then
          lt_ (v_sights + (1 : Int32)) fun v_6 =>
          some (v_6, v_6, (upd v_sightPicture (Int32.toNatClampNeg v_sights) x1), (upd v_sightPull (Int32.toNatClampNeg v_sights) x2), (upd v_sightShows (Int32.toNatClampNeg v_sights) (0 : Int32)))
        else
          lt_ (v_sights + (1 : Int32)) fun v_7 =>
          some (v_7, v_7, (upd v_sightPicture (Int32.toNatClampNeg v_sights) x1), (upd v_sightPull (Int32.toNatClampNeg v_sights) x2), (upd v_sightShows (Int32.toNatClampNeg v_sights) (1 : Int32)))
def fX11_forget (v_sights : Int32) : Int32 × Int32 :=
  (v_sights, (0 : Int32))
def fX11_shows (x1 : Int32) (x2 : Int32) (x3 : Int32) (x4 : Int32) (v_deep : Nat → Int32) (v_fine : Nat → Int32) : Option (Int32) :=
  gd (x1 < 0 ∨ 8 ≤ Int32.toNatClampNeg x1) <|
  lt_ (fX11_notBelow0 ((v_deep (Int32.toNatClampNeg x1)) - ((3 : Int32) * x2))) fun v_2 =>
  gd (x3 < 0 ∨ 8 ≤ Int32.toNatClampNeg x3) <|
  Option.bind (fX11_wearOf x3 v_fine) fun v_4 =>
  lt_ (fX11_notBelow0 ((v_deep (Int32.toNatClampNeg x3)) - (v_4 * (x4 / (10 : Int32))))) fun v_5 =>
  if x1 = x3 then
    some (0 : Int32)
  else
    if v_2 ≤ v_5 then
      some (0 : Int32)
    else
      some (1 : Int32)
def FX11_fits_5 (x1 : Int32) (x2 : Int32) (v_sights : Int32) (v_sightPicture : Nat → Int32) (v_sightPull : Nat → Int32) (v_deep : Nat → Int32) (v_fine : Nat → Int32) (v_sightShows : Nat → Int32) (k5 : (Int32) → (Int32) → Option (Int32)) (x3 : Int32) (x4 : Int32) : Option (Int32) :=
  if v_sights ≤ x4 then
    gd (¬ (x3 = 0 ∨ x3 = 1)) <|
    some x3
  else
    if x3 = 0 then
      lt_ (x4 + (1 : Int32)) fun v_4 =>
      k5 (0 : Int32) v_4
    else
      gd (x4 < 0 ∨ 8 ≤ Int32.toNatClampNeg x4) <|
      Option.bind (fX11_shows x1 x2 (v_sightPicture (Int32.toNatClampNeg x4)) (v_sightPull (Int32.toNatClampNeg x4)) v_deep v_fine) fun v_6 =>
      if (v_sightShows (Int32.toNatClampNeg x4)) = (1 : Int32) then
        if v_6 = (1 : Int32) then
          lt_ (x4 + (1 : Int32)) fun v_13 =>
          k5 (1 : Int32) v_13
        else
          lt_ (x4 + (1 : Int32)) fun v_12 =>
          k5 (0 : Int32) v_12
      else
        if v_6 = (0 : Int32) then
          lt_ (x4 + (1 : Int32)) fun v_10 =>
          k5 (1 : Int32) v_10
        else
          lt_ (x4 + (1 : Int32)) fun v_9 =>
          k5 (0 : Int32) v_9
def LX11_fits_5 (x1 : Int32) (x2 : Int32) (v_sights : Int32) (v_sightPicture : Nat → Int32) (v_sightPull : Nat → Int32) (v_deep : Nat → Int32) (v_fine : Nat → Int32) (v_sightShows : Nat → Int32) (n : Nat) : (Int32) → (Int32) → Option (Int32) := Nat.rec (fun _ _ => none) (fun _ k => FX11_fits_5 x1 x2 v_sights v_sightPicture v_sightPull v_deep v_fine v_sightShows k) n
def fX11_fits (x1 : Int32) (x2 : Int32) (v_sights : Int32) (v_sightPicture : Nat → Int32) (v_sightPull : Nat → Int32) (v_deep : Nat → Int32) (v_fine : Nat → Int32) (v_sightShows : Nat → Int32) : Option (Int32) :=
  LX11_fits_5 x1 x2 v_sights v_sightPicture v_sightPull v_deep v_fine v_sightShows 2000 (1 : Int32) (0 : Int32)
def FX11_whose_4 (x1 : Int32) (v_sights : Int32) (v_sightPicture : Nat → Int32) (v_sightPull : Nat → Int32) (v_deep : Nat → Int32) (v_fine : Nat → Int32) (v_sightShows : Nat → Int32) (k4 : (Int32) → (Int32) → Option (Int32)) (x2 : Int32) (x3 : Int32) : Option (Int32) :=
  if (160 : Int32) ≤ x3 then
    if x1 = (-1 : Int32) then
      some x2
    else
      some (-6 : Int32)
  else
    lt_ ((1 : Int32) + (x3 - x3 / (20 : Int32) * (20 : Int32))) fun v_3 =>
    Option.bind (fX11_fits (x3 / (20 : Int32)) v_3 v_sights v_sightPicture v_sightPull v_deep v_fine v_sightShows) fun v_4 =>
    if v_4 = 0 then
      lt_ (x3 + (1 : Int32)) fun v_6 =>
      k4 x2 v_6
    else
      if x2 = x1 then
        some (((100 : Int32) * (x3 / (20 : Int32))) + v_3)
      else
        lt_ (x2 + (1 : Int32)) fun v_8 =>
        lt_ (x3 + (1 : Int32)) fun v_9 =>
        k4 v_8 v_9
def LX11_whose_4 (x1 : Int32) (v_sights : Int32) (v_sightPicture : Nat → Int32) (v_sightPull : Nat → Int32) (v_deep : Nat → Int32) (v_fine : Nat → Int32) (v_sightShows : Nat → Int32) (n : Nat) : (Int32) → (Int32) → Option (Int32) := Nat.rec (fun _ _ => none) (fun _ k => FX11_whose_4 x1 v_sights v_sightPicture v_sightPull v_deep v_fine v_sightShows k) n
def fX11_whose (x1 : Int32) (v_sights : Int32) (v_sightPicture : Nat → Int32) (v_sightPull : Nat → Int32) (v_deep : Nat → Int32) (v_fine : Nat → Int32) (v_sightShows : Nat → Int32) : Option (Int32) :=
  LX11_whose_4 x1 v_sights v_sightPicture v_sightPull v_deep v_fine v_sightShows 2000 (0 : Int32) (0 : Int32)
def FX11_suspects_4 (v_sights : Int32) (v_sightPicture : Nat → Int32) (v_sightPull : Nat → Int32) (v_deep : Nat → Int32) (v_fine : Nat → Int32) (v_sightShows : Nat → Int32) (k4 : (Int32) → (Int32) → Option (Int32)) (x1 : Int32) (x2 : Int32) : Option (Int32) :=
  if (160 : Int32) ≤ x2 then
    some x1
  else
    Option.bind (fX11_fits (x2 / (20 : Int32)) ((1 : Int32) + (x2 - x2 / (20 : Int32) * (20 : Int32))) v_sights v_sightPicture v_sightPull v_deep v_fine v_sightShows) fun v_2 =>
    if v_2 = 0 then
      lt_ (x1 ||| (0 : Int32)) fun v_4 =>
      lt_ (x2 + (1 : Int32)) fun v_5 =>
      k4 v_4 v_5
    else
      lt_ (x1 ||| ((1 : Int32) <<< ((x2 / (20 : Int32)) &&& 31))) fun v_6 =>
      lt_ (x2 + (1 : Int32)) fun v_7 =>
      k4 v_6 v_7
def LX11_suspects_4 (v_sights : Int32) (v_sightPicture : Nat → Int32) (v_sightPull : Nat → Int32) (v_deep : Nat → Int32) (v_fine : Nat → Int32) (v_sightShows : Nat → Int32) (n : Nat) : (Int32) → (Int32) → Option (Int32) := Nat.rec (fun _ _ => none) (fun _ k => FX11_suspects_4 v_sights v_sightPicture v_sightPull v_deep v_fine v_sightShows k) n
def fX11_suspects (v_sights : Int32) (v_sightPicture : Nat → Int32) (v_sightPull : Nat → Int32) (v_deep : Nat → Int32) (v_fine : Nat → Int32) (v_sightShows : Nat → Int32) : Option (Int32) :=
  LX11_suspects_4 v_sights v_sightPicture v_sightPull v_deep v_fine v_sightShows 2000 (0 : Int32) (0 : Int32)
def FX11_mostLeft_8 (x1 : Int32) (x2 : Int32) (v_sights : Int32) (v_sightPicture : Nat → Int32) (v_sightPull : Nat → Int32) (v_deep : Nat → Int32) (v_fine : Nat → Int32) (v_sightShows : Nat → Int32) (k8 : (Int32) → (Int32) → (Int32) → Option (Int32)) (x3 : Int32) (x4 : Int32) (x5 : Int32) : Option (Int32) :=
  if (160 : Int32) ≤ x5 then
    if x3 ≤ x4 then
      some x4
    else
      some x3
  else
    lt_ ((1 : Int32) + (x5 - x5 / (20 : Int32) * (20 : Int32))) fun v_3 =>
    Option.bind (fX11_fits (x5 / (20 : Int32)) v_3 v_sights v_sightPicture v_sightPull v_deep v_fine v_sightShows) fun v_4 =>
    if v_4 = 0 then
      lt_ (x5 + (1 : Int32)) fun v_6 =>
      k8 x3 x4 v_6
    else
      Option.bind (fX11_shows (x5 / (20 : Int32)) v_3 x1 x2 v_deep v_fine) fun v_7 =>
      if v_7 = 0 then
        lt_ (x3 + (0 : Int32)) fun v_9 =>
        if v_7 = 0 then
          lt_ (x4 + (1 : Int32)) fun v_11 =>
          lt_ (x5 + (1 : Int32)) fun v_12 =>
          k8 v_9 v_11 v_12
        else
          lt_ (x4 + (0 : Int32)) fun v_13 =>
          lt_ (x5 + (1 : Int32)) fun v_14 =>
          k8 v_9 v_13 v_14
      else
        lt_ (x3 + (1 : Int32)) fun v_15 =>
        if v_7 = 0 then
          lt_ (x4 + (1 : Int32)) fun v_17 =>
          lt_ (x5 + (1 : Int32)) fun v_18 =>
          k8 v_15 v_17 v_18
        else
          lt_ (x4 + (0 : Int32)) fun v_19 =>
          lt_ (x5 + (1 : Int32)) fun v_20 =>
          k8 v_15 v_19 v_20
def LX11_mostLeft_8 (x1 : Int32) (x2 : Int32) (v_sights : Int32) (v_sightPicture : Nat → Int32) (v_sightPull : Nat → Int32) (v_deep : Nat → Int32) (v_fine : Nat → Int32) (v_sightShows : Nat → Int32) (n : Nat) : (Int32) → (Int32) → (Int32) → Option (Int32) := Nat.rec (fun _ _ _ => none) (fun _ k => FX11_mostLeft_8 x1 x2 v_sights v_sightPicture v_sightPull v_deep v_fine v_sightShows k) n
def fX11_mostLeft (x1 : Int32) (x2 : Int32) (v_sights : Int32) (v_sightPicture : Nat → Int32) (v_sightPull : Nat → Int32) (v_deep : Nat → Int32) (v_fine : Nat → Int32) (v_sightShows : Nat → Int32) : Option (Int32) :=
  LX11_mostLeft_8 x1 x2 v_sights v_sightPicture v_sightPull v_deep v_fine v_sightShows 2000 (0 : Int32) (0 : Int32) (0 : Int32)
def FX11_next_40 (x1 : Int32) (x2 : Int32) (v_sights : Int32) (v_sightPicture : Nat → Int32) (v_sightPull : Nat → Int32) (v_deep : Nat → Int32) (v_fine : Nat → Int32) (v_sightShows : Nat → Int32) (k40 : (Int32) → (Int32) → Option (Int32)) (x3 : Int32) (x4 : Int32) : Option (Int32) :=
  if (8 : Int32) ≤ x4 then
    if x2 = 0 then
      some x3
    else
      Option.bind (fX11_mostLeft x3 x1 v_sights v_sightPicture v_sightPull v_deep v_fine v_sightShows) fun v_7 =>
      some v_7
  else
    Option.bind (fX11_mostLeft x4 x1 v_sights v_sightPicture v_sightPull v_deep v_fine v_sightShows) fun v_8 =>
    Option.bind (fX11_mostLeft x3 x1 v_sights v_sightPicture v_sightPull v_deep v_fine v_sightShows) fun v_9 =>
    if v_9 ≤ v_8 then
      lt_ (x4 + (1 : Int32)) fun v_11 =>
      k40 x3 v_11
    else
      lt_ (x4 + (1 : Int32)) fun v_12 =>
      k40 x4 v_12
def LX11_next_40 (x1 : Int32) (x2 : Int32) (v_sights : Int32) (v_sightPicture : Nat → Int32) (v_sightPull : Nat → Int32) (v_deep : Nat → Int32) (v_fine : Nat → Int32) (v_sightShows : Nat → Int32) (n : Nat) : (Int32) → (Int32) → Option (Int32) := Nat.rec (fun _ _ => none) (fun _ k => FX11_next_40 x1 x2 v_sights v_sightPicture v_sightPull v_deep v_fine v_sightShows k) n
def fX11_next (x1 : Int32) (x2 : Int32) (v_sights : Int32) (v_sightPicture : Nat → Int32) (v_sightPull : Nat → Int32) (v_deep : Nat → Int32) (v_fine : Nat → Int32) (v_sightShows : Nat → Int32) : Option (Int32) :=
  if (fX11_in (Int32.toInt64 x1) (0 : Int64) (999 : Int64)) = 0 then
    some (-2 : Int32)
  else
    if (fX11_in (Int32.toInt64 x2) (0 : Int64) (1 : Int64)) = 0 then
      some (-2 : Int32)
    else
      Option.bind (fX11_suspects v_sights v_sightPicture v_sightPull v_deep v_fine v_sightShows) fun v_3 =>
      if v_3 = 0 then
        some (-6 : Int32)
      else
        LX11_next_40 x1 x2 v_sights v_sightPicture v_sightPull v_deep v_fine v_sightShows 2000 (0 : Int32) (1 : Int32)
def FX11_year_188 (x3 : Int32) (v_stones : Int32) (v_pulled : Int32) (v_skyPull : Int32) (v_skyWhose : Int32) (v_fats : Nat → Int32) (v_thick : Nat → Int32) (v_hollow : Nat → Int32) (v_damp : Nat → Int32) (v_fresh : Nat → Int32) (v_pulls : Nat → Int32) (v_had : Nat → Int32) (v_kindMany : Nat → Int32) (k188 : (Int32) → (Int32) → Option (Int32 × Int32 × Int32 × Int32 × Int32 × (Nat → Int32) × (Nat → Int32) × (Nat → Int32) × (Nat → Int32) × (Nat → Int32) × (Nat → Int32) × (Nat → Int32) × (Nat → Int32))) (x5 : Int32) (x6 : Int32) : Option (Int32 × Int32 × Int32 × Int32 × Int32 × (Nat → Int32) × (Nat → Int32) × (Nat → Int32) × (Nat → Int32) × (Nat → Int32) × (Nat → Int32) × (Nat → Int32) × (Nat → Int32)) :=
  if (5 : Int32) ≤ x6 then
    Option.bind (fX11_putBack v_had v_fats v_thick v_hollow v_damp v_fresh v_pulls) fun v_8 =>
    if x3 = 0 then
      some (v_pulled, v_pulled, v_skyPull, v_skyWhose, v_8.1, v_8.2.1, v_8.2.2.1, v_8.2.2.2.1, v_8.2.2.2.2.1, v_8.2.2.2.2.2.1, v_8.2.2.2.2.2.2, v_had, v_kindMany)
    else
      if x3 = (1 : Int32) then
        some ((v_kindMany (Int32.toNatClampNeg (3 : Int32))), v_pulled, v_skyPull, v_skyWhose, v_8.1, v_8.2.1, v_8.2.2.1, v_8.2.2.2.1, v_8.2.2.2.2.1, v_8.2.2.2.2.2.1, v_8.2.2.2.2.2.2, v_had, v_kindMany)
      else
        some (x5, v_pulled, v_skyPull, v_skyWhose, v_8.1, v_8.2.1, v_8.2.2.1, v_8.2.2.2.1, v_8.2.2.2.2.1, v_8.2.2.2.2.2.1, v_8.2.2.2.2.2.2, v_had, v_kindMany)
  else
    if (fX11_isStone x6 v_stones) = 0 then
      lt_ (x5 + (0 : Int32)) fun v_12 =>
      lt_ (x6 + (1 : Int32)) fun v_13 =>
      k188 v_12 v_13
    else
      gd (x6 < 0 ∨ 5 ≤ Int32.toNatClampNeg x6) <|
      if (v_fresh (Int32.toNatClampNeg x6)) < 0 then
        lt_ (x5 + (0 : Int32)) fun v_16 =>
        lt_ (x6 + (1 : Int32)) fun v_17 =>
        k188 v_16 v_17
      else
        lt_ (x5 + (1 : Int32)) fun v_18 =>
        lt_ (x6 + (1 : Int32)) fun v_19 =>
        k188 v_18 v_19
def LX11_year_188 (x3 : Int32) (v_stones : Int32) (v_pulled : Int32) (v_skyPull : Int32) (v_skyWhose : Int32) (v_fats : Nat → Int32) (v_thick : Nat → Int32) (v_hollow : Nat → Int32) (v_damp : Nat → Int32) (v_fresh : Nat → Int32) (v_pulls : Nat → Int32) (v_had : Nat → Int32) (v_kindMany : Nat → Int32) (n : Nat) : (Int32) → (Int32) → Option (Int32 × Int32 × Int32 × Int32 × Int32 × (Nat → Int32) × (Nat → Int32) × (Nat → Int32) × (Nat → Int32) × (Nat → Int32) × (Nat → Int32) × (Nat → Int32) × (Nat → Int32)) := Nat.rec (fun _ _ => none) (fun _ k => FX11_year_188 x3 v_stones v_pulled v_skyPull v_skyWhose v_fats v_thick v_hollow v_damp v_fresh v_pulls v_had v_kindMany k) n
def fX11_year_147 (x4 : Int32) (x5 : Int32) (x7 : Int32) (s0 : Int32) (v_stones : Int32) (v_flat : Int32) (v_leastThick : Int32) (v_pulled : Int32) (v_skyPull : Int32) (v_skyWhose : Int32) (v_fats : Nat → Int32) (v_thick : Nat → Int32) (v_hollow : Nat → Int32) (v_damp : Nat → Int32) (v_fresh : Nat → Int32) (v_pulls : Nat → Int32) (v_kindMany : Nat → Int32) (v_fine : Nat → Int32) (v_deep : Nat → Int32) (k57 : (Int32) → (Int32) → (Int32) → (Int32) → (Int32) → (Int32) → (Nat → Int32) → (Nat → Int32) → (Nat → Int32) → (Nat → Int32) → (Nat → Int32) → (Nat → Int32) → (Nat → Int32) → Option (Int32 × Int32 × Int32 × Int32 × Int32 × (Nat → Int32) × (Nat → Int32) × (Nat → Int32) × (Nat → Int32) × (Nat → Int32) × (Nat → Int32) × (Nat → Int32) × (Nat → Int32))) : Option (Int32 × Int32 × Int32 × Int32 × Int32 × (Nat → Int32) × (Nat → Int32) × (Nat → Int32) × (Nat → Int32) × (Nat → Int32) × (Nat → Int32) × (Nat → Int32) × (Nat → Int32)) :=
  Option.bind (fX11_whyNot s0 (x4 - x4 / (5 : Int32) * (5 : Int32)) x7 v_stones v_flat v_leastThick v_hollow v_thick v_fresh) fun v_27 =>
  if v_27 = 0 then
    Option.bind (fX11_happen s0 (x4 - x4 / (5 : Int32) * (5 : Int32)) x7 v_stones v_pulled v_skyPull v_skyWhose v_thick v_fresh v_pulls v_hollow v_fats v_damp v_kindMany v_fine v_deep) fun v_30 =>
    lt_ (x5 + (1 : Int32)) fun v_31 =>
    k57 x4 v_31 v_30.2.2.2.1 v_30.1 v_30.2.1 v_30.2.2.1 v_30.2.2.2.2.2.2.2.2.1 v_30.2.2.2.2.1 v_30.2.2.2.2.2.2.2.1 v_30.2.2.2.2.2.2.2.2.2.1 v_30.2.2.2.2.2.1 v_30.2.2.2.2.2.2.1 v_30.2.2.2.2.2.2.2.2.2.2
  else
    lt_ (x5 + (1 : Int32)) fun v_29 =>
    k57 x4 v_29 v_stones v_pulled v_skyPull v_skyWhose v_fats v_thick v_hollow v_damp v_fresh v_pulls v_kindMany
def FX11_year_57 (x2 : Int32) (x3 : Int32) (v_flat : Int32) (v_leastThick : Int32) (v_had : Nat → Int32) (v_fine : Nat → Int32) (v_deep : Nat → Int32) (k57 : (Int32) → (Int32) → (Int32) → (Int32) → (Int32) → (Int32) → (Nat → Int32) → (Nat → Int32) → (Nat → Int32) → (Nat → Int32) → (Nat → Int32) → (Nat → Int32) → (Nat → Int32) → Option (Int32 × Int32 × Int32 × Int32 × Int32 × (Nat → Int32) × (Nat → Int32) × (Nat → Int32) × (Nat → Int32) × (Nat → Int32) × (Nat → Int32) × (Nat → Int32) × (Nat → Int32))) (x4 : Int32) (x5 : Int32) (v_stones : Int32) (v_pulled : Int32) (v_skyPull : Int32) (v_skyWhose : Int32) (v_fats : Nat → Int32) (v_thick : Nat → Int32) (v_hollow : Nat → Int32) (v_damp : Nat → Int32) (v_fresh : Nat → Int32) (v_pulls : Nat → Int32) (v_kindMany : Nat → Int32) : Option (Int32 × Int32 × Int32 × Int32 × Int32 × (Nat → Int32) × (Nat → Int32) × (Nat → Int32) × (Nat → Int32) × (Nat → Int32) × (Nat → Int32) × (Nat → Int32) × (Nat → Int32)) :=
  if x2 ≤ x5 then
    LX11_year_188 x3 v_stones v_pulled v_skyPull v_skyWhose v_fats v_thick v_hollow v_damp v_fresh v_pulls v_had v_kindMany 2000 (0 : Int32) (0 : Int32)
  else
    lt_ (Int64.toInt32 ((((75 : Int64) * (Int32.toInt64 x4)) + (74 : Int64)) - (((75 : Int64) * (Int32.toInt64 x4)) + (74 : Int64)) / (65537 : Int64) * (65537 : Int64))) fun v_20 =>
    lt_ ((v_20 / (5 : Int32)) - (v_20 / (5 : Int32)) / (4 : Int32) * (4 : Int32)) fun v_21 =>
    if v_21 = 0 then
      lt_ ((v_20 / (20 : Int32)) - (v_20 / (20 : Int32)) / (8 : Int32) * (8 : Int32)) fun v_32 =>
      if v_21 = 0 then
        fX11_year_147 v_20 x5 v_32 (0 : Int32) v_stones v_flat v_leastThick v_pulled v_skyPull v_skyWhose v_fats v_thick v_hollow v_damp v_fresh v_pulls v_kindMany v_fine v_deep k57
      else
        if v_21 = (1 : Int32) then
          fX11_year_147 v_20 x5 v_32 (2 : Int32) v_stones v_flat v_leastThick v_pulled v_skyPull v_skyWhose v_fats v_thick v_hollow v_damp v_fresh v_pulls v_kindMany v_fine v_deep k57
        else
          if v_21 = (2 : Int32) then
            fX11_year_147 v_20 x5 v_32 (3 : Int32) v_stones v_flat v_leastThick v_pulled v_skyPull v_skyWhose v_fats v_thick v_hollow v_damp v_fresh v_pulls v_kindMany v_fine v_deep k57
          else
            fX11_year_147 v_20 x5 v_32 (4 : Int32) v_stones v_flat v_leastThick v_pulled v_skyPull v_skyWhose v_fats v_thick v_hollow v_damp v_fresh v_pulls v_kindMany v_fine v_deep k57
    else
      lt_ ((1 : Int32) + ((v_20 / (20 : Int32)) - (v_20 / (20 : Int32)) / (9 : Int32) * (9 : Int32))) fun v_23 =>
      if v_21 = 0 then
        fX11_year_147 v_20 x5 v_23 (0 : Int32) v_stones v_flat v_leastThick v_pulled v_skyPull v_skyWhose v_fats v_thick v_hollow v_damp v_fresh v_pulls v_kindMany v_fine v_deep k57
      else
        if v_21 = (1 : Int32) then
          fX11_year_147 v_20 x5 v_23 (2 : Int32) v_stones v_flat v_leastThick v_pulled v_skyPull v_skyWhose v_fats v_thick v_hollow v_damp v_fresh v_pulls v_kindMany v_fine v_deep k57
        else
          if v_21 = (2 : Int32) then
            fX11_year_147 v_20 x5 v_23 (3 : Int32) v_stones v_flat v_leastThick v_pulled v_skyPull v_skyWhose v_fats v_thick v_hollow v_damp v_fresh v_pulls v_kindMany v_fine v_deep k57
          else
            fX11_year_147 v_20 x5 v_23 (4 : Int32) v_stones v_flat v_leastThick v_pulled v_skyPull v_skyWhose v_fats v_thick v_hollow v_damp v_fresh v_pulls v_kindMany v_fine v_deep k57
def LX11_year_57 (x2 : Int32) (x3 : Int32) (v_flat : Int32) (v_leastThick : Int32) (v_had : Nat → Int32) (v_fine : Nat → Int32) (v_deep : Nat → Int32) (n : Nat) : (Int32) → (Int32) → (Int32) → (Int32) → (Int32) → (Int32) → (Nat → Int32) → (Nat → Int32) → (Nat → Int32) → (Nat → Int32) → (Nat → Int32) → (Nat → Int32) → (Nat → Int32) → Option (Int32 × Int32 × Int32 × Int32 × Int32 × (Nat → Int32) × (Nat → Int32) × (Nat → Int32) × (Nat → Int32) × (Nat → Int32) × (Nat → Int32) × (Nat → Int32) × (Nat → Int32)) := Nat.rec (fun _ _ _ _ _ _ _ _ _ _ _ _ _ => none) (fun _ k => FX11_year_57 x2 x3 v_flat v_leastThick v_had v_fine v_deep k) n
def fX11_year (x1 : Int32) (x2 : Int32) (x3 : Int32) (v_stones : Int32) (v_flat : Int32) (v_leastThick : Int32) (v_pulled : Int32) (v_skyPull : Int32) (v_skyWhose : Int32) (v_fats : Nat → Int32) (v_thick : Nat → Int32) (v_hollow : Nat → Int32) (v_damp : Nat → Int32) (v_fresh : Nat → Int32) (v_pulls : Nat → Int32) (v_had : Nat → Int32) (v_kindMany : Nat → Int32) (v_fine : Nat → Int32) (v_deep : Nat → Int32) : Option (Int32 × Int32 × Int32 × Int32 × Int32 × (Nat → Int32) × (Nat → Int32) × (Nat → Int32) × (Nat → Int32) × (Nat → Int32) × (Nat → Int32) × (Nat → Int32) × (Nat → Int32)) :=
  if (fX11_in (Int32.toInt64 x1) (0 : Int64) (9999 : Int64)) = 0 then
    some ((-2 : Int32), v_pulled, v_skyPull, v_skyWhose, v_stones, v_fats, v_thick, v_hollow, v_damp, v_fresh, v_pulls, v_had, v_kindMany)
  else
    if (fX11_in (Int32.toInt64 x2) (1 : Int64) (99 : Int64)) = 0 then
      some ((-2 : Int32), v_pulled, v_skyPull, v_skyWhose, v_stones, v_fats, v_thick, v_hollow, v_damp, v_fresh, v_pulls, v_had, v_kindMany)
    else
      if (fX11_in (Int32.toInt64 x3) (0 : Int64) (2 : Int64)) = 0 then
        some ((-2 : Int32), v_pulled, v_skyPull, v_skyWhose, v_stones, v_fats, v_thick, v_hollow, v_damp, v_fresh, v_pulls, v_had, v_kindMany)
      else
        Option.bind (fX11_store v_stones v_fats v_thick v_hollow v_damp v_fresh v_pulls v_had) fun v_4 =>
        Option.bind (fX11_beginCount v_kindMany) fun v_5 =>
        LX11_year_57 x2 x3 v_flat v_leastThick v_4 v_fine v_deep 2000 x1 (0 : Int32) v_stones v_5.1 v_5.2.1 v_5.2.2.1 v_fats v_thick v_hollow v_damp v_fresh v_pulls v_5.2.2.2
def fX11_pass (x1 : Int32) (v_keptAt : Int32) (v_isWriting : Int32) (v_kept : Nat → Int32) : Option (Int32 × Int32 × (Nat → Int32)) :=
  if v_isWriting = 0 then
    gd (v_keptAt < 0 ∨ 280 ≤ Int32.toNatClampNeg v_keptAt) <|
    lt_ (v_kept (Int32.toNatClampNeg v_keptAt)) fun v_3 =>
    lt_ (v_keptAt + (1 : Int32)) fun v_4 =>
    some (v_3, v_4, (upd v_kept (Int32.toNatClampNeg v_keptAt) v_3))
  else
    gd (v_keptAt < 0 ∨ 280 ≤ Int32.toNatClampNeg v_keptAt) <|
    lt_ (v_keptAt + (1 : Int32)) fun v_6 =>
    some (x1, v_6, (upd v_kept (Int32.toNatClampNeg v_keptAt) x1))
def FX11_passStones_143 (v_stones : Int32) (v_flat : Int32) (v_leastThick : Int32) (v_sights : Int32) (v_isWriting : Int32) (v_thick : Nat → Int32) (v_hollow : Nat → Int32) (v_damp : Nat → Int32) (v_fresh : Nat → Int32) (v_pulls : Nat → Int32) (k143 : (Int32) → (Int32) → (Nat → Int32) → (Nat → Int32) → Option (Int32 × Int32 × Int32 × Int32 × Int32 × (Nat → Int32) × (Nat → Int32) × (Nat → Int32) × (Nat → Int32) × (Nat → Int32) × (Nat → Int32) × (Nat → Int32))) (x1 : Int32) (v_keptAt : Int32) (v_kept : Nat → Int32) (v_fats : Nat → Int32) : Option (Int32 × Int32 × Int32 × Int32 × Int32 × (Nat → Int32) × (Nat → Int32) × (Nat → Int32) × (Nat → Int32) × (Nat → Int32) × (Nat → Int32) × (Nat → Int32)) :=
  if (40 : Int32) ≤ x1 then
    some (v_flat, v_keptAt, v_leastThick, v_sights, v_stones, v_kept, v_fats, v_thick, v_hollow, v_damp, v_fresh, v_pulls)
  else
    gd (x1 < 0 ∨ 40 ≤ Int32.toNatClampNeg x1) <|
    Option.bind (fX11_pass (v_fats (Int32.toNatClampNeg x1)) v_keptAt v_isWriting v_kept) fun v_8 =>
    lt_ (x1 + (1 : Int32)) fun v_9 =>
    k143 v_9 v_8.2.1 v_8.2.2 (upd v_fats (Int32.toNatClampNeg x1) v_8.1)
def LX11_passStones_143 (v_stones : Int32) (v_flat : Int32) (v_leastThick : Int32) (v_sights : Int32) (v_isWriting : Int32) (v_thick : Nat → Int32) (v_hollow : Nat → Int32) (v_damp : Nat → Int32) (v_fresh : Nat → Int32) (v_pulls : Nat → Int32) (n : Nat) : (Int32) → (Int32) → (Nat → Int32) → (Nat → Int32) → Option (Int32 × Int32 × Int32 × Int32 × Int32 × (Nat → Int32) × (Nat → Int32) × (Nat → Int32) × (Nat → Int32) × (Nat → Int32) × (Nat → Int32) × (Nat → Int32)) := Nat.rec (fun _ _ _ _ => none) (fun _ k => FX11_passStones_143 v_stones v_flat v_leastThick v_sights v_isWriting v_thick v_hollow v_damp v_fresh v_pulls k) n
def FX11_passStones_50 (v_stones : Int32) (v_flat : Int32) (v_leastThick : Int32) (v_sights : Int32) (v_isWriting : Int32) (v_fats : Nat → Int32) (k50 : (Int32) → (Int32) → (Nat → Int32) → (Nat → Int32) → (Nat → Int32) → (Nat → Int32) → (Nat → Int32) → (Nat → Int32) → Option (Int32 × Int32 × Int32 × Int32 × Int32 × (Nat → Int32) × (Nat → Int32) × (Nat → Int32) × (Nat → Int32) × (Nat → Int32) × (Nat → Int32) × (Nat → Int32))) (x1 : Int32) (v_keptAt : Int32) (v_kept : Nat → Int32) (v_thick : Nat → Int32) (v_hollow : Nat → Int32) (v_damp : Nat → Int32) (v_fresh : Nat → Int32) (v_pulls : Nat → Int32) : Option (Int32 × Int32 × Int32 × Int32 × Int32 × (Nat → Int32) × (Nat → Int32) × (Nat → Int32) × (Nat → Int32) × (Nat → Int32) × (Nat → Int32) × (Nat → Int32)) :=
  if (5 : Int32) ≤ x1 then
    LX11_passStones_143 v_stones v_flat v_leastThick v_sights v_isWriting v_thick v_hollow v_damp v_fresh v_pulls 2000 (0 : Int32) v_keptAt v_kept v_fats
  else
    gd (x1 < 0 ∨ 5 ≤ Int32.toNatClampNeg x1) <|
    Option.bind (fX11_pass (v_thick (Int32.toNatClampNeg x1)) v_keptAt v_isWriting v_kept) fun v_11 =>
    Option.bind (fX11_pass (v_hollow (Int32.toNatClampNeg x1)) v_11.2.1 v_isWriting v_11.2.2) fun v_12 =>
    Option.bind (fX11_pass (v_damp (Int32.toNatClampNeg x1)) v_12.2.1 v_isWriting v_12.2.2) fun v_13 =>
    Option.bind (fX11_pass (v_fresh (Int32.toNatClampNeg x1)) v_13.2.1 v_isWriting v_13.2.2) fun v_14 =>
    Option.bind (fX11_pass (v_pulls (Int32.toNatClampNeg x1)) v_14.2.1 v_isWriting v_14.2.2) fun v_15 =>
    lt_ (x1 + (1 : Int32)) fun v_16 =>
    k50 v_16 v_15.2.1 v_15.2.2 (upd v_thick (Int32.toNatClampNeg x1) v_11.1) (upd v_hollow (Int32.toNatClampNeg x1) v_12.1) (upd v_damp (Int32.toNatClampNeg x1) v_13.1) (upd v_fresh (Int32.toNatClampNeg x1) v_14.1) (upd v_pulls (Int32.toNatClampNeg x1) v_15.1)
def LX11_passStones_50 (v_stones : Int32) (v_flat : Int32) (v_leastThick : Int32) (v_sights : Int32) (v_isWriting : Int32) (v_fats : Nat → Int32) (n : Nat) : (Int32) → (Int32) → (Nat → Int32) → (Nat → Int32) → (Nat → Int32) → (Nat → Int32) → (Nat → Int32) → (Nat → Int32) → Option (Int32 × Int32 × Int32 × Int32 × Int32 × (Nat → Int32) × (Nat → Int32) × (Nat → Int32) × (Nat → Int32) × (Nat → Int32) × (Nat → Int32) × (Nat → Int32)) := Nat.rec (fun _ _ _ _ _ _ _ _ => none) (fun _ k => FX11_passStones_50 v_stones v_flat v_leastThick v_sights v_isWriting v_fats k) n
def fX11_passStones (v_stones : Int32) (v_flat : Int32) (v_leastThick : Int32) (v_sights : Int32) (v_keptAt : Int32) (v_isWriting : Int32) (v_kept : Nat → Int32) (v_fats : Nat → Int32) (v_thick : Nat → Int32) (v_hollow : Nat → Int32) (v_damp : Nat → Int32) (v_fresh : Nat → Int32) (v_pulls : Nat → Int32) : Option (Int32 × Int32 × Int32 × Int32 × Int32 × (Nat → Int32) × (Nat → Int32) × (Nat → Int32) × (Nat → Int32) × (Nat → Int32) × (Nat → Int32) × (Nat → Int32)) :=
  Option.bind (fX11_pass v_stones v_keptAt v_isWriting v_kept) fun v_1 =>
  Option.bind (fX11_pass v_flat v_1.2.1 v_isWriting v_1.2.2) fun v_2 =>
  Option.bind (fX11_pass v_leastThick v_2.2.1 v_isWriting v_2.2.2) fun v_3 =>
  Option.bind (fX11_pass v_sights v_3.2.1 v_isWriting v_3.2.2) fun v_4 =>
  LX11_passStones_50 v_1.1 v_2.1 v_3.1 v_4.1 v_isWriting v_fats 2000 (0 : Int32) v_4.2.1 v_4.2.2 v_thick v_hollow v_damp v_fresh v_pulls
def fX11_passAll_137 (x1 : Int32) (s1 : Int32) (s2 : Int32) (v_keptAt : Int32) (v_kept : Nat → Int32) (v_hair : Nat → Int32) (k116 : (Int32) → (Int32) → (Nat → Int32) → (Nat → Int32) → Option (Int32 × Int32 × Int32 × Int32 × Int32 × (Nat → Int32) × (Nat → Int32) × (Nat → Int32) × (Nat → Int32) × (Nat → Int32) × (Nat → Int32) × (Nat → Int32) × (Nat → Int32) × (Nat → Int32) × (Nat → Int32) × (Nat → Int32) × (Nat → Int32) × (Nat → Int32) × (Nat → Int32))) : Option (Int32 × Int32 × Int32 × Int32 × Int32 × (Nat → Int32) × (Nat → Int32) × (Nat → Int32) × (Nat → Int32) × (Nat → Int32) × (Nat → Int32) × (Nat → Int32) × (Nat → Int32) × (Nat → Int32) × (Nat → Int32) × (Nat → Int32) × (Nat → Int32) × (Nat → Int32) × (Nat → Int32)) :=
  gd (s1 < 0 ∨ 6 ≤ Int32.toNatClampNeg s1) <|
  lt_ (x1 + (1 : Int32)) fun v_7 =>
  k116 v_7 v_keptAt v_kept (upd v_hair (Int32.toNatClampNeg s1) s2)
def FX11_passAll_116 (v_stones : Int32) (v_flat : Int32) (v_leastThick : Int32) (v_sights : Int32) (v_isWriting : Int32) (v_fats : Nat → Int32) (v_thick : Nat → Int32) (v_hollow : Nat → Int32) (v_damp : Nat → Int32) (v_fresh : Nat → Int32) (v_pulls : Nat → Int32) (v_deep : Nat → Int32) (v_fine : Nat → Int32) (v_pay : Nat → Int32) (v_sightPicture : Nat → Int32) (v_sightPull : Nat → Int32) (v_sightShows : Nat → Int32) (k116 : (Int32) → (Int32) → (Nat → Int32) → (Nat → Int32) → Option (Int32 × Int32 × Int32 × Int32 × Int32 × (Nat → Int32) × (Nat → Int32) × (Nat → Int32) × (Nat → Int32) × (Nat → Int32) × (Nat → Int32) × (Nat → Int32) × (Nat → Int32) × (Nat → Int32) × (Nat → Int32) × (Nat → Int32) × (Nat → Int32) × (Nat → Int32) × (Nat → Int32))) (x1 : Int32) (v_keptAt : Int32) (v_kept : Nat → Int32) (v_hair : Nat → Int32) : Option (Int32 × Int32 × Int32 × Int32 × Int32 × (Nat → Int32) × (Nat → Int32) × (Nat → Int32) × (Nat → Int32) × (Nat → Int32) × (Nat → Int32) × (Nat → Int32) × (Nat → Int32) × (Nat → Int32) × (Nat → Int32) × (Nat → Int32) × (Nat → Int32) × (Nat → Int32) × (Nat → Int32)) :=
  if (6 : Int32) ≤ x1 then
    some (v_flat, v_keptAt, v_leastThick, v_sights, v_stones, v_kept, v_fats, v_thick, v_hollow, v_damp, v_fresh, v_pulls, v_hair, v_deep, v_fine, v_pay, v_sightPicture, v_sightPull, v_sightShows)
  else
    gd (x1 < 0 ∨ 6 ≤ Int32.toNatClampNeg x1) <|
    Option.bind (fX11_pass (v_hair (Int32.toNatClampNeg x1)) v_keptAt v_isWriting v_kept) fun v_5 =>
    fX11_passAll_137 x1 x1 v_5.1 v_5.2.1 v_5.2.2 v_hair k116
def LX11_passAll_116 (v_stones : Int32) (v_flat : Int32) (v_leastThick : Int32) (v_sights : Int32) (v_isWriting : Int32) (v_fats : Nat → Int32) (v_thick : Nat → Int32) (v_hollow : Nat → Int32) (v_damp : Nat → Int32) (v_fresh : Nat → Int32) (v_pulls : Nat → Int32) (v_deep : Nat → Int32) (v_fine : Nat → Int32) (v_pay : Nat → Int32) (v_sightPicture : Nat → Int32) (v_sightPull : Nat → Int32) (v_sightShows : Nat → Int32) (n : Nat) : (Int32) → (Int32) → (Nat → Int32) → (Nat → Int32) → Option (Int32 × Int32 × Int32 × Int32 × Int32 × (Nat → Int32) × (Nat → Int32) × (Nat → Int32) × (Nat → Int32) × (Nat → Int32) × (Nat → Int32) × (Nat → Int32) × (Nat → Int32) × (Nat → Int32) × (Nat → Int32) × (Nat → Int32) × (Nat → Int32) × (Nat → Int32) × (Nat → Int32)) := Nat.rec (fun _ _ _ _ => none) (fun _ k => FX11_passAll_116 v_stones v_flat v_leastThick v_sights v_isWriting v_fats v_thick v_hollow v_damp v_fresh v_pulls v_deep v_fine v_pay v_sightPicture v_sightPull v_sightShows k) n
def fX11_passAll_107 (x1 : Int32) (s1 : Int32) (s2 : Int32) (v_keptAt : Int32) (v_kept : Nat → Int32) (v_deep : Nat → Int32) (v_fine : Nat → Int32) (v_pay : Nat → Int32) (v_sightPicture : Nat → Int32) (v_sightPull : Nat → Int32) (v_sightShows : Nat → Int32) (k6 : (Int32) → (Int32) → (Nat → Int32) → (Nat → Int32) → (Nat → Int32) → (Nat → Int32) → (Nat → Int32) → (Nat → Int32) → (Nat → Int32) → Option (Int32 × Int32 × Int32 × Int32 × Int32 × (Nat → Int32) × (Nat → Int32) × (Nat → Int32) × (Nat → Int32) × (Nat → Int32) × (Nat → Int32) × (Nat → Int32) × (Nat → Int32) × (Nat → Int32) × (Nat → Int32) × (Nat → Int32) × (Nat → Int32) × (Nat → Int32) × (Nat → Int32))) : Option (Int32 × Int32 × Int32 × Int32 × Int32 × (Nat → Int32) × (Nat → Int32) × (Nat → Int32) × (Nat → Int32) × (Nat → Int32) × (Nat → Int32) × (Nat → Int32) × (Nat → Int32) × (Nat → Int32) × (Nat → Int32) × (Nat → Int32) × (Nat → Int32) × (Nat → Int32) × (Nat → Int32)) :=
  gd (s1 < 0 ∨ 8 ≤ Int32.toNatClampNeg s1) <|
  lt_ (x1 + (1 : Int32)) fun v_26 =>
  k6 v_26 v_keptAt v_kept v_deep v_fine v_pay v_sightPicture v_sightPull (upd v_sightShows (Int32.toNatClampNeg s1) s2)
def fX11_passAll_91 (x1 : Int32) (s1 : Int32) (s2 : Int32) (v_keptAt : Int32) (v_isWriting : Int32) (v_kept : Nat → Int32) (v_deep : Nat → Int32) (v_fine : Nat → Int32) (v_pay : Nat → Int32) (v_sightPicture : Nat → Int32) (v_sightPull : Nat → Int32) (v_sightShows : Nat → Int32) (k6 : (Int32) → (Int32) → (Nat → Int32) → (Nat → Int32) → (Nat → Int32) → (Nat → Int32) → (Nat → Int32) → (Nat → Int32) → (Nat → Int32) → Option (Int32 × Int32 × Int32 × Int32 × Int32 × (Nat → Int32) × (Nat → Int32) × (Nat → Int32) × (Nat → Int32) × (Nat → Int32) × (Nat → Int32) × (Nat → Int32) × (Nat → Int32) × (Nat → Int32) × (Nat → Int32) × (Nat → Int32) × (Nat → Int32) × (Nat → Int32) × (Nat → Int32))) : Option (Int32 × Int32 × Int32 × Int32 × Int32 × (Nat → Int32) × (Nat → Int32) × (Nat → Int32) × (Nat → Int32) × (Nat → Int32) × (Nat → Int32) × (Nat → Int32) × (Nat → Int32) × (Nat → Int32) × (Nat → Int32) × (Nat → Int32) × (Nat → Int32) × (Nat → Int32) × (Nat → Int32)) :=
  gd (s1 < 0 ∨ 8 ≤ Int32.toNatClampNeg s1) <|
  gd (x1 < 0 ∨ 8 ≤ Int32.toNatClampNeg x1) <|
  Option.bind (fX11_pass (v_sightShows (Int32.toNatClampNeg x1)) v_keptAt v_isWriting v_kept) fun v_24 =>
  fX11_passAll_107 x1 x1 v_24.1 v_24.2.1 v_24.2.2 v_deep v_fine v_pay v_sightPicture (upd v_sightPull (Int32.toNatClampNeg s1) s2) v_sightShows k6
def fX11_passAll_75 (x1 : Int32) (s1 : Int32) (s2 : Int32) (v_keptAt : Int32) (v_isWriting : Int32) (v_kept : Nat → Int32) (v_deep : Nat → Int32) (v_fine : Nat → Int32) (v_pay : Nat → Int32) (v_sightPicture : Nat → Int32) (v_sightPull : Nat → Int32) (v_sightShows : Nat → Int32) (k6 : (Int32) → (Int32) → (Nat → Int32) → (Nat → Int32) → (Nat → Int32) → (Nat → Int32) → (Nat → Int32) → (Nat → Int32) → (Nat → Int32) → Option (Int32 × Int32 × Int32 × Int32 × Int32 × (Nat → Int32) × (Nat → Int32) × (Nat → Int32) × (Nat → Int32) × (Nat → Int32) × (Nat → Int32) × (Nat → Int32) × (Nat → Int32) × (Nat → Int32) × (Nat → Int32) × (Nat → Int32) × (Nat → Int32) × (Nat → Int32) × (Nat → Int32))) : Option (Int32 × Int32 × Int32 × Int32 × Int32 × (Nat → Int32) × (Nat → Int32) × (Nat → Int32) × (Nat → Int32) × (Nat → Int32) × (Nat → Int32) × (Nat → Int32) × (Nat → Int32) × (Nat → Int32) × (Nat → Int32) × (Nat → Int32) × (Nat → Int32) × (Nat → Int32) × (Nat → Int32)) :=
  gd (s1 < 0 ∨ 8 ≤ Int32.toNatClampNeg s1) <|
  gd (x1 < 0 ∨ 8 ≤ Int32.toNatClampNeg x1) <|
  Option.bind (fX11_pass (v_sightPull (Int32.toNatClampNeg x1)) v_keptAt v_isWriting v_kept) fun v_21 =>
  fX11_passAll_91 x1 x1 v_21.1 v_21.2.1 v_isWriting v_21.2.2 v_deep v_fine v_pay (upd v_sightPicture (Int32.toNatClampNeg s1) s2) v_sightPull v_sightShows k6
def fX11_passAll_59 (x1 : Int32) (s1 : Int32) (s2 : Int32) (v_keptAt : Int32) (v_isWriting : Int32) (v_kept : Nat → Int32) (v_deep : Nat → Int32) (v_fine : Nat → Int32) (v_pay : Nat → Int32) (v_sightPicture : Nat → Int32) (v_sightPull : Nat → Int32) (v_sightShows : Nat → Int32) (k6 : (Int32) → (Int32) → (Nat → Int32) → (Nat → Int32) → (Nat → Int32) → (Nat → Int32) → (Nat → Int32) → (Nat → Int32) → (Nat → Int32) → Option (Int32 × Int32 × Int32 × Int32 × Int32 × (Nat → Int32) × (Nat → Int32) × (Nat → Int32) × (Nat → Int32) × (Nat → Int32) × (Nat → Int32) × (Nat → Int32) × (Nat → Int32) × (Nat → Int32) × (Nat → Int32) × (Nat → Int32) × (Nat → Int32) × (Nat → Int32) × (Nat → Int32))) : Option (Int32 × Int32 × Int32 × Int32 × Int32 × (Nat → Int32) × (Nat → Int32) × (Nat → Int32) × (Nat → Int32) × (Nat → Int32) × (Nat → Int32) × (Nat → Int32) × (Nat → Int32) × (Nat → Int32) × (Nat → Int32) × (Nat → Int32) × (Nat → Int32) × (Nat → Int32) × (Nat → Int32)) :=
  gd (s1 < 0 ∨ 8 ≤ Int32.toNatClampNeg s1) <|
  gd (x1 < 0 ∨ 8 ≤ Int32.toNatClampNeg x1) <|
  Option.bind (fX11_pass (v_sightPicture (Int32.toNatClampNeg x1)) v_keptAt v_isWriting v_kept) fun v_18 =>
  fX11_passAll_75 x1 x1 v_18.1 v_18.2.1 v_isWriting v_18.2.2 v_deep v_fine (upd v_pay (Int32.toNatClampNeg s1) s2) v_sightPicture v_sightPull v_sightShows k6
def fX11_passAll_43 (x1 : Int32) (s1 : Int32) (s2 : Int32) (v_keptAt : Int32) (v_isWriting : Int32) (v_kept : Nat → Int32) (v_deep : Nat → Int32) (v_fine : Nat → Int32) (v_pay : Nat → Int32) (v_sightPicture : Nat → Int32) (v_sightPull : Nat → Int32) (v_sightShows : Nat → Int32) (k6 : (Int32) → (Int32) → (Nat → Int32) → (Nat → Int32) → (Nat → Int32) → (Nat → Int32) → (Nat → Int32) → (Nat → Int32) → (Nat → Int32) → Option (Int32 × Int32 × Int32 × Int32 × Int32 × (Nat → Int32) × (Nat → Int32) × (Nat → Int32) × (Nat → Int32) × (Nat → Int32) × (Nat → Int32) × (Nat → Int32) × (Nat → Int32) × (Nat → Int32) × (Nat → Int32) × (Nat → Int32) × (Nat → Int32) × (Nat → Int32) × (Nat → Int32))) : Option (Int32 × Int32 × Int32 × Int32 × Int32 × (Nat → Int32) × (Nat → Int32) × (Nat → Int32) × (Nat → Int32) × (Nat → Int32) × (Nat → Int32) × (Nat → Int32) × (Nat → Int32) × (Nat → Int32) × (Nat → Int32) × (Nat → Int32) × (Nat → Int32) × (Nat → Int32) × (Nat → Int32)) :=
  gd (s1 < 0 ∨ 8 ≤ Int32.toNatClampNeg s1) <|
  gd (x1 < 0 ∨ 8 ≤ Int32.toNatClampNeg x1) <|
  Option.bind (fX11_pass (v_pay (Int32.toNatClampNeg x1)) v_keptAt v_isWriting v_kept) fun v_15 =>
  fX11_passAll_59 x1 x1 v_15.1 v_15.2.1 v_isWriting v_15.2.2 v_deep (upd v_fine (Int32.toNatClampNeg s1) s2) v_pay v_sightPicture v_sightPull v_sightShows k6
def fX11_passAll_27 (x1 : Int32) (s1 : Int32) (s2 : Int32) (v_keptAt : Int32) (v_isWriting : Int32) (v_kept : Nat → Int32) (v_deep : Nat → Int32) (v_fine : Nat → Int32) (v_pay : Nat → Int32) (v_sightPicture : Nat → Int32) (v_sightPull : Nat → Int32) (v_sightShows : Nat → Int32) (k6 : (Int32) → (Int32) → (Nat → Int32) → (Nat → Int32) → (Nat → Int32) → (Nat → Int32) → (Nat → Int32) → (Nat → Int32) → (Nat → Int32) → Option (Int32 × Int32 × Int32 × Int32 × Int32 × (Nat → Int32) × (Nat → Int32) × (Nat → Int32) × (Nat → Int32) × (Nat → Int32) × (Nat → Int32) × (Nat → Int32) × (Nat → Int32) × (Nat → Int32) × (Nat → Int32) × (Nat → Int32) × (Nat → Int32) × (Nat → Int32) × (Nat → Int32))) : Option (Int32 × Int32 × Int32 × Int32 × Int32 × (Nat → Int32) × (Nat → Int32) × (Nat → Int32) × (Nat → Int32) × (Nat → Int32) × (Nat → Int32) × (Nat → Int32) × (Nat → Int32) × (Nat → Int32) × (Nat → Int32) × (Nat → Int32) × (Nat → Int32) × (Nat → Int32) × (Nat → Int32)) :=
  gd (s1 < 0 ∨ 8 ≤ Int32.toNatClampNeg s1) <|
  gd (x1 < 0 ∨ 8 ≤ Int32.toNatClampNeg x1) <|
  Option.bind (fX11_pass (v_fine (Int32.toNatClampNeg x1)) v_keptAt v_isWriting v_kept) fun v_12 =>
  fX11_passAll_43 x1 x1 v_12.1 v_12.2.1 v_isWriting v_12.2.2 (upd v_deep (Int32.toNatClampNeg s1) s2) v_fine v_pay v_sightPicture v_sightPull v_sightShows k6
def FX11_passAll_6 (v_stones : Int32) (v_flat : Int32) (v_leastThick : Int32) (v_sights : Int32) (v_isWriting : Int32) (v_fats : Nat → Int32) (v_thick : Nat → Int32) (v_hollow : Nat → Int32) (v_damp : Nat → Int32) (v_fresh : Nat → Int32) (v_pulls : Nat → Int32) (v_hair : Nat → Int32) (k6 : (Int32) → (Int32) → (Nat → Int32) → (Nat → Int32) → (Nat → Int32) → (Nat → Int32) → (Nat → Int32) → (Nat → Int32) → (Nat → Int32) → Option (Int32 × Int32 × Int32 × Int32 × Int32 × (Nat → Int32) × (Nat → Int32) × (Nat → Int32) × (Nat → Int32) × (Nat → Int32) × (Nat → Int32) × (Nat → Int32) × (Nat → Int32) × (Nat → Int32) × (Nat → Int32) × (Nat → Int32) × (Nat → Int32) × (Nat → Int32) × (Nat → Int32))) (x1 : Int32) (v_keptAt : Int32) (v_kept : Nat → Int32) (v_deep : Nat → Int32) (v_fine : Nat → Int32) (v_pay : Nat → Int32) (v_sightPicture : Nat → Int32) (v_sightPull : Nat → Int32) (v_sightShows : Nat → Int32) : Option (Int32 × Int32 × Int32 × Int32 × Int32 × (Nat → Int32) × (Nat → Int32) × (Nat → Int32) × (Nat → Int32) × (Nat → Int32) × (Nat → Int32) × (Nat → Int32) × (Nat → Int32) × (Nat → Int32) × (Nat → Int32) × (Nat → Int32) × (Nat → Int32) × (Nat → Int32) × (Nat → Int32)) :=
  if (8 : Int32) ≤ x1 then
    LX11_passAll_116 v_stones v_flat v_leastThick v_sights v_isWriting v_fats v_thick v_hollow v_damp v_fresh v_pulls v_deep v_fine v_pay v_sightPicture v_sightPull v_sightShows 2000 (0 : Int32) v_keptAt v_kept v_hair
  else
    gd (x1 < 0 ∨ 8 ≤ Int32.toNatClampNeg x1) <|
    Option.bind (fX11_pass (v_deep (Int32.toNatClampNeg x1)) v_keptAt v_isWriting v_kept) fun v_9 =>
    fX11_passAll_27 x1 x1 v_9.1 v_9.2.1 v_isWriting v_9.2.2 v_deep v_fine v_pay v_sightPicture v_sightPull v_sightShows k6
def LX11_passAll_6 (v_stones : Int32) (v_flat : Int32) (v_leastThick : Int32) (v_sights : Int32) (v_isWriting : Int32) (v_fats : Nat → Int32) (v_thick : Nat → Int32) (v_hollow : Nat → Int32) (v_damp : Nat → Int32) (v_fresh : Nat → Int32) (v_pulls : Nat → Int32) (v_hair : Nat → Int32) (n : Nat) : (Int32) → (Int32) → (Nat → Int32) → (Nat → Int32) → (Nat → Int32) → (Nat → Int32) → (Nat → Int32) → (Nat → Int32) → (Nat → Int32) → Option (Int32 × Int32 × Int32 × Int32 × Int32 × (Nat → Int32) × (Nat → Int32) × (Nat → Int32) × (Nat → Int32) × (Nat → Int32) × (Nat → Int32) × (Nat → Int32) × (Nat → Int32) × (Nat → Int32) × (Nat → Int32) × (Nat → Int32) × (Nat → Int32) × (Nat → Int32) × (Nat → Int32)) := Nat.rec (fun _ _ _ _ _ _ _ _ _ => none) (fun _ k => FX11_passAll_6 v_stones v_flat v_leastThick v_sights v_isWriting v_fats v_thick v_hollow v_damp v_fresh v_pulls v_hair k) n
def fX11_passAll_4 (v_stones : Int32) (v_flat : Int32) (v_leastThick : Int32) (v_sights : Int32) (v_keptAt : Int32) (v_isWriting : Int32) (v_kept : Nat → Int32) (v_fats : Nat → Int32) (v_thick : Nat → Int32) (v_hollow : Nat → Int32) (v_damp : Nat → Int32) (v_fresh : Nat → Int32) (v_pulls : Nat → Int32) (v_hair : Nat → Int32) (v_deep : Nat → Int32) (v_fine : Nat → Int32) (v_pay : Nat → Int32) (v_sightPicture : Nat → Int32) (v_sightPull : Nat → Int32) (v_sightShows : Nat → Int32) : Option (Int32 × Int32 × Int32 × Int32 × Int32 × (Nat → Int32) × (Nat → Int32) × (Nat → Int32) × (Nat → Int32) × (Nat → Int32) × (Nat → Int32) × (Nat → Int32) × (Nat → Int32) × (Nat → Int32) × (Nat → Int32) × (Nat → Int32) × (Nat → Int32) × (Nat → Int32) × (Nat → Int32)) :=
  LX11_passAll_6 v_stones v_flat v_leastThick v_sights v_isWriting v_fats v_thick v_hollow v_damp v_fresh v_pulls v_hair 2000 (0 : Int32) v_keptAt v_kept v_deep v_fine v_pay v_sightPicture v_sightPull v_sightShows
def fX11_passAll (v_stones : Int32) (v_flat : Int32) (v_leastThick : Int32) (v_sights : Int32) (v_keptAt : Int32) (v_isWriting : Int32) (v_kept : Nat → Int32) (v_fats : Nat → Int32) (v_thick : Nat → Int32) (v_hollow : Nat → Int32) (v_damp : Nat → Int32) (v_fresh : Nat → Int32) (v_pulls : Nat → Int32) (v_hair : Nat → Int32) (v_deep : Nat → Int32) (v_fine : Nat → Int32) (v_pay : Nat → Int32) (v_sightPicture : Nat → Int32) (v_sightPull : Nat → Int32) (v_sightShows : Nat → Int32) : Option (Int32 × Int32 × Int32 × Int32 × Int32 × (Nat → Int32) × (Nat → Int32) × (Nat → Int32) × (Nat → Int32) × (Nat → Int32) × (Nat → Int32) × (Nat → Int32) × (Nat → Int32) × (Nat → Int32) × (Nat → Int32) × (Nat → Int32) × (Nat → Int32) × (Nat → Int32) × (Nat → Int32)) :=
  Option.bind (fX11_passStones v_stones v_flat v_leastThick v_sights v_keptAt v_isWriting v_kept v_fats v_thick v_hollow v_damp v_fresh v_pulls) fun v_1 =>
  fX11_passAll_4 v_1.2.2.2.2.1 v_1.1 v_1.2.2.1 v_1.2.2.2.1 v_1.2.1 v_isWriting v_1.2.2.2.2.2.1 v_1.2.2.2.2.2.2.1 v_1.2.2.2.2.2.2.2.1 v_1.2.2.2.2.2.2.2.2.1 v_1.2.2.2.2.2.2.2.2.2.1 v_1.2.2.2.2.2.2.2.2.2.2.1 v_1.2.2.2.2.2.2.2.2.2.2.2 v_hair v_deep v_fine v_pay v_sightPicture v_sightPull v_sightShows
def fX11_image (x1 : Int32) (v_stones : Int32) (v_flat : Int32) (v_leastThick : Int32) (v_sights : Int32) (v_keptAt : Int32) (v_isWriting : Int32) (v_kept : Nat → Int32) (v_fats : Nat → Int32) (v_thick : Nat → Int32) (v_hollow : Nat → Int32) (v_damp : Nat → Int32) (v_fresh : Nat → Int32) (v_pulls : Nat → Int32) (v_hair : Nat → Int32) (v_deep : Nat → Int32) (v_fine : Nat → Int32) (v_pay : Nat → Int32) (v_sightPicture : Nat → Int32) (v_sightPull : Nat → Int32) (v_sightShows : Nat → Int32) (v_isKept : Nat → Int32) : Option (Int32 × Int32 × Int32 × Int32 × Int32 × Int32 × Int32 × (Nat → Int32) × (Nat → Int32) × (Nat → Int32) × (Nat → Int32) × (Nat → Int32) × (Nat → Int32) × (Nat → Int32) × (Nat → Int32) × (Nat → Int32) × (Nat → Int32) × (Nat → Int32) × (Nat → Int32) × (Nat → Int32) × (Nat → Int32) × (Nat → Int32)) :=
  if (fX11_in (Int32.toInt64 x1) (0 : Int64) (1 : Int64)) = 0 then
    some ((-2 : Int32), v_flat, v_isWriting, v_keptAt, v_leastThick, v_sights, v_stones, v_kept, v_fats, v_thick, v_hollow, v_damp, v_fresh, v_pulls, v_hair, v_deep, v_fine, v_pay, v_sightPicture, v_sightPull, v_sightShows, v_isKept)
  else
    lt_ ((140 : Int32) * x1) fun v_2 =>
    Option.bind (fX11_passAll v_stones v_flat v_leastThick v_sights v_2 (1 : Int32) v_kept v_fats v_thick v_hollow v_damp v_fresh v_pulls v_hair v_deep v_fine v_pay v_sightPicture v_sightPull v_sightShows) fun v_3 =>
    gd (x1 < 0 ∨ 2 ≤ Int32.toNatClampNeg x1) <|
    some ((1 : Int32), v_3.1, (1 : Int32), v_3.2.1, v_3.2.2.1, v_3.2.2.2.1, v_3.2.2.2.2.1, v_3.2.2.2.2.2.1, v_3.2.2.2.2.2.2.1, v_3.2.2.2.2.2.2.2.1, v_3.2.2.2.2.2.2.2.2.1, v_3.2.2.2.2.2.2.2.2.2.1, v_3.2.2.2.2.2.2.2.2.2.2.1, v_3.2.2.2.2.2.2.2.2.2.2.2.1, v_3.2.2.2.2.2.2.2.2.2.2.2.2.1, v_3.2.2.2.2.2.2.2.2.2.2.2.2.2.1, v_3.2.2.2.2.2.2.2.2.2.2.2.2.2.2.1, v_3.2.2.2.2.2.2.2.2.2.2.2.2.2.2.2.1, v_3.2.2.2.2.2.2.2.2.2.2.2.2.2.2.2.2.1, v_3.2.2.2.2.2.2.2.2.2.2.2.2.2.2.2.2.2.1, v_3.2.2.2.2.2.2.2.2.2.2.2.2.2.2.2.2.2.2, (upd v_isKept (Int32.toNatClampNeg x1) (vp_nar .boolean (1 : Int32))))
def fX11_restore (x1 : Int32) (v_stones : Int32) (v_flat : Int32) (v_leastThick : Int32) (v_sights : Int32) (v_keptAt : Int32) (v_isWriting : Int32) (v_isKept : Nat → Int32) (v_kept : Nat → Int32) (v_fats : Nat → Int32) (v_thick : Nat → Int32) (v_hollow : Nat → Int32) (v_damp : Nat → Int32) (v_fresh : Nat → Int32) (v_pulls : Nat → Int32) (v_hair : Nat → Int32) (v_deep : Nat → Int32) (v_fine : Nat → Int32) (v_pay : Nat → Int32) (v_sightPicture : Nat → Int32) (v_sightPull : Nat → Int32) (v_sightShows : Nat → Int32) : Option (Int32 × Int32 × Int32 × Int32 × Int32 × Int32 × Int32 × (Nat → Int32) × (Nat → Int32) × (Nat → Int32) × (Nat → Int32) × (Nat → Int32) × (Nat → Int32) × (Nat → Int32) × (Nat → Int32) × (Nat → Int32) × (Nat → Int32) × (Nat → Int32) × (Nat → Int32) × (Nat → Int32) × (Nat → Int32)) :=
  if (fX11_in (Int32.toInt64 x1) (0 : Int64) (1 : Int64)) = 0 then
    some ((-2 : Int32), v_flat, v_isWriting, v_keptAt, v_leastThick, v_sights, v_stones, v_kept, v_fats, v_thick, v_hollow, v_damp, v_fresh, v_pulls, v_hair, v_deep, v_fine, v_pay, v_sightPicture, v_sightPull, v_sightShows)
  else
    gd (x1 < 0 ∨ 2 ≤ Int32.toNatClampNeg x1) <|
    if (v_isKept (Int32.toNatClampNeg x1)) = 0 then
      some ((-3 : Int32), v_flat, v_isWriting, v_keptAt, v_leastThick, v_sights, v_stones, v_kept, v_fats, v_thick, v_hollow, v_damp, v_fresh, v_pulls, v_hair, v_deep, v_fine, v_pay, v_sightPicture, v_sightPull, v_sightShows)
    else
      lt_ ((140 : Int32) * x1) fun v_4 =>
      Option.bind (fX11_passAll v_stones v_flat v_leastThick v_sights v_4 (0 : Int32) v_kept v_fats v_thick v_hollow v_damp v_fresh v_pulls v_hair v_deep v_fine v_pay v_sightPicture v_sightPull v_sightShows) fun v_5 =>
      some ((1 : Int32), v_5.1, (0 : Int32), v_5.2.1, v_5.2.2.1, v_5.2.2.2.1, v_5.2.2.2.2.1, v_5.2.2.2.2.2.1, v_5.2.2.2.2.2.2.1, v_5.2.2.2.2.2.2.2.1, v_5.2.2.2.2.2.2.2.2.1, v_5.2.2.2.2.2.2.2.2.2.1, v_5.2.2.2.2.2.2.2.2.2.2.1, v_5.2.2.2.2.2.2.2.2.2.2.2.1, v_5.2.2.2.2.2.2.2.2.2.2.2.2.1, v_5.2.2.2.2.2.2.2.2.2.2.2.2.2.1, v_5.2.2.2.2.2.2.2.2.2.2.2.2.2.2.1, v_5.2.2.2.2.2.2.2.2.2.2.2.2.2.2.2.1, v_5.2.2.2.2.2.2.2.2.2.2.2.2.2.2.2.2.1, v_5.2.2.2.2.2.2.2.2.2.2.2.2.2.2.2.2.2.1, v_5.2.2.2.2.2.2.2.2.2.2.2.2.2.2.2.2.2.2)
def fX11_toldOfStone (x1 : Int32) (x2 : Int32) (v_stones : Int32) (v_pulls : Nat → Int32) (v_fresh : Nat → Int32) (v_damp : Nat → Int32) (v_hollow : Nat → Int32) (v_thick : Nat → Int32) : Option (Int32) :=
  if (fX11_isStone x1 v_stones) = 0 then
    some (-2 : Int32)
  else
    if x2 = (0 : Int32) then
      gd (x1 < 0 ∨ 5 ≤ Int32.toNatClampNeg x1) <|
      some (v_thick (Int32.toNatClampNeg x1))
    else
      if x2 = (1 : Int32) then
        gd (x1 < 0 ∨ 5 ≤ Int32.toNatClampNeg x1) <|
        some (v_hollow (Int32.toNatClampNeg x1))
      else
        if x2 = (2 : Int32) then
          gd (x1 < 0 ∨ 5 ≤ Int32.toNatClampNeg x1) <|
          some (v_damp (Int32.toNatClampNeg x1))
        else
          if x2 = (3 : Int32) then
            gd (x1 < 0 ∨ 5 ≤ Int32.toNatClampNeg x1) <|
            some (v_fresh (Int32.toNatClampNeg x1))
          else
            if x2 = (4 : Int32) then
              gd (x1 < 0 ∨ 5 ≤ Int32.toNatClampNeg x1) <|
              some (v_pulls (Int32.toNatClampNeg x1))
            else
              some (-2 : Int32)
def fX11_toldOfPicture (x1 : Int32) (x2 : Int32) (v_pay : Nat → Int32) (v_fine : Nat → Int32) (v_deep : Nat → Int32) : Option (Int32) :=
  if x2 = 0 then
    gd (x1 < 0 ∨ 8 ≤ Int32.toNatClampNeg x1) <|
    some (v_deep (Int32.toNatClampNeg x1))
  else
    if x2 = (1 : Int32) then
      gd (x1 < 0 ∨ 8 ≤ Int32.toNatClampNeg x1) <|
      some (v_fine (Int32.toNatClampNeg x1))
    else
      if x2 = (2 : Int32) then
        gd (x1 < 0 ∨ 8 ≤ Int32.toNatClampNeg x1) <|
        some (v_pay (Int32.toNatClampNeg x1))
      else
        some (-2 : Int32)
def fX11_told (x1 : Int32) (v_stones : Int32) (v_flat : Int32) (v_leastThick : Int32) (v_sights : Int32) (v_padMany : Int32) (v_pulls : Nat → Int32) (v_fresh : Nat → Int32) (v_damp : Nat → Int32) (v_hollow : Nat → Int32) (v_thick : Nat → Int32) (v_fats : Nat → Int32) (v_pay : Nat → Int32) (v_fine : Nat → Int32) (v_deep : Nat → Int32) (v_hair : Nat → Int32) : Option (Int32) :=
  if (fX11_in (Int32.toInt64 x1) (10000 : Int64) (10005 : Int64)) = 0 then
    if (fX11_in (Int32.toInt64 x1) (1000 : Int64) (8999 : Int64)) = 0 then
      if (fX11_in (Int32.toInt64 x1) (100 : Int64) (599 : Int64)) = 0 then
        if (fX11_in (Int32.toInt64 x1) (10 : Int64) (59 : Int64)) = 0 then
          if x1 = 0 then
            some v_padMany
          else
            if x1 = (1 : Int32) then
              some v_stones
            else
              if x1 = (2 : Int32) then
                some v_flat
              else
                if x1 = (3 : Int32) then
                  some v_leastThick
                else
                  if x1 = (4 : Int32) then
                    some v_sights
                  else
                    some (-2 : Int32)
        else
          Option.bind (fX11_toldOfStone ((x1 / (10 : Int32)) - (1 : Int32)) (x1 - x1 / (10 : Int32) * (10 : Int32)) v_stones v_pulls v_fresh v_damp v_hollow v_thick) fun v_10 =>
          some v_10
      else
        lt_ ((x1 / (100 : Int32)) - (1 : Int32)) fun v_11 =>
        if (fX11_isStone v_11 v_stones) = 0 then
          some (-2 : Int32)
        else
          if (8 : Int32) ≤ (x1 - x1 / (100 : Int32) * (100 : Int32)) then
            some (-2 : Int32)
          else
            gd ((fX11_at v_11 (x1 - x1 / (100 : Int32) * (100 : Int32))) < 0 ∨ 40 ≤ Int32.toNatClampNeg (fX11_at v_11 (x1 - x1 / (100 : Int32) * (100 : Int32)))) <|
            some (v_fats (Int32.toNatClampNeg (fX11_at v_11 (x1 - x1 / (100 : Int32) * (100 : Int32)))))
    else
      Option.bind (fX11_toldOfPicture ((x1 / (1000 : Int32)) - (1 : Int32)) (x1 - x1 / (1000 : Int32) * (1000 : Int32)) v_pay v_fine v_deep) fun v_15 =>
      some v_15
  else
    gd ((x1 - (10000 : Int32)) < 0 ∨ 6 ≤ Int32.toNatClampNeg (x1 - (10000 : Int32))) <|
    some ((v_hair (Int32.toNatClampNeg (x1 - (10000 : Int32)))) + (9 : Int32))
def FX5_init (k : Int32 → (Nat → Int32) → (Nat → Int32) → (Nat → Int32) → Option ((Nat → Int32) × (Nat → Int32) × (Nat → Int32))) (x1 : Int32) (v_deep v_fine v_pay : Nat → Int32) : Option ((Nat → Int32) × (Nat → Int32) × (Nat → Int32)) :=
  if (8 : Int32) ≤ x1 then some (v_deep, v_fine, v_pay)
  else gd (x1 < 0 ∨ 8 ≤ Int32.toNatClampNeg x1) <| lt_ (x1 + (1 : Int32)) fun v_2 => k v_2 (upd v_deep (Int32.toNatClampNeg x1) (30 : Int32)) (upd v_fine (Int32.toNatClampNeg x1) (5 : Int32)) (upd v_pay (Int32.toNatClampNeg x1) (10 : Int32))
def LX5_init (n : Nat) : Int32 → (Nat → Int32) → (Nat → Int32) → (Nat → Int32) → Option ((Nat → Int32) × (Nat → Int32) × (Nat → Int32)) := Nat.rec (fun _ _ _ _ => none) (fun _ k => FX5_init k) n
def fX5_init : Option ((Nat → Int32) × (Nat → Int32) × (Nat → Int32)) := LX5_init 2000 (0 : Int32) (fun _ => 0) (fun _ => 0) (fun _ => 0)
def FX11_init (k : Int32 → (Nat → Int32) → (Nat → Int32) → (Nat → Int32) → Option ((Nat → Int32) × (Nat → Int32) × (Nat → Int32))) (x1 : Int32) (v_deep v_fine v_pay : Nat → Int32) : Option ((Nat → Int32) × (Nat → Int32) × (Nat → Int32)) :=
  if (8 : Int32) ≤ x1 then some (v_deep, v_fine, v_pay)
  else gd (x1 < 0 ∨ 8 ≤ Int32.toNatClampNeg x1) <| lt_ (x1 + (1 : Int32)) fun v_2 => k v_2 (upd v_deep (Int32.toNatClampNeg x1) (30 : Int32)) (upd v_fine (Int32.toNatClampNeg x1) (5 : Int32)) (upd v_pay (Int32.toNatClampNeg x1) (10 : Int32))
def LX11_init (n : Nat) : Int32 → (Nat → Int32) → (Nat → Int32) → (Nat → Int32) → Option ((Nat → Int32) × (Nat → Int32) × (Nat → Int32)) := Nat.rec (fun _ _ _ _ => none) (fun _ k => FX11_init k) n
def fX11_init : Option ((Nat → Int32) × (Nat → Int32) × (Nat → Int32)) := LX11_init 2000 (0 : Int32) (fun _ => 0) (fun _ => 0) (fun _ => 0)
