variable {p : Program} {l : Launch} {e : Env} {s : State} {m : MethodId} {av : Array Value} {below : List Frame} {meth : Method} {c : Code} {Q : State → Prop} {G : va_G} {cI cZ cO : ClassId} {A : Nat → Prop}
abbrev wX10_year (cI cZ : ClassId) (a_this a_room a_pad a_trial a_orderTable a_colourTable a_images a_trial_rules a_trial_shelf a_trial_tally a_trial_act a_room_shelf a_room_rules a_room_sights a_trial_rules_deep a_trial_rules_fine a_trial_rules_pay a_trial_rules_hair a_trial_shelf_thick a_trial_shelf_hollow a_trial_shelf_damp a_trial_shelf_fresh a_trial_shelf_pulls a_trial_shelf_fats a_trial_tally_ofKind a_room_rules_deep a_room_rules_fine a_room_rules_pay a_room_rules_hair a_room_shelf_thick a_room_shelf_hollow a_room_shelf_damp a_room_shelf_fresh a_room_shelf_pulls a_room_shelf_fats : Nat) (v_trial_acts : Int32) (v_trial_stoppedAt : Int32) (v_trial_why : Int32) (v_trial_rules_flat : Int32) (v_trial_rules_least : Int32) (v_trial_shelf_there : Int32) (v_trial_tally_pulled : Int32) (v_trial_tally_firstHaunted : Int32) (v_trial_tally_haunter : Int32) (v_room_rules_flat : Int32) (v_room_rules_least : Int32) (v_room_shelf_there : Int32) (v_trial_act_stone : Int32) (v_trial_act_kind : Int32) (v_trial_act_amount : Int32) (v_trial_rules_deep : Nat → Int32) (v_trial_rules_fine : Nat → Int32) (v_trial_rules_pay : Nat → Int32) (v_trial_rules_hair : Nat → Int32) (v_trial_shelf_thick : Nat → Int32) (v_trial_shelf_hollow : Nat → Int32) (v_trial_shelf_damp : Nat → Int32) (v_trial_shelf_fresh : Nat → Int32) (v_trial_shelf_pulls : Nat → Int32) (v_trial_shelf_fats : Nat → Int32) (v_trial_tally_ofKind : Nat → Int32) (v_room_rules_deep : Nat → Int32) (v_room_rules_fine : Nat → Int32) (v_room_rules_pay : Nat → Int32) (v_room_rules_hair : Nat → Int32) (v_room_shelf_thick : Nat → Int32) (v_room_shelf_hollow : Nat → Int32) (v_room_shelf_damp : Nat → Int32) (v_room_shelf_fresh : Nat → Int32) (v_room_shelf_pulls : Nat → Int32) (v_room_shelf_fats : Nat → Int32) : va_W := [(a_this, .inr (10, [.ref a_room, .ref a_pad, .ref a_trial, .ref a_orderTable, .ref a_colourTable, .ref a_images])), (a_trial, .inr (9, [.ref a_trial_rules, .ref a_trial_shelf, .ref a_trial_tally, .ref a_trial_act, .int v_trial_acts, .int v_trial_stoppedAt, .int v_trial_why])), (a_room, .inr (4, [.ref a_room_shelf, .ref a_room_rules, .ref a_room_sights])), (a_trial_rules, .inr (5, [.int v_trial_rules_flat, .int v_trial_rules_least, .ref a_trial_rules_deep, .ref a_trial_rules_fine, .ref a_trial_rules_pay, .ref a_trial_rules_hair])), (a_trial_shelf, .inr (6, [.int v_trial_shelf_there, .ref a_trial_shelf_thick, .ref a_trial_shelf_hollow, .ref a_trial_shelf_damp, .ref a_trial_shelf_fresh, .ref a_trial_shelf_pulls, .ref a_trial_shelf_fats])), (a_trial_tally, .inr (8, [.int v_trial_tally_pulled, .int v_trial_tally_firstHaunted, .int v_trial_tally_haunter, .ref a_trial_tally_ofKind])), (a_room_rules, .inr (5, [.int v_room_rules_flat, .int v_room_rules_least, .ref a_room_rules_deep, .ref a_room_rules_fine, .ref a_room_rules_pay, .ref a_room_rules_hair])), (a_room_shelf, .inr (6, [.int v_room_shelf_there, .ref a_room_shelf_thick, .ref a_room_shelf_hollow, .ref a_room_shelf_damp, .ref a_room_shelf_fresh, .ref a_room_shelf_pulls, .ref a_room_shelf_fats])), (a_trial_act, .inr (0, [.int v_trial_act_stone, .int v_trial_act_kind, .int v_trial_act_amount])), (a_trial_rules_deep, .inl (cI, 8, .inl v_trial_rules_deep)), (a_trial_rules_fine, .inl (cI, 8, .inl v_trial_rules_fine)), (a_trial_rules_pay, .inl (cI, 8, .inl v_trial_rules_pay)), (a_trial_rules_hair, .inl (cI, 6, .inl v_trial_rules_hair)), (a_trial_shelf_thick, .inl (cI, 5, .inl v_trial_shelf_thick)), (a_trial_shelf_hollow, .inl (cI, 5, .inl v_trial_shelf_hollow)), (a_trial_shelf_damp, .inl (cI, 5, .inl v_trial_shelf_damp)), (a_trial_shelf_fresh, .inl (cI, 5, .inl v_trial_shelf_fresh)), (a_trial_shelf_pulls, .inl (cI, 5, .inl v_trial_shelf_pulls)), (a_trial_shelf_fats, .inl (cI, 40, .inl v_trial_shelf_fats)), (a_trial_tally_ofKind, .inl (cI, 5, .inl v_trial_tally_ofKind)), (a_room_rules_deep, .inl (cI, 8, .inl v_room_rules_deep)), (a_room_rules_fine, .inl (cI, 8, .inl v_room_rules_fine)), (a_room_rules_pay, .inl (cI, 8, .inl v_room_rules_pay)), (a_room_rules_hair, .inl (cI, 6, .inl v_room_rules_hair)), (a_room_shelf_thick, .inl (cI, 5, .inl v_room_shelf_thick)), (a_room_shelf_hollow, .inl (cI, 5, .inl v_room_shelf_hollow)), (a_room_shelf_damp, .inl (cI, 5, .inl v_room_shelf_damp)), (a_room_shelf_fresh, .inl (cI, 5, .inl v_room_shelf_fresh)), (a_room_shelf_pulls, .inl (cI, 5, .inl v_room_shelf_pulls)), (a_room_shelf_fats, .inl (cI, 40, .inl v_room_shelf_fats))]
abbrev rX10_year : Room := { frames := 5, cells := 0, slots := 0, locals := 119 }
set_option maxRecDepth 20000 in
theorem uX10_year_0 {a_this a_room a_pad a_trial a_orderTable a_colourTable a_images a_trial_rules a_trial_shelf a_trial_tally a_trial_act a_room_shelf a_room_rules a_room_sights a_trial_rules_deep a_trial_rules_fine a_trial_rules_pay a_trial_rules_hair a_trial_shelf_thick a_trial_shelf_hollow a_trial_shelf_damp a_trial_shelf_fresh a_trial_shelf_pulls a_trial_shelf_fats a_trial_tally_ofKind a_room_rules_deep a_room_rules_fine a_room_rules_pay a_room_rules_hair a_room_shelf_thick a_room_shelf_hollow a_room_shelf_damp a_room_shelf_fresh a_room_shelf_pulls a_room_shelf_fats : Nat} (x1 : Int32) (x2 : Int32) (x3 : Int32) (v_trial_acts : Int32) (v_trial_stoppedAt : Int32) (v_trial_why : Int32) (v_trial_rules_flat : Int32) (v_trial_rules_least : Int32) (v_trial_shelf_there : Int32) (v_trial_tally_pulled : Int32) (v_trial_tally_firstHaunted : Int32) (v_trial_tally_haunter : Int32) (v_room_rules_flat : Int32) (v_room_rules_least : Int32) (v_room_shelf_there : Int32) (v_trial_act_stone : Int32) (v_trial_act_kind : Int32) (v_trial_act_amount : Int32) (v_trial_rules_deep : Nat → Int32) (v_trial_rules_fine : Nat → Int32) (v_trial_rules_pay : Nat → Int32) (v_trial_rules_hair : Nat → Int32) (v_trial_shelf_thick : Nat → Int32) (v_trial_shelf_hollow : Nat → Int32) (v_trial_shelf_damp : Nat → Int32) (v_trial_shelf_fresh : Nat → Int32) (v_trial_shelf_pulls : Nat → Int32) (v_trial_shelf_fats : Nat → Int32) (v_trial_tally_ofKind : Nat → Int32) (v_room_rules_deep : Nat → Int32) (v_room_rules_fine : Nat → Int32) (v_room_rules_pay : Nat → Int32) (v_room_rules_hair : Nat → Int32) (v_room_shelf_thick : Nat → Int32) (v_room_shelf_hollow : Nat → Int32) (v_room_shelf_damp : Nat → Int32) (v_room_shelf_fresh : Nat → Int32) (v_room_shelf_pulls : Nat → Int32) (v_room_shelf_fats : Nat → Int32) {res : Int32 × Int32 × Int32 × Int32 × Int32 × Int32 × Int32 × Int32 × Int32 × Int32 × Int32 × Int32 × Int32 × (Nat → Int32) × (Nat → Int32) × (Nat → Int32) × (Nat → Int32) × (Nat → Int32) × (Nat → Int32) × (Nat → Int32) × (Nat → Int32) × (Nat → Int32) × (Nat → Int32) × (Nat → Int32)} (C : Cx p s m av meth c RX10 cX10_year 4 (some .int) G cI cZ cO A) (hQ : RI p l e rX10_year s m av below meth c G A cX10_year .int Q (res.1) (wX10_year cI cZ a_this a_room a_pad a_trial a_orderTable a_colourTable a_images a_trial_rules a_trial_shelf a_trial_tally a_trial_act a_room_shelf a_room_rules a_room_sights a_trial_rules_deep a_trial_rules_fine a_trial_rules_pay a_trial_rules_hair a_trial_shelf_thick a_trial_shelf_hollow a_trial_shelf_damp a_trial_shelf_fresh a_trial_shelf_pulls a_trial_shelf_fats a_trial_tally_ofKind a_room_rules_deep a_room_rules_fine a_room_rules_pay a_room_rules_hair a_room_shelf_thick a_room_shelf_hollow a_room_shelf_damp a_room_shelf_fresh a_room_shelf_pulls a_room_shelf_fats res.2.1 res.2.2.1 res.2.2.2.1 res.2.2.2.2.1 res.2.2.2.2.2.1 res.2.2.2.2.2.2.1 res.2.2.2.2.2.2.2.2.2.1 res.2.2.2.2.2.2.2.1 res.2.2.2.2.2.2.2.2.1 v_room_rules_flat v_room_rules_least v_room_shelf_there res.2.2.2.2.2.2.2.2.2.2.2.2.1 res.2.2.2.2.2.2.2.2.2.2.2.1 res.2.2.2.2.2.2.2.2.2.2.1 res.2.2.2.2.2.2.2.2.2.2.2.2.2.1 res.2.2.2.2.2.2.2.2.2.2.2.2.2.2.1 res.2.2.2.2.2.2.2.2.2.2.2.2.2.2.2.1 res.2.2.2.2.2.2.2.2.2.2.2.2.2.2.2.2.1 res.2.2.2.2.2.2.2.2.2.2.2.2.2.2.2.2.2.1 res.2.2.2.2.2.2.2.2.2.2.2.2.2.2.2.2.2.2.1 res.2.2.2.2.2.2.2.2.2.2.2.2.2.2.2.2.2.2.2.1 res.2.2.2.2.2.2.2.2.2.2.2.2.2.2.2.2.2.2.2.2.1 res.2.2.2.2.2.2.2.2.2.2.2.2.2.2.2.2.2.2.2.2.2.1 res.2.2.2.2.2.2.2.2.2.2.2.2.2.2.2.2.2.2.2.2.2.2.1 res.2.2.2.2.2.2.2.2.2.2.2.2.2.2.2.2.2.2.2.2.2.2.2 v_room_rules_deep v_room_rules_fine v_room_rules_pay v_room_rules_hair v_room_shelf_thick v_room_shelf_hollow v_room_shelf_damp v_room_shelf_fresh v_room_shelf_pulls v_room_shelf_fats)) (h : fX10_year x1 x2 x3 v_trial_acts v_trial_stoppedAt v_trial_why v_trial_rules_flat v_trial_rules_least v_trial_shelf_there v_trial_tally_pulled v_trial_tally_firstHaunted v_trial_tally_haunter v_room_rules_flat v_room_rules_least v_room_shelf_there v_trial_act_stone v_trial_act_kind v_trial_act_amount v_trial_rules_deep v_trial_rules_fine v_trial_rules_pay v_trial_rules_hair v_trial_shelf_thick v_trial_shelf_hollow v_trial_shelf_damp v_trial_shelf_fresh v_trial_shelf_pulls v_trial_shelf_fats v_trial_tally_ofKind v_room_rules_deep v_room_rules_fine v_room_rules_pay v_room_rules_hair v_room_shelf_thick v_room_shelf_hollow v_room_shelf_damp v_room_shelf_fresh v_room_shelf_pulls v_room_shelf_fats = some res) (H : Heap) (locs : List Loc) (hW : HW G A s (wX10_year cI cZ a_this a_room a_pad a_trial a_orderTable a_colourTable a_images a_trial_rules a_trial_shelf a_trial_tally a_trial_act a_room_shelf a_room_rules a_room_sights a_trial_rules_deep a_trial_rules_fine a_trial_rules_pay a_trial_rules_hair a_trial_shelf_thick a_trial_shelf_hollow a_trial_shelf_damp a_trial_shelf_fresh a_trial_shelf_pulls a_trial_shelf_fats a_trial_tally_ofKind a_room_rules_deep a_room_rules_fine a_room_rules_pay a_room_rules_hair a_room_shelf_thick a_room_shelf_hollow a_room_shelf_damp a_room_shelf_fresh a_room_shelf_pulls a_room_shelf_fats v_trial_acts v_trial_stoppedAt v_trial_why v_trial_rules_flat v_trial_rules_least v_trial_shelf_there v_trial_tally_pulled v_trial_tally_firstHaunted v_trial_tally_haunter v_room_rules_flat v_room_rules_least v_room_shelf_there v_trial_act_stone v_trial_act_kind v_trial_act_amount v_trial_rules_deep v_trial_rules_fine v_trial_rules_pay v_trial_rules_hair v_trial_shelf_thick v_trial_shelf_hollow v_trial_shelf_damp v_trial_shelf_fresh v_trial_shelf_pulls v_trial_shelf_fats v_trial_tally_ofKind v_room_rules_deep v_room_rules_fine v_room_rules_pay v_room_rules_hair v_room_shelf_thick v_room_shelf_hollow v_room_shelf_damp v_room_shelf_fresh v_room_shelf_pulls v_room_shelf_fats) H locs) (ls : Array Slot) (hl : lv_has ls 4 [(0, .ref a_this), (1, .int x1), (2, .int x2), (3, .int x3)]) : W p l e rX10_year s m av below meth c H locs 0 0 Q (F0 m 0 ls []) := by
  have hx := C.1
  have hb := C.2.1
  unfold fX10_year at h
  refine lv_iload_n hx hb dX10_year_0 rfl (lv_at hl 1 rfl) ?_
  refine lv_iconst (v := (0 : Int32)) hx hb dX10_year_1 (by decide) ?_
  refine lv_sipush (v := (9999 : Int32)) hx hb dX10_year_2 (by decide) ?_
  refine callSI0 C lk_RX10_48 (ctX10_inside x1 (0 : Int32) (9999 : Int32) rfl) hW hl rfl ⟨rfl, rfl⟩ ⟨(Nat.le_of_ble_eq_true rfl), (Nat.le_of_ble_eq_true rfl)⟩ ⟨Nat.zero_le _, Nat.zero_le _⟩ rfl (Nat.le_of_ble_eq_true rfl) dX10_year_5 (fun H locs hW => ?_)
  refine lv_if_eq (tgt := 30) hx hb dX10_year_8 (by decide) (fun c_1 => ?_) (fun c_1 => ?_)
  · have h := ip_h c_1 h
    refine lv_bipush (v := (-2 : Int32)) hx hb dX10_year_30 (by decide) ?_
    obtain rfl := Option.some.inj h
    exact hQ rfl _ _ _ _ dX10_year_32 hW
  · have h := in_h c_1 h
    refine lv_iload_n hx hb dX10_year_11 rfl (lv_at hl 2 rfl) ?_
    refine lv_iconst (v := (1 : Int32)) hx hb dX10_year_12 (by decide) ?_
    refine lv_bipush (v := (99 : Int32)) hx hb dX10_year_13 (by decide) ?_
    refine callSI0 C lk_RX10_48 (ctX10_inside x2 (1 : Int32) (99 : Int32) rfl) hW hl rfl ⟨rfl, rfl⟩ ⟨(Nat.le_of_ble_eq_true rfl), (Nat.le_of_ble_eq_true rfl)⟩ ⟨Nat.zero_le _, Nat.zero_le _⟩ rfl (Nat.le_of_ble_eq_true rfl) dX10_year_15 (fun H locs hW => ?_)
    refine lv_if_eq (tgt := 30) hx hb dX10_year_18 (by decide) (fun c_2 => ?_) (fun c_2 => ?_)
    · have h := ip_h c_2 h
      refine lv_bipush (v := (-2 : Int32)) hx hb dX10_year_30 (by decide) ?_
      obtain rfl := Option.some.inj h
      exact hQ rfl _ _ _ _ dX10_year_32 hW
    · have h := in_h c_2 h
      refine lv_iload_n hx hb dX10_year_21 rfl (lv_at hl 3 rfl) ?_
      refine lv_iconst (v := (0 : Int32)) hx hb dX10_year_22 (by decide) ?_
      refine lv_iconst (v := (2 : Int32)) hx hb dX10_year_23 (by decide) ?_
      refine callSI0 C lk_RX10_48 (ctX10_inside x3 (0 : Int32) (2 : Int32) rfl) hW hl rfl ⟨rfl, rfl⟩ ⟨(Nat.le_of_ble_eq_true rfl), (Nat.le_of_ble_eq_true rfl)⟩ ⟨Nat.zero_le _, Nat.zero_le _⟩ rfl (Nat.le_of_ble_eq_true rfl) dX10_year_24 (fun H locs hW => ?_)
      refine lv_if_ne (tgt := 33) hx hb dX10_year_27 (by decide) (fun c_3 => ?_) (fun c_3 => ?_)
      · have h := in_h c_3 h
        refine lv_aload_n hx hb dX10_year_33 rfl (lv_at hl 0 rfl) ?_
        refine getW C fl_RX10_26 hW 0 rfl rfl dX10_year_34 ?_
        refine lv_aload_n hx hb dX10_year_37 rfl (lv_at hl 0 rfl) ?_
        refine getW C fl_RX10_12 hW 0 rfl rfl dX10_year_38 ?_
        obtain ⟨v_4, hv_4, h⟩ := bd_h h
        refine callVVm [1, 3, 4, 5, 9, 10, 11, 12, 13, 14, 15, 16, 17, 18, 19, 2, 6, 7, 20, 21, 22, 23, 24, 25, 26, 27, 28, 29] [0, 8] [(a_this, .inr (10, [.ref a_room, .ref a_pad, .ref a_trial, .ref a_orderTable, .ref a_colourTable, .ref a_images])), (a_trial_act, .inr (0, [.int v_trial_act_stone, .int v_trial_act_kind, .int v_trial_act_amount]))] (wX10_year cI cZ a_this a_room a_pad a_trial a_orderTable a_colourTable a_images a_trial_rules a_trial_shelf a_trial_tally a_trial_act a_room_shelf a_room_rules a_room_sights a_trial_rules_deep a_trial_rules_fine a_trial_rules_pay a_trial_rules_hair a_trial_shelf_thick a_trial_shelf_hollow a_trial_shelf_damp a_trial_shelf_fresh a_trial_shelf_pulls a_trial_shelf_fats a_trial_tally_ofKind a_room_rules_deep a_room_rules_fine a_room_rules_pay a_room_rules_hair a_room_shelf_thick a_room_shelf_hollow a_room_shelf_damp a_room_shelf_fresh a_room_shelf_pulls a_room_shelf_fats v_4.1 v_4.2.1 v_4.2.2.1 v_4.2.2.2.1 v_4.2.2.2.2.1 v_4.2.2.2.2.2.1 v_4.2.2.2.2.2.2.2.2.1 v_4.2.2.2.2.2.2.1 v_4.2.2.2.2.2.2.2.1 v_room_rules_flat v_room_rules_least v_room_shelf_there v_trial_act_stone v_trial_act_kind v_trial_act_amount v_4.2.2.2.2.2.2.2.2.2.1 v_4.2.2.2.2.2.2.2.2.2.2.1 v_4.2.2.2.2.2.2.2.2.2.2.2.1 v_4.2.2.2.2.2.2.2.2.2.2.2.2.1 v_4.2.2.2.2.2.2.2.2.2.2.2.2.2.1 v_4.2.2.2.2.2.2.2.2.2.2.2.2.2.2.1 v_4.2.2.2.2.2.2.2.2.2.2.2.2.2.2.2.1 v_4.2.2.2.2.2.2.2.2.2.2.2.2.2.2.2.2.1 v_4.2.2.2.2.2.2.2.2.2.2.2.2.2.2.2.2.2.1 v_4.2.2.2.2.2.2.2.2.2.2.2.2.2.2.2.2.2.2.1 v_4.2.2.2.2.2.2.2.2.2.2.2.2.2.2.2.2.2.2.2 v_room_rules_deep v_room_rules_fine v_room_rules_pay v_room_rules_hair v_room_shelf_thick v_room_shelf_hollow v_room_shelf_damp v_room_shelf_fresh v_room_shelf_pulls v_room_shelf_fats) C lk_RX10_151 (ctX9_begin a_trial a_trial_rules a_trial_shelf a_trial_tally a_trial_act a_trial_rules_deep a_trial_rules_fine a_trial_rules_pay a_trial_rules_hair a_trial_shelf_thick a_trial_shelf_hollow a_trial_shelf_damp a_trial_shelf_fresh a_trial_shelf_pulls a_trial_shelf_fats a_trial_tally_ofKind a_room a_room_shelf a_room_rules a_room_sights a_room_rules_deep a_room_rules_fine a_room_rules_pay a_room_rules_hair a_room_shelf_thick a_room_shelf_hollow a_room_shelf_damp a_room_shelf_fresh a_room_shelf_pulls a_room_shelf_fats v_trial_acts v_trial_stoppedAt v_trial_why v_trial_rules_flat v_trial_rules_least v_trial_shelf_there v_trial_tally_pulled v_trial_tally_firstHaunted v_trial_tally_haunter v_trial_rules_deep v_trial_rules_fine v_trial_rules_pay v_trial_rules_hair v_trial_shelf_thick v_trial_shelf_hollow v_trial_shelf_damp v_trial_shelf_fresh v_trial_shelf_pulls v_trial_shelf_fats v_trial_tally_ofKind v_room_rules_flat v_room_rules_least v_room_shelf_there v_room_rules_deep v_room_rules_fine v_room_rules_pay v_room_rules_hair v_room_shelf_thick v_room_shelf_hollow v_room_shelf_damp v_room_shelf_fresh v_room_shelf_pulls v_room_shelf_fats hv_4) hW hl 9 rfl rfl rfl rfl rfl rfl rfl rfl rfl rfl ⟨rfl, rfl⟩ ⟨(Nat.le_of_ble_eq_true rfl), (Nat.le_of_ble_eq_true rfl)⟩ ⟨Nat.zero_le _, Nat.zero_le _⟩ rfl (Nat.le_of_ble_eq_true rfl) dX10_year_41 (fun H locs hW => ?_)
        refine lv_aload_n hx hb dX10_year_44 rfl (lv_at hl 0 rfl) ?_
        refine getW C fl_RX10_26 hW 0 rfl rfl dX10_year_45 ?_
        refine lv_iload_n hx hb dX10_year_48 rfl (lv_at hl 1 rfl) ?_
        refine lv_iload_n hx hb dX10_year_49 rfl (lv_at hl 2 rfl) ?_
        obtain ⟨v_5, hv_5, h⟩ := bd_h h
        refine callVVm [1, 8, 4, 3, 5, 16, 14, 13, 10, 15, 17, 18, 19, 9] [0, 2, 6, 7, 11, 12, 20, 21, 22, 23, 24, 25, 26, 27, 28, 29] [(a_this, .inr (10, [.ref a_room, .ref a_pad, .ref a_trial, .ref a_orderTable, .ref a_colourTable, .ref a_images])), (a_room, .inr (4, [.ref a_room_shelf, .ref a_room_rules, .ref a_room_sights])), (a_room_rules, .inr (5, [.int v_room_rules_flat, .int v_room_rules_least, .ref a_room_rules_deep, .ref a_room_rules_fine, .ref a_room_rules_pay, .ref a_room_rules_hair])), (a_room_shelf, .inr (6, [.int v_room_shelf_there, .ref a_room_shelf_thick, .ref a_room_shelf_hollow, .ref a_room_shelf_damp, .ref a_room_shelf_fresh, .ref a_room_shelf_pulls, .ref a_room_shelf_fats])), (a_trial_rules_pay, .inl (cI, 8, .inl v_4.2.2.2.2.2.2.2.2.2.2.2.1)), (a_trial_rules_hair, .inl (cI, 6, .inl v_4.2.2.2.2.2.2.2.2.2.2.2.2.1)), (a_room_rules_deep, .inl (cI, 8, .inl v_room_rules_deep)), (a_room_rules_fine, .inl (cI, 8, .inl v_room_rules_fine)), (a_room_rules_pay, .inl (cI, 8, .inl v_room_rules_pay)), (a_room_rules_hair, .inl (cI, 6, .inl v_room_rules_hair)), (a_room_shelf_thick, .inl (cI, 5, .inl v_room_shelf_thick)), (a_room_shelf_hollow, .inl (cI, 5, .inl v_room_shelf_hollow)), (a_room_shelf_damp, .inl (cI, 5, .inl v_room_shelf_damp)), (a_room_shelf_fresh, .inl (cI, 5, .inl v_room_shelf_fresh)), (a_room_shelf_pulls, .inl (cI, 5, .inl v_room_shelf_pulls)), (a_room_shelf_fats, .inl (cI, 40, .inl v_room_shelf_fats))] (wX10_year cI cZ a_this a_room a_pad a_trial a_orderTable a_colourTable a_images a_trial_rules a_trial_shelf a_trial_tally a_trial_act a_room_shelf a_room_rules a_room_sights a_trial_rules_deep a_trial_rules_fine a_trial_rules_pay a_trial_rules_hair a_trial_shelf_thick a_trial_shelf_hollow a_trial_shelf_damp a_trial_shelf_fresh a_trial_shelf_pulls a_trial_shelf_fats a_trial_tally_ofKind a_room_rules_deep a_room_rules_fine a_room_rules_pay a_room_rules_hair a_room_shelf_thick a_room_shelf_hollow a_room_shelf_damp a_room_shelf_fresh a_room_shelf_pulls a_room_shelf_fats v_4.1 v_4.2.1 v_4.2.2.1 v_4.2.2.2.1 v_4.2.2.2.2.1 v_5.2.2.2.1 v_5.2.2.2.2.2.2.1 v_5.2.2.2.2.1 v_5.2.2.2.2.2.1 v_room_rules_flat v_room_rules_least v_room_shelf_there v_5.2.2.1 v_5.2.1 v_5.1 v_4.2.2.2.2.2.2.2.2.2.1 v_4.2.2.2.2.2.2.2.2.2.2.1 v_4.2.2.2.2.2.2.2.2.2.2.2.1 v_4.2.2.2.2.2.2.2.2.2.2.2.2.1 v_5.2.2.2.2.2.2.2.2.2.1 v_5.2.2.2.2.2.2.2.2.1 v_5.2.2.2.2.2.2.2.2.2.2.1 v_5.2.2.2.2.2.2.2.1 v_5.2.2.2.2.2.2.2.2.2.2.2.1 v_5.2.2.2.2.2.2.2.2.2.2.2.2.1 v_5.2.2.2.2.2.2.2.2.2.2.2.2.2 v_room_rules_deep v_room_rules_fine v_room_rules_pay v_room_rules_hair v_room_shelf_thick v_room_shelf_hollow v_room_shelf_damp v_room_shelf_fresh v_room_shelf_pulls v_room_shelf_fats) C lk_RX10_247 (ctX9_playYear a_trial a_trial_rules a_trial_shelf a_trial_tally a_trial_act a_trial_shelf_thick a_trial_shelf_hollow a_trial_shelf_damp a_trial_shelf_fresh a_trial_shelf_pulls a_trial_shelf_fats a_trial_rules_deep a_trial_rules_fine a_trial_rules_pay a_trial_rules_hair a_trial_tally_ofKind x1 x2 v_4.1 v_4.2.1 v_4.2.2.1 v_trial_act_stone v_trial_act_kind v_trial_act_amount v_4.2.2.2.2.2.1 v_4.2.2.2.1 v_4.2.2.2.2.1 v_4.2.2.2.2.2.2.2.2.1 v_4.2.2.2.2.2.2.1 v_4.2.2.2.2.2.2.2.1 v_4.2.2.2.2.2.2.2.2.2.2.2.2.2.2.2.2.1 v_4.2.2.2.2.2.2.2.2.2.2.2.2.2.2.1 v_4.2.2.2.2.2.2.2.2.2.2.2.2.2.1 v_4.2.2.2.2.2.2.2.2.2.2.1 v_4.2.2.2.2.2.2.2.2.2.2.2.2.2.2.2.1 v_4.2.2.2.2.2.2.2.2.2.2.2.2.2.2.2.2.2.1 v_4.2.2.2.2.2.2.2.2.2.2.2.2.2.2.2.2.2.2.1 v_4.2.2.2.2.2.2.2.2.2.2.2.2.2.2.2.2.2.2.2 v_4.2.2.2.2.2.2.2.2.2.1 hv_5) hW hl 9 rfl rfl rfl rfl rfl rfl rfl rfl rfl rfl ⟨rfl, rfl⟩ ⟨(Nat.le_of_ble_eq_true rfl), (Nat.le_of_ble_eq_true rfl)⟩ ⟨Nat.zero_le _, Nat.zero_le _⟩ rfl (Nat.le_of_ble_eq_true rfl) dX10_year_50 (fun H locs hW => ?_)
        refine lv_iload_n hx hb dX10_year_53 rfl (lv_at hl 3 rfl) ?_
        refine lv_if_ne (tgt := 68) hx hb dX10_year_54 (by decide) (fun c_6 => ?_) (fun c_6 => ?_)
        · have h := in_h c_6 h
          refine lv_iload_n hx hb dX10_year_68 rfl (lv_at hl 3 rfl) ?_
          refine lv_iconst (v := (1 : Int32)) hx hb dX10_year_69 (by decide) ?_
          refine lv_icmp_ne (tgt := 88) hx hb dX10_year_70 (by decide) (fun c_7 => ?_) (fun c_7 => ?_)
          · have h := in_h c_7 h
            refine lv_aload_n hx hb dX10_year_88 rfl (lv_at hl 0 rfl) ?_
            refine getW C fl_RX10_26 hW 0 rfl rfl dX10_year_89 ?_
            refine getW C fl_RX10_130 hW 1 rfl rfl dX10_year_92 ?_
            obtain ⟨v_8, hv_8, h⟩ := bd_h h
            refine callVIr [4, 16] C lk_RX10_251 (ctX6_countFresh a_trial_shelf a_trial_shelf_thick a_trial_shelf_hollow a_trial_shelf_damp a_trial_shelf_fresh a_trial_shelf_pulls a_trial_shelf_fats v_5.2.2.2.1 v_5.2.2.2.2.2.2.2.1 hv_8) hW hl 6 rfl rfl rfl rfl rfl ⟨rfl, rfl⟩ ⟨(Nat.le_of_ble_eq_true rfl), (Nat.le_of_ble_eq_true rfl)⟩ ⟨Nat.zero_le _, Nat.zero_le _⟩ rfl (Nat.le_of_ble_eq_true rfl) dX10_year_95 (fun H locs hW => ?_)
            obtain rfl := Option.some.inj h
            exact hQ rfl _ _ _ _ dX10_year_98 hW
          · have h := ip_h c_7 h
            refine lv_aload_n hx hb dX10_year_73 rfl (lv_at hl 0 rfl) ?_
            refine getW C fl_RX10_26 hW 0 rfl rfl dX10_year_74 ?_
            refine getW C fl_RX10_118 hW 1 rfl rfl dX10_year_77 ?_
            refine getW C fl_RX10_127 hW 5 rfl rfl dX10_year_80 ?_
            refine lv_iconst (v := (3 : Int32)) hx hb dX10_year_83 (by decide) ?_
            refine ialdW C hW 19 rfl (show ¬ ((3 : Int32) < 0 ∨ 5 ≤ Int32.toNatClampNeg (3 : Int32)) by decide) dX10_year_84 ?_
            refine lv_goto (tgt := 98) hx hb dX10_year_85 (by decide) ?_
            obtain rfl := Option.some.inj h
            exact hQ rfl _ _ _ _ dX10_year_98 hW
        · have h := ip_h c_6 h
          refine lv_aload_n hx hb dX10_year_57 rfl (lv_at hl 0 rfl) ?_
          refine getW C fl_RX10_26 hW 0 rfl rfl dX10_year_58 ?_
          refine getW C fl_RX10_118 hW 1 rfl rfl dX10_year_61 ?_
          refine getW C fl_RX10_122 hW 5 rfl rfl dX10_year_64 ?_
          obtain rfl := Option.some.inj h
          exact hQ rfl _ _ _ _ dX10_year_67 hW
      · have h := ip_h c_3 h
        refine lv_bipush (v := (-2 : Int32)) hx hb dX10_year_30 (by decide) ?_
        obtain rfl := Option.some.inj h
        exact hQ rfl _ _ _ _ dX10_year_32 hW
theorem ctX10_year {l : Launch} {G : va_G} {cI cZ cO : ClassId} (a_this a_room a_pad a_trial a_orderTable a_colourTable a_images a_trial_rules a_trial_shelf a_trial_tally a_trial_act a_room_shelf a_room_rules a_room_sights a_trial_rules_deep a_trial_rules_fine a_trial_rules_pay a_trial_rules_hair a_trial_shelf_thick a_trial_shelf_hollow a_trial_shelf_damp a_trial_shelf_fresh a_trial_shelf_pulls a_trial_shelf_fats a_trial_tally_ofKind a_room_rules_deep a_room_rules_fine a_room_rules_pay a_room_rules_hair a_room_shelf_thick a_room_shelf_hollow a_room_shelf_damp a_room_shelf_fresh a_room_shelf_pulls a_room_shelf_fats : Nat) (x1 : Int32) (x2 : Int32) (x3 : Int32) (v_trial_acts : Int32) (v_trial_stoppedAt : Int32) (v_trial_why : Int32) (v_trial_rules_flat : Int32) (v_trial_rules_least : Int32) (v_trial_shelf_there : Int32) (v_trial_tally_pulled : Int32) (v_trial_tally_firstHaunted : Int32) (v_trial_tally_haunter : Int32) (v_room_rules_flat : Int32) (v_room_rules_least : Int32) (v_room_shelf_there : Int32) (v_trial_act_stone : Int32) (v_trial_act_kind : Int32) (v_trial_act_amount : Int32) (v_trial_rules_deep : Nat → Int32) (v_trial_rules_fine : Nat → Int32) (v_trial_rules_pay : Nat → Int32) (v_trial_rules_hair : Nat → Int32) (v_trial_shelf_thick : Nat → Int32) (v_trial_shelf_hollow : Nat → Int32) (v_trial_shelf_damp : Nat → Int32) (v_trial_shelf_fresh : Nat → Int32) (v_trial_shelf_pulls : Nat → Int32) (v_trial_shelf_fats : Nat → Int32) (v_trial_tally_ofKind : Nat → Int32) (v_room_rules_deep : Nat → Int32) (v_room_rules_fine : Nat → Int32) (v_room_rules_pay : Nat → Int32) (v_room_rules_hair : Nat → Int32) (v_room_shelf_thick : Nat → Int32) (v_room_shelf_hollow : Nat → Int32) (v_room_shelf_damp : Nat → Int32) (v_room_shelf_fresh : Nat → Int32) (v_room_shelf_pulls : Nat → Int32) (v_room_shelf_fats : Nat → Int32) {res : Int32 × Int32 × Int32 × Int32 × Int32 × Int32 × Int32 × Int32 × Int32 × Int32 × Int32 × Int32 × Int32 × (Nat → Int32) × (Nat → Int32) × (Nat → Int32) × (Nat → Int32) × (Nat → Int32) × (Nat → Int32) × (Nat → Int32) × (Nat → Int32) × (Nat → Int32) × (Nat → Int32) × (Nat → Int32)} (h : fX10_year x1 x2 x3 v_trial_acts v_trial_stoppedAt v_trial_why v_trial_rules_flat v_trial_rules_least v_trial_shelf_there v_trial_tally_pulled v_trial_tally_firstHaunted v_trial_tally_haunter v_room_rules_flat v_room_rules_least v_room_shelf_there v_trial_act_stone v_trial_act_kind v_trial_act_amount v_trial_rules_deep v_trial_rules_fine v_trial_rules_pay v_trial_rules_hair v_trial_shelf_thick v_trial_shelf_hollow v_trial_shelf_damp v_trial_shelf_fresh v_trial_shelf_pulls v_trial_shelf_fats v_trial_tally_ofKind v_room_rules_deep v_room_rules_fine v_room_rules_pay v_room_rules_hair v_room_shelf_thick v_room_shelf_hollow v_room_shelf_damp v_room_shelf_fresh v_room_shelf_pulls v_room_shelf_fats = some res) : MI l G cI cZ cO yX10_year cX10_year 4 .int rX10_year [.ref a_this, .int x1, .int x2, .int x3] (wX10_year cI cZ a_this a_room a_pad a_trial a_orderTable a_colourTable a_images a_trial_rules a_trial_shelf a_trial_tally a_trial_act a_room_shelf a_room_rules a_room_sights a_trial_rules_deep a_trial_rules_fine a_trial_rules_pay a_trial_rules_hair a_trial_shelf_thick a_trial_shelf_hollow a_trial_shelf_damp a_trial_shelf_fresh a_trial_shelf_pulls a_trial_shelf_fats a_trial_tally_ofKind a_room_rules_deep a_room_rules_fine a_room_rules_pay a_room_rules_hair a_room_shelf_thick a_room_shelf_hollow a_room_shelf_damp a_room_shelf_fresh a_room_shelf_pulls a_room_shelf_fats v_trial_acts v_trial_stoppedAt v_trial_why v_trial_rules_flat v_trial_rules_least v_trial_shelf_there v_trial_tally_pulled v_trial_tally_firstHaunted v_trial_tally_haunter v_room_rules_flat v_room_rules_least v_room_shelf_there v_trial_act_stone v_trial_act_kind v_trial_act_amount v_trial_rules_deep v_trial_rules_fine v_trial_rules_pay v_trial_rules_hair v_trial_shelf_thick v_trial_shelf_hollow v_trial_shelf_damp v_trial_shelf_fresh v_trial_shelf_pulls v_trial_shelf_fats v_trial_tally_ofKind v_room_rules_deep v_room_rules_fine v_room_rules_pay v_room_rules_hair v_room_shelf_thick v_room_shelf_hollow v_room_shelf_damp v_room_shelf_fresh v_room_shelf_pulls v_room_shelf_fats) (res.1) (wX10_year cI cZ a_this a_room a_pad a_trial a_orderTable a_colourTable a_images a_trial_rules a_trial_shelf a_trial_tally a_trial_act a_room_shelf a_room_rules a_room_sights a_trial_rules_deep a_trial_rules_fine a_trial_rules_pay a_trial_rules_hair a_trial_shelf_thick a_trial_shelf_hollow a_trial_shelf_damp a_trial_shelf_fresh a_trial_shelf_pulls a_trial_shelf_fats a_trial_tally_ofKind a_room_rules_deep a_room_rules_fine a_room_rules_pay a_room_rules_hair a_room_shelf_thick a_room_shelf_hollow a_room_shelf_damp a_room_shelf_fresh a_room_shelf_pulls a_room_shelf_fats res.2.1 res.2.2.1 res.2.2.2.1 res.2.2.2.2.1 res.2.2.2.2.2.1 res.2.2.2.2.2.2.1 res.2.2.2.2.2.2.2.2.2.1 res.2.2.2.2.2.2.2.1 res.2.2.2.2.2.2.2.2.1 v_room_rules_flat v_room_rules_least v_room_shelf_there res.2.2.2.2.2.2.2.2.2.2.2.2.1 res.2.2.2.2.2.2.2.2.2.2.2.1 res.2.2.2.2.2.2.2.2.2.2.1 res.2.2.2.2.2.2.2.2.2.2.2.2.2.1 res.2.2.2.2.2.2.2.2.2.2.2.2.2.2.1 res.2.2.2.2.2.2.2.2.2.2.2.2.2.2.2.1 res.2.2.2.2.2.2.2.2.2.2.2.2.2.2.2.2.1 res.2.2.2.2.2.2.2.2.2.2.2.2.2.2.2.2.2.1 res.2.2.2.2.2.2.2.2.2.2.2.2.2.2.2.2.2.2.1 res.2.2.2.2.2.2.2.2.2.2.2.2.2.2.2.2.2.2.2.1 res.2.2.2.2.2.2.2.2.2.2.2.2.2.2.2.2.2.2.2.2.1 res.2.2.2.2.2.2.2.2.2.2.2.2.2.2.2.2.2.2.2.2.2.1 res.2.2.2.2.2.2.2.2.2.2.2.2.2.2.2.2.2.2.2.2.2.2.1 res.2.2.2.2.2.2.2.2.2.2.2.2.2.2.2.2.2.2.2.2.2.2.2 v_room_rules_deep v_room_rules_fine v_room_rules_pay v_room_rules_hair v_room_shelf_thick v_room_shelf_hollow v_room_shelf_damp v_room_shelf_fresh v_room_shelf_pulls v_room_shelf_fats) := by
  refine MI.of (by decide) (Nat.le_of_ble_eq_true rfl) ?_
  intro p e s m below meth c A Q C hW hQ ls hl
  exact uX10_year_0 x1 x2 x3 v_trial_acts v_trial_stoppedAt v_trial_why v_trial_rules_flat v_trial_rules_least v_trial_shelf_there v_trial_tally_pulled v_trial_tally_firstHaunted v_trial_tally_haunter v_room_rules_flat v_room_rules_least v_room_shelf_there v_trial_act_stone v_trial_act_kind v_trial_act_amount v_trial_rules_deep v_trial_rules_fine v_trial_rules_pay v_trial_rules_hair v_trial_shelf_thick v_trial_shelf_hollow v_trial_shelf_damp v_trial_shelf_fresh v_trial_shelf_pulls v_trial_shelf_fats v_trial_tally_ofKind v_room_rules_deep v_room_rules_fine v_room_rules_pay v_room_rules_hair v_room_shelf_thick v_room_shelf_hollow v_room_shelf_damp v_room_shelf_fresh v_room_shelf_pulls v_room_shelf_fats C hQ h _ _ hW _ hl
abbrev wX10_tellWhole (cI cZ : ClassId) (a_this a_room a_pad a_trial a_orderTable a_colourTable a_images a_room_shelf a_room_rules a_room_sights a_pad_signs a_room_sights_drawn a_room_sights_pull a_room_rules_deep a_room_rules_fine a_room_rules_pay a_room_rules_hair a_room_shelf_thick a_room_shelf_hollow a_room_shelf_damp a_room_shelf_fresh a_room_shelf_pulls a_room_shelf_fats : Nat) (v_pad_size : Int32) (v_room_sights_size : Int32) (v_room_sights_shown : Int32) (v_room_rules_flat : Int32) (v_room_rules_least : Int32) (v_room_shelf_there : Int32) : va_W := [(a_this, .inr (10, [.ref a_room, .ref a_pad, .ref a_trial, .ref a_orderTable, .ref a_colourTable, .ref a_images])), (a_room, .inr (4, [.ref a_room_shelf, .ref a_room_rules, .ref a_room_sights])), (a_pad, .inr (3, [.int v_pad_size, .ref a_pad_signs])), (a_room_sights, .inr (7, [.int v_room_sights_size, .int v_room_sights_shown, .ref a_room_sights_drawn, .ref a_room_sights_pull])), (a_room_rules, .inr (5, [.int v_room_rules_flat, .int v_room_rules_least, .ref a_room_rules_deep, .ref a_room_rules_fine, .ref a_room_rules_pay, .ref a_room_rules_hair])), (a_room_shelf, .inr (6, [.int v_room_shelf_there, .ref a_room_shelf_thick, .ref a_room_shelf_hollow, .ref a_room_shelf_damp, .ref a_room_shelf_fresh, .ref a_room_shelf_pulls, .ref a_room_shelf_fats]))]
abbrev rX10_tellWhole : Room := { frames := 0, cells := 0, slots := 0, locals := 0 }
set_option maxRecDepth 20000 in
theorem uX10_tellWhole_0 {a_this a_room a_pad a_trial a_orderTable a_colourTable a_images a_room_shelf a_room_rules a_room_sights a_pad_signs a_room_sights_drawn a_room_sights_pull a_room_rules_deep a_room_rules_fine a_room_rules_pay a_room_rules_hair a_room_shelf_thick a_room_shelf_hollow a_room_shelf_damp a_room_shelf_fresh a_room_shelf_pulls a_room_shelf_fats : Nat} (x1 : Int32) (v_pad_size : Int32) (v_room_sights_size : Int32) (v_room_sights_shown : Int32) (v_room_rules_flat : Int32) (v_room_rules_least : Int32) (v_room_shelf_there : Int32) {res : Int32} (C : Cx p s m av meth c RX10 cX10_tellWhole 2 (some .int) G cI cZ cO A) (hQ : RI p l e rX10_tellWhole s m av below meth c G A cX10_tellWhole .int Q (res) (wX10_tellWhole cI cZ a_this a_room a_pad a_trial a_orderTable a_colourTable a_images a_room_shelf a_room_rules a_room_sights a_pad_signs a_room_sights_drawn a_room_sights_pull a_room_rules_deep a_room_rules_fine a_room_rules_pay a_room_rules_hair a_room_shelf_thick a_room_shelf_hollow a_room_shelf_damp a_room_shelf_fresh a_room_shelf_pulls a_room_shelf_fats v_pad_size v_room_sights_size v_room_sights_shown v_room_rules_flat v_room_rules_least v_room_shelf_there)) (h : fX10_tellWhole x1 v_pad_size v_room_sights_size v_room_rules_flat v_room_rules_least v_room_shelf_there = res) (H : Heap) (locs : List Loc) (hW : HW G A s (wX10_tellWhole cI cZ a_this a_room a_pad a_trial a_orderTable a_colourTable a_images a_room_shelf a_room_rules a_room_sights a_pad_signs a_room_sights_drawn a_room_sights_pull a_room_rules_deep a_room_rules_fine a_room_rules_pay a_room_rules_hair a_room_shelf_thick a_room_shelf_hollow a_room_shelf_damp a_room_shelf_fresh a_room_shelf_pulls a_room_shelf_fats v_pad_size v_room_sights_size v_room_sights_shown v_room_rules_flat v_room_rules_least v_room_shelf_there) H locs) (ls : Array Slot) (hl : lv_has ls 2 [(0, .ref a_this), (1, .int x1)]) : W p l e rX10_tellWhole s m av below meth c H locs 0 0 Q (F0 m 0 ls []) := by
  have hx := C.1
  have hb := C.2.1
  unfold fX10_tellWhole at h
  refine lv_iload_n hx hb dX10_tellWhole_0 rfl (lv_at hl 1 rfl) ?_
  by_cases c_1 : x1 = (0 : Int32)
  · have h := ip_h c_1 h
    refine lv_tableIn (off := 35) (tgt := 36) hx hb dX10_tellWhole_1 (by rw [c_1]; decide) (by rw [c_1]; decide) (by rw [c_1]; rfl) (by decide) ?_
    refine lv_aload_n hx hb dX10_tellWhole_36 rfl (lv_at hl 0 rfl) ?_
    refine getW C fl_RX10_19 hW 0 rfl rfl dX10_tellWhole_37 ?_
    refine getW C fl_RX10_103 hW 2 rfl rfl dX10_tellWhole_40 ?_
    subst h
    exact hQ rfl _ _ _ _ dX10_tellWhole_43 hW
  · have h := in_h c_1 h
    by_cases c_2 : x1 = (1 : Int32)
    · have h := ip_h c_2 h
      refine lv_tableIn (off := 43) (tgt := 44) hx hb dX10_tellWhole_1 (by rw [c_2]; decide) (by rw [c_2]; decide) (by rw [c_2]; rfl) (by decide) ?_
      refine lv_aload_n hx hb dX10_tellWhole_44 rfl (lv_at hl 0 rfl) ?_
      refine getW C fl_RX10_12 hW 0 rfl rfl dX10_tellWhole_45 ?_
      refine getW C fl_RX10_52 hW 1 rfl rfl dX10_tellWhole_48 ?_
      refine getW C fl_RX10_260 hW 5 rfl rfl dX10_tellWhole_51 ?_
      subst h
      exact hQ rfl _ _ _ _ dX10_tellWhole_54 hW
    · have h := in_h c_2 h
      by_cases c_3 : x1 = (2 : Int32)
      · have h := ip_h c_3 h
        refine lv_tableIn (off := 54) (tgt := 55) hx hb dX10_tellWhole_1 (by rw [c_3]; decide) (by rw [c_3]; decide) (by rw [c_3]; rfl) (by decide) ?_
        refine lv_aload_n hx hb dX10_tellWhole_55 rfl (lv_at hl 0 rfl) ?_
        refine getW C fl_RX10_12 hW 0 rfl rfl dX10_tellWhole_56 ?_
        refine getW C fl_RX10_74 hW 1 rfl rfl dX10_tellWhole_59 ?_
        refine getW C fl_RX10_90 hW 4 rfl rfl dX10_tellWhole_62 ?_
        subst h
        exact hQ rfl _ _ _ _ dX10_tellWhole_65 hW
      · have h := in_h c_3 h
        by_cases c_4 : x1 = (3 : Int32)
        · have h := ip_h c_4 h
          refine lv_tableIn (off := 65) (tgt := 66) hx hb dX10_tellWhole_1 (by rw [c_4]; decide) (by rw [c_4]; decide) (by rw [c_4]; rfl) (by decide) ?_
          refine lv_aload_n hx hb dX10_tellWhole_66 rfl (lv_at hl 0 rfl) ?_
          refine getW C fl_RX10_12 hW 0 rfl rfl dX10_tellWhole_67 ?_
          refine getW C fl_RX10_74 hW 1 rfl rfl dX10_tellWhole_70 ?_
          refine getW C fl_RX10_94 hW 4 rfl rfl dX10_tellWhole_73 ?_
          subst h
          exact hQ rfl _ _ _ _ dX10_tellWhole_76 hW
        · have h := in_h c_4 h
          by_cases c_5 : x1 = (4 : Int32)
          · have h := ip_h c_5 h
            refine lv_tableIn (off := 76) (tgt := 77) hx hb dX10_tellWhole_1 (by rw [c_5]; decide) (by rw [c_5]; decide) (by rw [c_5]; rfl) (by decide) ?_
            refine lv_aload_n hx hb dX10_tellWhole_77 rfl (lv_at hl 0 rfl) ?_
            refine getW C fl_RX10_12 hW 0 rfl rfl dX10_tellWhole_78 ?_
            refine getW C fl_RX10_224 hW 1 rfl rfl dX10_tellWhole_81 ?_
            refine getW C fl_RX10_234 hW 3 rfl rfl dX10_tellWhole_84 ?_
            subst h
            exact hQ rfl _ _ _ _ dX10_tellWhole_87 hW
          · have h := in_h c_5 h
            refine lv_tableOut (tgt := 88) hx hb dX10_tellWhole_1 (by have t0 := ne_ti (j := 0) (by decide) c_1; have t1 := ne_ti (j := 1) (by decide) c_2; have t2 := ne_ti (j := 2) (by decide) c_3; have t3 := ne_ti (j := 3) (by decide) c_4; have t4 := ne_ti (j := 4) (by decide) c_5; omega) (by decide) ?_
            refine lv_bipush (v := (-2 : Int32)) hx hb dX10_tellWhole_88 (by decide) ?_
            subst h
            exact hQ rfl _ _ _ _ dX10_tellWhole_90 hW
theorem ctX10_tellWhole {l : Launch} {G : va_G} {cI cZ cO : ClassId} (a_this a_room a_pad a_trial a_orderTable a_colourTable a_images a_room_shelf a_room_rules a_room_sights a_pad_signs a_room_sights_drawn a_room_sights_pull a_room_rules_deep a_room_rules_fine a_room_rules_pay a_room_rules_hair a_room_shelf_thick a_room_shelf_hollow a_room_shelf_damp a_room_shelf_fresh a_room_shelf_pulls a_room_shelf_fats : Nat) (x1 : Int32) (v_pad_size : Int32) (v_room_sights_size : Int32) (v_room_sights_shown : Int32) (v_room_rules_flat : Int32) (v_room_rules_least : Int32) (v_room_shelf_there : Int32) {res : Int32} (h : fX10_tellWhole x1 v_pad_size v_room_sights_size v_room_rules_flat v_room_rules_least v_room_shelf_there = res) : MI l G cI cZ cO yX10_tellWhole cX10_tellWhole 2 .int rX10_tellWhole [.ref a_this, .int x1] (wX10_tellWhole cI cZ a_this a_room a_pad a_trial a_orderTable a_colourTable a_images a_room_shelf a_room_rules a_room_sights a_pad_signs a_room_sights_drawn a_room_sights_pull a_room_rules_deep a_room_rules_fine a_room_rules_pay a_room_rules_hair a_room_shelf_thick a_room_shelf_hollow a_room_shelf_damp a_room_shelf_fresh a_room_shelf_pulls a_room_shelf_fats v_pad_size v_room_sights_size v_room_sights_shown v_room_rules_flat v_room_rules_least v_room_shelf_there) (res) (wX10_tellWhole cI cZ a_this a_room a_pad a_trial a_orderTable a_colourTable a_images a_room_shelf a_room_rules a_room_sights a_pad_signs a_room_sights_drawn a_room_sights_pull a_room_rules_deep a_room_rules_fine a_room_rules_pay a_room_rules_hair a_room_shelf_thick a_room_shelf_hollow a_room_shelf_damp a_room_shelf_fresh a_room_shelf_pulls a_room_shelf_fats v_pad_size v_room_sights_size v_room_sights_shown v_room_rules_flat v_room_rules_least v_room_shelf_there) := by
  refine MI.of (by decide) (Nat.le_of_ble_eq_true rfl) ?_
  intro p e s m below meth c A Q C hW hQ ls hl
  exact uX10_tellWhole_0 x1 v_pad_size v_room_sights_size v_room_sights_shown v_room_rules_flat v_room_rules_least v_room_shelf_there C hQ h _ _ hW _ hl
abbrev wX10_told (cI cZ : ClassId) (a_this a_room a_pad a_trial a_orderTable a_colourTable a_images a_room_shelf a_room_rules a_room_sights a_pad_signs a_room_rules_deep a_room_rules_fine a_room_rules_pay a_room_rules_hair a_room_shelf_thick a_room_shelf_hollow a_room_shelf_damp a_room_shelf_fresh a_room_shelf_pulls a_room_shelf_fats a_room_sights_drawn a_room_sights_pull : Nat) (v_pad_size : Int32) (v_room_rules_flat : Int32) (v_room_rules_least : Int32) (v_room_shelf_there : Int32) (v_room_sights_size : Int32) (v_room_sights_shown : Int32) (v_room_rules_hair : Nat → Int32) (v_room_rules_pay : Nat → Int32) (v_room_rules_fine : Nat → Int32) (v_room_rules_deep : Nat → Int32) (v_room_shelf_fats : Nat → Int32) (v_room_shelf_pulls : Nat → Int32) (v_room_shelf_fresh : Nat → Int32) (v_room_shelf_damp : Nat → Int32) (v_room_shelf_hollow : Nat → Int32) (v_room_shelf_thick : Nat → Int32) : va_W := [(a_this, .inr (10, [.ref a_room, .ref a_pad, .ref a_trial, .ref a_orderTable, .ref a_colourTable, .ref a_images])), (a_room, .inr (4, [.ref a_room_shelf, .ref a_room_rules, .ref a_room_sights])), (a_pad, .inr (3, [.int v_pad_size, .ref a_pad_signs])), (a_room_rules, .inr (5, [.int v_room_rules_flat, .int v_room_rules_least, .ref a_room_rules_deep, .ref a_room_rules_fine, .ref a_room_rules_pay, .ref a_room_rules_hair])), (a_room_shelf, .inr (6, [.int v_room_shelf_there, .ref a_room_shelf_thick, .ref a_room_shelf_hollow, .ref a_room_shelf_damp, .ref a_room_shelf_fresh, .ref a_room_shelf_pulls, .ref a_room_shelf_fats])), (a_room_sights, .inr (7, [.int v_room_sights_size, .int v_room_sights_shown, .ref a_room_sights_drawn, .ref a_room_sights_pull])), (a_room_rules_hair, .inl (cI, 6, .inl v_room_rules_hair)), (a_room_rules_pay, .inl (cI, 8, .inl v_room_rules_pay)), (a_room_rules_fine, .inl (cI, 8, .inl v_room_rules_fine)), (a_room_rules_deep, .inl (cI, 8, .inl v_room_rules_deep)), (a_room_shelf_fats, .inl (cI, 40, .inl v_room_shelf_fats)), (a_room_shelf_pulls, .inl (cI, 5, .inl v_room_shelf_pulls)), (a_room_shelf_fresh, .inl (cI, 5, .inl v_room_shelf_fresh)), (a_room_shelf_damp, .inl (cI, 5, .inl v_room_shelf_damp)), (a_room_shelf_hollow, .inl (cI, 5, .inl v_room_shelf_hollow)), (a_room_shelf_thick, .inl (cI, 5, .inl v_room_shelf_thick))]
abbrev rX10_told : Room := { frames := 2, cells := 0, slots := 0, locals := 44 }
set_option maxRecDepth 20000 in
theorem uX10_told_0 {a_this a_room a_pad a_trial a_orderTable a_colourTable a_images a_room_shelf a_room_rules a_room_sights a_pad_signs a_room_rules_deep a_room_rules_fine a_room_rules_pay a_room_rules_hair a_room_shelf_thick a_room_shelf_hollow a_room_shelf_damp a_room_shelf_fresh a_room_shelf_pulls a_room_shelf_fats a_room_sights_drawn a_room_sights_pull : Nat} (x1 : Int32) (v_pad_size : Int32) (v_room_rules_flat : Int32) (v_room_rules_least : Int32) (v_room_shelf_there : Int32) (v_room_sights_size : Int32) (v_room_sights_shown : Int32) (v_room_rules_hair : Nat → Int32) (v_room_rules_pay : Nat → Int32) (v_room_rules_fine : Nat → Int32) (v_room_rules_deep : Nat → Int32) (v_room_shelf_fats : Nat → Int32) (v_room_shelf_pulls : Nat → Int32) (v_room_shelf_fresh : Nat → Int32) (v_room_shelf_damp : Nat → Int32) (v_room_shelf_hollow : Nat → Int32) (v_room_shelf_thick : Nat → Int32) {res : Int32} (C : Cx p s m av meth c RX10 cX10_told 4 (some .int) G cI cZ cO A) (hQ : RI p l e rX10_told s m av below meth c G A cX10_told .int Q (res) (wX10_told cI cZ a_this a_room a_pad a_trial a_orderTable a_colourTable a_images a_room_shelf a_room_rules a_room_sights a_pad_signs a_room_rules_deep a_room_rules_fine a_room_rules_pay a_room_rules_hair a_room_shelf_thick a_room_shelf_hollow a_room_shelf_damp a_room_shelf_fresh a_room_shelf_pulls a_room_shelf_fats a_room_sights_drawn a_room_sights_pull v_pad_size v_room_rules_flat v_room_rules_least v_room_shelf_there v_room_sights_size v_room_sights_shown v_room_rules_hair v_room_rules_pay v_room_rules_fine v_room_rules_deep v_room_shelf_fats v_room_shelf_pulls v_room_shelf_fresh v_room_shelf_damp v_room_shelf_hollow v_room_shelf_thick)) (h : fX10_told x1 v_pad_size v_room_rules_flat v_room_rules_least v_room_shelf_there v_room_sights_size v_room_rules_hair v_room_rules_pay v_room_rules_fine v_room_rules_deep v_room_shelf_fats v_room_shelf_pulls v_room_shelf_fresh v_room_shelf_damp v_room_shelf_hollow v_room_shelf_thick = some res) (H : Heap) (locs : List Loc) (hW : HW G A s (wX10_told cI cZ a_this a_room a_pad a_trial a_orderTable a_colourTable a_images a_room_shelf a_room_rules a_room_sights a_pad_signs a_room_rules_deep a_room_rules_fine a_room_rules_pay a_room_rules_hair a_room_shelf_thick a_room_shelf_hollow a_room_shelf_damp a_room_shelf_fresh a_room_shelf_pulls a_room_shelf_fats a_room_sights_drawn a_room_sights_pull v_pad_size v_room_rules_flat v_room_rules_least v_room_shelf_there v_room_sights_size v_room_sights_shown v_room_rules_hair v_room_rules_pay v_room_rules_fine v_room_rules_deep v_room_shelf_fats v_room_shelf_pulls v_room_shelf_fresh v_room_shelf_damp v_room_shelf_hollow v_room_shelf_thick) H locs) (ls : Array Slot) (hl : lv_has ls 4 [(0, .ref a_this), (1, .int x1)]) : W p l e rX10_told s m av below meth c H locs 0 0 Q (F0 m 0 ls []) := by
  have hx := C.1
  have hb := C.2.1
  unfold fX10_told at h
  refine lv_iload_n hx hb dX10_told_0 rfl (lv_at hl 1 rfl) ?_
  refine lv_iconst (v := (0 : Int32)) hx hb dX10_told_1 (by decide) ?_
  refine lv_bipush (v := (9 : Int32)) hx hb dX10_told_2 (by decide) ?_
  refine callSI0 C lk_RX10_48 (ctX10_inside x1 (0 : Int32) (9 : Int32) rfl) hW hl rfl ⟨rfl, rfl⟩ ⟨(Nat.le_of_ble_eq_true rfl), (Nat.le_of_ble_eq_true rfl)⟩ ⟨Nat.zero_le _, Nat.zero_le _⟩ rfl (Nat.le_of_ble_eq_true rfl) dX10_told_4 (fun H locs hW => ?_)
  refine lv_if_eq (tgt := 16) hx hb dX10_told_7 (by decide) (fun c_1 => ?_) (fun c_1 => ?_)
  · have h := ip_h c_1 h
    refine lv_iload_n hx hb dX10_told_16 rfl (lv_at hl 1 rfl) ?_
    refine lv_bipush (v := (10 : Int32)) hx hb dX10_told_17 (by decide) ?_
    refine lv_bipush (v := (99 : Int32)) hx hb dX10_told_19 (by decide) ?_
    refine callSI0 C lk_RX10_48 (ctX10_inside x1 (10 : Int32) (99 : Int32) rfl) hW hl rfl ⟨rfl, rfl⟩ ⟨(Nat.le_of_ble_eq_true rfl), (Nat.le_of_ble_eq_true rfl)⟩ ⟨Nat.zero_le _, Nat.zero_le _⟩ rfl (Nat.le_of_ble_eq_true rfl) dX10_told_21 (fun H locs hW => ?_)
    refine lv_if_eq (tgt := 87) hx hb dX10_told_24 (by decide) (fun c_2 => ?_) (fun c_2 => ?_)
    · have h := ip_h c_2 h
      refine lv_iload_n hx hb dX10_told_87 rfl (lv_at hl 1 rfl) ?_
      refine lv_bipush (v := (100 : Int32)) hx hb dX10_told_88 (by decide) ?_
      refine lv_sipush (v := (999 : Int32)) hx hb dX10_told_90 (by decide) ?_
      refine callSI0 C lk_RX10_48 (ctX10_inside x1 (100 : Int32) (999 : Int32) rfl) hW hl rfl ⟨rfl, rfl⟩ ⟨(Nat.le_of_ble_eq_true rfl), (Nat.le_of_ble_eq_true rfl)⟩ ⟨Nat.zero_le _, Nat.zero_le _⟩ rfl (Nat.le_of_ble_eq_true rfl) dX10_told_93 (fun H locs hW => ?_)
      refine lv_if_eq (tgt := 160) hx hb dX10_told_96 (by decide) (fun c_3 => ?_) (fun c_3 => ?_)
      · have h := ip_h c_3 h
        refine lv_iload_n hx hb dX10_told_160 rfl (lv_at hl 1 rfl) ?_
        refine lv_sipush (v := (1000 : Int32)) hx hb dX10_told_161 (by decide) ?_
        refine lv_sipush (v := (9999 : Int32)) hx hb dX10_told_164 (by decide) ?_
        refine callSI0 C lk_RX10_48 (ctX10_inside x1 (1000 : Int32) (9999 : Int32) rfl) hW hl rfl ⟨rfl, rfl⟩ ⟨(Nat.le_of_ble_eq_true rfl), (Nat.le_of_ble_eq_true rfl)⟩ ⟨Nat.zero_le _, Nat.zero_le _⟩ rfl (Nat.le_of_ble_eq_true rfl) dX10_told_167 (fun H locs hW => ?_)
        refine lv_if_eq (tgt := 196) hx hb dX10_told_170 (by decide) (fun c_4 => ?_) (fun c_4 => ?_)
        · have h := ip_h c_4 h
          refine lv_iload_n hx hb dX10_told_196 rfl (lv_at hl 1 rfl) ?_
          refine lv_sipush (v := (10000 : Int32)) hx hb dX10_told_197 (by decide) ?_
          refine lv_sipush (v := (10005 : Int32)) hx hb dX10_told_200 (by decide) ?_
          refine callSI0 C lk_RX10_48 (ctX10_inside x1 (10000 : Int32) (10005 : Int32) rfl) hW hl rfl ⟨rfl, rfl⟩ ⟨(Nat.le_of_ble_eq_true rfl), (Nat.le_of_ble_eq_true rfl)⟩ ⟨Nat.zero_le _, Nat.zero_le _⟩ rfl (Nat.le_of_ble_eq_true rfl) dX10_told_203 (fun H locs hW => ?_)
          refine lv_if_eq (tgt := 229) hx hb dX10_told_206 (by decide) (fun c_5 => ?_) (fun c_5 => ?_)
          · have h := ip_h c_5 h
            refine lv_bipush (v := (-2 : Int32)) hx hb dX10_told_229 (by decide) ?_
            obtain rfl := Option.some.inj h
            exact hQ rfl _ _ _ _ dX10_told_231 hW
          · have h := in_h c_5 h
            refine lv_aload_n hx hb dX10_told_209 rfl (lv_at hl 0 rfl) ?_
            refine getW C fl_RX10_12 hW 0 rfl rfl dX10_told_210 ?_
            refine getW C fl_RX10_74 hW 1 rfl rfl dX10_told_213 ?_
            refine getW C fl_RX10_97 hW 3 rfl rfl dX10_told_216 ?_
            refine lv_iload_n hx hb dX10_told_219 rfl (lv_at hl 1 rfl) ?_
            refine lv_sipush (v := (10000 : Int32)) hx hb dX10_told_220 (by decide) ?_
            refine lv_isub hx hb dX10_told_223 ?_
            obtain ⟨g_6, h⟩ := gd_h h
            refine ialdW C hW 6 rfl g_6 dX10_told_224 ?_
            refine lv_bipush (v := (9 : Int32)) hx hb dX10_told_225 (by decide) ?_
            refine lv_iadd hx hb dX10_told_227 ?_
            obtain rfl := Option.some.inj h
            exact hQ rfl _ _ _ _ dX10_told_228 hW
        · have h := in_h c_4 h
          refine lv_aload_n hx hb dX10_told_173 rfl (lv_at hl 0 rfl) ?_
          refine getW C fl_RX10_12 hW 0 rfl rfl dX10_told_174 ?_
          refine getW C fl_RX10_74 hW 1 rfl rfl dX10_told_177 ?_
          refine lv_iload_n hx hb dX10_told_180 rfl (lv_at hl 1 rfl) ?_
          refine lv_sipush (v := (1000 : Int32)) hx hb dX10_told_181 (by decide) ?_
          refine lv_idiv hx hb dX10_told_184 (by decide) ?_
          refine lv_iconst (v := (1 : Int32)) hx hb dX10_told_185 (by decide) ?_
          refine lv_isub hx hb dX10_told_186 ?_
          refine lv_iload_n hx hb dX10_told_187 rfl (lv_at hl 1 rfl) ?_
          refine lv_sipush (v := (1000 : Int32)) hx hb dX10_told_188 (by decide) ?_
          refine lv_irem hx hb dX10_told_191 (by decide) ?_
          obtain ⟨v_7, hv_7, h⟩ := bd_h h
          refine callVIr [3, 7, 8, 9] C lk_RX10_259 (ctX5_tell a_room_rules a_room_rules_deep a_room_rules_fine a_room_rules_pay a_room_rules_hair ((x1 / (1000 : Int32)) - (1 : Int32)) (x1 - x1 / (1000 : Int32) * (1000 : Int32)) v_room_rules_flat v_room_rules_least v_room_rules_pay v_room_rules_fine v_room_rules_deep hv_7) hW hl 5 rfl rfl rfl rfl rfl ⟨rfl, rfl⟩ ⟨(Nat.le_of_ble_eq_true rfl), (Nat.le_of_ble_eq_true rfl)⟩ ⟨Nat.zero_le _, Nat.zero_le _⟩ rfl (Nat.le_of_ble_eq_true rfl) dX10_told_192 (fun H locs hW => ?_)
          obtain rfl := Option.some.inj h
          exact hQ rfl _ _ _ _ dX10_told_195 hW
      · have h := in_h c_3 h
        refine lv_iload_n hx hb dX10_told_99 rfl (lv_at hl 1 rfl) ?_
        refine lv_bipush (v := (100 : Int32)) hx hb dX10_told_100 (by decide) ?_
        refine lv_idiv hx hb dX10_told_102 (by decide) ?_
        refine lv_iconst (v := (1 : Int32)) hx hb dX10_told_103 (by decide) ?_
        refine lv_isub hx hb dX10_told_104 ?_
        refine lv_topi (fun v_8 ev_8 => ?_)
        have h := lt_h ev_8 h
        refine lv_istore_n (lv' := [(2, .int v_8), (0, .ref a_this), (1, .int x1)]) hx hb dX10_told_105 rfl hl (Nat.le_of_ble_eq_true rfl) rfl (fun ls hl => ?_)
        refine lv_aload_n hx hb dX10_told_106 rfl (lv_at hl 1 rfl) ?_
        refine getW C fl_RX10_12 hW 0 rfl rfl dX10_told_107 ?_
        refine getW C fl_RX10_52 hW 1 rfl rfl dX10_told_110 ?_
        refine lv_iload_n hx hb dX10_told_113 rfl (lv_at hl 0 rfl) ?_
        refine callVIr [4] C lk_RX10_66 (ctX6_has a_room_shelf a_room_shelf_thick a_room_shelf_hollow a_room_shelf_damp a_room_shelf_fresh a_room_shelf_pulls a_room_shelf_fats v_8 v_room_shelf_there rfl) hW hl 6 rfl rfl rfl rfl rfl ⟨rfl, rfl⟩ ⟨(Nat.le_of_ble_eq_true rfl), (Nat.le_of_ble_eq_true rfl)⟩ ⟨Nat.zero_le _, Nat.zero_le _⟩ rfl (Nat.le_of_ble_eq_true rfl) dX10_told_114 (fun H locs hW => ?_)
        refine lv_if_eq (tgt := 133) hx hb dX10_told_117 (by decide) (fun c_9 => ?_) (fun c_9 => ?_)
        · have h := ip_h c_9 h
          refine lv_iconst (v := (0 : Int32)) hx hb dX10_told_133 (by decide) ?_
          refine lv_istore_n (lv' := [(3, .int (0 : Int32)), (2, .int v_8), (0, .ref a_this), (1, .int x1)]) hx hb dX10_told_134 rfl hl (Nat.le_of_ble_eq_true rfl) rfl (fun ls hl => ?_)
          refine lv_iload_n hx hb dX10_told_135 rfl (lv_at hl 0 rfl) ?_
          refine lv_if_eq (tgt := 157) hx hb dX10_told_136 (by decide) (fun _ => ?_) (fun z => absurd z (by decide))
          refine lv_bipush (v := (-2 : Int32)) hx hb dX10_told_157 (by decide) ?_
          obtain rfl := Option.some.inj h
          exact hQ rfl _ _ _ _ dX10_told_159 hW
        · have h := in_h c_9 h
          refine lv_iload_n hx hb dX10_told_120 rfl (lv_at hl 2 rfl) ?_
          refine lv_bipush (v := (100 : Int32)) hx hb dX10_told_121 (by decide) ?_
          refine lv_irem hx hb dX10_told_123 (by decide) ?_
          refine lv_bipush (v := (8 : Int32)) hx hb dX10_told_124 (by decide) ?_
          refine lv_icmp_ge (tgt := 133) hx hb dX10_told_126 (by decide) (fun c_11 => ?_) (fun c_11 => ?_)
          · have h := ip_h c_11 h
            refine lv_iconst (v := (0 : Int32)) hx hb dX10_told_133 (by decide) ?_
            refine lv_istore_n (lv' := [(3, .int (0 : Int32)), (2, .int v_8), (0, .ref a_this), (1, .int x1)]) hx hb dX10_told_134 rfl hl (Nat.le_of_ble_eq_true rfl) rfl (fun ls hl => ?_)
            refine lv_iload_n hx hb dX10_told_135 rfl (lv_at hl 0 rfl) ?_
            refine lv_if_eq (tgt := 157) hx hb dX10_told_136 (by decide) (fun _ => ?_) (fun z => absurd z (by decide))
            refine lv_bipush (v := (-2 : Int32)) hx hb dX10_told_157 (by decide) ?_
            obtain rfl := Option.some.inj h
            exact hQ rfl _ _ _ _ dX10_told_159 hW
          · have h := in_h c_11 h
            refine lv_iconst (v := (1 : Int32)) hx hb dX10_told_129 (by decide) ?_
            refine lv_goto (tgt := 134) hx hb dX10_told_130 (by decide) ?_
            refine lv_istore_n (lv' := [(3, .int (1 : Int32)), (2, .int v_8), (0, .ref a_this), (1, .int x1)]) hx hb dX10_told_134 rfl hl (Nat.le_of_ble_eq_true rfl) rfl (fun ls hl => ?_)
            refine lv_iload_n hx hb dX10_told_135 rfl (lv_at hl 0 rfl) ?_
            refine lv_if_eq (tgt := 157) hx hb dX10_told_136 (by decide) (fun z => absurd z (by decide)) (fun _ => ?_)
            refine lv_aload_n hx hb dX10_told_139 rfl (lv_at hl 2 rfl) ?_
            refine getW C fl_RX10_12 hW 0 rfl rfl dX10_told_140 ?_
            refine getW C fl_RX10_52 hW 1 rfl rfl dX10_told_143 ?_
            refine lv_iload_n hx hb dX10_told_146 rfl (lv_at hl 1 rfl) ?_
            refine lv_iload_n hx hb dX10_told_147 rfl (lv_at hl 3 rfl) ?_
            refine lv_bipush (v := (100 : Int32)) hx hb dX10_told_148 (by decide) ?_
            refine lv_irem hx hb dX10_told_150 (by decide) ?_
            obtain ⟨v_14, hv_14, h⟩ := bd_h h
            refine callVIr [4, 10] C lk_RX10_135 (ctX6_fatOf a_room_shelf a_room_shelf_thick a_room_shelf_hollow a_room_shelf_damp a_room_shelf_fresh a_room_shelf_pulls a_room_shelf_fats v_8 (x1 - x1 / (100 : Int32) * (100 : Int32)) v_room_shelf_there v_room_shelf_fats hv_14) hW hl 6 rfl rfl rfl rfl rfl ⟨rfl, rfl⟩ ⟨(Nat.le_of_ble_eq_true rfl), (Nat.le_of_ble_eq_true rfl)⟩ ⟨Nat.zero_le _, Nat.zero_le _⟩ rfl (Nat.le_of_ble_eq_true rfl) dX10_told_151 (fun H locs hW => ?_)
            refine lv_goto (tgt := 159) hx hb dX10_told_154 (by decide) ?_
            obtain rfl := Option.some.inj h
            exact hQ rfl _ _ _ _ dX10_told_159 hW
    · have h := in_h c_2 h
      refine lv_iload_n hx hb dX10_told_27 rfl (lv_at hl 1 rfl) ?_
      refine lv_bipush (v := (10 : Int32)) hx hb dX10_told_28 (by decide) ?_
      refine lv_idiv hx hb dX10_told_30 (by decide) ?_
      refine lv_iconst (v := (1 : Int32)) hx hb dX10_told_31 (by decide) ?_
      refine lv_isub hx hb dX10_told_32 ?_
      refine lv_topi (fun v_15 ev_15 => ?_)
      have h := lt_h ev_15 h
      refine lv_istore_n (lv' := [(2, .int v_15), (0, .ref a_this), (1, .int x1)]) hx hb dX10_told_33 rfl hl (Nat.le_of_ble_eq_true rfl) rfl (fun ls hl => ?_)
      refine lv_aload_n hx hb dX10_told_34 rfl (lv_at hl 1 rfl) ?_
      refine getW C fl_RX10_12 hW 0 rfl rfl dX10_told_35 ?_
      refine getW C fl_RX10_52 hW 1 rfl rfl dX10_told_38 ?_
      refine lv_iload_n hx hb dX10_told_41 rfl (lv_at hl 0 rfl) ?_
      refine callVIr [4] C lk_RX10_66 (ctX6_has a_room_shelf a_room_shelf_thick a_room_shelf_hollow a_room_shelf_damp a_room_shelf_fresh a_room_shelf_pulls a_room_shelf_fats v_15 v_room_shelf_there rfl) hW hl 6 rfl rfl rfl rfl rfl ⟨rfl, rfl⟩ ⟨(Nat.le_of_ble_eq_true rfl), (Nat.le_of_ble_eq_true rfl)⟩ ⟨Nat.zero_le _, Nat.zero_le _⟩ rfl (Nat.le_of_ble_eq_true rfl) dX10_told_42 (fun H locs hW => ?_)
      refine lv_if_eq (tgt := 60) hx hb dX10_told_45 (by decide) (fun c_16 => ?_) (fun c_16 => ?_)
      · have h := ip_h c_16 h
        refine lv_iconst (v := (0 : Int32)) hx hb dX10_told_60 (by decide) ?_
        refine lv_istore_n (lv' := [(3, .int (0 : Int32)), (2, .int v_15), (0, .ref a_this), (1, .int x1)]) hx hb dX10_told_61 rfl hl (Nat.le_of_ble_eq_true rfl) rfl (fun ls hl => ?_)
        refine lv_iload_n hx hb dX10_told_62 rfl (lv_at hl 0 rfl) ?_
        refine lv_if_eq (tgt := 84) hx hb dX10_told_63 (by decide) (fun _ => ?_) (fun z => absurd z (by decide))
        refine lv_bipush (v := (-2 : Int32)) hx hb dX10_told_84 (by decide) ?_
        obtain rfl := Option.some.inj h
        exact hQ rfl _ _ _ _ dX10_told_86 hW
      · have h := in_h c_16 h
        refine lv_iload_n hx hb dX10_told_48 rfl (lv_at hl 2 rfl) ?_
        refine lv_bipush (v := (10 : Int32)) hx hb dX10_told_49 (by decide) ?_
        refine lv_irem hx hb dX10_told_51 (by decide) ?_
        refine lv_iconst (v := (4 : Int32)) hx hb dX10_told_52 (by decide) ?_
        refine lv_icmp_gt (tgt := 60) hx hb dX10_told_53 (by decide) (fun c_18 => ?_) (fun c_18 => ?_)
        · have h := ip_h c_18 h
          refine lv_iconst (v := (0 : Int32)) hx hb dX10_told_60 (by decide) ?_
          refine lv_istore_n (lv' := [(3, .int (0 : Int32)), (2, .int v_15), (0, .ref a_this), (1, .int x1)]) hx hb dX10_told_61 rfl hl (Nat.le_of_ble_eq_true rfl) rfl (fun ls hl => ?_)
          refine lv_iload_n hx hb dX10_told_62 rfl (lv_at hl 0 rfl) ?_
          refine lv_if_eq (tgt := 84) hx hb dX10_told_63 (by decide) (fun _ => ?_) (fun z => absurd z (by decide))
          refine lv_bipush (v := (-2 : Int32)) hx hb dX10_told_84 (by decide) ?_
          obtain rfl := Option.some.inj h
          exact hQ rfl _ _ _ _ dX10_told_86 hW
        · have h := in_h c_18 h
          refine lv_iconst (v := (1 : Int32)) hx hb dX10_told_56 (by decide) ?_
          refine lv_goto (tgt := 61) hx hb dX10_told_57 (by decide) ?_
          refine lv_istore_n (lv' := [(3, .int (1 : Int32)), (2, .int v_15), (0, .ref a_this), (1, .int x1)]) hx hb dX10_told_61 rfl hl (Nat.le_of_ble_eq_true rfl) rfl (fun ls hl => ?_)
          refine lv_iload_n hx hb dX10_told_62 rfl (lv_at hl 0 rfl) ?_
          refine lv_if_eq (tgt := 84) hx hb dX10_told_63 (by decide) (fun z => absurd z (by decide)) (fun _ => ?_)
          refine lv_aload_n hx hb dX10_told_66 rfl (lv_at hl 2 rfl) ?_
          refine getW C fl_RX10_12 hW 0 rfl rfl dX10_told_67 ?_
          refine getW C fl_RX10_52 hW 1 rfl rfl dX10_told_70 ?_
          refine lv_iload_n hx hb dX10_told_73 rfl (lv_at hl 1 rfl) ?_
          refine lv_iload_n hx hb dX10_told_74 rfl (lv_at hl 3 rfl) ?_
          refine lv_bipush (v := (10 : Int32)) hx hb dX10_told_75 (by decide) ?_
          refine lv_irem hx hb dX10_told_77 (by decide) ?_
          obtain ⟨v_21, hv_21, h⟩ := bd_h h
          refine callVIr [4, 11, 12, 13, 14, 15] C lk_RX10_131 (ctX6_tell a_room_shelf a_room_shelf_thick a_room_shelf_hollow a_room_shelf_damp a_room_shelf_fresh a_room_shelf_pulls a_room_shelf_fats v_15 (x1 - x1 / (10 : Int32) * (10 : Int32)) v_room_shelf_there v_room_shelf_pulls v_room_shelf_fresh v_room_shelf_damp v_room_shelf_hollow v_room_shelf_thick hv_21) hW hl 6 rfl rfl rfl rfl rfl ⟨rfl, rfl⟩ ⟨(Nat.le_of_ble_eq_true rfl), (Nat.le_of_ble_eq_true rfl)⟩ ⟨Nat.zero_le _, Nat.zero_le _⟩ rfl (Nat.le_of_ble_eq_true rfl) dX10_told_78 (fun H locs hW => ?_)
          refine lv_goto (tgt := 86) hx hb dX10_told_81 (by decide) ?_
          obtain rfl := Option.some.inj h
          exact hQ rfl _ _ _ _ dX10_told_86 hW
  · have h := in_h c_1 h
    refine lv_aload_n hx hb dX10_told_10 rfl (lv_at hl 0 rfl) ?_
    refine lv_iload_n hx hb dX10_told_11 rfl (lv_at hl 1 rfl) ?_
    refine callVIr [0, 1, 2, 5, 3, 4] C lk_RX10_256 (ctX10_tellWhole a_this a_room a_pad a_trial a_orderTable a_colourTable a_images a_room_shelf a_room_rules a_room_sights a_pad_signs a_room_sights_drawn a_room_sights_pull a_room_rules_deep a_room_rules_fine a_room_rules_pay a_room_rules_hair a_room_shelf_thick a_room_shelf_hollow a_room_shelf_damp a_room_shelf_fresh a_room_shelf_pulls a_room_shelf_fats x1 v_pad_size v_room_sights_size v_room_sights_shown v_room_rules_flat v_room_rules_least v_room_shelf_there rfl) hW hl 10 rfl rfl rfl rfl rfl ⟨rfl, rfl⟩ ⟨(Nat.le_of_ble_eq_true rfl), (Nat.le_of_ble_eq_true rfl)⟩ ⟨Nat.zero_le _, Nat.zero_le _⟩ rfl (Nat.le_of_ble_eq_true rfl) dX10_told_12 (fun H locs hW => ?_)
    obtain rfl := Option.some.inj h
    exact hQ rfl _ _ _ _ dX10_told_15 hW
theorem ctX10_told {l : Launch} {G : va_G} {cI cZ cO : ClassId} (a_this a_room a_pad a_trial a_orderTable a_colourTable a_images a_room_shelf a_room_rules a_room_sights a_pad_signs a_room_rules_deep a_room_rules_fine a_room_rules_pay a_room_rules_hair a_room_shelf_thick a_room_shelf_hollow a_room_shelf_damp a_room_shelf_fresh a_room_shelf_pulls a_room_shelf_fats a_room_sights_drawn a_room_sights_pull : Nat) (x1 : Int32) (v_pad_size : Int32) (v_room_rules_flat : Int32) (v_room_rules_least : Int32) (v_room_shelf_there : Int32) (v_room_sights_size : Int32) (v_room_sights_shown : Int32) (v_room_rules_hair : Nat → Int32) (v_room_rules_pay : Nat → Int32) (v_room_rules_fine : Nat → Int32) (v_room_rules_deep : Nat → Int32) (v_room_shelf_fats : Nat → Int32) (v_room_shelf_pulls : Nat → Int32) (v_room_shelf_fresh : Nat → Int32) (v_room_shelf_damp : Nat → Int32) (v_room_shelf_hollow : Nat → Int32) (v_room_shelf_thick : Nat → Int32) {res : Int32} (h : fX10_told x1 v_pad_size v_room_rules_flat v_room_rules_least v_room_shelf_there v_room_sights_size v_room_rules_hair v_room_rules_pay v_room_rules_fine v_room_rules_deep v_room_shelf_fats v_room_shelf_pulls v_room_shelf_fresh v_room_shelf_damp v_room_shelf_hollow v_room_shelf_thick = some res) : MI l G cI cZ cO yX10_told cX10_told 4 .int rX10_told [.ref a_this, .int x1] (wX10_told cI cZ a_this a_room a_pad a_trial a_orderTable a_colourTable a_images a_room_shelf a_room_rules a_room_sights a_pad_signs a_room_rules_deep a_room_rules_fine a_room_rules_pay a_room_rules_hair a_room_shelf_thick a_room_shelf_hollow a_room_shelf_damp a_room_shelf_fresh a_room_shelf_pulls a_room_shelf_fats a_room_sights_drawn a_room_sights_pull v_pad_size v_room_rules_flat v_room_rules_least v_room_shelf_there v_room_sights_size v_room_sights_shown v_room_rules_hair v_room_rules_pay v_room_rules_fine v_room_rules_deep v_room_shelf_fats v_room_shelf_pulls v_room_shelf_fresh v_room_shelf_damp v_room_shelf_hollow v_room_shelf_thick) (res) (wX10_told cI cZ a_this a_room a_pad a_trial a_orderTable a_colourTable a_images a_room_shelf a_room_rules a_room_sights a_pad_signs a_room_rules_deep a_room_rules_fine a_room_rules_pay a_room_rules_hair a_room_shelf_thick a_room_shelf_hollow a_room_shelf_damp a_room_shelf_fresh a_room_shelf_pulls a_room_shelf_fats a_room_sights_drawn a_room_sights_pull v_pad_size v_room_rules_flat v_room_rules_least v_room_shelf_there v_room_sights_size v_room_sights_shown v_room_rules_hair v_room_rules_pay v_room_rules_fine v_room_rules_deep v_room_shelf_fats v_room_shelf_pulls v_room_shelf_fresh v_room_shelf_damp v_room_shelf_hollow v_room_shelf_thick) := by
  refine MI.of (by decide) (Nat.le_of_ble_eq_true rfl) ?_
  intro p e s m below meth c A Q C hW hQ ls hl
  exact uX10_told_0 x1 v_pad_size v_room_rules_flat v_room_rules_least v_room_shelf_there v_room_sights_size v_room_sights_shown v_room_rules_hair v_room_rules_pay v_room_rules_fine v_room_rules_deep v_room_shelf_fats v_room_shelf_pulls v_room_shelf_fresh v_room_shelf_damp v_room_shelf_hollow v_room_shelf_thick C hQ h _ _ hW _ hl
abbrev wX11_in (cI cZ : ClassId) : va_W := []
abbrev rX11_in : Room := { frames := 0, cells := 0, slots := 0, locals := 0 }
set_option maxRecDepth 20000 in
theorem uX11_in_0 (x0 : Int64) (x2 : Int64) (x4 : Int64) {res : Int32} (C : Cx p s m av meth c RX11 cX11_in 6 (some .boolean) G cI cZ cO A) (hQ : RI p l e rX11_in s m av below meth c G A cX11_in .boolean Q (res) (wX11_in cI cZ)) (h : fX11_in x0 x2 x4 = res) (H : Heap) (locs : List Loc) (hW : HW G A s (wX11_in cI cZ) H locs) (ls : Array Slot) (hl : lv_has ls 6 [(0, .long x0), (2, .long x2), (4, .long x4)]) : W p l e rX11_in s m av below meth c H locs 0 0 Q (F0 m 0 ls []) := by
  have hx := C.1
  have hb := C.2.1
  unfold fX11_in at h
  refine lv_lload_n hx hb dX11_in_0 rfl (lv_at hl 0 rfl) ?_
  refine lv_lload_n hx hb dX11_in_1 rfl (lv_at hl 1 rfl) ?_
  refine W.lcmp hx hb dX11_in_2 ?_
  refine lv_if_lt (tgt := 17) hx hb dX11_in_3 (by decide) (fun c_1 => ?_) (fun c_1 => ?_)
  · have h := ip_h c_1 h
    refine lv_iconst (v := (0 : Int32)) hx hb dX11_in_17 (by decide) ?_
    subst h
    exact hQ nb_0 _ _ _ _ dX11_in_18 hW
  · have h := in_h c_1 h
    refine lv_lload_n hx hb dX11_in_6 rfl (lv_at hl 0 rfl) ?_
    refine lv_lload hx hb dX11_in_7 (lv_at hl 2 rfl) ?_
    refine W.lcmp hx hb dX11_in_9 ?_
    refine lv_if_gt (tgt := 17) hx hb dX11_in_10 (by decide) (fun c_2 => ?_) (fun c_2 => ?_)
    · have h := ip_h c_2 h
      refine lv_iconst (v := (0 : Int32)) hx hb dX11_in_17 (by decide) ?_
      subst h
      exact hQ nb_0 _ _ _ _ dX11_in_18 hW
    · have h := in_h c_2 h
      refine lv_iconst (v := (1 : Int32)) hx hb dX11_in_13 (by decide) ?_
      refine lv_goto (tgt := 18) hx hb dX11_in_14 (by decide) ?_
      subst h
      exact hQ nb_1 _ _ _ _ dX11_in_18 hW
theorem ctX11_in {l : Launch} {G : va_G} {cI cZ cO : ClassId} (x0 : Int64) (x2 : Int64) (x4 : Int64) {res : Int32} (h : fX11_in x0 x2 x4 = res) : MI l G cI cZ cO yX11_in cX11_in 6 .boolean rX11_in [.long x0, .long x2, .long x4] (wX11_in cI cZ) (res) (wX11_in cI cZ) := by
  refine MI.of (by decide) (Nat.le_of_ble_eq_true rfl) ?_
  intro p e s m below meth c A Q C hW hQ ls hl
  exact uX11_in_0 x0 x2 x4 C hQ h _ _ hW _ hl
abbrev wX11_ones (cI cZ : ClassId) : va_W := []
abbrev rX11_ones : Room := { frames := 0, cells := 0, slots := 0, locals := 0 }
set_option maxRecDepth 20000 in
theorem uX11_ones_4 (x1 : Int32) (x2 : Int32) {res : Int32} (C : Cx p s m av meth c RX11 cX11_ones 3 (some .int) G cI cZ cO A) (hQ : RI p l e rX11_ones s m av below meth c G A cX11_ones .int Q (res) (wX11_ones cI cZ)) {k4 : (Int32) → (Int32) → Option (Int32)} (hk4 : ∀ (x1 : Int32) (x2 : Int32), k4 x1 x2 = some res → ∀ (H : Heap) (locs : List Loc), HW G A s (wX11_ones cI cZ) H locs → ∀ ls : Array Slot, lv_has ls 3 [(1, .int x1), (2, .int x2)] → W p l e rX11_ones s m av below meth c H locs 0 0 Q (F0 m 4 ls [])) (h : FX11_ones_4 k4 x1 x2 = some res) (H : Heap) (locs : List Loc) (hW : HW G A s (wX11_ones cI cZ) H locs) (ls : Array Slot) (hl : lv_has ls 3 [(1, .int x1), (2, .int x2)]) : W p l e rX11_ones s m av below meth c H locs 0 0 Q (F0 m 4 ls []) := by
  have hx := C.1
  have hb := C.2.1
  unfold FX11_ones_4 at h
  refine lv_iload_n hx hb dX11_ones_4 rfl (lv_at hl 1 rfl) ?_
  refine lv_if_eq (tgt := 20) hx hb dX11_ones_5 (by decide) (fun c_1 => ?_) (fun c_1 => ?_)
  · have h := ip_h c_1 h
    refine lv_iload_n hx hb dX11_ones_20 rfl (lv_at hl 0 rfl) ?_
    obtain rfl := Option.some.inj h
    exact hQ rfl _ _ _ _ dX11_ones_21 hW
  · have h := in_h c_1 h
    obtain ⟨v_2, ev_2⟩ : ∃ y : Int32, y = x1 + (1 : Int32) := ⟨_, rfl⟩
    have h := lt_h ev_2 h
    refine lv_iinc (v := v_2) (lv' := [(1, .int v_2), (2, .int x2)]) hx hb dX11_ones_8 hl (k := 0) rfl (by rw [ev_2]; rfl) (Nat.le_of_ble_eq_true rfl) rfl (fun ls hl => ?_)
    refine lv_iload_n hx hb dX11_ones_11 rfl (lv_at hl 1 rfl) ?_
    refine lv_iload_n hx hb dX11_ones_12 rfl (lv_at hl 1 rfl) ?_
    refine lv_iconst (v := (1 : Int32)) hx hb dX11_ones_13 (by decide) ?_
    refine lv_isub hx hb dX11_ones_14 ?_
    refine lv_iand hx hb dX11_ones_15 ?_
    refine lv_topi (fun v_3 ev_3 => ?_)
    have h := lt_h ev_3 h
    refine lv_istore_n (lv' := [(2, .int v_3), (1, .int v_2)]) hx hb dX11_ones_16 rfl hl (Nat.le_of_ble_eq_true rfl) rfl (fun ls hl => ?_)
    refine lv_goto (tgt := 4) hx hb dX11_ones_17 (by decide) ?_
    exact hk4 v_2 v_3 h _ _ hW _ (lv_sub hl [1, 0] rfl)
theorem wX11_ones_4_ {res : Int32} (C : Cx p s m av meth c RX11 cX11_ones 3 (some .int) G cI cZ cO A) (hQ : RI p l e rX11_ones s m av below meth c G A cX11_ones .int Q (res) (wX11_ones cI cZ)) : ∀ (n : Nat) (x1 : Int32) (x2 : Int32), LX11_ones_4 n x1 x2 = some res → ∀ (H : Heap) (locs : List Loc), HW G A s (wX11_ones cI cZ) H locs → ∀ ls : Array Slot, lv_has ls 3 [(1, .int x1), (2, .int x2)] → W p l e rX11_ones s m av below meth c H locs 0 0 Q (F0 m 4 ls []) := by
  intro n
  induction n with
  | zero => intro x1 x2 h; cases h
  | succ n ih =>
    intro x1 x2 h H locs hW ls hl
    exact uX11_ones_4 x1 x2 C hQ (k4 := LX11_ones_4 n) ih h H locs hW ls hl
set_option maxRecDepth 20000 in
theorem uX11_ones_0 (x0 : Int32) {res : Int32} (C : Cx p s m av meth c RX11 cX11_ones 3 (some .int) G cI cZ cO A) (hQ : RI p l e rX11_ones s m av below meth c G A cX11_ones .int Q (res) (wX11_ones cI cZ)) (h : fX11_ones x0 = some res) (H : Heap) (locs : List Loc) (hW : HW G A s (wX11_ones cI cZ) H locs) (ls : Array Slot) (hl : lv_has ls 3 [(0, .int x0)]) : W p l e rX11_ones s m av below meth c H locs 0 0 Q (F0 m 0 ls []) := by
  have hx := C.1
  have hb := C.2.1
  unfold fX11_ones at h
  refine lv_iconst (v := (0 : Int32)) hx hb dX11_ones_0 (by decide) ?_
  refine lv_istore_n (lv' := [(1, .int (0 : Int32)), (0, .int x0)]) hx hb dX11_ones_1 rfl hl (Nat.le_of_ble_eq_true rfl) rfl (fun ls hl => ?_)
  refine lv_iload_n hx hb dX11_ones_2 rfl (lv_at hl 1 rfl) ?_
  refine lv_istore_n (lv' := [(2, .int x0), (1, .int (0 : Int32)), (0, .int x0)]) hx hb dX11_ones_3 rfl hl (Nat.le_of_ble_eq_true rfl) rfl (fun ls hl => ?_)
  exact wX11_ones_4_ C hQ 2000 (0 : Int32) x0 h _ _ hW _ (lv_sub hl [1, 0] rfl)
theorem ctX11_ones {l : Launch} {G : va_G} {cI cZ cO : ClassId} (x0 : Int32) {res : Int32} (h : fX11_ones x0 = some res) : MI l G cI cZ cO yX11_ones cX11_ones 3 .int rX11_ones [.int x0] (wX11_ones cI cZ) (res) (wX11_ones cI cZ) := by
  refine MI.of (by decide) (Nat.le_of_ble_eq_true rfl) ?_
  intro p e s m below meth c A Q C hW hQ ls hl
  exact uX11_ones_0 x0 C hQ h _ _ hW _ hl
abbrev wX11_size (cI cZ : ClassId) : va_W := []
abbrev rX11_size : Room := { frames := 0, cells := 0, slots := 0, locals := 0 }
set_option maxRecDepth 20000 in
theorem uX11_size_0 (x0 : Int32) {res : Int32} (C : Cx p s m av meth c RX11 cX11_size 1 (some .int) G cI cZ cO A) (hQ : RI p l e rX11_size s m av below meth c G A cX11_size .int Q (res) (wX11_size cI cZ)) (h : fX11_size x0 = res) (H : Heap) (locs : List Loc) (hW : HW G A s (wX11_size cI cZ) H locs) (ls : Array Slot) (hl : lv_has ls 1 [(0, .int x0)]) : W p l e rX11_size s m av below meth c H locs 0 0 Q (F0 m 0 ls []) := by
  have hx := C.1
  have hb := C.2.1
  unfold fX11_size at h
  refine lv_iload_n hx hb dX11_size_0 rfl (lv_at hl 0 rfl) ?_
  refine lv_if_ge (tgt := 9) hx hb dX11_size_1 (by decide) (fun c_1 => ?_) (fun c_1 => ?_)
  · have h := ip_h c_1 h
    refine lv_iload_n hx hb dX11_size_9 rfl (lv_at hl 0 rfl) ?_
    subst h
    exact hQ rfl _ _ _ _ dX11_size_10 hW
  · have h := in_h c_1 h
    refine lv_iload_n hx hb dX11_size_4 rfl (lv_at hl 0 rfl) ?_
    refine lv_ineg hx hb dX11_size_5 ?_
    refine lv_goto (tgt := 10) hx hb dX11_size_6 (by decide) ?_
    subst h
    exact hQ rfl _ _ _ _ dX11_size_10 hW
theorem ctX11_size {l : Launch} {G : va_G} {cI cZ cO : ClassId} (x0 : Int32) {res : Int32} (h : fX11_size x0 = res) : MI l G cI cZ cO yX11_size cX11_size 1 .int rX11_size [.int x0] (wX11_size cI cZ) (res) (wX11_size cI cZ) := by
  refine MI.of (by decide) (Nat.le_of_ble_eq_true rfl) ?_
  intro p e s m below meth c A Q C hW hQ ls hl
  exact uX11_size_0 x0 C hQ h _ _ hW _ hl
abbrev wX11_notBelow0 (cI cZ : ClassId) : va_W := []
abbrev rX11_notBelow0 : Room := { frames := 0, cells := 0, slots := 0, locals := 0 }
set_option maxRecDepth 20000 in
theorem uX11_notBelow0_0 (x0 : Int32) {res : Int32} (C : Cx p s m av meth c RX11 cX11_notBelow0 1 (some .int) G cI cZ cO A) (hQ : RI p l e rX11_notBelow0 s m av below meth c G A cX11_notBelow0 .int Q (res) (wX11_notBelow0 cI cZ)) (h : fX11_notBelow0 x0 = res) (H : Heap) (locs : List Loc) (hW : HW G A s (wX11_notBelow0 cI cZ) H locs) (ls : Array Slot) (hl : lv_has ls 1 [(0, .int x0)]) : W p l e rX11_notBelow0 s m av below meth c H locs 0 0 Q (F0 m 0 ls []) := by
  have hx := C.1
  have hb := C.2.1
  unfold fX11_notBelow0 at h
  refine lv_iload_n hx hb dX11_notBelow0_0 rfl (lv_at hl 0 rfl) ?_
  refine lv_if_ge (tgt := 8) hx hb dX11_notBelow0_1 (by decide) (fun c_1 => ?_) (fun c_1 => ?_)
  · have h := ip_h c_1 h
    refine lv_iload_n hx hb dX11_notBelow0_8 rfl (lv_at hl 0 rfl) ?_
    subst h
    exact hQ rfl _ _ _ _ dX11_notBelow0_9 hW
  · have h := in_h c_1 h
    refine lv_iconst (v := (0 : Int32)) hx hb dX11_notBelow0_4 (by decide) ?_
    refine lv_goto (tgt := 9) hx hb dX11_notBelow0_5 (by decide) ?_
    subst h
    exact hQ rfl _ _ _ _ dX11_notBelow0_9 hW
theorem ctX11_notBelow0 {l : Launch} {G : va_G} {cI cZ cO : ClassId} (x0 : Int32) {res : Int32} (h : fX11_notBelow0 x0 = res) : MI l G cI cZ cO yX11_notBelow0 cX11_notBelow0 1 .int rX11_notBelow0 [.int x0] (wX11_notBelow0 cI cZ) (res) (wX11_notBelow0 cI cZ) := by
  refine MI.of (by decide) (Nat.le_of_ble_eq_true rfl) ?_
  intro p e s m below meth c A Q C hW hQ ls hl
  exact uX11_notBelow0_0 x0 C hQ h _ _ hW _ hl
abbrev wX11_isStone (cI cZ : ClassId) (a_this a_thick a_hollow a_damp a_fresh a_pulls a_fats a_deep a_fine a_pay a_hair a_sightPicture a_sightPull a_sightShows a_pad a_act a_where a_much a_kindMany a_had a_leaves a_mostPay a_canLast a_leastMissed a_kept a_isKept : Nat) (v_stones : Int32) (v_flat : Int32) (v_leastThick : Int32) (v_sights : Int32) (v_padMany : Int32) (v_acts : Int32) (v_pulled : Int32) (v_skyPull : Int32) (v_skyWhose : Int32) (v_badAct : Int32) (v_badWhy : Int32) (v_keptAt : Int32) (v_isWriting : Int32) : va_W := [(a_this, .inr (11, [.int v_stones, .int v_flat, .int v_leastThick, .ref a_thick, .ref a_hollow, .ref a_damp, .ref a_fresh, .ref a_pulls, .ref a_fats, .ref a_deep, .ref a_fine, .ref a_pay, .ref a_hair, .ref a_sightPicture, .ref a_sightPull, .ref a_sightShows, .int v_sights, .ref a_pad, .int v_padMany, .ref a_act, .ref a_where, .ref a_much, .int v_acts, .int v_pulled, .ref a_kindMany, .int v_skyPull, .int v_skyWhose, .ref a_had, .ref a_leaves, .int v_badAct, .int v_badWhy, .ref a_mostPay, .ref a_canLast, .ref a_leastMissed, .ref a_kept, .ref a_isKept, .int v_keptAt, .int v_isWriting]))]
abbrev rX11_isStone : Room := { frames := 1, cells := 0, slots := 0, locals := 25 }
set_option maxRecDepth 20000 in
theorem uX11_isStone_0 {a_this a_thick a_hollow a_damp a_fresh a_pulls a_fats a_deep a_fine a_pay a_hair a_sightPicture a_sightPull a_sightShows a_pad a_act a_where a_much a_kindMany a_had a_leaves a_mostPay a_canLast a_leastMissed a_kept a_isKept : Nat} (x1 : Int32) (v_stones : Int32) (v_flat : Int32) (v_leastThick : Int32) (v_sights : Int32) (v_padMany : Int32) (v_acts : Int32) (v_pulled : Int32) (v_skyPull : Int32) (v_skyWhose : Int32) (v_badAct : Int32) (v_badWhy : Int32) (v_keptAt : Int32) (v_isWriting : Int32) {res : Int32} (C : Cx p s m av meth c RX11 cX11_isStone 2 (some .boolean) G cI cZ cO A) (hQ : RI p l e rX11_isStone s m av below meth c G A cX11_isStone .boolean Q (res) (wX11_isStone cI cZ a_this a_thick a_hollow a_damp a_fresh a_pulls a_fats a_deep a_fine a_pay a_hair a_sightPicture a_sightPull a_sightShows a_pad a_act a_where a_much a_kindMany a_had a_leaves a_mostPay a_canLast a_leastMissed a_kept a_isKept v_stones v_flat v_leastThick v_sights v_padMany v_acts v_pulled v_skyPull v_skyWhose v_badAct v_badWhy v_keptAt v_isWriting)) (h : fX11_isStone x1 v_stones = res) (H : Heap) (locs : List Loc) (hW : HW G A s (wX11_isStone cI cZ a_this a_thick a_hollow a_damp a_fresh a_pulls a_fats a_deep a_fine a_pay a_hair a_sightPicture a_sightPull a_sightShows a_pad a_act a_where a_much a_kindMany a_had a_leaves a_mostPay a_canLast a_leastMissed a_kept a_isKept v_stones v_flat v_leastThick v_sights v_padMany v_acts v_pulled v_skyPull v_skyWhose v_badAct v_badWhy v_keptAt v_isWriting) H locs) (ls : Array Slot) (hl : lv_has ls 2 [(0, .ref a_this), (1, .int x1)]) : W p l e rX11_isStone s m av below meth c H locs 0 0 Q (F0 m 0 ls []) := by
  have hx := C.1
  have hb := C.2.1
  unfold fX11_isStone at h
  refine lv_iload_n hx hb dX11_isStone_0 rfl (lv_at hl 1 rfl) ?_
  refine lv_i2l hx hb dX11_isStone_1 rfl ?_
  refine lv_lconst (v := (0 : Int64)) hx hb dX11_isStone_2 (by decide) ?_
  refine lv_ldc2 (v := (4 : Int64)) hx hb C.2.2.2.2.2.1 (C.2.2.2.2.1 _ wd_894) dX11_isStone_3 ?_
  refine callSI0 C lk_RX11_95 (ctX11_in (Int32.toInt64 x1) (0 : Int64) (4 : Int64) rfl) hW hl rfl ⟨rfl, rfl⟩ ⟨(Nat.le_of_ble_eq_true rfl), (Nat.le_of_ble_eq_true rfl)⟩ ⟨Nat.zero_le _, Nat.zero_le _⟩ rfl (Nat.le_of_ble_eq_true rfl) dX11_isStone_6 (fun H locs hW => ?_)
  refine lv_if_eq (tgt := 28) hx hb dX11_isStone_9 (by decide) (fun c_1 => ?_) (fun c_1 => ?_)
  · have h := ip_h c_1 h
    refine lv_iconst (v := (0 : Int32)) hx hb dX11_isStone_28 (by decide) ?_
    subst h
    exact hQ nb_0 _ _ _ _ dX11_isStone_29 hW
  · have h := in_h c_1 h
    refine lv_aload_n hx hb dX11_isStone_12 rfl (lv_at hl 0 rfl) ?_
    refine getW C fl_RX11_99 hW 0 rfl rfl dX11_isStone_13 ?_
    refine lv_iload_n hx hb dX11_isStone_16 rfl (lv_at hl 1 rfl) ?_
    refine lv_ishr hx hb dX11_isStone_17 ?_
    refine lv_iconst (v := (1 : Int32)) hx hb dX11_isStone_18 (by decide) ?_
    refine lv_iand hx hb dX11_isStone_19 ?_
    refine lv_iconst (v := (1 : Int32)) hx hb dX11_isStone_20 (by decide) ?_
    refine lv_icmp_ne (tgt := 28) hx hb dX11_isStone_21 (by decide) (fun c_2 => ?_) (fun c_2 => ?_)
    · have h := in_h c_2 h
      refine lv_iconst (v := (0 : Int32)) hx hb dX11_isStone_28 (by decide) ?_
      subst h
      exact hQ nb_0 _ _ _ _ dX11_isStone_29 hW
    · have h := ip_h c_2 h
      refine lv_iconst (v := (1 : Int32)) hx hb dX11_isStone_24 (by decide) ?_
      refine lv_goto (tgt := 29) hx hb dX11_isStone_25 (by decide) ?_
      subst h
      exact hQ nb_1 _ _ _ _ dX11_isStone_29 hW
theorem ctX11_isStone {l : Launch} {G : va_G} {cI cZ cO : ClassId} (a_this a_thick a_hollow a_damp a_fresh a_pulls a_fats a_deep a_fine a_pay a_hair a_sightPicture a_sightPull a_sightShows a_pad a_act a_where a_much a_kindMany a_had a_leaves a_mostPay a_canLast a_leastMissed a_kept a_isKept : Nat) (x1 : Int32) (v_stones : Int32) (v_flat : Int32) (v_leastThick : Int32) (v_sights : Int32) (v_padMany : Int32) (v_acts : Int32) (v_pulled : Int32) (v_skyPull : Int32) (v_skyWhose : Int32) (v_badAct : Int32) (v_badWhy : Int32) (v_keptAt : Int32) (v_isWriting : Int32) {res : Int32} (h : fX11_isStone x1 v_stones = res) : MI l G cI cZ cO yX11_isStone cX11_isStone 2 .boolean rX11_isStone [.ref a_this, .int x1] (wX11_isStone cI cZ a_this a_thick a_hollow a_damp a_fresh a_pulls a_fats a_deep a_fine a_pay a_hair a_sightPicture a_sightPull a_sightShows a_pad a_act a_where a_much a_kindMany a_had a_leaves a_mostPay a_canLast a_leastMissed a_kept a_isKept v_stones v_flat v_leastThick v_sights v_padMany v_acts v_pulled v_skyPull v_skyWhose v_badAct v_badWhy v_keptAt v_isWriting) (res) (wX11_isStone cI cZ a_this a_thick a_hollow a_damp a_fresh a_pulls a_fats a_deep a_fine a_pay a_hair a_sightPicture a_sightPull a_sightShows a_pad a_act a_where a_much a_kindMany a_had a_leaves a_mostPay a_canLast a_leastMissed a_kept a_isKept v_stones v_flat v_leastThick v_sights v_padMany v_acts v_pulled v_skyPull v_skyWhose v_badAct v_badWhy v_keptAt v_isWriting) := by
  refine MI.of (by decide) (Nat.le_of_ble_eq_true rfl) ?_
  intro p e s m below meth c A Q C hW hQ ls hl
  exact uX11_isStone_0 x1 v_stones v_flat v_leastThick v_sights v_padMany v_acts v_pulled v_skyPull v_skyWhose v_badAct v_badWhy v_keptAt v_isWriting C hQ h _ _ hW _ hl
abbrev wX11_isPicture (cI cZ : ClassId) : va_W := []
abbrev rX11_isPicture : Room := { frames := 1, cells := 0, slots := 0, locals := 25 }
set_option maxRecDepth 20000 in
theorem uX11_isPicture_0 (x0 : Int32) {res : Int32} (C : Cx p s m av meth c RX11 cX11_isPicture 1 (some .boolean) G cI cZ cO A) (hQ : RI p l e rX11_isPicture s m av below meth c G A cX11_isPicture .boolean Q (res) (wX11_isPicture cI cZ)) (h : fX11_isPicture x0 = res) (H : Heap) (locs : List Loc) (hW : HW G A s (wX11_isPicture cI cZ) H locs) (ls : Array Slot) (hl : lv_has ls 1 [(0, .int x0)]) : W p l e rX11_isPicture s m av below meth c H locs 0 0 Q (F0 m 0 ls []) := by
  have hx := C.1
  have hb := C.2.1
  unfold fX11_isPicture at h
  refine lv_iload_n hx hb dX11_isPicture_0 rfl (lv_at hl 0 rfl) ?_
  refine lv_i2l hx hb dX11_isPicture_1 rfl ?_
  refine lv_lconst (v := (0 : Int64)) hx hb dX11_isPicture_2 (by decide) ?_
  refine lv_ldc2 (v := (7 : Int64)) hx hb C.2.2.2.2.2.1 (C.2.2.2.2.1 _ wd_922) dX11_isPicture_3 ?_
  refine callSI0 C lk_RX11_95 (ctX11_in (Int32.toInt64 x0) (0 : Int64) (7 : Int64) rfl) hW hl rfl ⟨rfl, rfl⟩ ⟨(Nat.le_of_ble_eq_true rfl), (Nat.le_of_ble_eq_true rfl)⟩ ⟨Nat.zero_le _, Nat.zero_le _⟩ rfl (Nat.le_of_ble_eq_true rfl) dX11_isPicture_6 (fun H locs hW => ?_)
  subst h
  exact hQ (fbX11_in _ _ _ ) _ _ _ _ dX11_isPicture_9 hW
theorem ctX11_isPicture {l : Launch} {G : va_G} {cI cZ cO : ClassId} (x0 : Int32) {res : Int32} (h : fX11_isPicture x0 = res) : MI l G cI cZ cO yX11_isPicture cX11_isPicture 1 .boolean rX11_isPicture [.int x0] (wX11_isPicture cI cZ) (res) (wX11_isPicture cI cZ) := by
  refine MI.of (by decide) (Nat.le_of_ble_eq_true rfl) ?_
  intro p e s m below meth c A Q C hW hQ ls hl
  exact uX11_isPicture_0 x0 C hQ h _ _ hW _ hl
abbrev wX11_at (cI cZ : ClassId) : va_W := []
abbrev rX11_at : Room := { frames := 0, cells := 0, slots := 0, locals := 0 }
set_option maxRecDepth 20000 in
theorem uX11_at_0 (x0 : Int32) (x1 : Int32) {res : Int32} (C : Cx p s m av meth c RX11 cX11_at 2 (some .int) G cI cZ cO A) (hQ : RI p l e rX11_at s m av below meth c G A cX11_at .int Q (res) (wX11_at cI cZ)) (h : fX11_at x0 x1 = res) (H : Heap) (locs : List Loc) (hW : HW G A s (wX11_at cI cZ) H locs) (ls : Array Slot) (hl : lv_has ls 2 [(0, .int x0), (1, .int x1)]) : W p l e rX11_at s m av below meth c H locs 0 0 Q (F0 m 0 ls []) := by
  have hx := C.1
  have hb := C.2.1
  unfold fX11_at at h
  refine lv_bipush (v := (8 : Int32)) hx hb dX11_at_0 (by decide) ?_
  refine lv_iload_n hx hb dX11_at_2 rfl (lv_at hl 0 rfl) ?_
  refine lv_imul hx hb dX11_at_3 ?_
  refine lv_iload_n hx hb dX11_at_4 rfl (lv_at hl 1 rfl) ?_
  refine lv_iadd hx hb dX11_at_5 ?_
  subst h
  exact hQ rfl _ _ _ _ dX11_at_6 hW
theorem ctX11_at {l : Launch} {G : va_G} {cI cZ cO : ClassId} (x0 : Int32) (x1 : Int32) {res : Int32} (h : fX11_at x0 x1 = res) : MI l G cI cZ cO yX11_at cX11_at 2 .int rX11_at [.int x0, .int x1] (wX11_at cI cZ) (res) (wX11_at cI cZ) := by
  refine MI.of (by decide) (Nat.le_of_ble_eq_true rfl) ?_
  intro p e s m below meth c A Q C hW hQ ls hl
  exact uX11_at_0 x0 x1 C hQ h _ _ hW _ hl
abbrev wX11_stone (cI cZ : ClassId) (a_this a_thick a_hollow a_damp a_fresh a_pulls a_fats a_deep a_fine a_pay a_hair a_sightPicture a_sightPull a_sightShows a_pad a_act a_where a_much a_kindMany a_had a_leaves a_mostPay a_canLast a_leastMissed a_kept a_isKept : Nat) (v_stones : Int32) (v_flat : Int32) (v_leastThick : Int32) (v_sights : Int32) (v_padMany : Int32) (v_acts : Int32) (v_pulled : Int32) (v_skyPull : Int32) (v_skyWhose : Int32) (v_badAct : Int32) (v_badWhy : Int32) (v_keptAt : Int32) (v_isWriting : Int32) (v_thick : Nat → Int32) (v_hollow : Nat → Int32) (v_damp : Nat → Int32) (v_fresh : Nat → Int32) (v_pulls : Nat → Int32) (v_fats : Nat → Int32) : va_W := [(a_this, .inr (11, [.int v_stones, .int v_flat, .int v_leastThick, .ref a_thick, .ref a_hollow, .ref a_damp, .ref a_fresh, .ref a_pulls, .ref a_fats, .ref a_deep, .ref a_fine, .ref a_pay, .ref a_hair, .ref a_sightPicture, .ref a_sightPull, .ref a_sightShows, .int v_sights, .ref a_pad, .int v_padMany, .ref a_act, .ref a_where, .ref a_much, .int v_acts, .int v_pulled, .ref a_kindMany, .int v_skyPull, .int v_skyWhose, .ref a_had, .ref a_leaves, .int v_badAct, .int v_badWhy, .ref a_mostPay, .ref a_canLast, .ref a_leastMissed, .ref a_kept, .ref a_isKept, .int v_keptAt, .int v_isWriting])), (a_thick, .inl (cI, 5, .inl v_thick)), (a_hollow, .inl (cI, 5, .inl v_hollow)), (a_damp, .inl (cI, 5, .inl v_damp)), (a_fresh, .inl (cI, 5, .inl v_fresh)), (a_pulls, .inl (cI, 5, .inl v_pulls)), (a_fats, .inl (cI, 40, .inl v_fats))]
abbrev rX11_stone : Room := { frames := 1, cells := 0, slots := 0, locals := 25 }
set_option maxRecDepth 20000 in
theorem uX11_stone_94 {a_this a_thick a_hollow a_damp a_fresh a_pulls a_fats a_deep a_fine a_pay a_hair a_sightPicture a_sightPull a_sightShows a_pad a_act a_where a_much a_kindMany a_had a_leaves a_mostPay a_canLast a_leastMissed a_kept a_isKept : Nat} (x1 : Int32) (x5 : Int32) (v_stones : Int32) (v_flat : Int32) (v_leastThick : Int32) (v_sights : Int32) (v_padMany : Int32) (v_acts : Int32) (v_pulled : Int32) (v_skyPull : Int32) (v_skyWhose : Int32) (v_badAct : Int32) (v_badWhy : Int32) (v_keptAt : Int32) (v_isWriting : Int32) (v_thick : Nat → Int32) (v_hollow : Nat → Int32) (v_damp : Nat → Int32) (v_fresh : Nat → Int32) (v_pulls : Nat → Int32) (v_fats : Nat → Int32) {res : Int32 × Int32 × (Nat → Int32) × (Nat → Int32) × (Nat → Int32) × (Nat → Int32) × (Nat → Int32) × (Nat → Int32)} (C : Cx p s m av meth c RX11 cX11_stone 6 (some .int) G cI cZ cO A) (hQ : RI p l e rX11_stone s m av below meth c G A cX11_stone .int Q (res.1) (wX11_stone cI cZ a_this a_thick a_hollow a_damp a_fresh a_pulls a_fats a_deep a_fine a_pay a_hair a_sightPicture a_sightPull a_sightShows a_pad a_act a_where a_much a_kindMany a_had a_leaves a_mostPay a_canLast a_leastMissed a_kept a_isKept res.2.1 v_flat v_leastThick v_sights v_padMany v_acts v_pulled v_skyPull v_skyWhose v_badAct v_badWhy v_keptAt v_isWriting res.2.2.1 res.2.2.2.1 res.2.2.2.2.1 res.2.2.2.2.2.1 res.2.2.2.2.2.2.1 res.2.2.2.2.2.2.2)) {k94 : (Int32) → (Nat → Int32) → Option (Int32 × Int32 × (Nat → Int32) × (Nat → Int32) × (Nat → Int32) × (Nat → Int32) × (Nat → Int32) × (Nat → Int32))} (hk94 : ∀ (x5 : Int32) (v_fats : Nat → Int32), k94 x5 v_fats = some res → ∀ (H : Heap) (locs : List Loc), HW G A s (wX11_stone cI cZ a_this a_thick a_hollow a_damp a_fresh a_pulls a_fats a_deep a_fine a_pay a_hair a_sightPicture a_sightPull a_sightShows a_pad a_act a_where a_much a_kindMany a_had a_leaves a_mostPay a_canLast a_leastMissed a_kept a_isKept v_stones v_flat v_leastThick v_sights v_padMany v_acts v_pulled v_skyPull v_skyWhose v_badAct v_badWhy v_keptAt v_isWriting v_thick v_hollow v_damp v_fresh v_pulls v_fats) H locs → ∀ ls : Array Slot, lv_has ls 6 [(0, .ref a_this), (1, .int x1), (5, .int x5)] → W p l e rX11_stone s m av below meth c H locs 0 0 Q (F0 m 94 ls [])) (h : FX11_stone_94 x1 v_stones v_thick v_hollow v_damp v_fresh v_pulls k94 x5 v_fats = some res) (H : Heap) (locs : List Loc) (hW : HW G A s (wX11_stone cI cZ a_this a_thick a_hollow a_damp a_fresh a_pulls a_fats a_deep a_fine a_pay a_hair a_sightPicture a_sightPull a_sightShows a_pad a_act a_where a_much a_kindMany a_had a_leaves a_mostPay a_canLast a_leastMissed a_kept a_isKept v_stones v_flat v_leastThick v_sights v_padMany v_acts v_pulled v_skyPull v_skyWhose v_badAct v_badWhy v_keptAt v_isWriting v_thick v_hollow v_damp v_fresh v_pulls v_fats) H locs) (ls : Array Slot) (hl : lv_has ls 6 [(0, .ref a_this), (1, .int x1), (5, .int x5)]) : W p l e rX11_stone s m av below meth c H locs 0 0 Q (F0 m 94 ls []) := by
  have hx := C.1
  have hb := C.2.1
  unfold FX11_stone_94 at h
  refine lv_iload hx hb dX11_stone_94 (lv_at hl 2 rfl) ?_
  refine lv_bipush (v := (8 : Int32)) hx hb dX11_stone_96 (by decide) ?_
  refine lv_icmp_ge (tgt := 119) hx hb dX11_stone_98 (by decide) (fun c_6 => ?_) (fun c_6 => ?_)
  · have h := ip_h c_6 h
    refine lv_aload_n hx hb dX11_stone_119 rfl (lv_at hl 0 rfl) ?_
    refine lv_dup hx hb dX11_stone_120 rfl ?_
    refine getW C fl_RX11_99 hW 0 rfl rfl dX11_stone_121 ?_
    refine lv_iconst (v := (1 : Int32)) hx hb dX11_stone_124 (by decide) ?_
    refine lv_iload_n hx hb dX11_stone_125 rfl (lv_at hl 1 rfl) ?_
    refine lv_ishl hx hb dX11_stone_126 ?_
    refine lv_ior hx hb dX11_stone_127 ?_
    refine lv_topi (fun v_7 ev_7 => ?_)
    have h := lt_h ev_7 h
    refine putW C fp_RX11_99 hW 0 rfl rfl rfl (Nat.le_of_ble_eq_true rfl) dX11_stone_128 (fun H locs hW => ?_)
    have hW : HW G A s (wX11_stone cI cZ a_this a_thick a_hollow a_damp a_fresh a_pulls a_fats a_deep a_fine a_pay a_hair a_sightPicture a_sightPull a_sightShows a_pad a_act a_where a_much a_kindMany a_had a_leaves a_mostPay a_canLast a_leastMissed a_kept a_isKept v_7 v_flat v_leastThick v_sights v_padMany v_acts v_pulled v_skyPull v_skyWhose v_badAct v_badWhy v_keptAt v_isWriting v_thick v_hollow v_damp v_fresh v_pulls v_fats) H locs := hW
    refine lv_aload_n hx hb dX11_stone_131 rfl (lv_at hl 0 rfl) ?_
    refine getW C fl_RX11_99 hW 0 rfl rfl dX11_stone_132 ?_
    obtain ⟨v_8, hv_8, h⟩ := bd_h h
    refine callSI0 C lk_RX11_114 (ctX11_ones v_7 hv_8) hW hl rfl ⟨rfl, rfl⟩ ⟨(Nat.le_of_ble_eq_true rfl), (Nat.le_of_ble_eq_true rfl)⟩ ⟨Nat.zero_le _, Nat.zero_le _⟩ rfl (Nat.le_of_ble_eq_true rfl) dX11_stone_135 (fun H locs hW => ?_)
    obtain rfl := Option.some.inj h
    exact hQ rfl _ _ _ _ dX11_stone_138 hW
  · have h := in_h c_6 h
    refine lv_aload_n hx hb dX11_stone_101 rfl (lv_at hl 0 rfl) ?_
    refine getW C fl_RX11_25 hW 0 rfl rfl dX11_stone_102 ?_
    refine lv_iload_n hx hb dX11_stone_105 rfl (lv_at hl 1 rfl) ?_
    refine lv_iload hx hb dX11_stone_106 (lv_at hl 2 rfl) ?_
    refine callSI0 C lk_RX11_110 (ctX11_at x1 x5 rfl) hW hl rfl ⟨rfl, rfl⟩ ⟨(Nat.le_of_ble_eq_true rfl), (Nat.le_of_ble_eq_true rfl)⟩ ⟨Nat.zero_le _, Nat.zero_le _⟩ rfl (Nat.le_of_ble_eq_true rfl) dX11_stone_108 (fun H locs hW => ?_)
    refine lv_iconst (v := (0 : Int32)) hx hb dX11_stone_111 (by decide) ?_
    obtain ⟨g_9, h⟩ := gd_h h
    refine iastW C hW 6 rfl g_9 dX11_stone_112 (fun H locs hW => ?_)
    have hW : HW G A s (wX11_stone cI cZ a_this a_thick a_hollow a_damp a_fresh a_pulls a_fats a_deep a_fine a_pay a_hair a_sightPicture a_sightPull a_sightShows a_pad a_act a_where a_much a_kindMany a_had a_leaves a_mostPay a_canLast a_leastMissed a_kept a_isKept v_stones v_flat v_leastThick v_sights v_padMany v_acts v_pulled v_skyPull v_skyWhose v_badAct v_badWhy v_keptAt v_isWriting v_thick v_hollow v_damp v_fresh v_pulls (upd v_fats (Int32.toNatClampNeg (fX11_at x1 x5)) (0 : Int32))) H locs := hW
    obtain ⟨v_10, ev_10⟩ : ∃ y : Int32, y = x5 + (1 : Int32) := ⟨_, rfl⟩
    have h := lt_h ev_10 h
    refine lv_iinc (v := v_10) (lv' := [(5, .int v_10), (0, .ref a_this), (1, .int x1)]) hx hb dX11_stone_113 hl (k := 2) rfl (by rw [ev_10]; rfl) (Nat.le_of_ble_eq_true rfl) rfl (fun ls hl => ?_)
    refine lv_goto (tgt := 94) hx hb dX11_stone_116 (by decide) ?_
    exact hk94 v_10 (upd v_fats (Int32.toNatClampNeg (fX11_at x1 x5)) (0 : Int32)) h _ _ hW _ (lv_sub hl [1, 2, 0] rfl)
theorem wX11_stone_94_ {a_this a_thick a_hollow a_damp a_fresh a_pulls a_fats a_deep a_fine a_pay a_hair a_sightPicture a_sightPull a_sightShows a_pad a_act a_where a_much a_kindMany a_had a_leaves a_mostPay a_canLast a_leastMissed a_kept a_isKept : Nat} (x1 : Int32) (v_stones : Int32) (v_flat : Int32) (v_leastThick : Int32) (v_sights : Int32) (v_padMany : Int32) (v_acts : Int32) (v_pulled : Int32) (v_skyPull : Int32) (v_skyWhose : Int32) (v_badAct : Int32) (v_badWhy : Int32) (v_keptAt : Int32) (v_isWriting : Int32) (v_thick : Nat → Int32) (v_hollow : Nat → Int32) (v_damp : Nat → Int32) (v_fresh : Nat → Int32) (v_pulls : Nat → Int32) {res : Int32 × Int32 × (Nat → Int32) × (Nat → Int32) × (Nat → Int32) × (Nat → Int32) × (Nat → Int32) × (Nat → Int32)} (C : Cx p s m av meth c RX11 cX11_stone 6 (some .int) G cI cZ cO A) (hQ : RI p l e rX11_stone s m av below meth c G A cX11_stone .int Q (res.1) (wX11_stone cI cZ a_this a_thick a_hollow a_damp a_fresh a_pulls a_fats a_deep a_fine a_pay a_hair a_sightPicture a_sightPull a_sightShows a_pad a_act a_where a_much a_kindMany a_had a_leaves a_mostPay a_canLast a_leastMissed a_kept a_isKept res.2.1 v_flat v_leastThick v_sights v_padMany v_acts v_pulled v_skyPull v_skyWhose v_badAct v_badWhy v_keptAt v_isWriting res.2.2.1 res.2.2.2.1 res.2.2.2.2.1 res.2.2.2.2.2.1 res.2.2.2.2.2.2.1 res.2.2.2.2.2.2.2)) : ∀ (n : Nat) (x5 : Int32) (v_fats : Nat → Int32), LX11_stone_94 x1 v_stones v_thick v_hollow v_damp v_fresh v_pulls n x5 v_fats = some res → ∀ (H : Heap) (locs : List Loc), HW G A s (wX11_stone cI cZ a_this a_thick a_hollow a_damp a_fresh a_pulls a_fats a_deep a_fine a_pay a_hair a_sightPicture a_sightPull a_sightShows a_pad a_act a_where a_much a_kindMany a_had a_leaves a_mostPay a_canLast a_leastMissed a_kept a_isKept v_stones v_flat v_leastThick v_sights v_padMany v_acts v_pulled v_skyPull v_skyWhose v_badAct v_badWhy v_keptAt v_isWriting v_thick v_hollow v_damp v_fresh v_pulls v_fats) H locs → ∀ ls : Array Slot, lv_has ls 6 [(0, .ref a_this), (1, .int x1), (5, .int x5)] → W p l e rX11_stone s m av below meth c H locs 0 0 Q (F0 m 94 ls []) := by
  intro n
  induction n with
  | zero => intro x5 v_fats h; cases h
  | succ n ih =>
    intro x5 v_fats h H locs hW ls hl
    exact uX11_stone_94 x1 x5 v_stones v_flat v_leastThick v_sights v_padMany v_acts v_pulled v_skyPull v_skyWhose v_badAct v_badWhy v_keptAt v_isWriting v_thick v_hollow v_damp v_fresh v_pulls v_fats C hQ (k94 := LX11_stone_94 x1 v_stones v_thick v_hollow v_damp v_fresh v_pulls n) ih h H locs hW ls hl
set_option maxRecDepth 20000 in
theorem uX11_stone_0 {a_this a_thick a_hollow a_damp a_fresh a_pulls a_fats a_deep a_fine a_pay a_hair a_sightPicture a_sightPull a_sightShows a_pad a_act a_where a_much a_kindMany a_had a_leaves a_mostPay a_canLast a_leastMissed a_kept a_isKept : Nat} (x1 : Int32) (x2 : Int32) (x3 : Int32) (x4 : Int32) (v_stones : Int32) (v_flat : Int32) (v_leastThick : Int32) (v_sights : Int32) (v_padMany : Int32) (v_acts : Int32) (v_pulled : Int32) (v_skyPull : Int32) (v_skyWhose : Int32) (v_badAct : Int32) (v_badWhy : Int32) (v_keptAt : Int32) (v_isWriting : Int32) (v_thick : Nat → Int32) (v_hollow : Nat → Int32) (v_damp : Nat → Int32) (v_fresh : Nat → Int32) (v_pulls : Nat → Int32) (v_fats : Nat → Int32) {res : Int32 × Int32 × (Nat → Int32) × (Nat → Int32) × (Nat → Int32) × (Nat → Int32) × (Nat → Int32) × (Nat → Int32)} (C : Cx p s m av meth c RX11 cX11_stone 6 (some .int) G cI cZ cO A) (hQ : RI p l e rX11_stone s m av below meth c G A cX11_stone .int Q (res.1) (wX11_stone cI cZ a_this a_thick a_hollow a_damp a_fresh a_pulls a_fats a_deep a_fine a_pay a_hair a_sightPicture a_sightPull a_sightShows a_pad a_act a_where a_much a_kindMany a_had a_leaves a_mostPay a_canLast a_leastMissed a_kept a_isKept res.2.1 v_flat v_leastThick v_sights v_padMany v_acts v_pulled v_skyPull v_skyWhose v_badAct v_badWhy v_keptAt v_isWriting res.2.2.1 res.2.2.2.1 res.2.2.2.2.1 res.2.2.2.2.2.1 res.2.2.2.2.2.2.1 res.2.2.2.2.2.2.2)) (h : fX11_stone x1 x2 x3 x4 v_stones v_thick v_hollow v_damp v_fresh v_pulls v_fats = some res) (H : Heap) (locs : List Loc) (hW : HW G A s (wX11_stone cI cZ a_this a_thick a_hollow a_damp a_fresh a_pulls a_fats a_deep a_fine a_pay a_hair a_sightPicture a_sightPull a_sightShows a_pad a_act a_where a_much a_kindMany a_had a_leaves a_mostPay a_canLast a_leastMissed a_kept a_isKept v_stones v_flat v_leastThick v_sights v_padMany v_acts v_pulled v_skyPull v_skyWhose v_badAct v_badWhy v_keptAt v_isWriting v_thick v_hollow v_damp v_fresh v_pulls v_fats) H locs) (ls : Array Slot) (hl : lv_has ls 6 [(0, .ref a_this), (1, .int x1), (2, .int x2), (3, .int x3), (4, .int x4)]) : W p l e rX11_stone s m av below meth c H locs 0 0 Q (F0 m 0 ls []) := by
  have hx := C.1
  have hb := C.2.1
  unfold fX11_stone at h
  refine lv_iload_n hx hb dX11_stone_0 rfl (lv_at hl 1 rfl) ?_
  refine lv_i2l hx hb dX11_stone_1 rfl ?_
  refine lv_lconst (v := (0 : Int64)) hx hb dX11_stone_2 (by decide) ?_
  refine lv_ldc2 (v := (4 : Int64)) hx hb C.2.2.2.2.2.1 (C.2.2.2.2.1 _ wd_894) dX11_stone_3 ?_
  refine callSI0 C lk_RX11_95 (ctX11_in (Int32.toInt64 x1) (0 : Int64) (4 : Int64) rfl) hW hl rfl ⟨rfl, rfl⟩ ⟨(Nat.le_of_ble_eq_true rfl), (Nat.le_of_ble_eq_true rfl)⟩ ⟨Nat.zero_le _, Nat.zero_le _⟩ rfl (Nat.le_of_ble_eq_true rfl) dX11_stone_6 (fun H locs hW => ?_)
  refine lv_if_ne (tgt := 14) hx hb dX11_stone_9 (by decide) (fun c_1 => ?_) (fun c_1 => ?_)
  · have h := in_h c_1 h
    refine lv_iload_n hx hb dX11_stone_14 rfl (lv_at hl 2 rfl) ?_
    refine lv_i2l hx hb dX11_stone_15 rfl ?_
    refine lv_lconst (v := (0 : Int64)) hx hb dX11_stone_16 (by decide) ?_
    refine lv_ldc2 (v := (9999 : Int64)) hx hb C.2.2.2.2.2.1 (C.2.2.2.2.1 _ wd_898) dX11_stone_17 ?_
    refine callSI0 C lk_RX11_95 (ctX11_in (Int32.toInt64 x2) (0 : Int64) (9999 : Int64) rfl) hW hl rfl ⟨rfl, rfl⟩ ⟨(Nat.le_of_ble_eq_true rfl), (Nat.le_of_ble_eq_true rfl)⟩ ⟨Nat.zero_le _, Nat.zero_le _⟩ rfl (Nat.le_of_ble_eq_true rfl) dX11_stone_20 (fun H locs hW => ?_)
    refine lv_if_eq (tgt := 51) hx hb dX11_stone_23 (by decide) (fun c_2 => ?_) (fun c_2 => ?_)
    · have h := ip_h c_2 h
      refine lv_bipush (v := (-2 : Int32)) hx hb dX11_stone_51 (by decide) ?_
      obtain rfl := Option.some.inj h
      exact hQ rfl _ _ _ _ dX11_stone_53 hW
    · have h := in_h c_2 h
      refine lv_iload_n hx hb dX11_stone_26 rfl (lv_at hl 3 rfl) ?_
      refine lv_i2l hx hb dX11_stone_27 rfl ?_
      refine lv_lconst (v := (0 : Int64)) hx hb dX11_stone_28 (by decide) ?_
      refine lv_ldc2 (v := (99 : Int64)) hx hb C.2.2.2.2.2.1 (C.2.2.2.2.1 _ wd_899) dX11_stone_29 ?_
      refine callSI0 C lk_RX11_95 (ctX11_in (Int32.toInt64 x3) (0 : Int64) (99 : Int64) rfl) hW hl rfl ⟨rfl, rfl⟩ ⟨(Nat.le_of_ble_eq_true rfl), (Nat.le_of_ble_eq_true rfl)⟩ ⟨Nat.zero_le _, Nat.zero_le _⟩ rfl (Nat.le_of_ble_eq_true rfl) dX11_stone_32 (fun H locs hW => ?_)
      refine lv_if_eq (tgt := 51) hx hb dX11_stone_35 (by decide) (fun c_3 => ?_) (fun c_3 => ?_)
      · have h := ip_h c_3 h
        refine lv_bipush (v := (-2 : Int32)) hx hb dX11_stone_51 (by decide) ?_
        obtain rfl := Option.some.inj h
        exact hQ rfl _ _ _ _ dX11_stone_53 hW
      · have h := in_h c_3 h
        refine lv_iload hx hb dX11_stone_38 (lv_at hl 4 rfl) ?_
        refine lv_i2l hx hb dX11_stone_40 rfl ?_
        refine lv_lconst (v := (0 : Int64)) hx hb dX11_stone_41 (by decide) ?_
        refine lv_ldc2 (v := (20 : Int64)) hx hb C.2.2.2.2.2.1 (C.2.2.2.2.1 _ wd_900) dX11_stone_42 ?_
        refine callSI0 C lk_RX11_95 (ctX11_in (Int32.toInt64 x4) (0 : Int64) (20 : Int64) rfl) hW hl rfl ⟨rfl, rfl⟩ ⟨(Nat.le_of_ble_eq_true rfl), (Nat.le_of_ble_eq_true rfl)⟩ ⟨Nat.zero_le _, Nat.zero_le _⟩ rfl (Nat.le_of_ble_eq_true rfl) dX11_stone_45 (fun H locs hW => ?_)
        refine lv_if_ne (tgt := 54) hx hb dX11_stone_48 (by decide) (fun c_4 => ?_) (fun c_4 => ?_)
        · have h := in_h c_4 h
          refine lv_aload_n hx hb dX11_stone_54 rfl (lv_at hl 0 rfl) ?_
          refine getW C fl_RX11_7 hW 0 rfl rfl dX11_stone_55 ?_
          refine lv_iload_n hx hb dX11_stone_58 rfl (lv_at hl 1 rfl) ?_
          refine lv_iload_n hx hb dX11_stone_59 rfl (lv_at hl 2 rfl) ?_
          obtain ⟨g_5, h⟩ := gd_h h
          refine iastW C hW 1 rfl g_5 dX11_stone_60 (fun H locs hW => ?_)
          have hW : HW G A s (wX11_stone cI cZ a_this a_thick a_hollow a_damp a_fresh a_pulls a_fats a_deep a_fine a_pay a_hair a_sightPicture a_sightPull a_sightShows a_pad a_act a_where a_much a_kindMany a_had a_leaves a_mostPay a_canLast a_leastMissed a_kept a_isKept v_stones v_flat v_leastThick v_sights v_padMany v_acts v_pulled v_skyPull v_skyWhose v_badAct v_badWhy v_keptAt v_isWriting (upd v_thick (Int32.toNatClampNeg x1) x2) v_hollow v_damp v_fresh v_pulls v_fats) H locs := hW
          refine lv_aload_n hx hb dX11_stone_61 rfl (lv_at hl 0 rfl) ?_
          refine getW C fl_RX11_13 hW 0 rfl rfl dX11_stone_62 ?_
          refine lv_iload_n hx hb dX11_stone_65 rfl (lv_at hl 1 rfl) ?_
          refine lv_iload_n hx hb dX11_stone_66 rfl (lv_at hl 3 rfl) ?_
          refine iastW C hW 2 rfl g_5 dX11_stone_67 (fun H locs hW => ?_)
          have hW : HW G A s (wX11_stone cI cZ a_this a_thick a_hollow a_damp a_fresh a_pulls a_fats a_deep a_fine a_pay a_hair a_sightPicture a_sightPull a_sightShows a_pad a_act a_where a_much a_kindMany a_had a_leaves a_mostPay a_canLast a_leastMissed a_kept a_isKept v_stones v_flat v_leastThick v_sights v_padMany v_acts v_pulled v_skyPull v_skyWhose v_badAct v_badWhy v_keptAt v_isWriting (upd v_thick (Int32.toNatClampNeg x1) x2) (upd v_hollow (Int32.toNatClampNeg x1) x3) v_damp v_fresh v_pulls v_fats) H locs := hW
          refine lv_aload_n hx hb dX11_stone_68 rfl (lv_at hl 0 rfl) ?_
          refine getW C fl_RX11_16 hW 0 rfl rfl dX11_stone_69 ?_
          refine lv_iload_n hx hb dX11_stone_72 rfl (lv_at hl 1 rfl) ?_
          refine lv_iload hx hb dX11_stone_73 (lv_at hl 4 rfl) ?_
          refine iastW C hW 3 rfl g_5 dX11_stone_75 (fun H locs hW => ?_)
          have hW : HW G A s (wX11_stone cI cZ a_this a_thick a_hollow a_damp a_fresh a_pulls a_fats a_deep a_fine a_pay a_hair a_sightPicture a_sightPull a_sightShows a_pad a_act a_where a_much a_kindMany a_had a_leaves a_mostPay a_canLast a_leastMissed a_kept a_isKept v_stones v_flat v_leastThick v_sights v_padMany v_acts v_pulled v_skyPull v_skyWhose v_badAct v_badWhy v_keptAt v_isWriting (upd v_thick (Int32.toNatClampNeg x1) x2) (upd v_hollow (Int32.toNatClampNeg x1) x3) (upd v_damp (Int32.toNatClampNeg x1) x4) v_fresh v_pulls v_fats) H locs := hW
          refine lv_aload_n hx hb dX11_stone_76 rfl (lv_at hl 0 rfl) ?_
          refine getW C fl_RX11_19 hW 0 rfl rfl dX11_stone_77 ?_
          refine lv_iload_n hx hb dX11_stone_80 rfl (lv_at hl 1 rfl) ?_
          refine lv_bipush (v := (-6 : Int32)) hx hb dX11_stone_81 (by decide) ?_
          refine iastW C hW 4 rfl g_5 dX11_stone_83 (fun H locs hW => ?_)
          have hW : HW G A s (wX11_stone cI cZ a_this a_thick a_hollow a_damp a_fresh a_pulls a_fats a_deep a_fine a_pay a_hair a_sightPicture a_sightPull a_sightShows a_pad a_act a_where a_much a_kindMany a_had a_leaves a_mostPay a_canLast a_leastMissed a_kept a_isKept v_stones v_flat v_leastThick v_sights v_padMany v_acts v_pulled v_skyPull v_skyWhose v_badAct v_badWhy v_keptAt v_isWriting (upd v_thick (Int32.toNatClampNeg x1) x2) (upd v_hollow (Int32.toNatClampNeg x1) x3) (upd v_damp (Int32.toNatClampNeg x1) x4) (upd v_fresh (Int32.toNatClampNeg x1) (-6 : Int32)) v_pulls v_fats) H locs := hW
          refine lv_aload_n hx hb dX11_stone_84 rfl (lv_at hl 0 rfl) ?_
          refine getW C fl_RX11_22 hW 0 rfl rfl dX11_stone_85 ?_
          refine lv_iload_n hx hb dX11_stone_88 rfl (lv_at hl 1 rfl) ?_
          refine lv_iconst (v := (0 : Int32)) hx hb dX11_stone_89 (by decide) ?_
          refine iastW C hW 5 rfl g_5 dX11_stone_90 (fun H locs hW => ?_)
          have hW : HW G A s (wX11_stone cI cZ a_this a_thick a_hollow a_damp a_fresh a_pulls a_fats a_deep a_fine a_pay a_hair a_sightPicture a_sightPull a_sightShows a_pad a_act a_where a_much a_kindMany a_had a_leaves a_mostPay a_canLast a_leastMissed a_kept a_isKept v_stones v_flat v_leastThick v_sights v_padMany v_acts v_pulled v_skyPull v_skyWhose v_badAct v_badWhy v_keptAt v_isWriting (upd v_thick (Int32.toNatClampNeg x1) x2) (upd v_hollow (Int32.toNatClampNeg x1) x3) (upd v_damp (Int32.toNatClampNeg x1) x4) (upd v_fresh (Int32.toNatClampNeg x1) (-6 : Int32)) (upd v_pulls (Int32.toNatClampNeg x1) (0 : Int32)) v_fats) H locs := hW
          refine lv_iconst (v := (0 : Int32)) hx hb dX11_stone_91 (by decide) ?_
          refine lv_istore (lv' := [(5, .int (0 : Int32)), (0, .ref a_this), (1, .int x1), (2, .int x2), (3, .int x3), (4, .int x4)]) hx hb dX11_stone_92 hl (Nat.le_of_ble_eq_true rfl) rfl (fun ls hl => ?_)
          exact wX11_stone_94_ x1 v_stones v_flat v_leastThick v_sights v_padMany v_acts v_pulled v_skyPull v_skyWhose v_badAct v_badWhy v_keptAt v_isWriting (upd v_thick (Int32.toNatClampNeg x1) x2) (upd v_hollow (Int32.toNatClampNeg x1) x3) (upd v_damp (Int32.toNatClampNeg x1) x4) (upd v_fresh (Int32.toNatClampNeg x1) (-6 : Int32)) (upd v_pulls (Int32.toNatClampNeg x1) (0 : Int32)) C hQ 2000 (0 : Int32) v_fats h _ _ hW _ (lv_sub hl [1, 2, 0] rfl)
        · have h := ip_h c_4 h
          refine lv_bipush (v := (-2 : Int32)) hx hb dX11_stone_51 (by decide) ?_
          obtain rfl := Option.some.inj h
          exact hQ rfl _ _ _ _ dX11_stone_53 hW
  · have h := ip_h c_1 h
    refine lv_iconst (v := (-1 : Int32)) hx hb dX11_stone_12 (by decide) ?_
    obtain rfl := Option.some.inj h
    exact hQ rfl _ _ _ _ dX11_stone_13 hW
theorem ctX11_stone {l : Launch} {G : va_G} {cI cZ cO : ClassId} (a_this a_thick a_hollow a_damp a_fresh a_pulls a_fats a_deep a_fine a_pay a_hair a_sightPicture a_sightPull a_sightShows a_pad a_act a_where a_much a_kindMany a_had a_leaves a_mostPay a_canLast a_leastMissed a_kept a_isKept : Nat) (x1 : Int32) (x2 : Int32) (x3 : Int32) (x4 : Int32) (v_stones : Int32) (v_flat : Int32) (v_leastThick : Int32) (v_sights : Int32) (v_padMany : Int32) (v_acts : Int32) (v_pulled : Int32) (v_skyPull : Int32) (v_skyWhose : Int32) (v_badAct : Int32) (v_badWhy : Int32) (v_keptAt : Int32) (v_isWriting : Int32) (v_thick : Nat → Int32) (v_hollow : Nat → Int32) (v_damp : Nat → Int32) (v_fresh : Nat → Int32) (v_pulls : Nat → Int32) (v_fats : Nat → Int32) {res : Int32 × Int32 × (Nat → Int32) × (Nat → Int32) × (Nat → Int32) × (Nat → Int32) × (Nat → Int32) × (Nat → Int32)} (h : fX11_stone x1 x2 x3 x4 v_stones v_thick v_hollow v_damp v_fresh v_pulls v_fats = some res) : MI l G cI cZ cO yX11_stone cX11_stone 6 .int rX11_stone [.ref a_this, .int x1, .int x2, .int x3, .int x4] (wX11_stone cI cZ a_this a_thick a_hollow a_damp a_fresh a_pulls a_fats a_deep a_fine a_pay a_hair a_sightPicture a_sightPull a_sightShows a_pad a_act a_where a_much a_kindMany a_had a_leaves a_mostPay a_canLast a_leastMissed a_kept a_isKept v_stones v_flat v_leastThick v_sights v_padMany v_acts v_pulled v_skyPull v_skyWhose v_badAct v_badWhy v_keptAt v_isWriting v_thick v_hollow v_damp v_fresh v_pulls v_fats) (res.1) (wX11_stone cI cZ a_this a_thick a_hollow a_damp a_fresh a_pulls a_fats a_deep a_fine a_pay a_hair a_sightPicture a_sightPull a_sightShows a_pad a_act a_where a_much a_kindMany a_had a_leaves a_mostPay a_canLast a_leastMissed a_kept a_isKept res.2.1 v_flat v_leastThick v_sights v_padMany v_acts v_pulled v_skyPull v_skyWhose v_badAct v_badWhy v_keptAt v_isWriting res.2.2.1 res.2.2.2.1 res.2.2.2.2.1 res.2.2.2.2.2.1 res.2.2.2.2.2.2.1 res.2.2.2.2.2.2.2) := by
  refine MI.of (by decide) (Nat.le_of_ble_eq_true rfl) ?_
  intro p e s m below meth c A Q C hW hQ ls hl
  exact uX11_stone_0 x1 x2 x3 x4 v_stones v_flat v_leastThick v_sights v_padMany v_acts v_pulled v_skyPull v_skyWhose v_badAct v_badWhy v_keptAt v_isWriting v_thick v_hollow v_damp v_fresh v_pulls v_fats C hQ h _ _ hW _ hl
abbrev wX11_smash (cI cZ : ClassId) (a_this a_thick a_hollow a_damp a_fresh a_pulls a_fats a_deep a_fine a_pay a_hair a_sightPicture a_sightPull a_sightShows a_pad a_act a_where a_much a_kindMany a_had a_leaves a_mostPay a_canLast a_leastMissed a_kept a_isKept : Nat) (v_stones : Int32) (v_flat : Int32) (v_leastThick : Int32) (v_sights : Int32) (v_padMany : Int32) (v_acts : Int32) (v_pulled : Int32) (v_skyPull : Int32) (v_skyWhose : Int32) (v_badAct : Int32) (v_badWhy : Int32) (v_keptAt : Int32) (v_isWriting : Int32) : va_W := [(a_this, .inr (11, [.int v_stones, .int v_flat, .int v_leastThick, .ref a_thick, .ref a_hollow, .ref a_damp, .ref a_fresh, .ref a_pulls, .ref a_fats, .ref a_deep, .ref a_fine, .ref a_pay, .ref a_hair, .ref a_sightPicture, .ref a_sightPull, .ref a_sightShows, .int v_sights, .ref a_pad, .int v_padMany, .ref a_act, .ref a_where, .ref a_much, .int v_acts, .int v_pulled, .ref a_kindMany, .int v_skyPull, .int v_skyWhose, .ref a_had, .ref a_leaves, .int v_badAct, .int v_badWhy, .ref a_mostPay, .ref a_canLast, .ref a_leastMissed, .ref a_kept, .ref a_isKept, .int v_keptAt, .int v_isWriting]))]
abbrev rX11_smash : Room := { frames := 2, cells := 0, slots := 0, locals := 46 }
set_option maxRecDepth 20000 in
theorem uX11_smash_0 {a_this a_thick a_hollow a_damp a_fresh a_pulls a_fats a_deep a_fine a_pay a_hair a_sightPicture a_sightPull a_sightShows a_pad a_act a_where a_much a_kindMany a_had a_leaves a_mostPay a_canLast a_leastMissed a_kept a_isKept : Nat} (x1 : Int32) (v_stones : Int32) (v_flat : Int32) (v_leastThick : Int32) (v_sights : Int32) (v_padMany : Int32) (v_acts : Int32) (v_pulled : Int32) (v_skyPull : Int32) (v_skyWhose : Int32) (v_badAct : Int32) (v_badWhy : Int32) (v_keptAt : Int32) (v_isWriting : Int32) {res : Int32 × Int32} (C : Cx p s m av meth c RX11 cX11_smash 2 (some .int) G cI cZ cO A) (hQ : RI p l e rX11_smash s m av below meth c G A cX11_smash .int Q (res.1) (wX11_smash cI cZ a_this a_thick a_hollow a_damp a_fresh a_pulls a_fats a_deep a_fine a_pay a_hair a_sightPicture a_sightPull a_sightShows a_pad a_act a_where a_much a_kindMany a_had a_leaves a_mostPay a_canLast a_leastMissed a_kept a_isKept res.2 v_flat v_leastThick v_sights v_padMany v_acts v_pulled v_skyPull v_skyWhose v_badAct v_badWhy v_keptAt v_isWriting)) (h : fX11_smash x1 v_stones = some res) (H : Heap) (locs : List Loc) (hW : HW G A s (wX11_smash cI cZ a_this a_thick a_hollow a_damp a_fresh a_pulls a_fats a_deep a_fine a_pay a_hair a_sightPicture a_sightPull a_sightShows a_pad a_act a_where a_much a_kindMany a_had a_leaves a_mostPay a_canLast a_leastMissed a_kept a_isKept v_stones v_flat v_leastThick v_sights v_padMany v_acts v_pulled v_skyPull v_skyWhose v_badAct v_badWhy v_keptAt v_isWriting) H locs) (ls : Array Slot) (hl : lv_has ls 2 [(0, .ref a_this), (1, .int x1)]) : W p l e rX11_smash s m av below meth c H locs 0 0 Q (F0 m 0 ls []) := by
  have hx := C.1
  have hb := C.2.1
  unfold fX11_smash at h
  refine lv_aload_n hx hb dX11_smash_0 rfl (lv_at hl 0 rfl) ?_
  refine lv_iload_n hx hb dX11_smash_1 rfl (lv_at hl 1 rfl) ?_
  refine callVIr [0] C lk_RX11_118 (ctX11_isStone a_this a_thick a_hollow a_damp a_fresh a_pulls a_fats a_deep a_fine a_pay a_hair a_sightPicture a_sightPull a_sightShows a_pad a_act a_where a_much a_kindMany a_had a_leaves a_mostPay a_canLast a_leastMissed a_kept a_isKept x1 v_stones v_flat v_leastThick v_sights v_padMany v_acts v_pulled v_skyPull v_skyWhose v_badAct v_badWhy v_keptAt v_isWriting rfl) hW hl 11 rfl rfl rfl rfl rfl ⟨rfl, rfl⟩ ⟨(Nat.le_of_ble_eq_true rfl), (Nat.le_of_ble_eq_true rfl)⟩ ⟨Nat.zero_le _, Nat.zero_le _⟩ rfl (Nat.le_of_ble_eq_true rfl) dX11_smash_2 (fun H locs hW => ?_)
  refine lv_if_ne (tgt := 10) hx hb dX11_smash_5 (by decide) (fun c_1 => ?_) (fun c_1 => ?_)
  · have h := in_h c_1 h
    refine lv_aload_n hx hb dX11_smash_10 rfl (lv_at hl 0 rfl) ?_
    refine lv_dup hx hb dX11_smash_11 rfl ?_
    refine getW C fl_RX11_99 hW 0 rfl rfl dX11_smash_12 ?_
    refine lv_iconst (v := (1 : Int32)) hx hb dX11_smash_15 (by decide) ?_
    refine lv_iload_n hx hb dX11_smash_16 rfl (lv_at hl 1 rfl) ?_
    refine lv_ishl hx hb dX11_smash_17 ?_
    refine lv_iconst (v := (-1 : Int32)) hx hb dX11_smash_18 (by decide) ?_
    refine lv_ixor hx hb dX11_smash_19 ?_
    refine lv_iand hx hb dX11_smash_20 ?_
    refine lv_topi (fun v_2 ev_2 => ?_)
    have h := lt_h ev_2 h
    refine putW C fp_RX11_99 hW 0 rfl rfl rfl (Nat.le_of_ble_eq_true rfl) dX11_smash_21 (fun H locs hW => ?_)
    have hW : HW G A s (wX11_smash cI cZ a_this a_thick a_hollow a_damp a_fresh a_pulls a_fats a_deep a_fine a_pay a_hair a_sightPicture a_sightPull a_sightShows a_pad a_act a_where a_much a_kindMany a_had a_leaves a_mostPay a_canLast a_leastMissed a_kept a_isKept v_2 v_flat v_leastThick v_sights v_padMany v_acts v_pulled v_skyPull v_skyWhose v_badAct v_badWhy v_keptAt v_isWriting) H locs := hW
    refine lv_aload_n hx hb dX11_smash_24 rfl (lv_at hl 0 rfl) ?_
    refine getW C fl_RX11_99 hW 0 rfl rfl dX11_smash_25 ?_
    obtain ⟨v_3, hv_3, h⟩ := bd_h h
    refine callSI0 C lk_RX11_114 (ctX11_ones v_2 hv_3) hW hl rfl ⟨rfl, rfl⟩ ⟨(Nat.le_of_ble_eq_true rfl), (Nat.le_of_ble_eq_true rfl)⟩ ⟨Nat.zero_le _, Nat.zero_le _⟩ rfl (Nat.le_of_ble_eq_true rfl) dX11_smash_28 (fun H locs hW => ?_)
    obtain rfl := Option.some.inj h
    exact hQ rfl _ _ _ _ dX11_smash_31 hW
  · have h := ip_h c_1 h
    refine lv_iconst (v := (-1 : Int32)) hx hb dX11_smash_8 (by decide) ?_
    obtain rfl := Option.some.inj h
    exact hQ rfl _ _ _ _ dX11_smash_9 hW
theorem ctX11_smash {l : Launch} {G : va_G} {cI cZ cO : ClassId} (a_this a_thick a_hollow a_damp a_fresh a_pulls a_fats a_deep a_fine a_pay a_hair a_sightPicture a_sightPull a_sightShows a_pad a_act a_where a_much a_kindMany a_had a_leaves a_mostPay a_canLast a_leastMissed a_kept a_isKept : Nat) (x1 : Int32) (v_stones : Int32) (v_flat : Int32) (v_leastThick : Int32) (v_sights : Int32) (v_padMany : Int32) (v_acts : Int32) (v_pulled : Int32) (v_skyPull : Int32) (v_skyWhose : Int32) (v_badAct : Int32) (v_badWhy : Int32) (v_keptAt : Int32) (v_isWriting : Int32) {res : Int32 × Int32} (h : fX11_smash x1 v_stones = some res) : MI l G cI cZ cO yX11_smash cX11_smash 2 .int rX11_smash [.ref a_this, .int x1] (wX11_smash cI cZ a_this a_thick a_hollow a_damp a_fresh a_pulls a_fats a_deep a_fine a_pay a_hair a_sightPicture a_sightPull a_sightShows a_pad a_act a_where a_much a_kindMany a_had a_leaves a_mostPay a_canLast a_leastMissed a_kept a_isKept v_stones v_flat v_leastThick v_sights v_padMany v_acts v_pulled v_skyPull v_skyWhose v_badAct v_badWhy v_keptAt v_isWriting) (res.1) (wX11_smash cI cZ a_this a_thick a_hollow a_damp a_fresh a_pulls a_fats a_deep a_fine a_pay a_hair a_sightPicture a_sightPull a_sightShows a_pad a_act a_where a_much a_kindMany a_had a_leaves a_mostPay a_canLast a_leastMissed a_kept a_isKept res.2 v_flat v_leastThick v_sights v_padMany v_acts v_pulled v_skyPull v_skyWhose v_badAct v_badWhy v_keptAt v_isWriting) := by
  refine MI.of (by decide) (Nat.le_of_ble_eq_true rfl) ?_
  intro p e s m below meth c A Q C hW hQ ls hl
  exact uX11_smash_0 x1 v_stones v_flat v_leastThick v_sights v_padMany v_acts v_pulled v_skyPull v_skyWhose v_badAct v_badWhy v_keptAt v_isWriting C hQ h _ _ hW _ hl
abbrev wX11_picture (cI cZ : ClassId) (a_this a_thick a_hollow a_damp a_fresh a_pulls a_fats a_deep a_fine a_pay a_hair a_sightPicture a_sightPull a_sightShows a_pad a_act a_where a_much a_kindMany a_had a_leaves a_mostPay a_canLast a_leastMissed a_kept a_isKept : Nat) (v_stones : Int32) (v_flat : Int32) (v_leastThick : Int32) (v_sights : Int32) (v_padMany : Int32) (v_acts : Int32) (v_pulled : Int32) (v_skyPull : Int32) (v_skyWhose : Int32) (v_badAct : Int32) (v_badWhy : Int32) (v_keptAt : Int32) (v_isWriting : Int32) (v_deep : Nat → Int32) (v_fine : Nat → Int32) (v_pay : Nat → Int32) : va_W := [(a_this, .inr (11, [.int v_stones, .int v_flat, .int v_leastThick, .ref a_thick, .ref a_hollow, .ref a_damp, .ref a_fresh, .ref a_pulls, .ref a_fats, .ref a_deep, .ref a_fine, .ref a_pay, .ref a_hair, .ref a_sightPicture, .ref a_sightPull, .ref a_sightShows, .int v_sights, .ref a_pad, .int v_padMany, .ref a_act, .ref a_where, .ref a_much, .int v_acts, .int v_pulled, .ref a_kindMany, .int v_skyPull, .int v_skyWhose, .ref a_had, .ref a_leaves, .int v_badAct, .int v_badWhy, .ref a_mostPay, .ref a_canLast, .ref a_leastMissed, .ref a_kept, .ref a_isKept, .int v_keptAt, .int v_isWriting])), (a_deep, .inl (cI, 8, .inl v_deep)), (a_fine, .inl (cI, 8, .inl v_fine)), (a_pay, .inl (cI, 8, .inl v_pay))]
abbrev rX11_picture : Room := { frames := 2, cells := 0, slots := 0, locals := 45 }
set_option maxRecDepth 20000 in
theorem uX11_picture_0 {a_this a_thick a_hollow a_damp a_fresh a_pulls a_fats a_deep a_fine a_pay a_hair a_sightPicture a_sightPull a_sightShows a_pad a_act a_where a_much a_kindMany a_had a_leaves a_mostPay a_canLast a_leastMissed a_kept a_isKept : Nat} (x1 : Int32) (x2 : Int32) (x3 : Int32) (x4 : Int32) (v_stones : Int32) (v_flat : Int32) (v_leastThick : Int32) (v_sights : Int32) (v_padMany : Int32) (v_acts : Int32) (v_pulled : Int32) (v_skyPull : Int32) (v_skyWhose : Int32) (v_badAct : Int32) (v_badWhy : Int32) (v_keptAt : Int32) (v_isWriting : Int32) (v_deep : Nat → Int32) (v_fine : Nat → Int32) (v_pay : Nat → Int32) {res : Int32 × (Nat → Int32) × (Nat → Int32) × (Nat → Int32)} (C : Cx p s m av meth c RX11 cX11_picture 6 (some .int) G cI cZ cO A) (hQ : RI p l e rX11_picture s m av below meth c G A cX11_picture .int Q (res.1) (wX11_picture cI cZ a_this a_thick a_hollow a_damp a_fresh a_pulls a_fats a_deep a_fine a_pay a_hair a_sightPicture a_sightPull a_sightShows a_pad a_act a_where a_much a_kindMany a_had a_leaves a_mostPay a_canLast a_leastMissed a_kept a_isKept v_stones v_flat v_leastThick v_sights v_padMany v_acts v_pulled v_skyPull v_skyWhose v_badAct v_badWhy v_keptAt v_isWriting res.2.1 res.2.2.1 res.2.2.2)) (h : fX11_picture x1 x2 x3 x4 v_deep v_fine v_pay = some res) (H : Heap) (locs : List Loc) (hW : HW G A s (wX11_picture cI cZ a_this a_thick a_hollow a_damp a_fresh a_pulls a_fats a_deep a_fine a_pay a_hair a_sightPicture a_sightPull a_sightShows a_pad a_act a_where a_much a_kindMany a_had a_leaves a_mostPay a_canLast a_leastMissed a_kept a_isKept v_stones v_flat v_leastThick v_sights v_padMany v_acts v_pulled v_skyPull v_skyWhose v_badAct v_badWhy v_keptAt v_isWriting v_deep v_fine v_pay) H locs) (ls : Array Slot) (hl : lv_has ls 6 [(0, .ref a_this), (1, .int x1), (2, .int x2), (3, .int x3), (4, .int x4)]) : W p l e rX11_picture s m av below meth c H locs 0 0 Q (F0 m 0 ls []) := by
  have hx := C.1
  have hb := C.2.1
  unfold fX11_picture at h
  refine lv_iload_n hx hb dX11_picture_0 rfl (lv_at hl 1 rfl) ?_
  refine callSI0 C lk_RX11_122 (ctX11_isPicture x1 rfl) hW hl rfl ⟨rfl, rfl⟩ ⟨(Nat.le_of_ble_eq_true rfl), (Nat.le_of_ble_eq_true rfl)⟩ ⟨Nat.zero_le _, Nat.zero_le _⟩ rfl (Nat.le_of_ble_eq_true rfl) dX11_picture_1 (fun H locs hW => ?_)
  refine lv_if_ne (tgt := 9) hx hb dX11_picture_4 (by decide) (fun c_1 => ?_) (fun c_1 => ?_)
  · have h := in_h c_1 h
    refine lv_iload_n hx hb dX11_picture_9 rfl (lv_at hl 2 rfl) ?_
    refine lv_i2l hx hb dX11_picture_10 rfl ?_
    refine lv_lconst (v := (1 : Int64)) hx hb dX11_picture_11 (by decide) ?_
    refine lv_ldc2 (v := (60 : Int64)) hx hb C.2.2.2.2.2.1 (C.2.2.2.2.1 _ wd_923) dX11_picture_12 ?_
    refine callSI0 C lk_RX11_95 (ctX11_in (Int32.toInt64 x2) (1 : Int64) (60 : Int64) rfl) hW hl rfl ⟨rfl, rfl⟩ ⟨(Nat.le_of_ble_eq_true rfl), (Nat.le_of_ble_eq_true rfl)⟩ ⟨Nat.zero_le _, Nat.zero_le _⟩ rfl (Nat.le_of_ble_eq_true rfl) dX11_picture_15 (fun H locs hW => ?_)
    refine lv_if_eq (tgt := 46) hx hb dX11_picture_18 (by decide) (fun c_2 => ?_) (fun c_2 => ?_)
    · have h := ip_h c_2 h
      refine lv_bipush (v := (-2 : Int32)) hx hb dX11_picture_46 (by decide) ?_
      obtain rfl := Option.some.inj h
      exact hQ rfl _ _ _ _ dX11_picture_48 hW
    · have h := in_h c_2 h
      refine lv_iload_n hx hb dX11_picture_21 rfl (lv_at hl 3 rfl) ?_
      refine lv_i2l hx hb dX11_picture_22 rfl ?_
      refine lv_lconst (v := (1 : Int64)) hx hb dX11_picture_23 (by decide) ?_
      refine lv_ldc2 (v := (9 : Int64)) hx hb C.2.2.2.2.2.1 (C.2.2.2.2.1 _ wd_924) dX11_picture_24 ?_
      refine callSI0 C lk_RX11_95 (ctX11_in (Int32.toInt64 x3) (1 : Int64) (9 : Int64) rfl) hW hl rfl ⟨rfl, rfl⟩ ⟨(Nat.le_of_ble_eq_true rfl), (Nat.le_of_ble_eq_true rfl)⟩ ⟨Nat.zero_le _, Nat.zero_le _⟩ rfl (Nat.le_of_ble_eq_true rfl) dX11_picture_27 (fun H locs hW => ?_)
      refine lv_if_eq (tgt := 46) hx hb dX11_picture_30 (by decide) (fun c_3 => ?_) (fun c_3 => ?_)
      · have h := ip_h c_3 h
        refine lv_bipush (v := (-2 : Int32)) hx hb dX11_picture_46 (by decide) ?_
        obtain rfl := Option.some.inj h
        exact hQ rfl _ _ _ _ dX11_picture_48 hW
      · have h := in_h c_3 h
        refine lv_iload hx hb dX11_picture_33 (lv_at hl 4 rfl) ?_
        refine lv_i2l hx hb dX11_picture_35 rfl ?_
        refine lv_lconst (v := (0 : Int64)) hx hb dX11_picture_36 (by decide) ?_
        refine lv_ldc2 (v := (999 : Int64)) hx hb C.2.2.2.2.2.1 (C.2.2.2.2.1 _ wd_925) dX11_picture_37 ?_
        refine callSI0 C lk_RX11_95 (ctX11_in (Int32.toInt64 x4) (0 : Int64) (999 : Int64) rfl) hW hl rfl ⟨rfl, rfl⟩ ⟨(Nat.le_of_ble_eq_true rfl), (Nat.le_of_ble_eq_true rfl)⟩ ⟨Nat.zero_le _, Nat.zero_le _⟩ rfl (Nat.le_of_ble_eq_true rfl) dX11_picture_40 (fun H locs hW => ?_)
        refine lv_if_ne (tgt := 49) hx hb dX11_picture_43 (by decide) (fun c_4 => ?_) (fun c_4 => ?_)
        · have h := in_h c_4 h
          refine lv_aload_n hx hb dX11_picture_49 rfl (lv_at hl 0 rfl) ?_
          refine getW C fl_RX11_28 hW 0 rfl rfl dX11_picture_50 ?_
          refine lv_iload_n hx hb dX11_picture_53 rfl (lv_at hl 1 rfl) ?_
          obtain ⟨g_5, h⟩ := gd_h h
          refine ialdW C hW 1 rfl g_5 dX11_picture_54 ?_
          refine lv_topi (fun v_6 ev_6 => ?_)
          have h := lt_h ev_6 h
          refine lv_istore (lv' := [(5, .int v_6), (0, .ref a_this), (1, .int x1), (2, .int x2), (3, .int x3), (4, .int x4)]) hx hb dX11_picture_55 hl (Nat.le_of_ble_eq_true rfl) rfl (fun ls hl => ?_)
          refine lv_aload_n hx hb dX11_picture_57 rfl (lv_at hl 1 rfl) ?_
          refine getW C fl_RX11_28 hW 0 rfl rfl dX11_picture_58 ?_
          refine lv_iload_n hx hb dX11_picture_61 rfl (lv_at hl 2 rfl) ?_
          refine lv_iload_n hx hb dX11_picture_62 rfl (lv_at hl 3 rfl) ?_
          refine iastW C hW 1 rfl g_5 dX11_picture_63 (fun H locs hW => ?_)
          have hW : HW G A s (wX11_picture cI cZ a_this a_thick a_hollow a_damp a_fresh a_pulls a_fats a_deep a_fine a_pay a_hair a_sightPicture a_sightPull a_sightShows a_pad a_act a_where a_much a_kindMany a_had a_leaves a_mostPay a_canLast a_leastMissed a_kept a_isKept v_stones v_flat v_leastThick v_sights v_padMany v_acts v_pulled v_skyPull v_skyWhose v_badAct v_badWhy v_keptAt v_isWriting (upd v_deep (Int32.toNatClampNeg x1) x2) v_fine v_pay) H locs := hW
          refine lv_aload_n hx hb dX11_picture_64 rfl (lv_at hl 1 rfl) ?_
          refine getW C fl_RX11_31 hW 0 rfl rfl dX11_picture_65 ?_
          refine lv_iload_n hx hb dX11_picture_68 rfl (lv_at hl 2 rfl) ?_
          refine lv_iload_n hx hb dX11_picture_69 rfl (lv_at hl 4 rfl) ?_
          refine iastW C hW 2 rfl g_5 dX11_picture_70 (fun H locs hW => ?_)
          have hW : HW G A s (wX11_picture cI cZ a_this a_thick a_hollow a_damp a_fresh a_pulls a_fats a_deep a_fine a_pay a_hair a_sightPicture a_sightPull a_sightShows a_pad a_act a_where a_much a_kindMany a_had a_leaves a_mostPay a_canLast a_leastMissed a_kept a_isKept v_stones v_flat v_leastThick v_sights v_padMany v_acts v_pulled v_skyPull v_skyWhose v_badAct v_badWhy v_keptAt v_isWriting (upd v_deep (Int32.toNatClampNeg x1) x2) (upd v_fine (Int32.toNatClampNeg x1) x3) v_pay) H locs := hW
          refine lv_aload_n hx hb dX11_picture_71 rfl (lv_at hl 1 rfl) ?_
          refine getW C fl_RX11_34 hW 0 rfl rfl dX11_picture_72 ?_
          refine lv_iload_n hx hb dX11_picture_75 rfl (lv_at hl 2 rfl) ?_
          refine lv_iload hx hb dX11_picture_76 (lv_at hl 5 rfl) ?_
          refine iastW C hW 3 rfl g_5 dX11_picture_78 (fun H locs hW => ?_)
          have hW : HW G A s (wX11_picture cI cZ a_this a_thick a_hollow a_damp a_fresh a_pulls a_fats a_deep a_fine a_pay a_hair a_sightPicture a_sightPull a_sightShows a_pad a_act a_where a_much a_kindMany a_had a_leaves a_mostPay a_canLast a_leastMissed a_kept a_isKept v_stones v_flat v_leastThick v_sights v_padMany v_acts v_pulled v_skyPull v_skyWhose v_badAct v_badWhy v_keptAt v_isWriting (upd v_deep (Int32.toNatClampNeg x1) x2) (upd v_fine (Int32.toNatClampNeg x1) x3) (upd v_pay (Int32.toNatClampNeg x1) x4)) H locs := hW
          refine lv_iload hx hb dX11_picture_79 (lv_at hl 0 rfl) ?_
          obtain rfl := Option.some.inj h
          exact hQ rfl _ _ _ _ dX11_picture_81 hW
        · have h := ip_h c_4 h
          refine lv_bipush (v := (-2 : Int32)) hx hb dX11_picture_46 (by decide) ?_
          obtain rfl := Option.some.inj h
          exact hQ rfl _ _ _ _ dX11_picture_48 hW
  · have h := ip_h c_1 h
    refine lv_iconst (v := (-1 : Int32)) hx hb dX11_picture_7 (by decide) ?_
    obtain rfl := Option.some.inj h
    exact hQ rfl _ _ _ _ dX11_picture_8 hW
theorem ctX11_picture {l : Launch} {G : va_G} {cI cZ cO : ClassId} (a_this a_thick a_hollow a_damp a_fresh a_pulls a_fats a_deep a_fine a_pay a_hair a_sightPicture a_sightPull a_sightShows a_pad a_act a_where a_much a_kindMany a_had a_leaves a_mostPay a_canLast a_leastMissed a_kept a_isKept : Nat) (x1 : Int32) (x2 : Int32) (x3 : Int32) (x4 : Int32) (v_stones : Int32) (v_flat : Int32) (v_leastThick : Int32) (v_sights : Int32) (v_padMany : Int32) (v_acts : Int32) (v_pulled : Int32) (v_skyPull : Int32) (v_skyWhose : Int32) (v_badAct : Int32) (v_badWhy : Int32) (v_keptAt : Int32) (v_isWriting : Int32) (v_deep : Nat → Int32) (v_fine : Nat → Int32) (v_pay : Nat → Int32) {res : Int32 × (Nat → Int32) × (Nat → Int32) × (Nat → Int32)} (h : fX11_picture x1 x2 x3 x4 v_deep v_fine v_pay = some res) : MI l G cI cZ cO yX11_picture cX11_picture 6 .int rX11_picture [.ref a_this, .int x1, .int x2, .int x3, .int x4] (wX11_picture cI cZ a_this a_thick a_hollow a_damp a_fresh a_pulls a_fats a_deep a_fine a_pay a_hair a_sightPicture a_sightPull a_sightShows a_pad a_act a_where a_much a_kindMany a_had a_leaves a_mostPay a_canLast a_leastMissed a_kept a_isKept v_stones v_flat v_leastThick v_sights v_padMany v_acts v_pulled v_skyPull v_skyWhose v_badAct v_badWhy v_keptAt v_isWriting v_deep v_fine v_pay) (res.1) (wX11_picture cI cZ a_this a_thick a_hollow a_damp a_fresh a_pulls a_fats a_deep a_fine a_pay a_hair a_sightPicture a_sightPull a_sightShows a_pad a_act a_where a_much a_kindMany a_had a_leaves a_mostPay a_canLast a_leastMissed a_kept a_isKept v_stones v_flat v_leastThick v_sights v_padMany v_acts v_pulled v_skyPull v_skyWhose v_badAct v_badWhy v_keptAt v_isWriting res.2.1 res.2.2.1 res.2.2.2) := by
  refine MI.of (by decide) (Nat.le_of_ble_eq_true rfl) ?_
  intro p e s m below meth c A Q C hW hQ ls hl
  exact uX11_picture_0 x1 x2 x3 x4 v_stones v_flat v_leastThick v_sights v_padMany v_acts v_pulled v_skyPull v_skyWhose v_badAct v_badWhy v_keptAt v_isWriting v_deep v_fine v_pay C hQ h _ _ hW _ hl
abbrev wX11_set (cI cZ : ClassId) (a_this a_thick a_hollow a_damp a_fresh a_pulls a_fats a_deep a_fine a_pay a_hair a_sightPicture a_sightPull a_sightShows a_pad a_act a_where a_much a_kindMany a_had a_leaves a_mostPay a_canLast a_leastMissed a_kept a_isKept : Nat) (v_stones : Int32) (v_flat : Int32) (v_leastThick : Int32) (v_sights : Int32) (v_padMany : Int32) (v_acts : Int32) (v_pulled : Int32) (v_skyPull : Int32) (v_skyWhose : Int32) (v_badAct : Int32) (v_badWhy : Int32) (v_keptAt : Int32) (v_isWriting : Int32) : va_W := [(a_this, .inr (11, [.int v_stones, .int v_flat, .int v_leastThick, .ref a_thick, .ref a_hollow, .ref a_damp, .ref a_fresh, .ref a_pulls, .ref a_fats, .ref a_deep, .ref a_fine, .ref a_pay, .ref a_hair, .ref a_sightPicture, .ref a_sightPull, .ref a_sightShows, .int v_sights, .ref a_pad, .int v_padMany, .ref a_act, .ref a_where, .ref a_much, .int v_acts, .int v_pulled, .ref a_kindMany, .int v_skyPull, .int v_skyWhose, .ref a_had, .ref a_leaves, .int v_badAct, .int v_badWhy, .ref a_mostPay, .ref a_canLast, .ref a_leastMissed, .ref a_kept, .ref a_isKept, .int v_keptAt, .int v_isWriting]))]
abbrev rX11_set : Room := { frames := 1, cells := 0, slots := 0, locals := 25 }
set_option maxRecDepth 20000 in
theorem uX11_set_50 {a_this a_thick a_hollow a_damp a_fresh a_pulls a_fats a_deep a_fine a_pay a_hair a_sightPicture a_sightPull a_sightShows a_pad a_act a_where a_much a_kindMany a_had a_leaves a_mostPay a_canLast a_leastMissed a_kept a_isKept : Nat} (x1 : Int32) (x2 : Int32) (s0 : Int32) (v_stones : Int32) (v_flat : Int32) (v_leastThick : Int32) (v_sights : Int32) (v_padMany : Int32) (v_acts : Int32) (v_pulled : Int32) (v_skyPull : Int32) (v_skyWhose : Int32) (v_badAct : Int32) (v_badWhy : Int32) (v_keptAt : Int32) (v_isWriting : Int32) {res : Int32 × Int32 × Int32} (C : Cx p s m av meth c RX11 cX11_set 4 (some .int) G cI cZ cO A) (hQ : RI p l e rX11_set s m av below meth c G A cX11_set .int Q (res.1) (wX11_set cI cZ a_this a_thick a_hollow a_damp a_fresh a_pulls a_fats a_deep a_fine a_pay a_hair a_sightPicture a_sightPull a_sightShows a_pad a_act a_where a_much a_kindMany a_had a_leaves a_mostPay a_canLast a_leastMissed a_kept a_isKept v_stones res.2.1 res.2.2 v_sights v_padMany v_acts v_pulled v_skyPull v_skyWhose v_badAct v_badWhy v_keptAt v_isWriting)) (h : fX11_set_50 x1 x2 s0 v_flat v_leastThick = res) (H : Heap) (locs : List Loc) (hW : HW G A s (wX11_set cI cZ a_this a_thick a_hollow a_damp a_fresh a_pulls a_fats a_deep a_fine a_pay a_hair a_sightPicture a_sightPull a_sightShows a_pad a_act a_where a_much a_kindMany a_had a_leaves a_mostPay a_canLast a_leastMissed a_kept a_isKept v_stones v_flat v_leastThick v_sights v_padMany v_acts v_pulled v_skyPull v_skyWhose v_badAct v_badWhy v_keptAt v_isWriting) H locs) (ls : Array Slot) (hl : lv_has ls 4 [(0, .ref a_this), (1, .int x1), (2, .int x2)]) : W p l e rX11_set s m av below meth c H locs 0 0 Q (F0 m 50 ls [.int s0]) := by
  have hx := C.1
  have hb := C.2.1
  unfold fX11_set_50 at h
  refine lv_istore_n (lv' := [(3, .int s0), (0, .ref a_this), (1, .int x1), (2, .int x2)]) hx hb dX11_set_50 rfl hl (Nat.le_of_ble_eq_true rfl) rfl (fun ls hl => ?_)
  refine lv_aload_n hx hb dX11_set_51 rfl (lv_at hl 1 rfl) ?_
  refine lv_iload_n hx hb dX11_set_52 rfl (lv_at hl 2 rfl) ?_
  refine lv_if_ne (tgt := 60) hx hb dX11_set_53 (by decide) (fun c_5 => ?_) (fun c_5 => ?_)
  · have h := in_h c_5 h
    refine lv_aload_n hx hb dX11_set_60 rfl (lv_at hl 1 rfl) ?_
    refine getW C fl_RX11_86 hW 0 rfl rfl dX11_set_61 ?_
    refine putW C fp_RX11_86 hW 0 rfl rfl rfl (Nat.le_of_ble_eq_true rfl) dX11_set_64 (fun H locs hW => ?_)
    have hW : HW G A s (wX11_set cI cZ a_this a_thick a_hollow a_damp a_fresh a_pulls a_fats a_deep a_fine a_pay a_hair a_sightPicture a_sightPull a_sightShows a_pad a_act a_where a_much a_kindMany a_had a_leaves a_mostPay a_canLast a_leastMissed a_kept a_isKept v_stones v_flat v_leastThick v_sights v_padMany v_acts v_pulled v_skyPull v_skyWhose v_badAct v_badWhy v_keptAt v_isWriting) H locs := hW
    refine lv_aload_n hx hb dX11_set_67 rfl (lv_at hl 1 rfl) ?_
    refine lv_iload_n hx hb dX11_set_68 rfl (lv_at hl 2 rfl) ?_
    refine lv_iconst (v := (1 : Int32)) hx hb dX11_set_69 (by decide) ?_
    refine lv_icmp_ne (tgt := 77) hx hb dX11_set_70 (by decide) (fun c_6 => ?_) (fun c_6 => ?_)
    · have h := in_h c_6 h
      refine lv_aload_n hx hb dX11_set_77 rfl (lv_at hl 1 rfl) ?_
      refine getW C fl_RX11_90 hW 0 rfl rfl dX11_set_78 ?_
      refine putW C fp_RX11_90 hW 0 rfl rfl rfl (Nat.le_of_ble_eq_true rfl) dX11_set_81 (fun H locs hW => ?_)
      have hW : HW G A s (wX11_set cI cZ a_this a_thick a_hollow a_damp a_fresh a_pulls a_fats a_deep a_fine a_pay a_hair a_sightPicture a_sightPull a_sightShows a_pad a_act a_where a_much a_kindMany a_had a_leaves a_mostPay a_canLast a_leastMissed a_kept a_isKept v_stones v_flat v_leastThick v_sights v_padMany v_acts v_pulled v_skyPull v_skyWhose v_badAct v_badWhy v_keptAt v_isWriting) H locs := hW
      refine lv_iload_n hx hb dX11_set_84 rfl (lv_at hl 0 rfl) ?_
      subst h
      exact hQ rfl _ _ _ _ dX11_set_85 hW
    · have h := ip_h c_6 h
      refine lv_iload_n hx hb dX11_set_73 rfl (lv_at hl 3 rfl) ?_
      refine lv_goto (tgt := 81) hx hb dX11_set_74 (by decide) ?_
      refine putW C fp_RX11_90 hW 0 rfl rfl rfl (Nat.le_of_ble_eq_true rfl) dX11_set_81 (fun H locs hW => ?_)
      have hW : HW G A s (wX11_set cI cZ a_this a_thick a_hollow a_damp a_fresh a_pulls a_fats a_deep a_fine a_pay a_hair a_sightPicture a_sightPull a_sightShows a_pad a_act a_where a_much a_kindMany a_had a_leaves a_mostPay a_canLast a_leastMissed a_kept a_isKept v_stones v_flat x2 v_sights v_padMany v_acts v_pulled v_skyPull v_skyWhose v_badAct v_badWhy v_keptAt v_isWriting) H locs := hW
      refine lv_iload_n hx hb dX11_set_84 rfl (lv_at hl 0 rfl) ?_
      subst h
      exact hQ rfl _ _ _ _ dX11_set_85 hW
  · have h := ip_h c_5 h
    refine lv_iload_n hx hb dX11_set_56 rfl (lv_at hl 3 rfl) ?_
    refine lv_goto (tgt := 64) hx hb dX11_set_57 (by decide) ?_
    refine putW C fp_RX11_86 hW 0 rfl rfl rfl (Nat.le_of_ble_eq_true rfl) dX11_set_64 (fun H locs hW => ?_)
    have hW : HW G A s (wX11_set cI cZ a_this a_thick a_hollow a_damp a_fresh a_pulls a_fats a_deep a_fine a_pay a_hair a_sightPicture a_sightPull a_sightShows a_pad a_act a_where a_much a_kindMany a_had a_leaves a_mostPay a_canLast a_leastMissed a_kept a_isKept v_stones x2 v_leastThick v_sights v_padMany v_acts v_pulled v_skyPull v_skyWhose v_badAct v_badWhy v_keptAt v_isWriting) H locs := hW
    refine lv_aload_n hx hb dX11_set_67 rfl (lv_at hl 1 rfl) ?_
    refine lv_iload_n hx hb dX11_set_68 rfl (lv_at hl 2 rfl) ?_
    refine lv_iconst (v := (1 : Int32)) hx hb dX11_set_69 (by decide) ?_
    refine lv_icmp_ne (tgt := 77) hx hb dX11_set_70 (by decide) (fun c_7 => ?_) (fun c_7 => ?_)
    · have h := in_h c_7 h
      refine lv_aload_n hx hb dX11_set_77 rfl (lv_at hl 1 rfl) ?_
      refine getW C fl_RX11_90 hW 0 rfl rfl dX11_set_78 ?_
      refine putW C fp_RX11_90 hW 0 rfl rfl rfl (Nat.le_of_ble_eq_true rfl) dX11_set_81 (fun H locs hW => ?_)
      have hW : HW G A s (wX11_set cI cZ a_this a_thick a_hollow a_damp a_fresh a_pulls a_fats a_deep a_fine a_pay a_hair a_sightPicture a_sightPull a_sightShows a_pad a_act a_where a_much a_kindMany a_had a_leaves a_mostPay a_canLast a_leastMissed a_kept a_isKept v_stones x2 v_leastThick v_sights v_padMany v_acts v_pulled v_skyPull v_skyWhose v_badAct v_badWhy v_keptAt v_isWriting) H locs := hW
      refine lv_iload_n hx hb dX11_set_84 rfl (lv_at hl 0 rfl) ?_
      subst h
      exact hQ rfl _ _ _ _ dX11_set_85 hW
    · have h := ip_h c_7 h
      refine lv_iload_n hx hb dX11_set_73 rfl (lv_at hl 3 rfl) ?_
      refine lv_goto (tgt := 81) hx hb dX11_set_74 (by decide) ?_
      refine putW C fp_RX11_90 hW 0 rfl rfl rfl (Nat.le_of_ble_eq_true rfl) dX11_set_81 (fun H locs hW => ?_)
      have hW : HW G A s (wX11_set cI cZ a_this a_thick a_hollow a_damp a_fresh a_pulls a_fats a_deep a_fine a_pay a_hair a_sightPicture a_sightPull a_sightShows a_pad a_act a_where a_much a_kindMany a_had a_leaves a_mostPay a_canLast a_leastMissed a_kept a_isKept v_stones x2 x2 v_sights v_padMany v_acts v_pulled v_skyPull v_skyWhose v_badAct v_badWhy v_keptAt v_isWriting) H locs := hW
      refine lv_iload_n hx hb dX11_set_84 rfl (lv_at hl 0 rfl) ?_
      subst h
      exact hQ rfl _ _ _ _ dX11_set_85 hW
set_option maxRecDepth 20000 in
theorem uX11_set_0 {a_this a_thick a_hollow a_damp a_fresh a_pulls a_fats a_deep a_fine a_pay a_hair a_sightPicture a_sightPull a_sightShows a_pad a_act a_where a_much a_kindMany a_had a_leaves a_mostPay a_canLast a_leastMissed a_kept a_isKept : Nat} (x1 : Int32) (x2 : Int32) (v_stones : Int32) (v_flat : Int32) (v_leastThick : Int32) (v_sights : Int32) (v_padMany : Int32) (v_acts : Int32) (v_pulled : Int32) (v_skyPull : Int32) (v_skyWhose : Int32) (v_badAct : Int32) (v_badWhy : Int32) (v_keptAt : Int32) (v_isWriting : Int32) {res : Int32 × Int32 × Int32} (C : Cx p s m av meth c RX11 cX11_set 4 (some .int) G cI cZ cO A) (hQ : RI p l e rX11_set s m av below meth c G A cX11_set .int Q (res.1) (wX11_set cI cZ a_this a_thick a_hollow a_damp a_fresh a_pulls a_fats a_deep a_fine a_pay a_hair a_sightPicture a_sightPull a_sightShows a_pad a_act a_where a_much a_kindMany a_had a_leaves a_mostPay a_canLast a_leastMissed a_kept a_isKept v_stones res.2.1 res.2.2 v_sights v_padMany v_acts v_pulled v_skyPull v_skyWhose v_badAct v_badWhy v_keptAt v_isWriting)) (h : fX11_set x1 x2 v_flat v_leastThick = res) (H : Heap) (locs : List Loc) (hW : HW G A s (wX11_set cI cZ a_this a_thick a_hollow a_damp a_fresh a_pulls a_fats a_deep a_fine a_pay a_hair a_sightPicture a_sightPull a_sightShows a_pad a_act a_where a_much a_kindMany a_had a_leaves a_mostPay a_canLast a_leastMissed a_kept a_isKept v_stones v_flat v_leastThick v_sights v_padMany v_acts v_pulled v_skyPull v_skyWhose v_badAct v_badWhy v_keptAt v_isWriting) H locs) (ls : Array Slot) (hl : lv_has ls 4 [(0, .ref a_this), (1, .int x1), (2, .int x2)]) : W p l e rX11_set s m av below meth c H locs 0 0 Q (F0 m 0 ls []) := by
  have hx := C.1
  have hb := C.2.1
  unfold fX11_set at h
  refine lv_iload_n hx hb dX11_set_0 rfl (lv_at hl 1 rfl) ?_
  refine lv_i2l hx hb dX11_set_1 rfl ?_
  refine lv_lconst (v := (0 : Int64)) hx hb dX11_set_2 (by decide) ?_
  refine lv_lconst (v := (1 : Int64)) hx hb dX11_set_3 (by decide) ?_
  refine callSI0 C lk_RX11_95 (ctX11_in (Int32.toInt64 x1) (0 : Int64) (1 : Int64) rfl) hW hl rfl ⟨rfl, rfl⟩ ⟨(Nat.le_of_ble_eq_true rfl), (Nat.le_of_ble_eq_true rfl)⟩ ⟨Nat.zero_le _, Nat.zero_le _⟩ rfl (Nat.le_of_ble_eq_true rfl) dX11_set_4 (fun H locs hW => ?_)
  refine lv_if_eq (tgt := 32) hx hb dX11_set_7 (by decide) (fun c_1 => ?_) (fun c_1 => ?_)
  · have h := ip_h c_1 h
    refine lv_bipush (v := (-2 : Int32)) hx hb dX11_set_32 (by decide) ?_
    subst h
    exact hQ rfl _ _ _ _ dX11_set_34 hW
  · have h := in_h c_1 h
    refine lv_iload_n hx hb dX11_set_10 rfl (lv_at hl 2 rfl) ?_
    refine lv_i2l hx hb dX11_set_11 rfl ?_
    refine lv_lconst (v := (0 : Int64)) hx hb dX11_set_12 (by decide) ?_
    refine lv_iload_n hx hb dX11_set_13 rfl (lv_at hl 1 rfl) ?_
    refine lv_if_ne (tgt := 23) hx hb dX11_set_14 (by decide) (fun c_2 => ?_) (fun c_2 => ?_)
    · have h := in_h c_2 h
      refine lv_ldc2 (v := (9999 : Int64)) hx hb C.2.2.2.2.2.1 (C.2.2.2.2.1 _ wd_898) dX11_set_23 ?_
      refine callSI0 C lk_RX11_95 (ctX11_in (Int32.toInt64 x2) (0 : Int64) (9999 : Int64) rfl) hW hl rfl ⟨rfl, rfl⟩ ⟨(Nat.le_of_ble_eq_true rfl), (Nat.le_of_ble_eq_true rfl)⟩ ⟨Nat.zero_le _, Nat.zero_le _⟩ rfl (Nat.le_of_ble_eq_true rfl) dX11_set_26 (fun H locs hW => ?_)
      refine lv_if_ne (tgt := 35) hx hb dX11_set_29 (by decide) (fun c_3 => ?_) (fun c_3 => ?_)
      · have h := in_h c_3 h
        refine lv_iload_n hx hb dX11_set_35 rfl (lv_at hl 1 rfl) ?_
        refine lv_if_ne (tgt := 46) hx hb dX11_set_36 (by decide) (fun c_4 => ?_) (fun c_4 => ?_)
        · have h := in_h c_4 h
          refine lv_aload_n hx hb dX11_set_46 rfl (lv_at hl 0 rfl) ?_
          refine getW C fl_RX11_90 hW 0 rfl rfl dX11_set_47 ?_
          exact uX11_set_50 x1 x2 v_leastThick v_stones v_flat v_leastThick v_sights v_padMany v_acts v_pulled v_skyPull v_skyWhose v_badAct v_badWhy v_keptAt v_isWriting C hQ h _ _ hW _ (lv_sub hl [0, 1, 2] rfl)
        · have h := ip_h c_4 h
          refine lv_aload_n hx hb dX11_set_39 rfl (lv_at hl 0 rfl) ?_
          refine getW C fl_RX11_86 hW 0 rfl rfl dX11_set_40 ?_
          refine lv_goto (tgt := 50) hx hb dX11_set_43 (by decide) ?_
          exact uX11_set_50 x1 x2 v_flat v_stones v_flat v_leastThick v_sights v_padMany v_acts v_pulled v_skyPull v_skyWhose v_badAct v_badWhy v_keptAt v_isWriting C hQ h _ _ hW _ (lv_sub hl [0, 1, 2] rfl)
      · have h := ip_h c_3 h
        refine lv_bipush (v := (-2 : Int32)) hx hb dX11_set_32 (by decide) ?_
        subst h
        exact hQ rfl _ _ _ _ dX11_set_34 hW
    · have h := ip_h c_2 h
      refine lv_ldc2 (v := (99 : Int64)) hx hb C.2.2.2.2.2.1 (C.2.2.2.2.1 _ wd_899) dX11_set_17 ?_
      refine lv_goto (tgt := 26) hx hb dX11_set_20 (by decide) ?_
      refine callSI0 C lk_RX11_95 (ctX11_in (Int32.toInt64 x2) (0 : Int64) (99 : Int64) rfl) hW hl rfl ⟨rfl, rfl⟩ ⟨(Nat.le_of_ble_eq_true rfl), (Nat.le_of_ble_eq_true rfl)⟩ ⟨Nat.zero_le _, Nat.zero_le _⟩ rfl (Nat.le_of_ble_eq_true rfl) dX11_set_26 (fun H locs hW => ?_)
      refine lv_if_ne (tgt := 35) hx hb dX11_set_29 (by decide) (fun c_8 => ?_) (fun c_8 => ?_)
      · have h := in_h c_8 h
        refine lv_iload_n hx hb dX11_set_35 rfl (lv_at hl 1 rfl) ?_
        refine lv_if_ne (tgt := 46) hx hb dX11_set_36 (by decide) (fun c_9 => ?_) (fun c_9 => ?_)
        · have h := in_h c_9 h
          refine lv_aload_n hx hb dX11_set_46 rfl (lv_at hl 0 rfl) ?_
          refine getW C fl_RX11_90 hW 0 rfl rfl dX11_set_47 ?_
          exact uX11_set_50 x1 x2 v_leastThick v_stones v_flat v_leastThick v_sights v_padMany v_acts v_pulled v_skyPull v_skyWhose v_badAct v_badWhy v_keptAt v_isWriting C hQ h _ _ hW _ (lv_sub hl [0, 1, 2] rfl)
        · have h := ip_h c_9 h
          refine lv_aload_n hx hb dX11_set_39 rfl (lv_at hl 0 rfl) ?_
          refine getW C fl_RX11_86 hW 0 rfl rfl dX11_set_40 ?_
          refine lv_goto (tgt := 50) hx hb dX11_set_43 (by decide) ?_
          exact uX11_set_50 x1 x2 v_flat v_stones v_flat v_leastThick v_sights v_padMany v_acts v_pulled v_skyPull v_skyWhose v_badAct v_badWhy v_keptAt v_isWriting C hQ h _ _ hW _ (lv_sub hl [0, 1, 2] rfl)
      · have h := ip_h c_8 h
        refine lv_bipush (v := (-2 : Int32)) hx hb dX11_set_32 (by decide) ?_
        subst h
        exact hQ rfl _ _ _ _ dX11_set_34 hW
theorem ctX11_set {l : Launch} {G : va_G} {cI cZ cO : ClassId} (a_this a_thick a_hollow a_damp a_fresh a_pulls a_fats a_deep a_fine a_pay a_hair a_sightPicture a_sightPull a_sightShows a_pad a_act a_where a_much a_kindMany a_had a_leaves a_mostPay a_canLast a_leastMissed a_kept a_isKept : Nat) (x1 : Int32) (x2 : Int32) (v_stones : Int32) (v_flat : Int32) (v_leastThick : Int32) (v_sights : Int32) (v_padMany : Int32) (v_acts : Int32) (v_pulled : Int32) (v_skyPull : Int32) (v_skyWhose : Int32) (v_badAct : Int32) (v_badWhy : Int32) (v_keptAt : Int32) (v_isWriting : Int32) {res : Int32 × Int32 × Int32} (h : fX11_set x1 x2 v_flat v_leastThick = res) : MI l G cI cZ cO yX11_set cX11_set 4 .int rX11_set [.ref a_this, .int x1, .int x2] (wX11_set cI cZ a_this a_thick a_hollow a_damp a_fresh a_pulls a_fats a_deep a_fine a_pay a_hair a_sightPicture a_sightPull a_sightShows a_pad a_act a_where a_much a_kindMany a_had a_leaves a_mostPay a_canLast a_leastMissed a_kept a_isKept v_stones v_flat v_leastThick v_sights v_padMany v_acts v_pulled v_skyPull v_skyWhose v_badAct v_badWhy v_keptAt v_isWriting) (res.1) (wX11_set cI cZ a_this a_thick a_hollow a_damp a_fresh a_pulls a_fats a_deep a_fine a_pay a_hair a_sightPicture a_sightPull a_sightShows a_pad a_act a_where a_much a_kindMany a_had a_leaves a_mostPay a_canLast a_leastMissed a_kept a_isKept v_stones res.2.1 res.2.2 v_sights v_padMany v_acts v_pulled v_skyPull v_skyWhose v_badAct v_badWhy v_keptAt v_isWriting) := by
  refine MI.of (by decide) (Nat.le_of_ble_eq_true rfl) ?_
  intro p e s m below meth c A Q C hW hQ ls hl
  exact uX11_set_0 x1 x2 v_stones v_flat v_leastThick v_sights v_padMany v_acts v_pulled v_skyPull v_skyWhose v_badAct v_badWhy v_keptAt v_isWriting C hQ h _ _ hW _ hl
abbrev wX11_hairs (cI cZ : ClassId) (a_this a_thick a_hollow a_damp a_fresh a_pulls a_fats a_deep a_fine a_pay a_hair a_sightPicture a_sightPull a_sightShows a_pad a_act a_where a_much a_kindMany a_had a_leaves a_mostPay a_canLast a_leastMissed a_kept a_isKept : Nat) (v_stones : Int32) (v_flat : Int32) (v_leastThick : Int32) (v_sights : Int32) (v_padMany : Int32) (v_acts : Int32) (v_pulled : Int32) (v_skyPull : Int32) (v_skyWhose : Int32) (v_badAct : Int32) (v_badWhy : Int32) (v_keptAt : Int32) (v_isWriting : Int32) (v_hair : Nat → Int32) : va_W := [(a_this, .inr (11, [.int v_stones, .int v_flat, .int v_leastThick, .ref a_thick, .ref a_hollow, .ref a_damp, .ref a_fresh, .ref a_pulls, .ref a_fats, .ref a_deep, .ref a_fine, .ref a_pay, .ref a_hair, .ref a_sightPicture, .ref a_sightPull, .ref a_sightShows, .int v_sights, .ref a_pad, .int v_padMany, .ref a_act, .ref a_where, .ref a_much, .int v_acts, .int v_pulled, .ref a_kindMany, .int v_skyPull, .int v_skyWhose, .ref a_had, .ref a_leaves, .int v_badAct, .int v_badWhy, .ref a_mostPay, .ref a_canLast, .ref a_leastMissed, .ref a_kept, .ref a_isKept, .int v_keptAt, .int v_isWriting])), (a_hair, .inl (cI, 6, .inl v_hair))]
abbrev rX11_hairs : Room := { frames := 1, cells := 0, slots := 0, locals := 25 }
set_option maxRecDepth 20000 in
theorem uX11_hairs_0 {a_this a_thick a_hollow a_damp a_fresh a_pulls a_fats a_deep a_fine a_pay a_hair a_sightPicture a_sightPull a_sightShows a_pad a_act a_where a_much a_kindMany a_had a_leaves a_mostPay a_canLast a_leastMissed a_kept a_isKept : Nat} (x1 : Int32) (x2 : Int32) (v_stones : Int32) (v_flat : Int32) (v_leastThick : Int32) (v_sights : Int32) (v_padMany : Int32) (v_acts : Int32) (v_pulled : Int32) (v_skyPull : Int32) (v_skyWhose : Int32) (v_badAct : Int32) (v_badWhy : Int32) (v_keptAt : Int32) (v_isWriting : Int32) (v_hair : Nat → Int32) {res : Int32 × (Nat → Int32)} (C : Cx p s m av meth c RX11 cX11_hairs 4 (some .int) G cI cZ cO A) (hQ : RI p l e rX11_hairs s m av below meth c G A cX11_hairs .int Q (res.1) (wX11_hairs cI cZ a_this a_thick a_hollow a_damp a_fresh a_pulls a_fats a_deep a_fine a_pay a_hair a_sightPicture a_sightPull a_sightShows a_pad a_act a_where a_much a_kindMany a_had a_leaves a_mostPay a_canLast a_leastMissed a_kept a_isKept v_stones v_flat v_leastThick v_sights v_padMany v_acts v_pulled v_skyPull v_skyWhose v_badAct v_badWhy v_keptAt v_isWriting res.2)) (h : fX11_hairs x1 x2 v_hair = some res) (H : Heap) (locs : List Loc) (hW : HW G A s (wX11_hairs cI cZ a_this a_thick a_hollow a_damp a_fresh a_pulls a_fats a_deep a_fine a_pay a_hair a_sightPicture a_sightPull a_sightShows a_pad a_act a_where a_much a_kindMany a_had a_leaves a_mostPay a_canLast a_leastMissed a_kept a_isKept v_stones v_flat v_leastThick v_sights v_padMany v_acts v_pulled v_skyPull v_skyWhose v_badAct v_badWhy v_keptAt v_isWriting v_hair) H locs) (ls : Array Slot) (hl : lv_has ls 4 [(0, .ref a_this), (1, .int x1), (2, .int x2)]) : W p l e rX11_hairs s m av below meth c H locs 0 0 Q (F0 m 0 ls []) := by
  have hx := C.1
  have hb := C.2.1
  unfold fX11_hairs at h
  refine lv_iload_n hx hb dX11_hairs_0 rfl (lv_at hl 1 rfl) ?_
  refine lv_i2l hx hb dX11_hairs_1 rfl ?_
  refine lv_lconst (v := (0 : Int64)) hx hb dX11_hairs_2 (by decide) ?_
  refine lv_ldc2 (v := (5 : Int64)) hx hb C.2.2.2.2.2.1 (C.2.2.2.2.1 _ wd_934) dX11_hairs_3 ?_
  refine callSI0 C lk_RX11_95 (ctX11_in (Int32.toInt64 x1) (0 : Int64) (5 : Int64) rfl) hW hl rfl ⟨rfl, rfl⟩ ⟨(Nat.le_of_ble_eq_true rfl), (Nat.le_of_ble_eq_true rfl)⟩ ⟨Nat.zero_le _, Nat.zero_le _⟩ rfl (Nat.le_of_ble_eq_true rfl) dX11_hairs_6 (fun H locs hW => ?_)
  refine lv_if_eq (tgt := 26) hx hb dX11_hairs_9 (by decide) (fun c_1 => ?_) (fun c_1 => ?_)
  · have h := ip_h c_1 h
    refine lv_bipush (v := (-2 : Int32)) hx hb dX11_hairs_26 (by decide) ?_
    obtain rfl := Option.some.inj h
    exact hQ rfl _ _ _ _ dX11_hairs_28 hW
  · have h := in_h c_1 h
    refine lv_iload_n hx hb dX11_hairs_12 rfl (lv_at hl 2 rfl) ?_
    refine lv_i2l hx hb dX11_hairs_13 rfl ?_
    refine lv_ldc2 (v := (-9 : Int64)) hx hb C.2.2.2.2.2.1 (C.2.2.2.2.1 _ wd_935) dX11_hairs_14 ?_
    refine lv_ldc2 (v := (9 : Int64)) hx hb C.2.2.2.2.2.1 (C.2.2.2.2.1 _ wd_924) dX11_hairs_17 ?_
    refine callSI0 C lk_RX11_95 (ctX11_in (Int32.toInt64 x2) (-9 : Int64) (9 : Int64) rfl) hW hl rfl ⟨rfl, rfl⟩ ⟨(Nat.le_of_ble_eq_true rfl), (Nat.le_of_ble_eq_true rfl)⟩ ⟨Nat.zero_le _, Nat.zero_le _⟩ rfl (Nat.le_of_ble_eq_true rfl) dX11_hairs_20 (fun H locs hW => ?_)
    refine lv_if_ne (tgt := 29) hx hb dX11_hairs_23 (by decide) (fun c_2 => ?_) (fun c_2 => ?_)
    · have h := in_h c_2 h
      refine lv_aload_n hx hb dX11_hairs_29 rfl (lv_at hl 0 rfl) ?_
      refine getW C fl_RX11_37 hW 0 rfl rfl dX11_hairs_30 ?_
      refine lv_iload_n hx hb dX11_hairs_33 rfl (lv_at hl 1 rfl) ?_
      obtain ⟨g_3, h⟩ := gd_h h
      refine ialdW C hW 1 rfl g_3 dX11_hairs_34 ?_
      refine lv_topi (fun v_4 ev_4 => ?_)
      have h := lt_h ev_4 h
      refine lv_istore_n (lv' := [(3, .int v_4), (0, .ref a_this), (1, .int x1), (2, .int x2)]) hx hb dX11_hairs_35 rfl hl (Nat.le_of_ble_eq_true rfl) rfl (fun ls hl => ?_)
      refine lv_aload_n hx hb dX11_hairs_36 rfl (lv_at hl 1 rfl) ?_
      refine getW C fl_RX11_37 hW 0 rfl rfl dX11_hairs_37 ?_
      refine lv_iload_n hx hb dX11_hairs_40 rfl (lv_at hl 2 rfl) ?_
      refine lv_iload_n hx hb dX11_hairs_41 rfl (lv_at hl 3 rfl) ?_
      refine iastW C hW 1 rfl g_3 dX11_hairs_42 (fun H locs hW => ?_)
      have hW : HW G A s (wX11_hairs cI cZ a_this a_thick a_hollow a_damp a_fresh a_pulls a_fats a_deep a_fine a_pay a_hair a_sightPicture a_sightPull a_sightShows a_pad a_act a_where a_much a_kindMany a_had a_leaves a_mostPay a_canLast a_leastMissed a_kept a_isKept v_stones v_flat v_leastThick v_sights v_padMany v_acts v_pulled v_skyPull v_skyWhose v_badAct v_badWhy v_keptAt v_isWriting (upd v_hair (Int32.toNatClampNeg x1) x2)) H locs := hW
      refine lv_iload_n hx hb dX11_hairs_43 rfl (lv_at hl 0 rfl) ?_
      refine lv_bipush (v := (9 : Int32)) hx hb dX11_hairs_44 (by decide) ?_
      refine lv_iadd hx hb dX11_hairs_46 ?_
      obtain rfl := Option.some.inj h
      exact hQ rfl _ _ _ _ dX11_hairs_47 hW
    · have h := ip_h c_2 h
      refine lv_bipush (v := (-2 : Int32)) hx hb dX11_hairs_26 (by decide) ?_
      obtain rfl := Option.some.inj h
      exact hQ rfl _ _ _ _ dX11_hairs_28 hW
theorem ctX11_hairs {l : Launch} {G : va_G} {cI cZ cO : ClassId} (a_this a_thick a_hollow a_damp a_fresh a_pulls a_fats a_deep a_fine a_pay a_hair a_sightPicture a_sightPull a_sightShows a_pad a_act a_where a_much a_kindMany a_had a_leaves a_mostPay a_canLast a_leastMissed a_kept a_isKept : Nat) (x1 : Int32) (x2 : Int32) (v_stones : Int32) (v_flat : Int32) (v_leastThick : Int32) (v_sights : Int32) (v_padMany : Int32) (v_acts : Int32) (v_pulled : Int32) (v_skyPull : Int32) (v_skyWhose : Int32) (v_badAct : Int32) (v_badWhy : Int32) (v_keptAt : Int32) (v_isWriting : Int32) (v_hair : Nat → Int32) {res : Int32 × (Nat → Int32)} (h : fX11_hairs x1 x2 v_hair = some res) : MI l G cI cZ cO yX11_hairs cX11_hairs 4 .int rX11_hairs [.ref a_this, .int x1, .int x2] (wX11_hairs cI cZ a_this a_thick a_hollow a_damp a_fresh a_pulls a_fats a_deep a_fine a_pay a_hair a_sightPicture a_sightPull a_sightShows a_pad a_act a_where a_much a_kindMany a_had a_leaves a_mostPay a_canLast a_leastMissed a_kept a_isKept v_stones v_flat v_leastThick v_sights v_padMany v_acts v_pulled v_skyPull v_skyWhose v_badAct v_badWhy v_keptAt v_isWriting v_hair) (res.1) (wX11_hairs cI cZ a_this a_thick a_hollow a_damp a_fresh a_pulls a_fats a_deep a_fine a_pay a_hair a_sightPicture a_sightPull a_sightShows a_pad a_act a_where a_much a_kindMany a_had a_leaves a_mostPay a_canLast a_leastMissed a_kept a_isKept v_stones v_flat v_leastThick v_sights v_padMany v_acts v_pulled v_skyPull v_skyWhose v_badAct v_badWhy v_keptAt v_isWriting res.2) := by
  refine MI.of (by decide) (Nat.le_of_ble_eq_true rfl) ?_
  intro p e s m below meth c A Q C hW hQ ls hl
  exact uX11_hairs_0 x1 x2 v_stones v_flat v_leastThick v_sights v_padMany v_acts v_pulled v_skyPull v_skyWhose v_badAct v_badWhy v_keptAt v_isWriting v_hair C hQ h _ _ hW _ hl
abbrev wX11_say (cI cZ : ClassId) (a_this a_thick a_hollow a_damp a_fresh a_pulls a_fats a_deep a_fine a_pay a_hair a_sightPicture a_sightPull a_sightShows a_pad a_act a_where a_much a_kindMany a_had a_leaves a_mostPay a_canLast a_leastMissed a_kept a_isKept : Nat) (v_stones : Int32) (v_flat : Int32) (v_leastThick : Int32) (v_sights : Int32) (v_padMany : Int32) (v_acts : Int32) (v_pulled : Int32) (v_skyPull : Int32) (v_skyWhose : Int32) (v_badAct : Int32) (v_badWhy : Int32) (v_keptAt : Int32) (v_isWriting : Int32) (v_pad : Nat → Int32) : va_W := [(a_this, .inr (11, [.int v_stones, .int v_flat, .int v_leastThick, .ref a_thick, .ref a_hollow, .ref a_damp, .ref a_fresh, .ref a_pulls, .ref a_fats, .ref a_deep, .ref a_fine, .ref a_pay, .ref a_hair, .ref a_sightPicture, .ref a_sightPull, .ref a_sightShows, .int v_sights, .ref a_pad, .int v_padMany, .ref a_act, .ref a_where, .ref a_much, .int v_acts, .int v_pulled, .ref a_kindMany, .int v_skyPull, .int v_skyWhose, .ref a_had, .ref a_leaves, .int v_badAct, .int v_badWhy, .ref a_mostPay, .ref a_canLast, .ref a_leastMissed, .ref a_kept, .ref a_isKept, .int v_keptAt, .int v_isWriting])), (a_pad, .inl (cI, 60, .inl v_pad))]
abbrev rX11_say : Room := { frames := 1, cells := 0, slots := 0, locals := 25 }
set_option maxRecDepth 20000 in
theorem uX11_say_0 {a_this a_thick a_hollow a_damp a_fresh a_pulls a_fats a_deep a_fine a_pay a_hair a_sightPicture a_sightPull a_sightShows a_pad a_act a_where a_much a_kindMany a_had a_leaves a_mostPay a_canLast a_leastMissed a_kept a_isKept : Nat} (x1 : Int32) (v_stones : Int32) (v_flat : Int32) (v_leastThick : Int32) (v_sights : Int32) (v_padMany : Int32) (v_acts : Int32) (v_pulled : Int32) (v_skyPull : Int32) (v_skyWhose : Int32) (v_badAct : Int32) (v_badWhy : Int32) (v_keptAt : Int32) (v_isWriting : Int32) (v_pad : Nat → Int32) {res : Int32 × Int32 × (Nat → Int32)} (C : Cx p s m av meth c RX11 cX11_say 2 (some .int) G cI cZ cO A) (hQ : RI p l e rX11_say s m av below meth c G A cX11_say .int Q (res.1) (wX11_say cI cZ a_this a_thick a_hollow a_damp a_fresh a_pulls a_fats a_deep a_fine a_pay a_hair a_sightPicture a_sightPull a_sightShows a_pad a_act a_where a_much a_kindMany a_had a_leaves a_mostPay a_canLast a_leastMissed a_kept a_isKept v_stones v_flat v_leastThick v_sights res.2.1 v_acts v_pulled v_skyPull v_skyWhose v_badAct v_badWhy v_keptAt v_isWriting res.2.2)) (h : fX11_say x1 v_padMany v_pad = some res) (H : Heap) (locs : List Loc) (hW : HW G A s (wX11_say cI cZ a_this a_thick a_hollow a_damp a_fresh a_pulls a_fats a_deep a_fine a_pay a_hair a_sightPicture a_sightPull a_sightShows a_pad a_act a_where a_much a_kindMany a_had a_leaves a_mostPay a_canLast a_leastMissed a_kept a_isKept v_stones v_flat v_leastThick v_sights v_padMany v_acts v_pulled v_skyPull v_skyWhose v_badAct v_badWhy v_keptAt v_isWriting v_pad) H locs) (ls : Array Slot) (hl : lv_has ls 2 [(0, .ref a_this), (1, .int x1)]) : W p l e rX11_say s m av below meth c H locs 0 0 Q (F0 m 0 ls []) := by
  have hx := C.1
  have hb := C.2.1
  unfold fX11_say at h
  refine lv_iload_n hx hb dX11_say_0 rfl (lv_at hl 1 rfl) ?_
  refine lv_i2l hx hb dX11_say_1 rfl ?_
  refine lv_ldc2 (v := (33 : Int64)) hx hb C.2.2.2.2.2.1 (C.2.2.2.2.1 _ wd_940) dX11_say_2 ?_
  refine lv_ldc2 (v := (126 : Int64)) hx hb C.2.2.2.2.2.1 (C.2.2.2.2.1 _ wd_941) dX11_say_5 ?_
  refine callSI0 C lk_RX11_95 (ctX11_in (Int32.toInt64 x1) (33 : Int64) (126 : Int64) rfl) hW hl rfl ⟨rfl, rfl⟩ ⟨(Nat.le_of_ble_eq_true rfl), (Nat.le_of_ble_eq_true rfl)⟩ ⟨Nat.zero_le _, Nat.zero_le _⟩ rfl (Nat.le_of_ble_eq_true rfl) dX11_say_8 (fun H locs hW => ?_)
  refine lv_if_ne (tgt := 17) hx hb dX11_say_11 (by decide) (fun c_1 => ?_) (fun c_1 => ?_)
  · have h := in_h c_1 h
    refine lv_aload_n hx hb dX11_say_17 rfl (lv_at hl 0 rfl) ?_
    refine getW C fl_RX11_139 hW 0 rfl rfl dX11_say_18 ?_
    refine lv_bipush (v := (60 : Int32)) hx hb dX11_say_21 (by decide) ?_
    refine lv_icmp_ne (tgt := 29) hx hb dX11_say_23 (by decide) (fun c_2 => ?_) (fun c_2 => ?_)
    · have h := in_h c_2 h
      refine lv_aload_n hx hb dX11_say_29 rfl (lv_at hl 0 rfl) ?_
      refine getW C fl_RX11_49 hW 0 rfl rfl dX11_say_30 ?_
      refine lv_aload_n hx hb dX11_say_33 rfl (lv_at hl 0 rfl) ?_
      refine getW C fl_RX11_139 hW 0 rfl rfl dX11_say_34 ?_
      refine lv_iload_n hx hb dX11_say_37 rfl (lv_at hl 1 rfl) ?_
      obtain ⟨g_3, h⟩ := gd_h h
      refine iastW C hW 1 rfl g_3 dX11_say_38 (fun H locs hW => ?_)
      have hW : HW G A s (wX11_say cI cZ a_this a_thick a_hollow a_damp a_fresh a_pulls a_fats a_deep a_fine a_pay a_hair a_sightPicture a_sightPull a_sightShows a_pad a_act a_where a_much a_kindMany a_had a_leaves a_mostPay a_canLast a_leastMissed a_kept a_isKept v_stones v_flat v_leastThick v_sights v_padMany v_acts v_pulled v_skyPull v_skyWhose v_badAct v_badWhy v_keptAt v_isWriting (upd v_pad (Int32.toNatClampNeg v_padMany) x1)) H locs := hW
      refine lv_aload_n hx hb dX11_say_39 rfl (lv_at hl 0 rfl) ?_
      refine lv_dup hx hb dX11_say_40 rfl ?_
      refine getW C fl_RX11_139 hW 0 rfl rfl dX11_say_41 ?_
      refine lv_iconst (v := (1 : Int32)) hx hb dX11_say_44 (by decide) ?_
      refine lv_iadd hx hb dX11_say_45 ?_
      refine lv_topi (fun v_4 ev_4 => ?_)
      have h := lt_h ev_4 h
      refine putW C fp_RX11_139 hW 0 rfl rfl rfl (Nat.le_of_ble_eq_true rfl) dX11_say_46 (fun H locs hW => ?_)
      have hW : HW G A s (wX11_say cI cZ a_this a_thick a_hollow a_damp a_fresh a_pulls a_fats a_deep a_fine a_pay a_hair a_sightPicture a_sightPull a_sightShows a_pad a_act a_where a_much a_kindMany a_had a_leaves a_mostPay a_canLast a_leastMissed a_kept a_isKept v_stones v_flat v_leastThick v_sights v_4 v_acts v_pulled v_skyPull v_skyWhose v_badAct v_badWhy v_keptAt v_isWriting (upd v_pad (Int32.toNatClampNeg v_padMany) x1)) H locs := hW
      refine lv_aload_n hx hb dX11_say_49 rfl (lv_at hl 0 rfl) ?_
      refine getW C fl_RX11_139 hW 0 rfl rfl dX11_say_50 ?_
      obtain rfl := Option.some.inj h
      exact hQ rfl _ _ _ _ dX11_say_53 hW
    · have h := ip_h c_2 h
      refine lv_bipush (v := (-4 : Int32)) hx hb dX11_say_26 (by decide) ?_
      obtain rfl := Option.some.inj h
      exact hQ rfl _ _ _ _ dX11_say_28 hW
  · have h := ip_h c_1 h
    refine lv_bipush (v := (-2 : Int32)) hx hb dX11_say_14 (by decide) ?_
    obtain rfl := Option.some.inj h
    exact hQ rfl _ _ _ _ dX11_say_16 hW
theorem ctX11_say {l : Launch} {G : va_G} {cI cZ cO : ClassId} (a_this a_thick a_hollow a_damp a_fresh a_pulls a_fats a_deep a_fine a_pay a_hair a_sightPicture a_sightPull a_sightShows a_pad a_act a_where a_much a_kindMany a_had a_leaves a_mostPay a_canLast a_leastMissed a_kept a_isKept : Nat) (x1 : Int32) (v_stones : Int32) (v_flat : Int32) (v_leastThick : Int32) (v_sights : Int32) (v_padMany : Int32) (v_acts : Int32) (v_pulled : Int32) (v_skyPull : Int32) (v_skyWhose : Int32) (v_badAct : Int32) (v_badWhy : Int32) (v_keptAt : Int32) (v_isWriting : Int32) (v_pad : Nat → Int32) {res : Int32 × Int32 × (Nat → Int32)} (h : fX11_say x1 v_padMany v_pad = some res) : MI l G cI cZ cO yX11_say cX11_say 2 .int rX11_say [.ref a_this, .int x1] (wX11_say cI cZ a_this a_thick a_hollow a_damp a_fresh a_pulls a_fats a_deep a_fine a_pay a_hair a_sightPicture a_sightPull a_sightShows a_pad a_act a_where a_much a_kindMany a_had a_leaves a_mostPay a_canLast a_leastMissed a_kept a_isKept v_stones v_flat v_leastThick v_sights v_padMany v_acts v_pulled v_skyPull v_skyWhose v_badAct v_badWhy v_keptAt v_isWriting v_pad) (res.1) (wX11_say cI cZ a_this a_thick a_hollow a_damp a_fresh a_pulls a_fats a_deep a_fine a_pay a_hair a_sightPicture a_sightPull a_sightShows a_pad a_act a_where a_much a_kindMany a_had a_leaves a_mostPay a_canLast a_leastMissed a_kept a_isKept v_stones v_flat v_leastThick v_sights res.2.1 v_acts v_pulled v_skyPull v_skyWhose v_badAct v_badWhy v_keptAt v_isWriting res.2.2) := by
  refine MI.of (by decide) (Nat.le_of_ble_eq_true rfl) ?_
  intro p e s m below meth c A Q C hW hQ ls hl
  exact uX11_say_0 x1 v_stones v_flat v_leastThick v_sights v_padMany v_acts v_pulled v_skyPull v_skyWhose v_badAct v_badWhy v_keptAt v_isWriting v_pad C hQ h _ _ hW _ hl
abbrev wX11_wipe (cI cZ : ClassId) (a_this a_thick a_hollow a_damp a_fresh a_pulls a_fats a_deep a_fine a_pay a_hair a_sightPicture a_sightPull a_sightShows a_pad a_act a_where a_much a_kindMany a_had a_leaves a_mostPay a_canLast a_leastMissed a_kept a_isKept : Nat) (v_stones : Int32) (v_flat : Int32) (v_leastThick : Int32) (v_sights : Int32) (v_padMany : Int32) (v_acts : Int32) (v_pulled : Int32) (v_skyPull : Int32) (v_skyWhose : Int32) (v_badAct : Int32) (v_badWhy : Int32) (v_keptAt : Int32) (v_isWriting : Int32) : va_W := [(a_this, .inr (11, [.int v_stones, .int v_flat, .int v_leastThick, .ref a_thick, .ref a_hollow, .ref a_damp, .ref a_fresh, .ref a_pulls, .ref a_fats, .ref a_deep, .ref a_fine, .ref a_pay, .ref a_hair, .ref a_sightPicture, .ref a_sightPull, .ref a_sightShows, .int v_sights, .ref a_pad, .int v_padMany, .ref a_act, .ref a_where, .ref a_much, .int v_acts, .int v_pulled, .ref a_kindMany, .int v_skyPull, .int v_skyWhose, .ref a_had, .ref a_leaves, .int v_badAct, .int v_badWhy, .ref a_mostPay, .ref a_canLast, .ref a_leastMissed, .ref a_kept, .ref a_isKept, .int v_keptAt, .int v_isWriting]))]
abbrev rX11_wipe : Room := { frames := 0, cells := 0, slots := 0, locals := 0 }
set_option maxRecDepth 20000 in
theorem uX11_wipe_0 {a_this a_thick a_hollow a_damp a_fresh a_pulls a_fats a_deep a_fine a_pay a_hair a_sightPicture a_sightPull a_sightShows a_pad a_act a_where a_much a_kindMany a_had a_leaves a_mostPay a_canLast a_leastMissed a_kept a_isKept : Nat} (v_stones : Int32) (v_flat : Int32) (v_leastThick : Int32) (v_sights : Int32) (v_padMany : Int32) (v_acts : Int32) (v_pulled : Int32) (v_skyPull : Int32) (v_skyWhose : Int32) (v_badAct : Int32) (v_badWhy : Int32) (v_keptAt : Int32) (v_isWriting : Int32) {res : Int32 × Int32} (C : Cx p s m av meth c RX11 cX11_wipe 2 (some .int) G cI cZ cO A) (hQ : RI p l e rX11_wipe s m av below meth c G A cX11_wipe .int Q (res.1) (wX11_wipe cI cZ a_this a_thick a_hollow a_damp a_fresh a_pulls a_fats a_deep a_fine a_pay a_hair a_sightPicture a_sightPull a_sightShows a_pad a_act a_where a_much a_kindMany a_had a_leaves a_mostPay a_canLast a_leastMissed a_kept a_isKept v_stones v_flat v_leastThick v_sights res.2 v_acts v_pulled v_skyPull v_skyWhose v_badAct v_badWhy v_keptAt v_isWriting)) (h : fX11_wipe v_padMany = res) (H : Heap) (locs : List Loc) (hW : HW G A s (wX11_wipe cI cZ a_this a_thick a_hollow a_damp a_fresh a_pulls a_fats a_deep a_fine a_pay a_hair a_sightPicture a_sightPull a_sightShows a_pad a_act a_where a_much a_kindMany a_had a_leaves a_mostPay a_canLast a_leastMissed a_kept a_isKept v_stones v_flat v_leastThick v_sights v_padMany v_acts v_pulled v_skyPull v_skyWhose v_badAct v_badWhy v_keptAt v_isWriting) H locs) (ls : Array Slot) (hl : lv_has ls 2 [(0, .ref a_this)]) : W p l e rX11_wipe s m av below meth c H locs 0 0 Q (F0 m 0 ls []) := by
  have hx := C.1
  have hb := C.2.1
  unfold fX11_wipe at h
  refine lv_aload_n hx hb dX11_wipe_0 rfl (lv_at hl 0 rfl) ?_
  refine getW C fl_RX11_139 hW 0 rfl rfl dX11_wipe_1 ?_
  refine lv_istore_n (lv' := [(1, .int v_padMany), (0, .ref a_this)]) hx hb dX11_wipe_4 rfl hl (Nat.le_of_ble_eq_true rfl) rfl (fun ls hl => ?_)
  refine lv_aload_n hx hb dX11_wipe_5 rfl (lv_at hl 1 rfl) ?_
  refine lv_iconst (v := (0 : Int32)) hx hb dX11_wipe_6 (by decide) ?_
  refine putW C fp_RX11_139 hW 0 rfl rfl rfl (Nat.le_of_ble_eq_true rfl) dX11_wipe_7 (fun H locs hW => ?_)
  have hW : HW G A s (wX11_wipe cI cZ a_this a_thick a_hollow a_damp a_fresh a_pulls a_fats a_deep a_fine a_pay a_hair a_sightPicture a_sightPull a_sightShows a_pad a_act a_where a_much a_kindMany a_had a_leaves a_mostPay a_canLast a_leastMissed a_kept a_isKept v_stones v_flat v_leastThick v_sights (0 : Int32) v_acts v_pulled v_skyPull v_skyWhose v_badAct v_badWhy v_keptAt v_isWriting) H locs := hW
  refine lv_iload_n hx hb dX11_wipe_10 rfl (lv_at hl 0 rfl) ?_
  subst h
  exact hQ rfl _ _ _ _ dX11_wipe_11 hW
theorem ctX11_wipe {l : Launch} {G : va_G} {cI cZ cO : ClassId} (a_this a_thick a_hollow a_damp a_fresh a_pulls a_fats a_deep a_fine a_pay a_hair a_sightPicture a_sightPull a_sightShows a_pad a_act a_where a_much a_kindMany a_had a_leaves a_mostPay a_canLast a_leastMissed a_kept a_isKept : Nat) (v_stones : Int32) (v_flat : Int32) (v_leastThick : Int32) (v_sights : Int32) (v_padMany : Int32) (v_acts : Int32) (v_pulled : Int32) (v_skyPull : Int32) (v_skyWhose : Int32) (v_badAct : Int32) (v_badWhy : Int32) (v_keptAt : Int32) (v_isWriting : Int32) {res : Int32 × Int32} (h : fX11_wipe v_padMany = res) : MI l G cI cZ cO yX11_wipe cX11_wipe 2 .int rX11_wipe [.ref a_this] (wX11_wipe cI cZ a_this a_thick a_hollow a_damp a_fresh a_pulls a_fats a_deep a_fine a_pay a_hair a_sightPicture a_sightPull a_sightShows a_pad a_act a_where a_much a_kindMany a_had a_leaves a_mostPay a_canLast a_leastMissed a_kept a_isKept v_stones v_flat v_leastThick v_sights v_padMany v_acts v_pulled v_skyPull v_skyWhose v_badAct v_badWhy v_keptAt v_isWriting) (res.1) (wX11_wipe cI cZ a_this a_thick a_hollow a_damp a_fresh a_pulls a_fats a_deep a_fine a_pay a_hair a_sightPicture a_sightPull a_sightShows a_pad a_act a_where a_much a_kindMany a_had a_leaves a_mostPay a_canLast a_leastMissed a_kept a_isKept v_stones v_flat v_leastThick v_sights res.2 v_acts v_pulled v_skyPull v_skyWhose v_badAct v_badWhy v_keptAt v_isWriting) := by
  refine MI.of (by decide) (Nat.le_of_ble_eq_true rfl) ?_
  intro p e s m below meth c A Q C hW hQ ls hl
  exact uX11_wipe_0 v_stones v_flat v_leastThick v_sights v_padMany v_acts v_pulled v_skyPull v_skyWhose v_badAct v_badWhy v_keptAt v_isWriting C hQ h _ _ hW _ hl
abbrev wX11_stoneOf (cI cZ : ClassId) : va_W := []
abbrev rX11_stoneOf : Room := { frames := 1, cells := 0, slots := 0, locals := 25 }
set_option maxRecDepth 20000 in
theorem uX11_stoneOf_0 (x0 : Int32) {res : Int32} (C : Cx p s m av meth c RX11 cX11_stoneOf 1 (some .int) G cI cZ cO A) (hQ : RI p l e rX11_stoneOf s m av below meth c G A cX11_stoneOf .int Q (res) (wX11_stoneOf cI cZ)) (h : fX11_stoneOf x0 = res) (H : Heap) (locs : List Loc) (hW : HW G A s (wX11_stoneOf cI cZ) H locs) (ls : Array Slot) (hl : lv_has ls 1 [(0, .int x0)]) : W p l e rX11_stoneOf s m av below meth c H locs 0 0 Q (F0 m 0 ls []) := by
  have hx := C.1
  have hb := C.2.1
  unfold fX11_stoneOf at h
  refine lv_iload_n hx hb dX11_stoneOf_0 rfl (lv_at hl 0 rfl) ?_
  refine lv_i2l hx hb dX11_stoneOf_1 rfl ?_
  refine lv_ldc2 (v := (97 : Int64)) hx hb C.2.2.2.2.2.1 (C.2.2.2.2.1 _ wd_959) dX11_stoneOf_2 ?_
  refine lv_ldc2 (v := (101 : Int64)) hx hb C.2.2.2.2.2.1 (C.2.2.2.2.1 _ wd_960) dX11_stoneOf_5 ?_
  refine callSI0 C lk_RX11_95 (ctX11_in (Int32.toInt64 x0) (97 : Int64) (101 : Int64) rfl) hW hl rfl ⟨rfl, rfl⟩ ⟨(Nat.le_of_ble_eq_true rfl), (Nat.le_of_ble_eq_true rfl)⟩ ⟨Nat.zero_le _, Nat.zero_le _⟩ rfl (Nat.le_of_ble_eq_true rfl) dX11_stoneOf_8 (fun H locs hW => ?_)
  refine lv_if_eq (tgt := 21) hx hb dX11_stoneOf_11 (by decide) (fun c_1 => ?_) (fun c_1 => ?_)
  · have h := ip_h c_1 h
    refine lv_bipush (v := (-6 : Int32)) hx hb dX11_stoneOf_21 (by decide) ?_
    subst h
    exact hQ rfl _ _ _ _ dX11_stoneOf_23 hW
  · have h := in_h c_1 h
    refine lv_iload_n hx hb dX11_stoneOf_14 rfl (lv_at hl 0 rfl) ?_
    refine lv_bipush (v := (97 : Int32)) hx hb dX11_stoneOf_15 (by decide) ?_
    refine lv_isub hx hb dX11_stoneOf_17 ?_
    refine lv_goto (tgt := 23) hx hb dX11_stoneOf_18 (by decide) ?_
    subst h
    exact hQ rfl _ _ _ _ dX11_stoneOf_23 hW
theorem ctX11_stoneOf {l : Launch} {G : va_G} {cI cZ cO : ClassId} (x0 : Int32) {res : Int32} (h : fX11_stoneOf x0 = res) : MI l G cI cZ cO yX11_stoneOf cX11_stoneOf 1 .int rX11_stoneOf [.int x0] (wX11_stoneOf cI cZ) (res) (wX11_stoneOf cI cZ) := by
  refine MI.of (by decide) (Nat.le_of_ble_eq_true rfl) ?_
  intro p e s m below meth c A Q C hW hQ ls hl
  exact uX11_stoneOf_0 x0 C hQ h _ _ hW _ hl
abbrev wX11_close (cI cZ : ClassId) (a_this a_thick a_hollow a_damp a_fresh a_pulls a_fats a_deep a_fine a_pay a_hair a_sightPicture a_sightPull a_sightShows a_pad a_act a_where a_much a_kindMany a_had a_leaves a_mostPay a_canLast a_leastMissed a_kept a_isKept : Nat) (v_stones : Int32) (v_flat : Int32) (v_leastThick : Int32) (v_sights : Int32) (v_padMany : Int32) (v_acts : Int32) (v_pulled : Int32) (v_skyPull : Int32) (v_skyWhose : Int32) (v_badAct : Int32) (v_badWhy : Int32) (v_keptAt : Int32) (v_isWriting : Int32) (v_act : Nat → Int32) (v_much : Nat → Int32) : va_W := [(a_this, .inr (11, [.int v_stones, .int v_flat, .int v_leastThick, .ref a_thick, .ref a_hollow, .ref a_damp, .ref a_fresh, .ref a_pulls, .ref a_fats, .ref a_deep, .ref a_fine, .ref a_pay, .ref a_hair, .ref a_sightPicture, .ref a_sightPull, .ref a_sightShows, .int v_sights, .ref a_pad, .int v_padMany, .ref a_act, .ref a_where, .ref a_much, .int v_acts, .int v_pulled, .ref a_kindMany, .int v_skyPull, .int v_skyWhose, .ref a_had, .ref a_leaves, .int v_badAct, .int v_badWhy, .ref a_mostPay, .ref a_canLast, .ref a_leastMissed, .ref a_kept, .ref a_isKept, .int v_keptAt, .int v_isWriting])), (a_act, .inl (cI, 60, .inl v_act)), (a_much, .inl (cI, 60, .inl v_much))]
abbrev rX11_close : Room := { frames := 0, cells := 0, slots := 0, locals := 0 }
set_option maxRecDepth 20000 in
theorem uX11_close_0 {a_this a_thick a_hollow a_damp a_fresh a_pulls a_fats a_deep a_fine a_pay a_hair a_sightPicture a_sightPull a_sightShows a_pad a_act a_where a_much a_kindMany a_had a_leaves a_mostPay a_canLast a_leastMissed a_kept a_isKept : Nat} (x1 : Int32) (x2 : Int32) (v_stones : Int32) (v_flat : Int32) (v_leastThick : Int32) (v_sights : Int32) (v_padMany : Int32) (v_acts : Int32) (v_pulled : Int32) (v_skyPull : Int32) (v_skyWhose : Int32) (v_badAct : Int32) (v_badWhy : Int32) (v_keptAt : Int32) (v_isWriting : Int32) (v_act : Nat → Int32) (v_much : Nat → Int32) {res : Int32 × Int32 × (Nat → Int32) × (Nat → Int32)} (C : Cx p s m av meth c RX11 cX11_close 3 (some .int) G cI cZ cO A) (hQ : RI p l e rX11_close s m av below meth c G A cX11_close .int Q (res.1) (wX11_close cI cZ a_this a_thick a_hollow a_damp a_fresh a_pulls a_fats a_deep a_fine a_pay a_hair a_sightPicture a_sightPull a_sightShows a_pad a_act a_where a_much a_kindMany a_had a_leaves a_mostPay a_canLast a_leastMissed a_kept a_isKept v_stones v_flat v_leastThick v_sights v_padMany res.2.1 v_pulled v_skyPull v_skyWhose v_badAct v_badWhy v_keptAt v_isWriting res.2.2.1 res.2.2.2)) (h : fX11_close x1 x2 v_acts v_act v_much = some res) (H : Heap) (locs : List Loc) (hW : HW G A s (wX11_close cI cZ a_this a_thick a_hollow a_damp a_fresh a_pulls a_fats a_deep a_fine a_pay a_hair a_sightPicture a_sightPull a_sightShows a_pad a_act a_where a_much a_kindMany a_had a_leaves a_mostPay a_canLast a_leastMissed a_kept a_isKept v_stones v_flat v_leastThick v_sights v_padMany v_acts v_pulled v_skyPull v_skyWhose v_badAct v_badWhy v_keptAt v_isWriting v_act v_much) H locs) (ls : Array Slot) (hl : lv_has ls 3 [(0, .ref a_this), (1, .int x1), (2, .int x2)]) : W p l e rX11_close s m av below meth c H locs 0 0 Q (F0 m 0 ls []) := by
  have hx := C.1
  have hb := C.2.1
  unfold fX11_close at h
  refine lv_aload_n hx hb dX11_close_0 rfl (lv_at hl 0 rfl) ?_
  refine getW C fl_RX11_52 hW 0 rfl rfl dX11_close_1 ?_
  refine lv_aload_n hx hb dX11_close_4 rfl (lv_at hl 0 rfl) ?_
  refine getW C fl_RX11_146 hW 0 rfl rfl dX11_close_5 ?_
  refine lv_iload_n hx hb dX11_close_8 rfl (lv_at hl 1 rfl) ?_
  obtain ⟨g_1, h⟩ := gd_h h
  refine iastW C hW 1 rfl g_1 dX11_close_9 (fun H locs hW => ?_)
  have hW : HW G A s (wX11_close cI cZ a_this a_thick a_hollow a_damp a_fresh a_pulls a_fats a_deep a_fine a_pay a_hair a_sightPicture a_sightPull a_sightShows a_pad a_act a_where a_much a_kindMany a_had a_leaves a_mostPay a_canLast a_leastMissed a_kept a_isKept v_stones v_flat v_leastThick v_sights v_padMany v_acts v_pulled v_skyPull v_skyWhose v_badAct v_badWhy v_keptAt v_isWriting (upd v_act (Int32.toNatClampNeg v_acts) x1) v_much) H locs := hW
  refine lv_aload_n hx hb dX11_close_10 rfl (lv_at hl 0 rfl) ?_
  refine getW C fl_RX11_58 hW 0 rfl rfl dX11_close_11 ?_
  refine lv_aload_n hx hb dX11_close_14 rfl (lv_at hl 0 rfl) ?_
  refine getW C fl_RX11_146 hW 0 rfl rfl dX11_close_15 ?_
  refine lv_iload_n hx hb dX11_close_18 rfl (lv_at hl 2 rfl) ?_
  refine iastW C hW 2 rfl g_1 dX11_close_19 (fun H locs hW => ?_)
  have hW : HW G A s (wX11_close cI cZ a_this a_thick a_hollow a_damp a_fresh a_pulls a_fats a_deep a_fine a_pay a_hair a_sightPicture a_sightPull a_sightShows a_pad a_act a_where a_much a_kindMany a_had a_leaves a_mostPay a_canLast a_leastMissed a_kept a_isKept v_stones v_flat v_leastThick v_sights v_padMany v_acts v_pulled v_skyPull v_skyWhose v_badAct v_badWhy v_keptAt v_isWriting (upd v_act (Int32.toNatClampNeg v_acts) x1) (upd v_much (Int32.toNatClampNeg v_acts) x2)) H locs := hW
  refine lv_aload_n hx hb dX11_close_20 rfl (lv_at hl 0 rfl) ?_
  refine lv_dup hx hb dX11_close_21 rfl ?_
  refine getW C fl_RX11_146 hW 0 rfl rfl dX11_close_22 ?_
  refine lv_iconst (v := (1 : Int32)) hx hb dX11_close_25 (by decide) ?_
  refine lv_iadd hx hb dX11_close_26 ?_
  refine lv_topi (fun v_2 ev_2 => ?_)
  have h := lt_h ev_2 h
  refine putW C fp_RX11_146 hW 0 rfl rfl rfl (Nat.le_of_ble_eq_true rfl) dX11_close_27 (fun H locs hW => ?_)
  have hW : HW G A s (wX11_close cI cZ a_this a_thick a_hollow a_damp a_fresh a_pulls a_fats a_deep a_fine a_pay a_hair a_sightPicture a_sightPull a_sightShows a_pad a_act a_where a_much a_kindMany a_had a_leaves a_mostPay a_canLast a_leastMissed a_kept a_isKept v_stones v_flat v_leastThick v_sights v_padMany v_2 v_pulled v_skyPull v_skyWhose v_badAct v_badWhy v_keptAt v_isWriting (upd v_act (Int32.toNatClampNeg v_acts) x1) (upd v_much (Int32.toNatClampNeg v_acts) x2)) H locs := hW
  refine lv_iconst (v := (0 : Int32)) hx hb dX11_close_30 (by decide) ?_
  obtain rfl := Option.some.inj h
  exact hQ rfl _ _ _ _ dX11_close_31 hW
theorem ctX11_close {l : Launch} {G : va_G} {cI cZ cO : ClassId} (a_this a_thick a_hollow a_damp a_fresh a_pulls a_fats a_deep a_fine a_pay a_hair a_sightPicture a_sightPull a_sightShows a_pad a_act a_where a_much a_kindMany a_had a_leaves a_mostPay a_canLast a_leastMissed a_kept a_isKept : Nat) (x1 : Int32) (x2 : Int32) (v_stones : Int32) (v_flat : Int32) (v_leastThick : Int32) (v_sights : Int32) (v_padMany : Int32) (v_acts : Int32) (v_pulled : Int32) (v_skyPull : Int32) (v_skyWhose : Int32) (v_badAct : Int32) (v_badWhy : Int32) (v_keptAt : Int32) (v_isWriting : Int32) (v_act : Nat → Int32) (v_much : Nat → Int32) {res : Int32 × Int32 × (Nat → Int32) × (Nat → Int32)} (h : fX11_close x1 x2 v_acts v_act v_much = some res) : MI l G cI cZ cO yX11_close cX11_close 3 .int rX11_close [.ref a_this, .int x1, .int x2] (wX11_close cI cZ a_this a_thick a_hollow a_damp a_fresh a_pulls a_fats a_deep a_fine a_pay a_hair a_sightPicture a_sightPull a_sightShows a_pad a_act a_where a_much a_kindMany a_had a_leaves a_mostPay a_canLast a_leastMissed a_kept a_isKept v_stones v_flat v_leastThick v_sights v_padMany v_acts v_pulled v_skyPull v_skyWhose v_badAct v_badWhy v_keptAt v_isWriting v_act v_much) (res.1) (wX11_close cI cZ a_this a_thick a_hollow a_damp a_fresh a_pulls a_fats a_deep a_fine a_pay a_hair a_sightPicture a_sightPull a_sightShows a_pad a_act a_where a_much a_kindMany a_had a_leaves a_mostPay a_canLast a_leastMissed a_kept a_isKept v_stones v_flat v_leastThick v_sights v_padMany res.2.1 v_pulled v_skyPull v_skyWhose v_badAct v_badWhy v_keptAt v_isWriting res.2.2.1 res.2.2.2) := by
  refine MI.of (by decide) (Nat.le_of_ble_eq_true rfl) ?_
  intro p e s m below meth c A Q C hW hQ ls hl
  exact uX11_close_0 x1 x2 v_stones v_flat v_leastThick v_sights v_padMany v_acts v_pulled v_skyPull v_skyWhose v_badAct v_badWhy v_keptAt v_isWriting v_act v_much C hQ h _ _ hW _ hl
abbrev wX11_readOn (cI cZ : ClassId) (a_this a_thick a_hollow a_damp a_fresh a_pulls a_fats a_deep a_fine a_pay a_hair a_sightPicture a_sightPull a_sightShows a_pad a_act a_where a_much a_kindMany a_had a_leaves a_mostPay a_canLast a_leastMissed a_kept a_isKept : Nat) (v_stones : Int32) (v_flat : Int32) (v_leastThick : Int32) (v_sights : Int32) (v_padMany : Int32) (v_acts : Int32) (v_pulled : Int32) (v_skyPull : Int32) (v_skyWhose : Int32) (v_badAct : Int32) (v_badWhy : Int32) (v_keptAt : Int32) (v_isWriting : Int32) (v_act : Nat → Int32) (v_much : Nat → Int32) (v_where : Nat → Int32) : va_W := [(a_this, .inr (11, [.int v_stones, .int v_flat, .int v_leastThick, .ref a_thick, .ref a_hollow, .ref a_damp, .ref a_fresh, .ref a_pulls, .ref a_fats, .ref a_deep, .ref a_fine, .ref a_pay, .ref a_hair, .ref a_sightPicture, .ref a_sightPull, .ref a_sightShows, .int v_sights, .ref a_pad, .int v_padMany, .ref a_act, .ref a_where, .ref a_much, .int v_acts, .int v_pulled, .ref a_kindMany, .int v_skyPull, .int v_skyWhose, .ref a_had, .ref a_leaves, .int v_badAct, .int v_badWhy, .ref a_mostPay, .ref a_canLast, .ref a_leastMissed, .ref a_kept, .ref a_isKept, .int v_keptAt, .int v_isWriting])), (a_act, .inl (cI, 60, .inl v_act)), (a_much, .inl (cI, 60, .inl v_much)), (a_where, .inl (cI, 60, .inl v_where))]
abbrev rX11_readOn : Room := { frames := 2, cells := 0, slots := 0, locals := 45 }
set_option maxRecDepth 20000 in
theorem uX11_readOn_169 {a_this a_thick a_hollow a_damp a_fresh a_pulls a_fats a_deep a_fine a_pay a_hair a_sightPicture a_sightPull a_sightShows a_pad a_act a_where a_much a_kindMany a_had a_leaves a_mostPay a_canLast a_leastMissed a_kept a_isKept : Nat} (x2 : Int32) (s1 : Int32) (s2 : Int32) (v_stones : Int32) (v_flat : Int32) (v_leastThick : Int32) (v_sights : Int32) (v_padMany : Int32) (v_acts : Int32) (v_pulled : Int32) (v_skyPull : Int32) (v_skyWhose : Int32) (v_badAct : Int32) (v_badWhy : Int32) (v_keptAt : Int32) (v_isWriting : Int32) (v_act : Nat → Int32) (v_much : Nat → Int32) (v_where : Nat → Int32) {res : Int32 × Int32 × (Nat → Int32) × (Nat → Int32) × (Nat → Int32)} (C : Cx p s m av meth c RX11 cX11_readOn 4 (some .int) G cI cZ cO A) (hQ : RI p l e rX11_readOn s m av below meth c G A cX11_readOn .int Q (res.1) (wX11_readOn cI cZ a_this a_thick a_hollow a_damp a_fresh a_pulls a_fats a_deep a_fine a_pay a_hair a_sightPicture a_sightPull a_sightShows a_pad a_act a_where a_much a_kindMany a_had a_leaves a_mostPay a_canLast a_leastMissed a_kept a_isKept v_stones v_flat v_leastThick v_sights v_padMany res.2.1 v_pulled v_skyPull v_skyWhose v_badAct v_badWhy v_keptAt v_isWriting res.2.2.1 res.2.2.2.1 res.2.2.2.2)) (h : fX11_readOn_169 x2 s1 s2 v_acts v_act v_much v_where = some res) (H : Heap) (locs : List Loc) (hW : HW G A s (wX11_readOn cI cZ a_this a_thick a_hollow a_damp a_fresh a_pulls a_fats a_deep a_fine a_pay a_hair a_sightPicture a_sightPull a_sightShows a_pad a_act a_where a_much a_kindMany a_had a_leaves a_mostPay a_canLast a_leastMissed a_kept a_isKept v_stones v_flat v_leastThick v_sights v_padMany v_acts v_pulled v_skyPull v_skyWhose v_badAct v_badWhy v_keptAt v_isWriting v_act v_much v_where) H locs) (ls : Array Slot) (hl : lv_has ls 4 [(2, .int x2)]) : W p l e rX11_readOn s m av below meth c H locs 0 0 Q (F0 m 169 ls [.int s2, .int s1, .ref a_act]) := by
  have hx := C.1
  have hb := C.2.1
  unfold fX11_readOn_169 at h
  obtain ⟨g_9, h⟩ := gd_h h
  refine iastW C hW 1 rfl g_9 dX11_readOn_169 (fun H locs hW => ?_)
  have hW : HW G A s (wX11_readOn cI cZ a_this a_thick a_hollow a_damp a_fresh a_pulls a_fats a_deep a_fine a_pay a_hair a_sightPicture a_sightPull a_sightShows a_pad a_act a_where a_much a_kindMany a_had a_leaves a_mostPay a_canLast a_leastMissed a_kept a_isKept v_stones v_flat v_leastThick v_sights v_padMany v_acts v_pulled v_skyPull v_skyWhose v_badAct v_badWhy v_keptAt v_isWriting (upd v_act (Int32.toNatClampNeg s1) s2) v_much v_where) H locs := hW
  refine lv_iload_n hx hb dX11_readOn_170 rfl (lv_at hl 0 rfl) ?_
  refine lv_bipush (v := (43 : Int32)) hx hb dX11_readOn_171 (by decide) ?_
  refine lv_icmp_ne (tgt := 180) hx hb dX11_readOn_173 (by decide) (fun c_10 => ?_) (fun c_10 => ?_)
  · have h := in_h c_10 h
    refine lv_iload_n hx hb dX11_readOn_180 rfl (lv_at hl 0 rfl) ?_
    refine lv_bipush (v := (111 : Int32)) hx hb dX11_readOn_181 (by decide) ?_
    refine lv_icmp_eq (tgt := 198) hx hb dX11_readOn_183 (by decide) (fun c_11 => ?_) (fun c_11 => ?_)
    · have h := ip_h c_11 h
      refine lv_iconst (v := (2 : Int32)) hx hb dX11_readOn_198 (by decide) ?_
      refine lv_goto (tgt := 204) hx hb dX11_readOn_199 (by decide) ?_
      obtain rfl := Option.some.inj h
      exact hQ rfl _ _ _ _ dX11_readOn_204 hW
    · have h := in_h c_11 h
      refine lv_iload_n hx hb dX11_readOn_186 rfl (lv_at hl 0 rfl) ?_
      refine lv_bipush (v := (120 : Int32)) hx hb dX11_readOn_187 (by decide) ?_
      refine lv_icmp_eq (tgt := 198) hx hb dX11_readOn_189 (by decide) (fun c_12 => ?_) (fun c_12 => ?_)
      · have h := ip_h c_12 h
        refine lv_iconst (v := (2 : Int32)) hx hb dX11_readOn_198 (by decide) ?_
        refine lv_goto (tgt := 204) hx hb dX11_readOn_199 (by decide) ?_
        obtain rfl := Option.some.inj h
        exact hQ rfl _ _ _ _ dX11_readOn_204 hW
      · have h := in_h c_12 h
        refine lv_iload_n hx hb dX11_readOn_192 rfl (lv_at hl 0 rfl) ?_
        refine lv_bipush (v := (119 : Int32)) hx hb dX11_readOn_193 (by decide) ?_
        refine lv_icmp_ne (tgt := 202) hx hb dX11_readOn_195 (by decide) (fun c_13 => ?_) (fun c_13 => ?_)
        · have h := in_h c_13 h
          refine lv_bipush (v := (-6 : Int32)) hx hb dX11_readOn_202 (by decide) ?_
          obtain rfl := Option.some.inj h
          exact hQ rfl _ _ _ _ dX11_readOn_204 hW
        · have h := ip_h c_13 h
          refine lv_iconst (v := (2 : Int32)) hx hb dX11_readOn_198 (by decide) ?_
          refine lv_goto (tgt := 204) hx hb dX11_readOn_199 (by decide) ?_
          obtain rfl := Option.some.inj h
          exact hQ rfl _ _ _ _ dX11_readOn_204 hW
  · have h := ip_h c_10 h
    refine lv_iconst (v := (3 : Int32)) hx hb dX11_readOn_176 (by decide) ?_
    refine lv_goto (tgt := 204) hx hb dX11_readOn_177 (by decide) ?_
    obtain rfl := Option.some.inj h
    exact hQ rfl _ _ _ _ dX11_readOn_204 hW
set_option maxRecDepth 20000 in
theorem uX11_readOn_0 {a_this a_thick a_hollow a_damp a_fresh a_pulls a_fats a_deep a_fine a_pay a_hair a_sightPicture a_sightPull a_sightShows a_pad a_act a_where a_much a_kindMany a_had a_leaves a_mostPay a_canLast a_leastMissed a_kept a_isKept : Nat} (x1 : Int32) (x2 : Int32) (v_stones : Int32) (v_flat : Int32) (v_leastThick : Int32) (v_sights : Int32) (v_padMany : Int32) (v_acts : Int32) (v_pulled : Int32) (v_skyPull : Int32) (v_skyWhose : Int32) (v_badAct : Int32) (v_badWhy : Int32) (v_keptAt : Int32) (v_isWriting : Int32) (v_act : Nat → Int32) (v_much : Nat → Int32) (v_where : Nat → Int32) {res : Int32 × Int32 × (Nat → Int32) × (Nat → Int32) × (Nat → Int32)} (C : Cx p s m av meth c RX11 cX11_readOn 4 (some .int) G cI cZ cO A) (hQ : RI p l e rX11_readOn s m av below meth c G A cX11_readOn .int Q (res.1) (wX11_readOn cI cZ a_this a_thick a_hollow a_damp a_fresh a_pulls a_fats a_deep a_fine a_pay a_hair a_sightPicture a_sightPull a_sightShows a_pad a_act a_where a_much a_kindMany a_had a_leaves a_mostPay a_canLast a_leastMissed a_kept a_isKept v_stones v_flat v_leastThick v_sights v_padMany res.2.1 v_pulled v_skyPull v_skyWhose v_badAct v_badWhy v_keptAt v_isWriting res.2.2.1 res.2.2.2.1 res.2.2.2.2)) (h : fX11_readOn x1 x2 v_acts v_act v_much v_where = some res) (H : Heap) (locs : List Loc) (hW : HW G A s (wX11_readOn cI cZ a_this a_thick a_hollow a_damp a_fresh a_pulls a_fats a_deep a_fine a_pay a_hair a_sightPicture a_sightPull a_sightShows a_pad a_act a_where a_much a_kindMany a_had a_leaves a_mostPay a_canLast a_leastMissed a_kept a_isKept v_stones v_flat v_leastThick v_sights v_padMany v_acts v_pulled v_skyPull v_skyWhose v_badAct v_badWhy v_keptAt v_isWriting v_act v_much v_where) H locs) (ls : Array Slot) (hl : lv_has ls 4 [(0, .ref a_this), (1, .int x1), (2, .int x2)]) : W p l e rX11_readOn s m av below meth c H locs 0 0 Q (F0 m 0 ls []) := by
  have hx := C.1
  have hb := C.2.1
  unfold fX11_readOn at h
  refine lv_iload_n hx hb dX11_readOn_0 rfl (lv_at hl 2 rfl) ?_
  refine lv_i2l hx hb dX11_readOn_1 rfl ?_
  refine lv_ldc2 (v := (49 : Int64)) hx hb C.2.2.2.2.2.1 (C.2.2.2.2.1 _ wd_954) dX11_readOn_2 ?_
  refine lv_ldc2 (v := (57 : Int64)) hx hb C.2.2.2.2.2.1 (C.2.2.2.2.1 _ wd_955) dX11_readOn_5 ?_
  refine callSI0 C lk_RX11_95 (ctX11_in (Int32.toInt64 x2) (49 : Int64) (57 : Int64) rfl) hW hl rfl ⟨rfl, rfl⟩ ⟨(Nat.le_of_ble_eq_true rfl), (Nat.le_of_ble_eq_true rfl)⟩ ⟨Nat.zero_le _, Nat.zero_le _⟩ rfl (Nat.le_of_ble_eq_true rfl) dX11_readOn_8 (fun H locs hW => ?_)
  refine lv_topi (fun v_1 ev_1 => ?_)
  have h := lt_h ev_1 h
  refine lv_istore_n (lv' := [(3, .int v_1), (0, .ref a_this), (1, .int x1), (2, .int x2)]) hx hb dX11_readOn_11 rfl hl (Nat.le_of_ble_eq_true rfl) rfl (fun ls hl => ?_)
  refine lv_iload_n hx hb dX11_readOn_12 rfl (lv_at hl 2 rfl) ?_
  refine lv_if_ne (tgt := 43) hx hb dX11_readOn_13 (by decide) (fun c_2 => ?_) (fun c_2 => ?_)
  · have h := in_h c_2 h
    refine lv_iload_n hx hb dX11_readOn_43 rfl (lv_at hl 2 rfl) ?_
    refine lv_iconst (v := (2 : Int32)) hx hb dX11_readOn_44 (by decide) ?_
    refine lv_icmp_ne (tgt := 75) hx hb dX11_readOn_45 (by decide) (fun c_3 => ?_) (fun c_3 => ?_)
    · have h := in_h c_3 h
      refine lv_iload_n hx hb dX11_readOn_75 rfl (lv_at hl 2 rfl) ?_
      refine lv_iconst (v := (3 : Int32)) hx hb dX11_readOn_76 (by decide) ?_
      refine lv_icmp_ne (tgt := 102) hx hb dX11_readOn_77 (by decide) (fun c_4 => ?_) (fun c_4 => ?_)
      · have h := in_h c_4 h
        refine lv_iload_n hx hb dX11_readOn_102 rfl (lv_at hl 0 rfl) ?_
        refine lv_if_eq (tgt := 116) hx hb dX11_readOn_103 (by decide) (fun c_5 => ?_) (fun c_5 => ?_)
        · have h := ip_h c_5 h
          refine lv_iload_n hx hb dX11_readOn_116 rfl (lv_at hl 3 rfl) ?_
          refine lv_i2l hx hb dX11_readOn_117 rfl ?_
          refine lv_ldc2 (v := (65 : Int64)) hx hb C.2.2.2.2.2.1 (C.2.2.2.2.1 _ wd_965) dX11_readOn_118 ?_
          refine lv_ldc2 (v := (72 : Int64)) hx hb C.2.2.2.2.2.1 (C.2.2.2.2.1 _ wd_966) dX11_readOn_121 ?_
          refine callSI0 C lk_RX11_95 (ctX11_in (Int32.toInt64 x2) (65 : Int64) (72 : Int64) rfl) hW hl rfl ⟨rfl, rfl⟩ ⟨(Nat.le_of_ble_eq_true rfl), (Nat.le_of_ble_eq_true rfl)⟩ ⟨Nat.zero_le _, Nat.zero_le _⟩ rfl (Nat.le_of_ble_eq_true rfl) dX11_readOn_124 (fun H locs hW => ?_)
          refine lv_if_eq (tgt := 140) hx hb dX11_readOn_127 (by decide) (fun c_6 => ?_) (fun c_6 => ?_)
          · have h := ip_h c_6 h
            refine lv_aload_n hx hb dX11_readOn_140 rfl (lv_at hl 1 rfl) ?_
            refine getW C fl_RX11_52 hW 0 rfl rfl dX11_readOn_141 ?_
            refine lv_aload_n hx hb dX11_readOn_144 rfl (lv_at hl 1 rfl) ?_
            refine getW C fl_RX11_146 hW 0 rfl rfl dX11_readOn_145 ?_
            refine lv_iload_n hx hb dX11_readOn_148 rfl (lv_at hl 3 rfl) ?_
            refine lv_bipush (v := (111 : Int32)) hx hb dX11_readOn_149 (by decide) ?_
            refine lv_icmp_ne (tgt := 158) hx hb dX11_readOn_151 (by decide) (fun c_7 => ?_) (fun c_7 => ?_)
            · have h := in_h c_7 h
              refine lv_iload_n hx hb dX11_readOn_158 rfl (lv_at hl 3 rfl) ?_
              refine lv_bipush (v := (120 : Int32)) hx hb dX11_readOn_159 (by decide) ?_
              refine lv_icmp_ne (tgt := 168) hx hb dX11_readOn_161 (by decide) (fun c_8 => ?_) (fun c_8 => ?_)
              · have h := in_h c_8 h
                refine lv_iconst (v := (3 : Int32)) hx hb dX11_readOn_168 (by decide) ?_
                exact uX11_readOn_169 x2 v_acts (3 : Int32) v_stones v_flat v_leastThick v_sights v_padMany v_acts v_pulled v_skyPull v_skyWhose v_badAct v_badWhy v_keptAt v_isWriting v_act v_much v_where C hQ h _ _ hW _ (lv_sub hl [3] rfl)
              · have h := ip_h c_8 h
                refine lv_iconst (v := (2 : Int32)) hx hb dX11_readOn_164 (by decide) ?_
                refine lv_goto (tgt := 169) hx hb dX11_readOn_165 (by decide) ?_
                exact uX11_readOn_169 x2 v_acts (2 : Int32) v_stones v_flat v_leastThick v_sights v_padMany v_acts v_pulled v_skyPull v_skyWhose v_badAct v_badWhy v_keptAt v_isWriting v_act v_much v_where C hQ h _ _ hW _ (lv_sub hl [3] rfl)
            · have h := ip_h c_7 h
              refine lv_iconst (v := (1 : Int32)) hx hb dX11_readOn_154 (by decide) ?_
              refine lv_goto (tgt := 169) hx hb dX11_readOn_155 (by decide) ?_
              exact uX11_readOn_169 x2 v_acts (1 : Int32) v_stones v_flat v_leastThick v_sights v_padMany v_acts v_pulled v_skyPull v_skyWhose v_badAct v_badWhy v_keptAt v_isWriting v_act v_much v_where C hQ h _ _ hW _ (lv_sub hl [3] rfl)
          · have h := in_h c_6 h
            refine lv_aload_n hx hb dX11_readOn_130 rfl (lv_at hl 1 rfl) ?_
            refine lv_iconst (v := (0 : Int32)) hx hb dX11_readOn_131 (by decide) ?_
            refine lv_iload_n hx hb dX11_readOn_132 rfl (lv_at hl 3 rfl) ?_
            refine lv_bipush (v := (65 : Int32)) hx hb dX11_readOn_133 (by decide) ?_
            refine lv_isub hx hb dX11_readOn_135 ?_
            obtain ⟨v_14, hv_14, h⟩ := bd_h h
            refine callVIm [0, 1, 2] [3] [(a_where, .inl (cI, 60, .inl v_where))] (wX11_readOn cI cZ a_this a_thick a_hollow a_damp a_fresh a_pulls a_fats a_deep a_fine a_pay a_hair a_sightPicture a_sightPull a_sightShows a_pad a_act a_where a_much a_kindMany a_had a_leaves a_mostPay a_canLast a_leastMissed a_kept a_isKept v_stones v_flat v_leastThick v_sights v_padMany v_14.2.1 v_pulled v_skyPull v_skyWhose v_badAct v_badWhy v_keptAt v_isWriting v_14.2.2.1 v_14.2.2.2 v_where) C lk_RX11_156 (ctX11_close a_this a_thick a_hollow a_damp a_fresh a_pulls a_fats a_deep a_fine a_pay a_hair a_sightPicture a_sightPull a_sightShows a_pad a_act a_where a_much a_kindMany a_had a_leaves a_mostPay a_canLast a_leastMissed a_kept a_isKept (0 : Int32) (x2 - (65 : Int32)) v_stones v_flat v_leastThick v_sights v_padMany v_acts v_pulled v_skyPull v_skyWhose v_badAct v_badWhy v_keptAt v_isWriting v_act v_much hv_14) hW hl 11 rfl rfl rfl rfl rfl rfl rfl rfl rfl rfl ⟨rfl, rfl⟩ ⟨(Nat.le_of_ble_eq_true rfl), (Nat.le_of_ble_eq_true rfl)⟩ ⟨Nat.zero_le _, Nat.zero_le _⟩ rfl (Nat.le_of_ble_eq_true rfl) dX11_readOn_136 (fun H locs hW => ?_)
            obtain rfl := Option.some.inj h
            exact hQ rfl _ _ _ _ dX11_readOn_139 hW
        · have h := in_h c_5 h
          refine lv_aload_n hx hb dX11_readOn_106 rfl (lv_at hl 1 rfl) ?_
          refine lv_iconst (v := (4 : Int32)) hx hb dX11_readOn_107 (by decide) ?_
          refine lv_iload_n hx hb dX11_readOn_108 rfl (lv_at hl 3 rfl) ?_
          refine lv_bipush (v := (48 : Int32)) hx hb dX11_readOn_109 (by decide) ?_
          refine lv_isub hx hb dX11_readOn_111 ?_
          obtain ⟨v_15, hv_15, h⟩ := bd_h h
          refine callVIm [0, 1, 2] [3] [(a_where, .inl (cI, 60, .inl v_where))] (wX11_readOn cI cZ a_this a_thick a_hollow a_damp a_fresh a_pulls a_fats a_deep a_fine a_pay a_hair a_sightPicture a_sightPull a_sightShows a_pad a_act a_where a_much a_kindMany a_had a_leaves a_mostPay a_canLast a_leastMissed a_kept a_isKept v_stones v_flat v_leastThick v_sights v_padMany v_15.2.1 v_pulled v_skyPull v_skyWhose v_badAct v_badWhy v_keptAt v_isWriting v_15.2.2.1 v_15.2.2.2 v_where) C lk_RX11_156 (ctX11_close a_this a_thick a_hollow a_damp a_fresh a_pulls a_fats a_deep a_fine a_pay a_hair a_sightPicture a_sightPull a_sightShows a_pad a_act a_where a_much a_kindMany a_had a_leaves a_mostPay a_canLast a_leastMissed a_kept a_isKept (4 : Int32) (x2 - (48 : Int32)) v_stones v_flat v_leastThick v_sights v_padMany v_acts v_pulled v_skyPull v_skyWhose v_badAct v_badWhy v_keptAt v_isWriting v_act v_much hv_15) hW hl 11 rfl rfl rfl rfl rfl rfl rfl rfl rfl rfl ⟨rfl, rfl⟩ ⟨(Nat.le_of_ble_eq_true rfl), (Nat.le_of_ble_eq_true rfl)⟩ ⟨Nat.zero_le _, Nat.zero_le _⟩ rfl (Nat.le_of_ble_eq_true rfl) dX11_readOn_112 (fun H locs hW => ?_)
          obtain rfl := Option.some.inj h
          exact hQ rfl _ _ _ _ dX11_readOn_115 hW
      · have h := ip_h c_4 h
        refine lv_iload_n hx hb dX11_readOn_80 rfl (lv_at hl 3 rfl) ?_
        refine callSI0 C lk_RX11_153 (ctX11_stoneOf x2 rfl) hW hl rfl ⟨rfl, rfl⟩ ⟨(Nat.le_of_ble_eq_true rfl), (Nat.le_of_ble_eq_true rfl)⟩ ⟨Nat.zero_le _, Nat.zero_le _⟩ rfl (Nat.le_of_ble_eq_true rfl) dX11_readOn_81 (fun H locs hW => ?_)
        refine lv_if_ge (tgt := 92) hx hb dX11_readOn_84 (by decide) (fun c_16 => ?_) (fun c_16 => ?_)
        · have h := ip_h c_16 h
          refine lv_aload_n hx hb dX11_readOn_92 rfl (lv_at hl 1 rfl) ?_
          refine lv_iconst (v := (5 : Int32)) hx hb dX11_readOn_93 (by decide) ?_
          refine lv_iload_n hx hb dX11_readOn_94 rfl (lv_at hl 3 rfl) ?_
          refine lv_bipush (v := (97 : Int32)) hx hb dX11_readOn_95 (by decide) ?_
          refine lv_isub hx hb dX11_readOn_97 ?_
          obtain ⟨v_17, hv_17, h⟩ := bd_h h
          refine callVIm [0, 1, 2] [3] [(a_where, .inl (cI, 60, .inl v_where))] (wX11_readOn cI cZ a_this a_thick a_hollow a_damp a_fresh a_pulls a_fats a_deep a_fine a_pay a_hair a_sightPicture a_sightPull a_sightShows a_pad a_act a_where a_much a_kindMany a_had a_leaves a_mostPay a_canLast a_leastMissed a_kept a_isKept v_stones v_flat v_leastThick v_sights v_padMany v_17.2.1 v_pulled v_skyPull v_skyWhose v_badAct v_badWhy v_keptAt v_isWriting v_17.2.2.1 v_17.2.2.2 v_where) C lk_RX11_156 (ctX11_close a_this a_thick a_hollow a_damp a_fresh a_pulls a_fats a_deep a_fine a_pay a_hair a_sightPicture a_sightPull a_sightShows a_pad a_act a_where a_much a_kindMany a_had a_leaves a_mostPay a_canLast a_leastMissed a_kept a_isKept (5 : Int32) (x2 - (97 : Int32)) v_stones v_flat v_leastThick v_sights v_padMany v_acts v_pulled v_skyPull v_skyWhose v_badAct v_badWhy v_keptAt v_isWriting v_act v_much hv_17) hW hl 11 rfl rfl rfl rfl rfl rfl rfl rfl rfl rfl ⟨rfl, rfl⟩ ⟨(Nat.le_of_ble_eq_true rfl), (Nat.le_of_ble_eq_true rfl)⟩ ⟨Nat.zero_le _, Nat.zero_le _⟩ rfl (Nat.le_of_ble_eq_true rfl) dX11_readOn_98 (fun H locs hW => ?_)
          obtain rfl := Option.some.inj h
          exact hQ rfl _ _ _ _ dX11_readOn_101 hW
        · have h := in_h c_16 h
          refine lv_bipush (v := (-6 : Int32)) hx hb dX11_readOn_87 (by decide) ?_
          refine lv_goto (tgt := 101) hx hb dX11_readOn_89 (by decide) ?_
          obtain rfl := Option.some.inj h
          exact hQ rfl _ _ _ _ dX11_readOn_101 hW
    · have h := ip_h c_3 h
      refine lv_iload_n hx hb dX11_readOn_48 rfl (lv_at hl 0 rfl) ?_
      refine lv_if_eq (tgt := 72) hx hb dX11_readOn_49 (by decide) (fun c_18 => ?_) (fun c_18 => ?_)
      · have h := ip_h c_18 h
        refine lv_bipush (v := (-6 : Int32)) hx hb dX11_readOn_72 (by decide) ?_
        obtain rfl := Option.some.inj h
        exact hQ rfl _ _ _ _ dX11_readOn_74 hW
      · have h := in_h c_18 h
        refine lv_aload_n hx hb dX11_readOn_52 rfl (lv_at hl 1 rfl) ?_
        refine lv_aload_n hx hb dX11_readOn_53 rfl (lv_at hl 1 rfl) ?_
        refine getW C fl_RX11_52 hW 0 rfl rfl dX11_readOn_54 ?_
        refine lv_aload_n hx hb dX11_readOn_57 rfl (lv_at hl 1 rfl) ?_
        refine getW C fl_RX11_146 hW 0 rfl rfl dX11_readOn_58 ?_
        obtain ⟨g_19, h⟩ := gd_h h
        refine ialdW C hW 1 rfl g_19 dX11_readOn_61 ?_
        refine lv_iload_n hx hb dX11_readOn_62 rfl (lv_at hl 3 rfl) ?_
        refine lv_bipush (v := (48 : Int32)) hx hb dX11_readOn_63 (by decide) ?_
        refine lv_isub hx hb dX11_readOn_65 ?_
        obtain ⟨v_20, hv_20, h⟩ := bd_h h
        refine callVIm [0, 1, 2] [3] [(a_where, .inl (cI, 60, .inl v_where))] (wX11_readOn cI cZ a_this a_thick a_hollow a_damp a_fresh a_pulls a_fats a_deep a_fine a_pay a_hair a_sightPicture a_sightPull a_sightShows a_pad a_act a_where a_much a_kindMany a_had a_leaves a_mostPay a_canLast a_leastMissed a_kept a_isKept v_stones v_flat v_leastThick v_sights v_padMany v_20.2.1 v_pulled v_skyPull v_skyWhose v_badAct v_badWhy v_keptAt v_isWriting v_20.2.2.1 v_20.2.2.2 v_where) C lk_RX11_156 (ctX11_close a_this a_thick a_hollow a_damp a_fresh a_pulls a_fats a_deep a_fine a_pay a_hair a_sightPicture a_sightPull a_sightShows a_pad a_act a_where a_much a_kindMany a_had a_leaves a_mostPay a_canLast a_leastMissed a_kept a_isKept (v_act (Int32.toNatClampNeg v_acts)) (x2 - (48 : Int32)) v_stones v_flat v_leastThick v_sights v_padMany v_acts v_pulled v_skyPull v_skyWhose v_badAct v_badWhy v_keptAt v_isWriting v_act v_much hv_20) hW hl 11 rfl rfl rfl rfl rfl rfl rfl rfl rfl rfl ⟨rfl, rfl⟩ ⟨(Nat.le_of_ble_eq_true rfl), (Nat.le_of_ble_eq_true rfl)⟩ ⟨Nat.zero_le _, Nat.zero_le _⟩ rfl (Nat.le_of_ble_eq_true rfl) dX11_readOn_66 (fun H locs hW => ?_)
        refine lv_goto (tgt := 74) hx hb dX11_readOn_69 (by decide) ?_
        obtain rfl := Option.some.inj h
        exact hQ rfl _ _ _ _ dX11_readOn_74 hW
  · have h := ip_h c_2 h
    refine lv_aload_n hx hb dX11_readOn_16 rfl (lv_at hl 1 rfl) ?_
    refine getW C fl_RX11_55 hW 0 rfl rfl dX11_readOn_17 ?_
    refine lv_aload_n hx hb dX11_readOn_20 rfl (lv_at hl 1 rfl) ?_
    refine getW C fl_RX11_146 hW 0 rfl rfl dX11_readOn_21 ?_
    refine lv_iload_n hx hb dX11_readOn_24 rfl (lv_at hl 3 rfl) ?_
    refine callSI0 C lk_RX11_153 (ctX11_stoneOf x2 rfl) hW hl rfl ⟨rfl, rfl⟩ ⟨(Nat.le_of_ble_eq_true rfl), (Nat.le_of_ble_eq_true rfl)⟩ ⟨Nat.zero_le _, Nat.zero_le _⟩ rfl (Nat.le_of_ble_eq_true rfl) dX11_readOn_25 (fun H locs hW => ?_)
    refine lv_topi (fun v_21 ev_21 => ?_)
    have h := lt_h ev_21 h
    obtain ⟨g_22, h⟩ := gd_h h
    refine iastW C hW 3 rfl g_22 dX11_readOn_28 (fun H locs hW => ?_)
    have hW : HW G A s (wX11_readOn cI cZ a_this a_thick a_hollow a_damp a_fresh a_pulls a_fats a_deep a_fine a_pay a_hair a_sightPicture a_sightPull a_sightShows a_pad a_act a_where a_much a_kindMany a_had a_leaves a_mostPay a_canLast a_leastMissed a_kept a_isKept v_stones v_flat v_leastThick v_sights v_padMany v_acts v_pulled v_skyPull v_skyWhose v_badAct v_badWhy v_keptAt v_isWriting v_act v_much (upd v_where (Int32.toNatClampNeg v_acts) v_21)) H locs := hW
    refine lv_iload_n hx hb dX11_readOn_29 rfl (lv_at hl 3 rfl) ?_
    refine callSI0 C lk_RX11_153 (ctX11_stoneOf x2 rfl) hW hl rfl ⟨rfl, rfl⟩ ⟨(Nat.le_of_ble_eq_true rfl), (Nat.le_of_ble_eq_true rfl)⟩ ⟨Nat.zero_le _, Nat.zero_le _⟩ rfl (Nat.le_of_ble_eq_true rfl) dX11_readOn_30 (fun H locs hW => ?_)
    refine lv_if_ge (tgt := 41) hx hb dX11_readOn_33 (by decide) (fun c_23 => ?_) (fun c_23 => ?_)
    · have h := ip_h c_23 h
      refine lv_iconst (v := (1 : Int32)) hx hb dX11_readOn_41 (by decide) ?_
      obtain rfl := Option.some.inj h
      exact hQ rfl _ _ _ _ dX11_readOn_42 hW
    · have h := in_h c_23 h
      refine lv_bipush (v := (-6 : Int32)) hx hb dX11_readOn_36 (by decide) ?_
      refine lv_goto (tgt := 42) hx hb dX11_readOn_38 (by decide) ?_
      obtain rfl := Option.some.inj h
      exact hQ rfl _ _ _ _ dX11_readOn_42 hW
theorem ctX11_readOn {l : Launch} {G : va_G} {cI cZ cO : ClassId} (a_this a_thick a_hollow a_damp a_fresh a_pulls a_fats a_deep a_fine a_pay a_hair a_sightPicture a_sightPull a_sightShows a_pad a_act a_where a_much a_kindMany a_had a_leaves a_mostPay a_canLast a_leastMissed a_kept a_isKept : Nat) (x1 : Int32) (x2 : Int32) (v_stones : Int32) (v_flat : Int32) (v_leastThick : Int32) (v_sights : Int32) (v_padMany : Int32) (v_acts : Int32) (v_pulled : Int32) (v_skyPull : Int32) (v_skyWhose : Int32) (v_badAct : Int32) (v_badWhy : Int32) (v_keptAt : Int32) (v_isWriting : Int32) (v_act : Nat → Int32) (v_much : Nat → Int32) (v_where : Nat → Int32) {res : Int32 × Int32 × (Nat → Int32) × (Nat → Int32) × (Nat → Int32)} (h : fX11_readOn x1 x2 v_acts v_act v_much v_where = some res) : MI l G cI cZ cO yX11_readOn cX11_readOn 4 .int rX11_readOn [.ref a_this, .int x1, .int x2] (wX11_readOn cI cZ a_this a_thick a_hollow a_damp a_fresh a_pulls a_fats a_deep a_fine a_pay a_hair a_sightPicture a_sightPull a_sightShows a_pad a_act a_where a_much a_kindMany a_had a_leaves a_mostPay a_canLast a_leastMissed a_kept a_isKept v_stones v_flat v_leastThick v_sights v_padMany v_acts v_pulled v_skyPull v_skyWhose v_badAct v_badWhy v_keptAt v_isWriting v_act v_much v_where) (res.1) (wX11_readOn cI cZ a_this a_thick a_hollow a_damp a_fresh a_pulls a_fats a_deep a_fine a_pay a_hair a_sightPicture a_sightPull a_sightShows a_pad a_act a_where a_much a_kindMany a_had a_leaves a_mostPay a_canLast a_leastMissed a_kept a_isKept v_stones v_flat v_leastThick v_sights v_padMany res.2.1 v_pulled v_skyPull v_skyWhose v_badAct v_badWhy v_keptAt v_isWriting res.2.2.1 res.2.2.2.1 res.2.2.2.2) := by
  refine MI.of (by decide) (Nat.le_of_ble_eq_true rfl) ?_
  intro p e s m below meth c A Q C hW hQ ls hl
  exact uX11_readOn_0 x1 x2 v_stones v_flat v_leastThick v_sights v_padMany v_acts v_pulled v_skyPull v_skyWhose v_badAct v_badWhy v_keptAt v_isWriting v_act v_much v_where C hQ h _ _ hW _ hl
abbrev wX11_fault (cI cZ : ClassId) (a_this a_thick a_hollow a_damp a_fresh a_pulls a_fats a_deep a_fine a_pay a_hair a_sightPicture a_sightPull a_sightShows a_pad a_act a_where a_much a_kindMany a_had a_leaves a_mostPay a_canLast a_leastMissed a_kept a_isKept : Nat) (v_stones : Int32) (v_flat : Int32) (v_leastThick : Int32) (v_sights : Int32) (v_padMany : Int32) (v_acts : Int32) (v_pulled : Int32) (v_skyPull : Int32) (v_skyWhose : Int32) (v_badAct : Int32) (v_badWhy : Int32) (v_keptAt : Int32) (v_isWriting : Int32) (v_pad : Nat → Int32) (v_act : Nat → Int32) (v_much : Nat → Int32) (v_where : Nat → Int32) : va_W := [(a_this, .inr (11, [.int v_stones, .int v_flat, .int v_leastThick, .ref a_thick, .ref a_hollow, .ref a_damp, .ref a_fresh, .ref a_pulls, .ref a_fats, .ref a_deep, .ref a_fine, .ref a_pay, .ref a_hair, .ref a_sightPicture, .ref a_sightPull, .ref a_sightShows, .int v_sights, .ref a_pad, .int v_padMany, .ref a_act, .ref a_where, .ref a_much, .int v_acts, .int v_pulled, .ref a_kindMany, .int v_skyPull, .int v_skyWhose, .ref a_had, .ref a_leaves, .int v_badAct, .int v_badWhy, .ref a_mostPay, .ref a_canLast, .ref a_leastMissed, .ref a_kept, .ref a_isKept, .int v_keptAt, .int v_isWriting])), (a_pad, .inl (cI, 60, .inl v_pad)), (a_act, .inl (cI, 60, .inl v_act)), (a_much, .inl (cI, 60, .inl v_much)), (a_where, .inl (cI, 60, .inl v_where))]
abbrev rX11_fault : Room := { frames := 3, cells := 0, slots := 0, locals := 68 }
set_option maxRecDepth 20000 in
theorem uX11_fault_9 {a_this a_thick a_hollow a_damp a_fresh a_pulls a_fats a_deep a_fine a_pay a_hair a_sightPicture a_sightPull a_sightShows a_pad a_act a_where a_much a_kindMany a_had a_leaves a_mostPay a_canLast a_leastMissed a_kept a_isKept : Nat} (x1 : Int32) (x2 : Int32) (v_stones : Int32) (v_flat : Int32) (v_leastThick : Int32) (v_sights : Int32) (v_padMany : Int32) (v_acts : Int32) (v_pulled : Int32) (v_skyPull : Int32) (v_skyWhose : Int32) (v_badAct : Int32) (v_badWhy : Int32) (v_keptAt : Int32) (v_isWriting : Int32) (v_pad : Nat → Int32) (v_act : Nat → Int32) (v_much : Nat → Int32) (v_where : Nat → Int32) {res : Int32 × Int32 × (Nat → Int32) × (Nat → Int32) × (Nat → Int32)} (C : Cx p s m av meth c RX11 cX11_fault 3 (some .int) G cI cZ cO A) (hQ : RI p l e rX11_fault s m av below meth c G A cX11_fault .int Q (res.1) (wX11_fault cI cZ a_this a_thick a_hollow a_damp a_fresh a_pulls a_fats a_deep a_fine a_pay a_hair a_sightPicture a_sightPull a_sightShows a_pad a_act a_where a_much a_kindMany a_had a_leaves a_mostPay a_canLast a_leastMissed a_kept a_isKept v_stones v_flat v_leastThick v_sights v_padMany res.2.1 v_pulled v_skyPull v_skyWhose v_badAct v_badWhy v_keptAt v_isWriting v_pad res.2.2.1 res.2.2.2.1 res.2.2.2.2)) {k9 : (Int32) → (Int32) → (Int32) → (Nat → Int32) → (Nat → Int32) → (Nat → Int32) → Option (Int32 × Int32 × (Nat → Int32) × (Nat → Int32) × (Nat → Int32))} (hk9 : ∀ (x1 : Int32) (x2 : Int32) (v_acts : Int32) (v_act : Nat → Int32) (v_much : Nat → Int32) (v_where : Nat → Int32), k9 x1 x2 v_acts v_act v_much v_where = some res → ∀ (H : Heap) (locs : List Loc), HW G A s (wX11_fault cI cZ a_this a_thick a_hollow a_damp a_fresh a_pulls a_fats a_deep a_fine a_pay a_hair a_sightPicture a_sightPull a_sightShows a_pad a_act a_where a_much a_kindMany a_had a_leaves a_mostPay a_canLast a_leastMissed a_kept a_isKept v_stones v_flat v_leastThick v_sights v_padMany v_acts v_pulled v_skyPull v_skyWhose v_badAct v_badWhy v_keptAt v_isWriting v_pad v_act v_much v_where) H locs → ∀ ls : Array Slot, lv_has ls 3 [(0, .ref a_this), (1, .int x1), (2, .int x2)] → W p l e rX11_fault s m av below meth c H locs 0 0 Q (F0 m 9 ls [])) (h : FX11_fault_9 v_padMany v_pad k9 x1 x2 v_acts v_act v_much v_where = some res) (H : Heap) (locs : List Loc) (hW : HW G A s (wX11_fault cI cZ a_this a_thick a_hollow a_damp a_fresh a_pulls a_fats a_deep a_fine a_pay a_hair a_sightPicture a_sightPull a_sightShows a_pad a_act a_where a_much a_kindMany a_had a_leaves a_mostPay a_canLast a_leastMissed a_kept a_isKept v_stones v_flat v_leastThick v_sights v_padMany v_acts v_pulled v_skyPull v_skyWhose v_badAct v_badWhy v_keptAt v_isWriting v_pad v_act v_much v_where) H locs) (ls : Array Slot) (hl : lv_has ls 3 [(0, .ref a_this), (1, .int x1), (2, .int x2)]) : W p l e rX11_fault s m av below meth c H locs 0 0 Q (F0 m 9 ls []) := by
  have hx := C.1
  have hb := C.2.1
  unfold FX11_fault_9 at h
  refine lv_iload_n hx hb dX11_fault_9 rfl (lv_at hl 2 rfl) ?_
  refine lv_aload_n hx hb dX11_fault_10 rfl (lv_at hl 0 rfl) ?_
  refine getW C fl_RX11_139 hW 0 rfl rfl dX11_fault_11 ?_
  refine lv_icmp_ge (tgt := 41) hx hb dX11_fault_14 (by decide) (fun c_1 => ?_) (fun c_1 => ?_)
  · have h := ip_h c_1 h
    refine lv_iload_n hx hb dX11_fault_41 rfl (lv_at hl 1 rfl) ?_
    refine lv_if_ne (tgt := 50) hx hb dX11_fault_42 (by decide) (fun c_2 => ?_) (fun c_2 => ?_)
    · have h := in_h c_2 h
      refine lv_aload_n hx hb dX11_fault_50 rfl (lv_at hl 0 rfl) ?_
      refine getW C fl_RX11_139 hW 0 rfl rfl dX11_fault_51 ?_
      obtain rfl := Option.some.inj h
      exact hQ rfl _ _ _ _ dX11_fault_54 hW
    · have h := ip_h c_2 h
      refine lv_bipush (v := (-6 : Int32)) hx hb dX11_fault_45 (by decide) ?_
      refine lv_goto (tgt := 54) hx hb dX11_fault_47 (by decide) ?_
      obtain rfl := Option.some.inj h
      exact hQ rfl _ _ _ _ dX11_fault_54 hW
  · have h := in_h c_1 h
    refine lv_aload_n hx hb dX11_fault_17 rfl (lv_at hl 0 rfl) ?_
    refine lv_iload_n hx hb dX11_fault_18 rfl (lv_at hl 1 rfl) ?_
    refine lv_aload_n hx hb dX11_fault_19 rfl (lv_at hl 0 rfl) ?_
    refine getW C fl_RX11_49 hW 0 rfl rfl dX11_fault_20 ?_
    refine lv_iload_n hx hb dX11_fault_23 rfl (lv_at hl 2 rfl) ?_
    obtain ⟨g_3, h⟩ := gd_h h
    refine ialdW C hW 1 rfl g_3 dX11_fault_24 ?_
    obtain ⟨v_4, hv_4, h⟩ := bd_h h
    refine callVIm [0, 2, 3, 4] [1] [(a_pad, .inl (cI, 60, .inl v_pad))] (wX11_fault cI cZ a_this a_thick a_hollow a_damp a_fresh a_pulls a_fats a_deep a_fine a_pay a_hair a_sightPicture a_sightPull a_sightShows a_pad a_act a_where a_much a_kindMany a_had a_leaves a_mostPay a_canLast a_leastMissed a_kept a_isKept v_stones v_flat v_leastThick v_sights v_padMany v_4.2.1 v_pulled v_skyPull v_skyWhose v_badAct v_badWhy v_keptAt v_isWriting v_pad v_4.2.2.1 v_4.2.2.2.1 v_4.2.2.2.2) C lk_RX11_163 (ctX11_readOn a_this a_thick a_hollow a_damp a_fresh a_pulls a_fats a_deep a_fine a_pay a_hair a_sightPicture a_sightPull a_sightShows a_pad a_act a_where a_much a_kindMany a_had a_leaves a_mostPay a_canLast a_leastMissed a_kept a_isKept x1 (v_pad (Int32.toNatClampNeg x2)) v_stones v_flat v_leastThick v_sights v_padMany v_acts v_pulled v_skyPull v_skyWhose v_badAct v_badWhy v_keptAt v_isWriting v_act v_much v_where hv_4) hW hl 11 rfl rfl rfl rfl rfl rfl rfl rfl rfl rfl ⟨rfl, rfl⟩ ⟨(Nat.le_of_ble_eq_true rfl), (Nat.le_of_ble_eq_true rfl)⟩ ⟨Nat.zero_le _, Nat.zero_le _⟩ rfl (Nat.le_of_ble_eq_true rfl) dX11_fault_25 (fun H locs hW => ?_)
    refine lv_istore_n (lv' := [(1, .int v_4.1), (0, .ref a_this), (2, .int x2)]) hx hb dX11_fault_28 rfl hl (Nat.le_of_ble_eq_true rfl) rfl (fun ls hl => ?_)
    refine lv_iload_n hx hb dX11_fault_29 rfl (lv_at hl 0 rfl) ?_
    refine lv_if_ge (tgt := 35) hx hb dX11_fault_30 (by decide) (fun c_5 => ?_) (fun c_5 => ?_)
    · have h := ip_h c_5 h
      obtain ⟨v_6, ev_6⟩ : ∃ y : Int32, y = x2 + (1 : Int32) := ⟨_, rfl⟩
      have h := lt_h ev_6 h
      refine lv_iinc (v := v_6) (lv' := [(2, .int v_6), (1, .int v_4.1), (0, .ref a_this)]) hx hb dX11_fault_35 hl (k := 2) rfl (by rw [ev_6]; rfl) (Nat.le_of_ble_eq_true rfl) rfl (fun ls hl => ?_)
      refine lv_goto (tgt := 9) hx hb dX11_fault_38 (by decide) ?_
      exact hk9 v_4.1 v_6 v_4.2.1 v_4.2.2.1 v_4.2.2.2.1 v_4.2.2.2.2 h _ _ hW _ (lv_sub hl [2, 1, 0] rfl)
    · have h := in_h c_5 h
      refine lv_iload_n hx hb dX11_fault_33 rfl (lv_at hl 2 rfl) ?_
      obtain rfl := Option.some.inj h
      exact hQ rfl _ _ _ _ dX11_fault_34 hW
theorem wX11_fault_9_ {a_this a_thick a_hollow a_damp a_fresh a_pulls a_fats a_deep a_fine a_pay a_hair a_sightPicture a_sightPull a_sightShows a_pad a_act a_where a_much a_kindMany a_had a_leaves a_mostPay a_canLast a_leastMissed a_kept a_isKept : Nat} (v_stones : Int32) (v_flat : Int32) (v_leastThick : Int32) (v_sights : Int32) (v_padMany : Int32) (v_pulled : Int32) (v_skyPull : Int32) (v_skyWhose : Int32) (v_badAct : Int32) (v_badWhy : Int32) (v_keptAt : Int32) (v_isWriting : Int32) (v_pad : Nat → Int32) {res : Int32 × Int32 × (Nat → Int32) × (Nat → Int32) × (Nat → Int32)} (C : Cx p s m av meth c RX11 cX11_fault 3 (some .int) G cI cZ cO A) (hQ : RI p l e rX11_fault s m av below meth c G A cX11_fault .int Q (res.1) (wX11_fault cI cZ a_this a_thick a_hollow a_damp a_fresh a_pulls a_fats a_deep a_fine a_pay a_hair a_sightPicture a_sightPull a_sightShows a_pad a_act a_where a_much a_kindMany a_had a_leaves a_mostPay a_canLast a_leastMissed a_kept a_isKept v_stones v_flat v_leastThick v_sights v_padMany res.2.1 v_pulled v_skyPull v_skyWhose v_badAct v_badWhy v_keptAt v_isWriting v_pad res.2.2.1 res.2.2.2.1 res.2.2.2.2)) : ∀ (n : Nat) (x1 : Int32) (x2 : Int32) (v_acts : Int32) (v_act : Nat → Int32) (v_much : Nat → Int32) (v_where : Nat → Int32), LX11_fault_9 v_padMany v_pad n x1 x2 v_acts v_act v_much v_where = some res → ∀ (H : Heap) (locs : List Loc), HW G A s (wX11_fault cI cZ a_this a_thick a_hollow a_damp a_fresh a_pulls a_fats a_deep a_fine a_pay a_hair a_sightPicture a_sightPull a_sightShows a_pad a_act a_where a_much a_kindMany a_had a_leaves a_mostPay a_canLast a_leastMissed a_kept a_isKept v_stones v_flat v_leastThick v_sights v_padMany v_acts v_pulled v_skyPull v_skyWhose v_badAct v_badWhy v_keptAt v_isWriting v_pad v_act v_much v_where) H locs → ∀ ls : Array Slot, lv_has ls 3 [(0, .ref a_this), (1, .int x1), (2, .int x2)] → W p l e rX11_fault s m av below meth c H locs 0 0 Q (F0 m 9 ls []) := by
  intro n
  induction n with
  | zero => intro x1 x2 v_acts v_act v_much v_where h; cases h
  | succ n ih =>
    intro x1 x2 v_acts v_act v_much v_where h H locs hW ls hl
    exact uX11_fault_9 x1 x2 v_stones v_flat v_leastThick v_sights v_padMany v_acts v_pulled v_skyPull v_skyWhose v_badAct v_badWhy v_keptAt v_isWriting v_pad v_act v_much v_where C hQ (k9 := LX11_fault_9 v_padMany v_pad n) ih h H locs hW ls hl
set_option maxRecDepth 20000 in
theorem uX11_fault_0 {a_this a_thick a_hollow a_damp a_fresh a_pulls a_fats a_deep a_fine a_pay a_hair a_sightPicture a_sightPull a_sightShows a_pad a_act a_where a_much a_kindMany a_had a_leaves a_mostPay a_canLast a_leastMissed a_kept a_isKept : Nat} (v_stones : Int32) (v_flat : Int32) (v_leastThick : Int32) (v_sights : Int32) (v_padMany : Int32) (v_acts : Int32) (v_pulled : Int32) (v_skyPull : Int32) (v_skyWhose : Int32) (v_badAct : Int32) (v_badWhy : Int32) (v_keptAt : Int32) (v_isWriting : Int32) (v_pad : Nat → Int32) (v_act : Nat → Int32) (v_much : Nat → Int32) (v_where : Nat → Int32) {res : Int32 × Int32 × (Nat → Int32) × (Nat → Int32) × (Nat → Int32)} (C : Cx p s m av meth c RX11 cX11_fault 3 (some .int) G cI cZ cO A) (hQ : RI p l e rX11_fault s m av below meth c G A cX11_fault .int Q (res.1) (wX11_fault cI cZ a_this a_thick a_hollow a_damp a_fresh a_pulls a_fats a_deep a_fine a_pay a_hair a_sightPicture a_sightPull a_sightShows a_pad a_act a_where a_much a_kindMany a_had a_leaves a_mostPay a_canLast a_leastMissed a_kept a_isKept v_stones v_flat v_leastThick v_sights v_padMany res.2.1 v_pulled v_skyPull v_skyWhose v_badAct v_badWhy v_keptAt v_isWriting v_pad res.2.2.1 res.2.2.2.1 res.2.2.2.2)) (h : fX11_fault v_padMany v_pad v_act v_much v_where = some res) (H : Heap) (locs : List Loc) (hW : HW G A s (wX11_fault cI cZ a_this a_thick a_hollow a_damp a_fresh a_pulls a_fats a_deep a_fine a_pay a_hair a_sightPicture a_sightPull a_sightShows a_pad a_act a_where a_much a_kindMany a_had a_leaves a_mostPay a_canLast a_leastMissed a_kept a_isKept v_stones v_flat v_leastThick v_sights v_padMany v_acts v_pulled v_skyPull v_skyWhose v_badAct v_badWhy v_keptAt v_isWriting v_pad v_act v_much v_where) H locs) (ls : Array Slot) (hl : lv_has ls 3 [(0, .ref a_this)]) : W p l e rX11_fault s m av below meth c H locs 0 0 Q (F0 m 0 ls []) := by
  have hx := C.1
  have hb := C.2.1
  unfold fX11_fault at h
  refine lv_aload_n hx hb dX11_fault_0 rfl (lv_at hl 0 rfl) ?_
  refine lv_iconst (v := (0 : Int32)) hx hb dX11_fault_1 (by decide) ?_
  refine putW C fp_RX11_146 hW 0 rfl rfl rfl (Nat.le_of_ble_eq_true rfl) dX11_fault_2 (fun H locs hW => ?_)
  have hW : HW G A s (wX11_fault cI cZ a_this a_thick a_hollow a_damp a_fresh a_pulls a_fats a_deep a_fine a_pay a_hair a_sightPicture a_sightPull a_sightShows a_pad a_act a_where a_much a_kindMany a_had a_leaves a_mostPay a_canLast a_leastMissed a_kept a_isKept v_stones v_flat v_leastThick v_sights v_padMany (0 : Int32) v_pulled v_skyPull v_skyWhose v_badAct v_badWhy v_keptAt v_isWriting v_pad v_act v_much v_where) H locs := hW
  refine lv_iconst (v := (0 : Int32)) hx hb dX11_fault_5 (by decide) ?_
  refine lv_istore_n (lv' := [(1, .int (0 : Int32)), (0, .ref a_this)]) hx hb dX11_fault_6 rfl hl (Nat.le_of_ble_eq_true rfl) rfl (fun ls hl => ?_)
  refine lv_iconst (v := (0 : Int32)) hx hb dX11_fault_7 (by decide) ?_
  refine lv_istore_n (lv' := [(2, .int (0 : Int32)), (1, .int (0 : Int32)), (0, .ref a_this)]) hx hb dX11_fault_8 rfl hl (Nat.le_of_ble_eq_true rfl) rfl (fun ls hl => ?_)
  exact wX11_fault_9_ v_stones v_flat v_leastThick v_sights v_padMany v_pulled v_skyPull v_skyWhose v_badAct v_badWhy v_keptAt v_isWriting v_pad C hQ 2000 (0 : Int32) (0 : Int32) (0 : Int32) v_act v_much v_where h _ _ hW _ (lv_sub hl [2, 1, 0] rfl)
theorem ctX11_fault {l : Launch} {G : va_G} {cI cZ cO : ClassId} (a_this a_thick a_hollow a_damp a_fresh a_pulls a_fats a_deep a_fine a_pay a_hair a_sightPicture a_sightPull a_sightShows a_pad a_act a_where a_much a_kindMany a_had a_leaves a_mostPay a_canLast a_leastMissed a_kept a_isKept : Nat) (v_stones : Int32) (v_flat : Int32) (v_leastThick : Int32) (v_sights : Int32) (v_padMany : Int32) (v_acts : Int32) (v_pulled : Int32) (v_skyPull : Int32) (v_skyWhose : Int32) (v_badAct : Int32) (v_badWhy : Int32) (v_keptAt : Int32) (v_isWriting : Int32) (v_pad : Nat → Int32) (v_act : Nat → Int32) (v_much : Nat → Int32) (v_where : Nat → Int32) {res : Int32 × Int32 × (Nat → Int32) × (Nat → Int32) × (Nat → Int32)} (h : fX11_fault v_padMany v_pad v_act v_much v_where = some res) : MI l G cI cZ cO yX11_fault cX11_fault 3 .int rX11_fault [.ref a_this] (wX11_fault cI cZ a_this a_thick a_hollow a_damp a_fresh a_pulls a_fats a_deep a_fine a_pay a_hair a_sightPicture a_sightPull a_sightShows a_pad a_act a_where a_much a_kindMany a_had a_leaves a_mostPay a_canLast a_leastMissed a_kept a_isKept v_stones v_flat v_leastThick v_sights v_padMany v_acts v_pulled v_skyPull v_skyWhose v_badAct v_badWhy v_keptAt v_isWriting v_pad v_act v_much v_where) (res.1) (wX11_fault cI cZ a_this a_thick a_hollow a_damp a_fresh a_pulls a_fats a_deep a_fine a_pay a_hair a_sightPicture a_sightPull a_sightShows a_pad a_act a_where a_much a_kindMany a_had a_leaves a_mostPay a_canLast a_leastMissed a_kept a_isKept v_stones v_flat v_leastThick v_sights v_padMany res.2.1 v_pulled v_skyPull v_skyWhose v_badAct v_badWhy v_keptAt v_isWriting v_pad res.2.2.1 res.2.2.2.1 res.2.2.2.2) := by
  refine MI.of (by decide) (Nat.le_of_ble_eq_true rfl) ?_
  intro p e s m below meth c A Q C hW hQ ls hl
  exact uX11_fault_0 v_stones v_flat v_leastThick v_sights v_padMany v_acts v_pulled v_skyPull v_skyWhose v_badAct v_badWhy v_keptAt v_isWriting v_pad v_act v_much v_where C hQ h _ _ hW _ hl
abbrev wX11_whyNot (cI cZ : ClassId) (a_this a_thick a_hollow a_damp a_fresh a_pulls a_fats a_deep a_fine a_pay a_hair a_sightPicture a_sightPull a_sightShows a_pad a_act a_where a_much a_kindMany a_had a_leaves a_mostPay a_canLast a_leastMissed a_kept a_isKept : Nat) (v_stones : Int32) (v_flat : Int32) (v_leastThick : Int32) (v_sights : Int32) (v_padMany : Int32) (v_acts : Int32) (v_pulled : Int32) (v_skyPull : Int32) (v_skyWhose : Int32) (v_badAct : Int32) (v_badWhy : Int32) (v_keptAt : Int32) (v_isWriting : Int32) (v_hollow : Nat → Int32) (v_thick : Nat → Int32) (v_fresh : Nat → Int32) : va_W := [(a_this, .inr (11, [.int v_stones, .int v_flat, .int v_leastThick, .ref a_thick, .ref a_hollow, .ref a_damp, .ref a_fresh, .ref a_pulls, .ref a_fats, .ref a_deep, .ref a_fine, .ref a_pay, .ref a_hair, .ref a_sightPicture, .ref a_sightPull, .ref a_sightShows, .int v_sights, .ref a_pad, .int v_padMany, .ref a_act, .ref a_where, .ref a_much, .int v_acts, .int v_pulled, .ref a_kindMany, .int v_skyPull, .int v_skyWhose, .ref a_had, .ref a_leaves, .int v_badAct, .int v_badWhy, .ref a_mostPay, .ref a_canLast, .ref a_leastMissed, .ref a_kept, .ref a_isKept, .int v_keptAt, .int v_isWriting])), (a_hollow, .inl (cI, 5, .inl v_hollow)), (a_thick, .inl (cI, 5, .inl v_thick)), (a_fresh, .inl (cI, 5, .inl v_fresh))]
abbrev rX11_whyNot : Room := { frames := 2, cells := 0, slots := 0, locals := 46 }
set_option maxRecDepth 20000 in
theorem uX11_whyNot_41 {a_this a_thick a_hollow a_damp a_fresh a_pulls a_fats a_deep a_fine a_pay a_hair a_sightPicture a_sightPull a_sightShows a_pad a_act a_where a_much a_kindMany a_had a_leaves a_mostPay a_canLast a_leastMissed a_kept a_isKept : Nat} (x1 : Int32) (x2 : Int32) (x3 : Int32) (s0 : Int32) (v_stones : Int32) (v_flat : Int32) (v_leastThick : Int32) (v_sights : Int32) (v_padMany : Int32) (v_acts : Int32) (v_pulled : Int32) (v_skyPull : Int32) (v_skyWhose : Int32) (v_badAct : Int32) (v_badWhy : Int32) (v_keptAt : Int32) (v_isWriting : Int32) (v_hollow : Nat → Int32) (v_thick : Nat → Int32) (v_fresh : Nat → Int32) {res : Int32} (C : Cx p s m av meth c RX11 cX11_whyNot 5 (some .int) G cI cZ cO A) (hQ : RI p l e rX11_whyNot s m av below meth c G A cX11_whyNot .int Q (res) (wX11_whyNot cI cZ a_this a_thick a_hollow a_damp a_fresh a_pulls a_fats a_deep a_fine a_pay a_hair a_sightPicture a_sightPull a_sightShows a_pad a_act a_where a_much a_kindMany a_had a_leaves a_mostPay a_canLast a_leastMissed a_kept a_isKept v_stones v_flat v_leastThick v_sights v_padMany v_acts v_pulled v_skyPull v_skyWhose v_badAct v_badWhy v_keptAt v_isWriting v_hollow v_thick v_fresh)) (h : fX11_whyNot_41 x1 x2 x3 s0 v_leastThick v_thick v_fresh = some res) (H : Heap) (locs : List Loc) (hW : HW G A s (wX11_whyNot cI cZ a_this a_thick a_hollow a_damp a_fresh a_pulls a_fats a_deep a_fine a_pay a_hair a_sightPicture a_sightPull a_sightShows a_pad a_act a_where a_much a_kindMany a_had a_leaves a_mostPay a_canLast a_leastMissed a_kept a_isKept v_stones v_flat v_leastThick v_sights v_padMany v_acts v_pulled v_skyPull v_skyWhose v_badAct v_badWhy v_keptAt v_isWriting v_hollow v_thick v_fresh) H locs) (ls : Array Slot) (hl : lv_has ls 5 [(0, .ref a_this), (1, .int x1), (2, .int x2), (3, .int x3)]) : W p l e rX11_whyNot s m av below meth c H locs 0 0 Q (F0 m 41 ls [.int s0]) := by
  have hx := C.1
  have hb := C.2.1
  unfold fX11_whyNot_41 at h
  refine lv_istore (lv' := [(4, .int s0), (0, .ref a_this), (1, .int x1), (2, .int x2), (3, .int x3)]) hx hb dX11_whyNot_41 hl (Nat.le_of_ble_eq_true rfl) rfl (fun ls hl => ?_)
  refine lv_iload_n hx hb dX11_whyNot_43 rfl (lv_at hl 2 rfl) ?_
  by_cases c_5 : x1 = (0 : Int32)
  · have h := ip_h c_5 h
    refine lv_tableIn (off := 51) (tgt := 95) hx hb dX11_whyNot_44 (by rw [c_5]; decide) (by rw [c_5]; decide) (by rw [c_5]; rfl) (by decide) ?_
    refine lv_aload_n hx hb dX11_whyNot_95 rfl (lv_at hl 1 rfl) ?_
    refine getW C fl_RX11_19 hW 0 rfl rfl dX11_whyNot_96 ?_
    refine lv_iload_n hx hb dX11_whyNot_99 rfl (lv_at hl 3 rfl) ?_
    obtain ⟨g_6, h⟩ := gd_h h
    refine ialdW C hW 3 rfl g_6 dX11_whyNot_100 ?_
    refine lv_if_lt (tgt := 108) hx hb dX11_whyNot_101 (by decide) (fun c_7 => ?_) (fun c_7 => ?_)
    · have h := ip_h c_7 h
      refine lv_iload hx hb dX11_whyNot_108 (lv_at hl 0 rfl) ?_
      refine lv_if_eq (tgt := 117) hx hb dX11_whyNot_110 (by decide) (fun c_8 => ?_) (fun c_8 => ?_)
      · have h := ip_h c_8 h
        refine lv_iconst (v := (0 : Int32)) hx hb dX11_whyNot_117 (by decide) ?_
        obtain rfl := Option.some.inj h
        exact hQ rfl _ _ _ _ dX11_whyNot_118 hW
      · have h := in_h c_8 h
        refine lv_iconst (v := (5 : Int32)) hx hb dX11_whyNot_113 (by decide) ?_
        refine lv_goto (tgt := 118) hx hb dX11_whyNot_114 (by decide) ?_
        obtain rfl := Option.some.inj h
        exact hQ rfl _ _ _ _ dX11_whyNot_118 hW
    · have h := in_h c_7 h
      refine lv_iconst (v := (3 : Int32)) hx hb dX11_whyNot_104 (by decide) ?_
      refine lv_goto (tgt := 118) hx hb dX11_whyNot_105 (by decide) ?_
      obtain rfl := Option.some.inj h
      exact hQ rfl _ _ _ _ dX11_whyNot_118 hW
  · have h := in_h c_5 h
    by_cases c_9 : x1 = (1 : Int32)
    · have h := ip_h c_9 h
      refine lv_tableIn (off := 119) (tgt := 163) hx hb dX11_whyNot_44 (by rw [c_9]; decide) (by rw [c_9]; decide) (by rw [c_9]; rfl) (by decide) ?_
      refine lv_aload_n hx hb dX11_whyNot_163 rfl (lv_at hl 1 rfl) ?_
      refine getW C fl_RX11_7 hW 0 rfl rfl dX11_whyNot_164 ?_
      refine lv_iload_n hx hb dX11_whyNot_167 rfl (lv_at hl 3 rfl) ?_
      obtain ⟨g_10, h⟩ := gd_h h
      refine ialdW C hW 2 rfl g_10 dX11_whyNot_168 ?_
      refine lv_iconst (v := (3 : Int32)) hx hb dX11_whyNot_169 (by decide) ?_
      refine lv_iload_n hx hb dX11_whyNot_170 rfl (lv_at hl 4 rfl) ?_
      refine lv_imul hx hb dX11_whyNot_171 ?_
      refine lv_isub hx hb dX11_whyNot_172 ?_
      refine lv_aload_n hx hb dX11_whyNot_173 rfl (lv_at hl 1 rfl) ?_
      refine getW C fl_RX11_90 hW 0 rfl rfl dX11_whyNot_174 ?_
      refine lv_icmp_ge (tgt := 185) hx hb dX11_whyNot_177 (by decide) (fun c_11 => ?_) (fun c_11 => ?_)
      · have h := ip_h c_11 h
        refine lv_iconst (v := (0 : Int32)) hx hb dX11_whyNot_185 (by decide) ?_
        obtain rfl := Option.some.inj h
        exact hQ rfl _ _ _ _ dX11_whyNot_186 hW
      · have h := in_h c_11 h
        refine lv_bipush (v := (6 : Int32)) hx hb dX11_whyNot_180 (by decide) ?_
        refine lv_goto (tgt := 186) hx hb dX11_whyNot_182 (by decide) ?_
        obtain rfl := Option.some.inj h
        exact hQ rfl _ _ _ _ dX11_whyNot_186 hW
    · have h := in_h c_9 h
      by_cases c_12 : x1 = (2 : Int32)
      · have h := ip_h c_12 h
        refine lv_tableIn (off := 119) (tgt := 163) hx hb dX11_whyNot_44 (by rw [c_12]; decide) (by rw [c_12]; decide) (by rw [c_12]; rfl) (by decide) ?_
        refine lv_aload_n hx hb dX11_whyNot_163 rfl (lv_at hl 1 rfl) ?_
        refine getW C fl_RX11_7 hW 0 rfl rfl dX11_whyNot_164 ?_
        refine lv_iload_n hx hb dX11_whyNot_167 rfl (lv_at hl 3 rfl) ?_
        obtain ⟨g_13, h⟩ := gd_h h
        refine ialdW C hW 2 rfl g_13 dX11_whyNot_168 ?_
        refine lv_iconst (v := (3 : Int32)) hx hb dX11_whyNot_169 (by decide) ?_
        refine lv_iload_n hx hb dX11_whyNot_170 rfl (lv_at hl 4 rfl) ?_
        refine lv_imul hx hb dX11_whyNot_171 ?_
        refine lv_isub hx hb dX11_whyNot_172 ?_
        refine lv_aload_n hx hb dX11_whyNot_173 rfl (lv_at hl 1 rfl) ?_
        refine getW C fl_RX11_90 hW 0 rfl rfl dX11_whyNot_174 ?_
        refine lv_icmp_ge (tgt := 185) hx hb dX11_whyNot_177 (by decide) (fun c_14 => ?_) (fun c_14 => ?_)
        · have h := ip_h c_14 h
          refine lv_iconst (v := (0 : Int32)) hx hb dX11_whyNot_185 (by decide) ?_
          obtain rfl := Option.some.inj h
          exact hQ rfl _ _ _ _ dX11_whyNot_186 hW
        · have h := in_h c_14 h
          refine lv_bipush (v := (6 : Int32)) hx hb dX11_whyNot_180 (by decide) ?_
          refine lv_goto (tgt := 186) hx hb dX11_whyNot_182 (by decide) ?_
          obtain rfl := Option.some.inj h
          exact hQ rfl _ _ _ _ dX11_whyNot_186 hW
      · have h := in_h c_12 h
        by_cases c_15 : x1 = (3 : Int32)
        · have h := ip_h c_15 h
          refine lv_tableIn (off := 117) (tgt := 161) hx hb dX11_whyNot_44 (by rw [c_15]; decide) (by rw [c_15]; decide) (by rw [c_15]; rfl) (by decide) ?_
          refine lv_iconst (v := (0 : Int32)) hx hb dX11_whyNot_161 (by decide) ?_
          obtain rfl := Option.some.inj h
          exact hQ rfl _ _ _ _ dX11_whyNot_162 hW
        · have h := in_h c_15 h
          by_cases c_16 : x1 = (4 : Int32)
          · have h := ip_h c_16 h
            refine lv_tableIn (off := 75) (tgt := 119) hx hb dX11_whyNot_44 (by rw [c_16]; decide) (by rw [c_16]; decide) (by rw [c_16]; rfl) (by decide) ?_
            refine lv_aload_n hx hb dX11_whyNot_119 rfl (lv_at hl 1 rfl) ?_
            refine getW C fl_RX11_19 hW 0 rfl rfl dX11_whyNot_120 ?_
            refine lv_iload_n hx hb dX11_whyNot_123 rfl (lv_at hl 3 rfl) ?_
            obtain ⟨g_17, h⟩ := gd_h h
            refine ialdW C hW 3 rfl g_17 dX11_whyNot_124 ?_
            refine lv_if_ge (tgt := 132) hx hb dX11_whyNot_125 (by decide) (fun c_18 => ?_) (fun c_18 => ?_)
            · have h := ip_h c_18 h
              refine lv_iload hx hb dX11_whyNot_132 (lv_at hl 0 rfl) ?_
              refine lv_if_eq (tgt := 141) hx hb dX11_whyNot_134 (by decide) (fun c_19 => ?_) (fun c_19 => ?_)
              · have h := ip_h c_19 h
                refine lv_aload_n hx hb dX11_whyNot_141 rfl (lv_at hl 1 rfl) ?_
                refine getW C fl_RX11_7 hW 0 rfl rfl dX11_whyNot_142 ?_
                refine lv_iload_n hx hb dX11_whyNot_145 rfl (lv_at hl 3 rfl) ?_
                refine ialdW C hW 2 rfl g_17 dX11_whyNot_146 ?_
                refine lv_aload_n hx hb dX11_whyNot_147 rfl (lv_at hl 1 rfl) ?_
                refine getW C fl_RX11_90 hW 0 rfl rfl dX11_whyNot_148 ?_
                refine lv_icmp_ge (tgt := 159) hx hb dX11_whyNot_151 (by decide) (fun c_20 => ?_) (fun c_20 => ?_)
                · have h := ip_h c_20 h
                  refine lv_iconst (v := (0 : Int32)) hx hb dX11_whyNot_159 (by decide) ?_
                  obtain rfl := Option.some.inj h
                  exact hQ rfl _ _ _ _ dX11_whyNot_160 hW
                · have h := in_h c_20 h
                  refine lv_bipush (v := (6 : Int32)) hx hb dX11_whyNot_154 (by decide) ?_
                  refine lv_goto (tgt := 160) hx hb dX11_whyNot_156 (by decide) ?_
                  obtain rfl := Option.some.inj h
                  exact hQ rfl _ _ _ _ dX11_whyNot_160 hW
              · have h := in_h c_19 h
                refine lv_iconst (v := (5 : Int32)) hx hb dX11_whyNot_137 (by decide) ?_
                refine lv_goto (tgt := 160) hx hb dX11_whyNot_138 (by decide) ?_
                obtain rfl := Option.some.inj h
                exact hQ rfl _ _ _ _ dX11_whyNot_160 hW
            · have h := in_h c_18 h
              refine lv_iconst (v := (4 : Int32)) hx hb dX11_whyNot_128 (by decide) ?_
              refine lv_goto (tgt := 160) hx hb dX11_whyNot_129 (by decide) ?_
              obtain rfl := Option.some.inj h
              exact hQ rfl _ _ _ _ dX11_whyNot_160 hW
          · have h := in_h c_16 h
            by_cases c_21 : x1 = (5 : Int32)
            · have h := ip_h c_21 h
              refine lv_tableIn (off := 40) (tgt := 84) hx hb dX11_whyNot_44 (by rw [c_21]; decide) (by rw [c_21]; decide) (by rw [c_21]; rfl) (by decide) ?_
              refine lv_iload_n hx hb dX11_whyNot_84 rfl (lv_at hl 3 rfl) ?_
              refine lv_iload_n hx hb dX11_whyNot_85 rfl (lv_at hl 4 rfl) ?_
              refine lv_icmp_ne (tgt := 93) hx hb dX11_whyNot_86 (by decide) (fun c_22 => ?_) (fun c_22 => ?_)
              · have h := in_h c_22 h
                refine lv_iconst (v := (0 : Int32)) hx hb dX11_whyNot_93 (by decide) ?_
                obtain rfl := Option.some.inj h
                exact hQ rfl _ _ _ _ dX11_whyNot_94 hW
              · have h := ip_h c_22 h
                refine lv_iconst (v := (2 : Int32)) hx hb dX11_whyNot_89 (by decide) ?_
                refine lv_goto (tgt := 94) hx hb dX11_whyNot_90 (by decide) ?_
                obtain rfl := Option.some.inj h
                exact hQ rfl _ _ _ _ dX11_whyNot_94 hW
            · have h := in_h c_21 h
              refine lv_tableOut (tgt := 163) hx hb dX11_whyNot_44 (by have t0 := ne_ti (j := 0) (by decide) c_5; have t1 := ne_ti (j := 1) (by decide) c_9; have t2 := ne_ti (j := 2) (by decide) c_12; have t3 := ne_ti (j := 3) (by decide) c_15; have t4 := ne_ti (j := 4) (by decide) c_16; have t5 := ne_ti (j := 5) (by decide) c_21; omega) (by decide) ?_
              refine lv_aload_n hx hb dX11_whyNot_163 rfl (lv_at hl 1 rfl) ?_
              refine getW C fl_RX11_7 hW 0 rfl rfl dX11_whyNot_164 ?_
              refine lv_iload_n hx hb dX11_whyNot_167 rfl (lv_at hl 3 rfl) ?_
              obtain ⟨g_23, h⟩ := gd_h h
              refine ialdW C hW 2 rfl g_23 dX11_whyNot_168 ?_
              refine lv_iconst (v := (3 : Int32)) hx hb dX11_whyNot_169 (by decide) ?_
              refine lv_iload_n hx hb dX11_whyNot_170 rfl (lv_at hl 4 rfl) ?_
              refine lv_imul hx hb dX11_whyNot_171 ?_
              refine lv_isub hx hb dX11_whyNot_172 ?_
              refine lv_aload_n hx hb dX11_whyNot_173 rfl (lv_at hl 1 rfl) ?_
              refine getW C fl_RX11_90 hW 0 rfl rfl dX11_whyNot_174 ?_
              refine lv_icmp_ge (tgt := 185) hx hb dX11_whyNot_177 (by decide) (fun c_24 => ?_) (fun c_24 => ?_)
              · have h := ip_h c_24 h
                refine lv_iconst (v := (0 : Int32)) hx hb dX11_whyNot_185 (by decide) ?_
                obtain rfl := Option.some.inj h
                exact hQ rfl _ _ _ _ dX11_whyNot_186 hW
              · have h := in_h c_24 h
                refine lv_bipush (v := (6 : Int32)) hx hb dX11_whyNot_180 (by decide) ?_
                refine lv_goto (tgt := 186) hx hb dX11_whyNot_182 (by decide) ?_
                obtain rfl := Option.some.inj h
                exact hQ rfl _ _ _ _ dX11_whyNot_186 hW
set_option maxRecDepth 20000 in
theorem uX11_whyNot_0 {a_this a_thick a_hollow a_damp a_fresh a_pulls a_fats a_deep a_fine a_pay a_hair a_sightPicture a_sightPull a_sightShows a_pad a_act a_where a_much a_kindMany a_had a_leaves a_mostPay a_canLast a_leastMissed a_kept a_isKept : Nat} (x1 : Int32) (x2 : Int32) (x3 : Int32) (v_stones : Int32) (v_flat : Int32) (v_leastThick : Int32) (v_sights : Int32) (v_padMany : Int32) (v_acts : Int32) (v_pulled : Int32) (v_skyPull : Int32) (v_skyWhose : Int32) (v_badAct : Int32) (v_badWhy : Int32) (v_keptAt : Int32) (v_isWriting : Int32) (v_hollow : Nat → Int32) (v_thick : Nat → Int32) (v_fresh : Nat → Int32) {res : Int32} (C : Cx p s m av meth c RX11 cX11_whyNot 5 (some .int) G cI cZ cO A) (hQ : RI p l e rX11_whyNot s m av below meth c G A cX11_whyNot .int Q (res) (wX11_whyNot cI cZ a_this a_thick a_hollow a_damp a_fresh a_pulls a_fats a_deep a_fine a_pay a_hair a_sightPicture a_sightPull a_sightShows a_pad a_act a_where a_much a_kindMany a_had a_leaves a_mostPay a_canLast a_leastMissed a_kept a_isKept v_stones v_flat v_leastThick v_sights v_padMany v_acts v_pulled v_skyPull v_skyWhose v_badAct v_badWhy v_keptAt v_isWriting v_hollow v_thick v_fresh)) (h : fX11_whyNot x1 x2 x3 v_stones v_flat v_leastThick v_hollow v_thick v_fresh = some res) (H : Heap) (locs : List Loc) (hW : HW G A s (wX11_whyNot cI cZ a_this a_thick a_hollow a_damp a_fresh a_pulls a_fats a_deep a_fine a_pay a_hair a_sightPicture a_sightPull a_sightShows a_pad a_act a_where a_much a_kindMany a_had a_leaves a_mostPay a_canLast a_leastMissed a_kept a_isKept v_stones v_flat v_leastThick v_sights v_padMany v_acts v_pulled v_skyPull v_skyWhose v_badAct v_badWhy v_keptAt v_isWriting v_hollow v_thick v_fresh) H locs) (ls : Array Slot) (hl : lv_has ls 5 [(0, .ref a_this), (1, .int x1), (2, .int x2), (3, .int x3)]) : W p l e rX11_whyNot s m av below meth c H locs 0 0 Q (F0 m 0 ls []) := by
  have hx := C.1
  have hb := C.2.1
  unfold fX11_whyNot at h
  refine lv_aload_n hx hb dX11_whyNot_0 rfl (lv_at hl 0 rfl) ?_
  refine lv_iload_n hx hb dX11_whyNot_1 rfl (lv_at hl 2 rfl) ?_
  refine callVIr [0] C lk_RX11_118 (ctX11_isStone a_this a_thick a_hollow a_damp a_fresh a_pulls a_fats a_deep a_fine a_pay a_hair a_sightPicture a_sightPull a_sightShows a_pad a_act a_where a_much a_kindMany a_had a_leaves a_mostPay a_canLast a_leastMissed a_kept a_isKept x2 v_stones v_flat v_leastThick v_sights v_padMany v_acts v_pulled v_skyPull v_skyWhose v_badAct v_badWhy v_keptAt v_isWriting rfl) hW hl 11 rfl rfl rfl rfl rfl ⟨rfl, rfl⟩ ⟨(Nat.le_of_ble_eq_true rfl), (Nat.le_of_ble_eq_true rfl)⟩ ⟨Nat.zero_le _, Nat.zero_le _⟩ rfl (Nat.le_of_ble_eq_true rfl) dX11_whyNot_2 (fun H locs hW => ?_)
  refine lv_if_eq (tgt := 21) hx hb dX11_whyNot_5 (by decide) (fun c_1 => ?_) (fun c_1 => ?_)
  · have h := ip_h c_1 h
    refine lv_iconst (v := (1 : Int32)) hx hb dX11_whyNot_21 (by decide) ?_
    obtain rfl := Option.some.inj h
    exact hQ rfl _ _ _ _ dX11_whyNot_22 hW
  · have h := in_h c_1 h
    refine lv_iload_n hx hb dX11_whyNot_8 rfl (lv_at hl 1 rfl) ?_
    refine lv_iconst (v := (5 : Int32)) hx hb dX11_whyNot_9 (by decide) ?_
    refine lv_icmp_ne (tgt := 23) hx hb dX11_whyNot_10 (by decide) (fun c_2 => ?_) (fun c_2 => ?_)
    · have h := in_h c_2 h
      refine lv_aload_n hx hb dX11_whyNot_23 rfl (lv_at hl 0 rfl) ?_
      refine getW C fl_RX11_13 hW 0 rfl rfl dX11_whyNot_24 ?_
      refine lv_iload_n hx hb dX11_whyNot_27 rfl (lv_at hl 2 rfl) ?_
      obtain ⟨g_3, h⟩ := gd_h h
      refine ialdW C hW 1 rfl g_3 dX11_whyNot_28 ?_
      refine lv_aload_n hx hb dX11_whyNot_29 rfl (lv_at hl 0 rfl) ?_
      refine getW C fl_RX11_86 hW 0 rfl rfl dX11_whyNot_30 ?_
      refine lv_icmp_le (tgt := 40) hx hb dX11_whyNot_33 (by decide) (fun c_4 => ?_) (fun c_4 => ?_)
      · have h := ip_h c_4 h
        refine lv_iconst (v := (0 : Int32)) hx hb dX11_whyNot_40 (by decide) ?_
        exact uX11_whyNot_41 x1 x2 x3 (0 : Int32) v_stones v_flat v_leastThick v_sights v_padMany v_acts v_pulled v_skyPull v_skyWhose v_badAct v_badWhy v_keptAt v_isWriting v_hollow v_thick v_fresh C hQ h _ _ hW _ (lv_sub hl [0, 1, 2, 3] rfl)
      · have h := in_h c_4 h
        refine lv_iconst (v := (1 : Int32)) hx hb dX11_whyNot_36 (by decide) ?_
        refine lv_goto (tgt := 41) hx hb dX11_whyNot_37 (by decide) ?_
        exact uX11_whyNot_41 x1 x2 x3 (1 : Int32) v_stones v_flat v_leastThick v_sights v_padMany v_acts v_pulled v_skyPull v_skyWhose v_badAct v_badWhy v_keptAt v_isWriting v_hollow v_thick v_fresh C hQ h _ _ hW _ (lv_sub hl [0, 1, 2, 3] rfl)
    · have h := ip_h c_2 h
      refine lv_aload_n hx hb dX11_whyNot_13 rfl (lv_at hl 0 rfl) ?_
      refine lv_iload_n hx hb dX11_whyNot_14 rfl (lv_at hl 3 rfl) ?_
      refine callVIr [0] C lk_RX11_118 (ctX11_isStone a_this a_thick a_hollow a_damp a_fresh a_pulls a_fats a_deep a_fine a_pay a_hair a_sightPicture a_sightPull a_sightShows a_pad a_act a_where a_much a_kindMany a_had a_leaves a_mostPay a_canLast a_leastMissed a_kept a_isKept x3 v_stones v_flat v_leastThick v_sights v_padMany v_acts v_pulled v_skyPull v_skyWhose v_badAct v_badWhy v_keptAt v_isWriting rfl) hW hl 11 rfl rfl rfl rfl rfl ⟨rfl, rfl⟩ ⟨(Nat.le_of_ble_eq_true rfl), (Nat.le_of_ble_eq_true rfl)⟩ ⟨Nat.zero_le _, Nat.zero_le _⟩ rfl (Nat.le_of_ble_eq_true rfl) dX11_whyNot_15 (fun H locs hW => ?_)
      refine lv_if_ne (tgt := 23) hx hb dX11_whyNot_18 (by decide) (fun c_25 => ?_) (fun c_25 => ?_)
      · have h := in_h c_25 h
        refine lv_aload_n hx hb dX11_whyNot_23 rfl (lv_at hl 0 rfl) ?_
        refine getW C fl_RX11_13 hW 0 rfl rfl dX11_whyNot_24 ?_
        refine lv_iload_n hx hb dX11_whyNot_27 rfl (lv_at hl 2 rfl) ?_
        obtain ⟨g_26, h⟩ := gd_h h
        refine ialdW C hW 1 rfl g_26 dX11_whyNot_28 ?_
        refine lv_aload_n hx hb dX11_whyNot_29 rfl (lv_at hl 0 rfl) ?_
        refine getW C fl_RX11_86 hW 0 rfl rfl dX11_whyNot_30 ?_
        refine lv_icmp_le (tgt := 40) hx hb dX11_whyNot_33 (by decide) (fun c_27 => ?_) (fun c_27 => ?_)
        · have h := ip_h c_27 h
          refine lv_iconst (v := (0 : Int32)) hx hb dX11_whyNot_40 (by decide) ?_
          exact uX11_whyNot_41 x1 x2 x3 (0 : Int32) v_stones v_flat v_leastThick v_sights v_padMany v_acts v_pulled v_skyPull v_skyWhose v_badAct v_badWhy v_keptAt v_isWriting v_hollow v_thick v_fresh C hQ h _ _ hW _ (lv_sub hl [0, 1, 2, 3] rfl)
        · have h := in_h c_27 h
          refine lv_iconst (v := (1 : Int32)) hx hb dX11_whyNot_36 (by decide) ?_
          refine lv_goto (tgt := 41) hx hb dX11_whyNot_37 (by decide) ?_
          exact uX11_whyNot_41 x1 x2 x3 (1 : Int32) v_stones v_flat v_leastThick v_sights v_padMany v_acts v_pulled v_skyPull v_skyWhose v_badAct v_badWhy v_keptAt v_isWriting v_hollow v_thick v_fresh C hQ h _ _ hW _ (lv_sub hl [0, 1, 2, 3] rfl)
      · have h := ip_h c_25 h
        refine lv_iconst (v := (1 : Int32)) hx hb dX11_whyNot_21 (by decide) ?_
        obtain rfl := Option.some.inj h
        exact hQ rfl _ _ _ _ dX11_whyNot_22 hW
theorem ctX11_whyNot {l : Launch} {G : va_G} {cI cZ cO : ClassId} (a_this a_thick a_hollow a_damp a_fresh a_pulls a_fats a_deep a_fine a_pay a_hair a_sightPicture a_sightPull a_sightShows a_pad a_act a_where a_much a_kindMany a_had a_leaves a_mostPay a_canLast a_leastMissed a_kept a_isKept : Nat) (x1 : Int32) (x2 : Int32) (x3 : Int32) (v_stones : Int32) (v_flat : Int32) (v_leastThick : Int32) (v_sights : Int32) (v_padMany : Int32) (v_acts : Int32) (v_pulled : Int32) (v_skyPull : Int32) (v_skyWhose : Int32) (v_badAct : Int32) (v_badWhy : Int32) (v_keptAt : Int32) (v_isWriting : Int32) (v_hollow : Nat → Int32) (v_thick : Nat → Int32) (v_fresh : Nat → Int32) {res : Int32} (h : fX11_whyNot x1 x2 x3 v_stones v_flat v_leastThick v_hollow v_thick v_fresh = some res) : MI l G cI cZ cO yX11_whyNot cX11_whyNot 5 .int rX11_whyNot [.ref a_this, .int x1, .int x2, .int x3] (wX11_whyNot cI cZ a_this a_thick a_hollow a_damp a_fresh a_pulls a_fats a_deep a_fine a_pay a_hair a_sightPicture a_sightPull a_sightShows a_pad a_act a_where a_much a_kindMany a_had a_leaves a_mostPay a_canLast a_leastMissed a_kept a_isKept v_stones v_flat v_leastThick v_sights v_padMany v_acts v_pulled v_skyPull v_skyWhose v_badAct v_badWhy v_keptAt v_isWriting v_hollow v_thick v_fresh) (res) (wX11_whyNot cI cZ a_this a_thick a_hollow a_damp a_fresh a_pulls a_fats a_deep a_fine a_pay a_hair a_sightPicture a_sightPull a_sightShows a_pad a_act a_where a_much a_kindMany a_had a_leaves a_mostPay a_canLast a_leastMissed a_kept a_isKept v_stones v_flat v_leastThick v_sights v_padMany v_acts v_pulled v_skyPull v_skyWhose v_badAct v_badWhy v_keptAt v_isWriting v_hollow v_thick v_fresh) := by
  refine MI.of (by decide) (Nat.le_of_ble_eq_true rfl) ?_
  intro p e s m below meth c A Q C hW hQ ls hl
  exact uX11_whyNot_0 x1 x2 x3 v_stones v_flat v_leastThick v_sights v_padMany v_acts v_pulled v_skyPull v_skyWhose v_badAct v_badWhy v_keptAt v_isWriting v_hollow v_thick v_fresh C hQ h _ _ hW _ hl
abbrev wX11_wearOf (cI cZ : ClassId) (a_this a_thick a_hollow a_damp a_fresh a_pulls a_fats a_deep a_fine a_pay a_hair a_sightPicture a_sightPull a_sightShows a_pad a_act a_where a_much a_kindMany a_had a_leaves a_mostPay a_canLast a_leastMissed a_kept a_isKept : Nat) (v_stones : Int32) (v_flat : Int32) (v_leastThick : Int32) (v_sights : Int32) (v_padMany : Int32) (v_acts : Int32) (v_pulled : Int32) (v_skyPull : Int32) (v_skyWhose : Int32) (v_badAct : Int32) (v_badWhy : Int32) (v_keptAt : Int32) (v_isWriting : Int32) (v_fine : Nat → Int32) : va_W := [(a_this, .inr (11, [.int v_stones, .int v_flat, .int v_leastThick, .ref a_thick, .ref a_hollow, .ref a_damp, .ref a_fresh, .ref a_pulls, .ref a_fats, .ref a_deep, .ref a_fine, .ref a_pay, .ref a_hair, .ref a_sightPicture, .ref a_sightPull, .ref a_sightShows, .int v_sights, .ref a_pad, .int v_padMany, .ref a_act, .ref a_where, .ref a_much, .int v_acts, .int v_pulled, .ref a_kindMany, .int v_skyPull, .int v_skyWhose, .ref a_had, .ref a_leaves, .int v_badAct, .int v_badWhy, .ref a_mostPay, .ref a_canLast, .ref a_leastMissed, .ref a_kept, .ref a_isKept, .int v_keptAt, .int v_isWriting])), (a_fine, .inl (cI, 8, .inl v_fine))]
abbrev rX11_wearOf : Room := { frames := 0, cells := 0, slots := 0, locals := 0 }
set_option maxRecDepth 20000 in
theorem uX11_wearOf_0 {a_this a_thick a_hollow a_damp a_fresh a_pulls a_fats a_deep a_fine a_pay a_hair a_sightPicture a_sightPull a_sightShows a_pad a_act a_where a_much a_kindMany a_had a_leaves a_mostPay a_canLast a_leastMissed a_kept a_isKept : Nat} (x1 : Int32) (v_stones : Int32) (v_flat : Int32) (v_leastThick : Int32) (v_sights : Int32) (v_padMany : Int32) (v_acts : Int32) (v_pulled : Int32) (v_skyPull : Int32) (v_skyWhose : Int32) (v_badAct : Int32) (v_badWhy : Int32) (v_keptAt : Int32) (v_isWriting : Int32) (v_fine : Nat → Int32) {res : Int32} (C : Cx p s m av meth c RX11 cX11_wearOf 2 (some .int) G cI cZ cO A) (hQ : RI p l e rX11_wearOf s m av below meth c G A cX11_wearOf .int Q (res) (wX11_wearOf cI cZ a_this a_thick a_hollow a_damp a_fresh a_pulls a_fats a_deep a_fine a_pay a_hair a_sightPicture a_sightPull a_sightShows a_pad a_act a_where a_much a_kindMany a_had a_leaves a_mostPay a_canLast a_leastMissed a_kept a_isKept v_stones v_flat v_leastThick v_sights v_padMany v_acts v_pulled v_skyPull v_skyWhose v_badAct v_badWhy v_keptAt v_isWriting v_fine)) (h : fX11_wearOf x1 v_fine = some res) (H : Heap) (locs : List Loc) (hW : HW G A s (wX11_wearOf cI cZ a_this a_thick a_hollow a_damp a_fresh a_pulls a_fats a_deep a_fine a_pay a_hair a_sightPicture a_sightPull a_sightShows a_pad a_act a_where a_much a_kindMany a_had a_leaves a_mostPay a_canLast a_leastMissed a_kept a_isKept v_stones v_flat v_leastThick v_sights v_padMany v_acts v_pulled v_skyPull v_skyWhose v_badAct v_badWhy v_keptAt v_isWriting v_fine) H locs) (ls : Array Slot) (hl : lv_has ls 2 [(0, .ref a_this), (1, .int x1)]) : W p l e rX11_wearOf s m av below meth c H locs 0 0 Q (F0 m 0 ls []) := by
  have hx := C.1
  have hb := C.2.1
  unfold fX11_wearOf at h
  refine lv_aload_n hx hb dX11_wearOf_0 rfl (lv_at hl 0 rfl) ?_
  refine getW C fl_RX11_31 hW 0 rfl rfl dX11_wearOf_1 ?_
  refine lv_iload_n hx hb dX11_wearOf_4 rfl (lv_at hl 1 rfl) ?_
  obtain ⟨g_1, h⟩ := gd_h h
  refine ialdW C hW 1 rfl g_1 dX11_wearOf_5 ?_
  refine lv_iconst (v := (3 : Int32)) hx hb dX11_wearOf_6 (by decide) ?_
  refine lv_idiv hx hb dX11_wearOf_7 (by decide) ?_
  refine lv_iconst (v := (1 : Int32)) hx hb dX11_wearOf_8 (by decide) ?_
  refine lv_iadd hx hb dX11_wearOf_9 ?_
  obtain rfl := Option.some.inj h
  exact hQ rfl _ _ _ _ dX11_wearOf_10 hW
theorem ctX11_wearOf {l : Launch} {G : va_G} {cI cZ cO : ClassId} (a_this a_thick a_hollow a_damp a_fresh a_pulls a_fats a_deep a_fine a_pay a_hair a_sightPicture a_sightPull a_sightShows a_pad a_act a_where a_much a_kindMany a_had a_leaves a_mostPay a_canLast a_leastMissed a_kept a_isKept : Nat) (x1 : Int32) (v_stones : Int32) (v_flat : Int32) (v_leastThick : Int32) (v_sights : Int32) (v_padMany : Int32) (v_acts : Int32) (v_pulled : Int32) (v_skyPull : Int32) (v_skyWhose : Int32) (v_badAct : Int32) (v_badWhy : Int32) (v_keptAt : Int32) (v_isWriting : Int32) (v_fine : Nat → Int32) {res : Int32} (h : fX11_wearOf x1 v_fine = some res) : MI l G cI cZ cO yX11_wearOf cX11_wearOf 2 .int rX11_wearOf [.ref a_this, .int x1] (wX11_wearOf cI cZ a_this a_thick a_hollow a_damp a_fresh a_pulls a_fats a_deep a_fine a_pay a_hair a_sightPicture a_sightPull a_sightShows a_pad a_act a_where a_much a_kindMany a_had a_leaves a_mostPay a_canLast a_leastMissed a_kept a_isKept v_stones v_flat v_leastThick v_sights v_padMany v_acts v_pulled v_skyPull v_skyWhose v_badAct v_badWhy v_keptAt v_isWriting v_fine) (res) (wX11_wearOf cI cZ a_this a_thick a_hollow a_damp a_fresh a_pulls a_fats a_deep a_fine a_pay a_hair a_sightPicture a_sightPull a_sightShows a_pad a_act a_where a_much a_kindMany a_had a_leaves a_mostPay a_canLast a_leastMissed a_kept a_isKept v_stones v_flat v_leastThick v_sights v_padMany v_acts v_pulled v_skyPull v_skyWhose v_badAct v_badWhy v_keptAt v_isWriting v_fine) := by
  refine MI.of (by decide) (Nat.le_of_ble_eq_true rfl) ?_
  intro p e s m below meth c A Q C hW hQ ls hl
  exact uX11_wearOf_0 x1 v_stones v_flat v_leastThick v_sights v_padMany v_acts v_pulled v_skyPull v_skyWhose v_badAct v_badWhy v_keptAt v_isWriting v_fine C hQ h _ _ hW _ hl
abbrev wX11_ghostOn (cI cZ : ClassId) (a_this a_thick a_hollow a_damp a_fresh a_pulls a_fats a_deep a_fine a_pay a_hair a_sightPicture a_sightPull a_sightShows a_pad a_act a_where a_much a_kindMany a_had a_leaves a_mostPay a_canLast a_leastMissed a_kept a_isKept : Nat) (v_stones : Int32) (v_flat : Int32) (v_leastThick : Int32) (v_sights : Int32) (v_padMany : Int32) (v_acts : Int32) (v_pulled : Int32) (v_skyPull : Int32) (v_skyWhose : Int32) (v_badAct : Int32) (v_badWhy : Int32) (v_keptAt : Int32) (v_isWriting : Int32) (v_fats : Nat → Int32) : va_W := [(a_this, .inr (11, [.int v_stones, .int v_flat, .int v_leastThick, .ref a_thick, .ref a_hollow, .ref a_damp, .ref a_fresh, .ref a_pulls, .ref a_fats, .ref a_deep, .ref a_fine, .ref a_pay, .ref a_hair, .ref a_sightPicture, .ref a_sightPull, .ref a_sightShows, .int v_sights, .ref a_pad, .int v_padMany, .ref a_act, .ref a_where, .ref a_much, .int v_acts, .int v_pulled, .ref a_kindMany, .int v_skyPull, .int v_skyWhose, .ref a_had, .ref a_leaves, .int v_badAct, .int v_badWhy, .ref a_mostPay, .ref a_canLast, .ref a_leastMissed, .ref a_kept, .ref a_isKept, .int v_keptAt, .int v_isWriting])), (a_fats, .inl (cI, 40, .inl v_fats))]
abbrev rX11_ghostOn : Room := { frames := 1, cells := 0, slots := 0, locals := 21 }
set_option maxRecDepth 20000 in
theorem uX11_ghostOn_65 {a_this a_thick a_hollow a_damp a_fresh a_pulls a_fats a_deep a_fine a_pay a_hair a_sightPicture a_sightPull a_sightShows a_pad a_act a_where a_much a_kindMany a_had a_leaves a_mostPay a_canLast a_leastMissed a_kept a_isKept : Nat} (x1 : Int32) (x2 : Int32) (x3 : Int32) (x4 : Int32) (v_stones : Int32) (v_flat : Int32) (v_leastThick : Int32) (v_sights : Int32) (v_padMany : Int32) (v_acts : Int32) (v_pulled : Int32) (v_skyPull : Int32) (v_skyWhose : Int32) (v_badAct : Int32) (v_badWhy : Int32) (v_keptAt : Int32) (v_isWriting : Int32) (v_fats : Nat → Int32) {res : Int32} (C : Cx p s m av meth c RX11 cX11_ghostOn 6 (some .int) G cI cZ cO A) (hQ : RI p l e rX11_ghostOn s m av below meth c G A cX11_ghostOn .int Q (res) (wX11_ghostOn cI cZ a_this a_thick a_hollow a_damp a_fresh a_pulls a_fats a_deep a_fine a_pay a_hair a_sightPicture a_sightPull a_sightShows a_pad a_act a_where a_much a_kindMany a_had a_leaves a_mostPay a_canLast a_leastMissed a_kept a_isKept v_stones v_flat v_leastThick v_sights v_padMany v_acts v_pulled v_skyPull v_skyWhose v_badAct v_badWhy v_keptAt v_isWriting v_fats)) {k6 : (Int32) → (Int32) → Option (Int32)} (hk6 : ∀ (x3 : Int32) (x4 : Int32), k6 x3 x4 = some res → ∀ (H : Heap) (locs : List Loc), HW G A s (wX11_ghostOn cI cZ a_this a_thick a_hollow a_damp a_fresh a_pulls a_fats a_deep a_fine a_pay a_hair a_sightPicture a_sightPull a_sightShows a_pad a_act a_where a_much a_kindMany a_had a_leaves a_mostPay a_canLast a_leastMissed a_kept a_isKept v_stones v_flat v_leastThick v_sights v_padMany v_acts v_pulled v_skyPull v_skyWhose v_badAct v_badWhy v_keptAt v_isWriting v_fats) H locs → ∀ ls : Array Slot, lv_has ls 6 [(0, .ref a_this), (1, .int x1), (2, .int x2), (3, .int x3), (4, .int x4)] → W p l e rX11_ghostOn s m av below meth c H locs 0 0 Q (F0 m 6 ls [])) (h : fX11_ghostOn_65 x3 x4 k6 = some res) (H : Heap) (locs : List Loc) (hW : HW G A s (wX11_ghostOn cI cZ a_this a_thick a_hollow a_damp a_fresh a_pulls a_fats a_deep a_fine a_pay a_hair a_sightPicture a_sightPull a_sightShows a_pad a_act a_where a_much a_kindMany a_had a_leaves a_mostPay a_canLast a_leastMissed a_kept a_isKept v_stones v_flat v_leastThick v_sights v_padMany v_acts v_pulled v_skyPull v_skyWhose v_badAct v_badWhy v_keptAt v_isWriting v_fats) H locs) (ls : Array Slot) (hl : lv_has ls 6 [(0, .ref a_this), (1, .int x1), (2, .int x2), (3, .int x3), (4, .int x4)]) : W p l e rX11_ghostOn s m av below meth c H locs 0 0 Q (F0 m 65 ls []) := by
  have hx := C.1
  have hb := C.2.1
  unfold fX11_ghostOn_65 at h
  refine lv_iconst (v := (0 : Int32)) hx hb dX11_ghostOn_65 (by decide) ?_
  refine lv_istore (lv' := [(5, .int (0 : Int32)), (0, .ref a_this), (1, .int x1), (2, .int x2), (3, .int x3), (4, .int x4)]) hx hb dX11_ghostOn_66 hl (Nat.le_of_ble_eq_true rfl) rfl (fun ls hl => ?_)
  refine lv_iload hx hb dX11_ghostOn_68 (lv_at hl 0 rfl) ?_
  refine lv_if_eq (tgt := 78) hx hb dX11_ghostOn_70 (by decide) (fun _ => ?_) (fun z => absurd z (by decide))
  refine lv_iload_n hx hb dX11_ghostOn_78 rfl (lv_at hl 4 rfl) ?_
  refine lv_istore_n (lv' := [(3, .int x3), (5, .int (0 : Int32)), (0, .ref a_this), (1, .int x1), (2, .int x2), (4, .int x4)]) hx hb dX11_ghostOn_79 rfl hl (Nat.le_of_ble_eq_true rfl) rfl (fun ls hl => ?_)
  obtain ⟨v_4, ev_4⟩ : ∃ y : Int32, y = x4 + (1 : Int32) := ⟨_, rfl⟩
  have h := lt_h ev_4 h
  refine lv_iinc (v := v_4) (lv' := [(4, .int v_4), (3, .int x3), (5, .int (0 : Int32)), (0, .ref a_this), (1, .int x1), (2, .int x2)]) hx hb dX11_ghostOn_80 hl (k := 5) rfl (by rw [ev_4]; rfl) (Nat.le_of_ble_eq_true rfl) rfl (fun ls hl => ?_)
  refine lv_goto (tgt := 6) hx hb dX11_ghostOn_83 (by decide) ?_
  exact hk6 x3 v_4 h _ _ hW _ (lv_sub hl [3, 4, 5, 1, 0] rfl)
set_option maxRecDepth 20000 in
theorem uX11_ghostOn_6 {a_this a_thick a_hollow a_damp a_fresh a_pulls a_fats a_deep a_fine a_pay a_hair a_sightPicture a_sightPull a_sightShows a_pad a_act a_where a_much a_kindMany a_had a_leaves a_mostPay a_canLast a_leastMissed a_kept a_isKept : Nat} (x1 : Int32) (x2 : Int32) (x3 : Int32) (x4 : Int32) (v_stones : Int32) (v_flat : Int32) (v_leastThick : Int32) (v_sights : Int32) (v_padMany : Int32) (v_acts : Int32) (v_pulled : Int32) (v_skyPull : Int32) (v_skyWhose : Int32) (v_badAct : Int32) (v_badWhy : Int32) (v_keptAt : Int32) (v_isWriting : Int32) (v_fats : Nat → Int32) {res : Int32} (C : Cx p s m av meth c RX11 cX11_ghostOn 6 (some .int) G cI cZ cO A) (hQ : RI p l e rX11_ghostOn s m av below meth c G A cX11_ghostOn .int Q (res) (wX11_ghostOn cI cZ a_this a_thick a_hollow a_damp a_fresh a_pulls a_fats a_deep a_fine a_pay a_hair a_sightPicture a_sightPull a_sightShows a_pad a_act a_where a_much a_kindMany a_had a_leaves a_mostPay a_canLast a_leastMissed a_kept a_isKept v_stones v_flat v_leastThick v_sights v_padMany v_acts v_pulled v_skyPull v_skyWhose v_badAct v_badWhy v_keptAt v_isWriting v_fats)) {k6 : (Int32) → (Int32) → Option (Int32)} (hk6 : ∀ (x3 : Int32) (x4 : Int32), k6 x3 x4 = some res → ∀ (H : Heap) (locs : List Loc), HW G A s (wX11_ghostOn cI cZ a_this a_thick a_hollow a_damp a_fresh a_pulls a_fats a_deep a_fine a_pay a_hair a_sightPicture a_sightPull a_sightShows a_pad a_act a_where a_much a_kindMany a_had a_leaves a_mostPay a_canLast a_leastMissed a_kept a_isKept v_stones v_flat v_leastThick v_sights v_padMany v_acts v_pulled v_skyPull v_skyWhose v_badAct v_badWhy v_keptAt v_isWriting v_fats) H locs → ∀ ls : Array Slot, lv_has ls 6 [(0, .ref a_this), (1, .int x1), (2, .int x2), (3, .int x3), (4, .int x4)] → W p l e rX11_ghostOn s m av below meth c H locs 0 0 Q (F0 m 6 ls [])) (h : FX11_ghostOn_6 x1 x2 v_fats k6 x3 x4 = some res) (H : Heap) (locs : List Loc) (hW : HW G A s (wX11_ghostOn cI cZ a_this a_thick a_hollow a_damp a_fresh a_pulls a_fats a_deep a_fine a_pay a_hair a_sightPicture a_sightPull a_sightShows a_pad a_act a_where a_much a_kindMany a_had a_leaves a_mostPay a_canLast a_leastMissed a_kept a_isKept v_stones v_flat v_leastThick v_sights v_padMany v_acts v_pulled v_skyPull v_skyWhose v_badAct v_badWhy v_keptAt v_isWriting v_fats) H locs) (ls : Array Slot) (hl : lv_has ls 6 [(0, .ref a_this), (1, .int x1), (2, .int x2), (3, .int x3), (4, .int x4)]) : W p l e rX11_ghostOn s m av below meth c H locs 0 0 Q (F0 m 6 ls []) := by
  have hx := C.1
  have hb := C.2.1
  unfold FX11_ghostOn_6 at h
  refine lv_iload hx hb dX11_ghostOn_6 (lv_at hl 4 rfl) ?_
  refine lv_bipush (v := (8 : Int32)) hx hb dX11_ghostOn_8 (by decide) ?_
  refine lv_icmp_ge (tgt := 86) hx hb dX11_ghostOn_10 (by decide) (fun c_1 => ?_) (fun c_1 => ?_)
  · have h := ip_h c_1 h
    refine lv_iload_n hx hb dX11_ghostOn_86 rfl (lv_at hl 3 rfl) ?_
    obtain rfl := Option.some.inj h
    exact hQ rfl _ _ _ _ dX11_ghostOn_87 hW
  · have h := in_h c_1 h
    refine lv_iload hx hb dX11_ghostOn_13 (lv_at hl 4 rfl) ?_
    refine lv_iload_n hx hb dX11_ghostOn_15 rfl (lv_at hl 2 rfl) ?_
    refine lv_icmp_eq (tgt := 65) hx hb dX11_ghostOn_16 (by decide) (fun c_2 => ?_) (fun c_2 => ?_)
    · have h := ip_h c_2 h
      exact uX11_ghostOn_65 x1 x2 x3 x4 v_stones v_flat v_leastThick v_sights v_padMany v_acts v_pulled v_skyPull v_skyWhose v_badAct v_badWhy v_keptAt v_isWriting v_fats C hQ hk6 h _ _ hW _ (lv_sub hl [0, 1, 2, 3, 4] rfl)
    · have h := in_h c_2 h
      refine lv_aload_n hx hb dX11_ghostOn_19 rfl (lv_at hl 0 rfl) ?_
      refine getW C fl_RX11_25 hW 0 rfl rfl dX11_ghostOn_20 ?_
      refine lv_iload_n hx hb dX11_ghostOn_23 rfl (lv_at hl 1 rfl) ?_
      refine lv_iload hx hb dX11_ghostOn_24 (lv_at hl 4 rfl) ?_
      refine callSI0 C lk_RX11_110 (ctX11_at x1 x4 rfl) hW hl rfl ⟨rfl, rfl⟩ ⟨(Nat.le_of_ble_eq_true rfl), (Nat.le_of_ble_eq_true rfl)⟩ ⟨Nat.zero_le _, Nat.zero_le _⟩ rfl (Nat.le_of_ble_eq_true rfl) dX11_ghostOn_26 (fun H locs hW => ?_)
      obtain ⟨g_5, h⟩ := gd_h h
      refine ialdW C hW 1 rfl g_5 dX11_ghostOn_29 ?_
      refine lv_if_le (tgt := 65) hx hb dX11_ghostOn_30 (by decide) (fun c_6 => ?_) (fun c_6 => ?_)
      · have h := ip_h c_6 h
        exact uX11_ghostOn_65 x1 x2 x3 x4 v_stones v_flat v_leastThick v_sights v_padMany v_acts v_pulled v_skyPull v_skyWhose v_badAct v_badWhy v_keptAt v_isWriting v_fats C hQ hk6 h _ _ hW _ (lv_sub hl [0, 1, 2, 3, 4] rfl)
      · have h := in_h c_6 h
        refine lv_iload_n hx hb dX11_ghostOn_33 rfl (lv_at hl 3 rfl) ?_
        refine lv_if_lt (tgt := 61) hx hb dX11_ghostOn_34 (by decide) (fun c_7 => ?_) (fun c_7 => ?_)
        · have h := ip_h c_7 h
          refine lv_iconst (v := (1 : Int32)) hx hb dX11_ghostOn_61 (by decide) ?_
          refine lv_goto (tgt := 66) hx hb dX11_ghostOn_62 (by decide) ?_
          refine lv_istore (lv' := [(5, .int (1 : Int32)), (0, .ref a_this), (1, .int x1), (2, .int x2), (3, .int x3), (4, .int x4)]) hx hb dX11_ghostOn_66 hl (Nat.le_of_ble_eq_true rfl) rfl (fun ls hl => ?_)
          refine lv_iload hx hb dX11_ghostOn_68 (lv_at hl 0 rfl) ?_
          refine lv_if_eq (tgt := 78) hx hb dX11_ghostOn_70 (by decide) (fun z => absurd z (by decide)) (fun _ => ?_)
          refine lv_iload hx hb dX11_ghostOn_73 (lv_at hl 5 rfl) ?_
          refine lv_goto (tgt := 79) hx hb dX11_ghostOn_75 (by decide) ?_
          refine lv_istore_n (lv' := [(3, .int x4), (5, .int (1 : Int32)), (0, .ref a_this), (1, .int x1), (2, .int x2), (4, .int x4)]) hx hb dX11_ghostOn_79 rfl hl (Nat.le_of_ble_eq_true rfl) rfl (fun ls hl => ?_)
          obtain ⟨v_9, ev_9⟩ : ∃ y : Int32, y = x4 + (1 : Int32) := ⟨_, rfl⟩
          have h := lt_h ev_9 h
          refine lv_iinc (v := v_9) (lv' := [(4, .int v_9), (3, .int x4), (5, .int (1 : Int32)), (0, .ref a_this), (1, .int x1), (2, .int x2)]) hx hb dX11_ghostOn_80 hl (k := 5) rfl (by rw [ev_9]; rfl) (Nat.le_of_ble_eq_true rfl) rfl (fun ls hl => ?_)
          refine lv_goto (tgt := 6) hx hb dX11_ghostOn_83 (by decide) ?_
          exact hk6 x4 v_9 h _ _ hW _ (lv_sub hl [3, 4, 5, 1, 0] rfl)
        · have h := in_h c_7 h
          refine lv_aload_n hx hb dX11_ghostOn_37 rfl (lv_at hl 0 rfl) ?_
          refine getW C fl_RX11_25 hW 0 rfl rfl dX11_ghostOn_38 ?_
          refine lv_iload_n hx hb dX11_ghostOn_41 rfl (lv_at hl 1 rfl) ?_
          refine lv_iload hx hb dX11_ghostOn_42 (lv_at hl 4 rfl) ?_
          refine callSI0 C lk_RX11_110 (ctX11_at x1 x4 rfl) hW hl rfl ⟨rfl, rfl⟩ ⟨(Nat.le_of_ble_eq_true rfl), (Nat.le_of_ble_eq_true rfl)⟩ ⟨Nat.zero_le _, Nat.zero_le _⟩ rfl (Nat.le_of_ble_eq_true rfl) dX11_ghostOn_44 (fun H locs hW => ?_)
          refine ialdW C hW 1 rfl g_5 dX11_ghostOn_47 ?_
          refine lv_aload_n hx hb dX11_ghostOn_48 rfl (lv_at hl 0 rfl) ?_
          refine getW C fl_RX11_25 hW 0 rfl rfl dX11_ghostOn_49 ?_
          refine lv_iload_n hx hb dX11_ghostOn_52 rfl (lv_at hl 1 rfl) ?_
          refine lv_iload_n hx hb dX11_ghostOn_53 rfl (lv_at hl 3 rfl) ?_
          refine callSI0 C lk_RX11_110 (ctX11_at x1 x3 rfl) hW hl rfl ⟨rfl, rfl⟩ ⟨(Nat.le_of_ble_eq_true rfl), (Nat.le_of_ble_eq_true rfl)⟩ ⟨Nat.zero_le _, Nat.zero_le _⟩ rfl (Nat.le_of_ble_eq_true rfl) dX11_ghostOn_54 (fun H locs hW => ?_)
          obtain ⟨g_10, h⟩ := gd_h h
          refine ialdW C hW 1 rfl g_10 dX11_ghostOn_57 ?_
          refine lv_icmp_le (tgt := 65) hx hb dX11_ghostOn_58 (by decide) (fun c_11 => ?_) (fun c_11 => ?_)
          · have h := ip_h c_11 h
            exact uX11_ghostOn_65 x1 x2 x3 x4 v_stones v_flat v_leastThick v_sights v_padMany v_acts v_pulled v_skyPull v_skyWhose v_badAct v_badWhy v_keptAt v_isWriting v_fats C hQ hk6 h _ _ hW _ (lv_sub hl [0, 1, 2, 3, 4] rfl)
          · have h := in_h c_11 h
            refine lv_iconst (v := (1 : Int32)) hx hb dX11_ghostOn_61 (by decide) ?_
            refine lv_goto (tgt := 66) hx hb dX11_ghostOn_62 (by decide) ?_
            refine lv_istore (lv' := [(5, .int (1 : Int32)), (0, .ref a_this), (1, .int x1), (2, .int x2), (3, .int x3), (4, .int x4)]) hx hb dX11_ghostOn_66 hl (Nat.le_of_ble_eq_true rfl) rfl (fun ls hl => ?_)
            refine lv_iload hx hb dX11_ghostOn_68 (lv_at hl 0 rfl) ?_
            refine lv_if_eq (tgt := 78) hx hb dX11_ghostOn_70 (by decide) (fun z => absurd z (by decide)) (fun _ => ?_)
            refine lv_iload hx hb dX11_ghostOn_73 (lv_at hl 5 rfl) ?_
            refine lv_goto (tgt := 79) hx hb dX11_ghostOn_75 (by decide) ?_
            refine lv_istore_n (lv' := [(3, .int x4), (5, .int (1 : Int32)), (0, .ref a_this), (1, .int x1), (2, .int x2), (4, .int x4)]) hx hb dX11_ghostOn_79 rfl hl (Nat.le_of_ble_eq_true rfl) rfl (fun ls hl => ?_)
            obtain ⟨v_13, ev_13⟩ : ∃ y : Int32, y = x4 + (1 : Int32) := ⟨_, rfl⟩
            have h := lt_h ev_13 h
            refine lv_iinc (v := v_13) (lv' := [(4, .int v_13), (3, .int x4), (5, .int (1 : Int32)), (0, .ref a_this), (1, .int x1), (2, .int x2)]) hx hb dX11_ghostOn_80 hl (k := 5) rfl (by rw [ev_13]; rfl) (Nat.le_of_ble_eq_true rfl) rfl (fun ls hl => ?_)
            refine lv_goto (tgt := 6) hx hb dX11_ghostOn_83 (by decide) ?_
            exact hk6 x4 v_13 h _ _ hW _ (lv_sub hl [3, 4, 5, 1, 0] rfl)
theorem wX11_ghostOn_6_ {a_this a_thick a_hollow a_damp a_fresh a_pulls a_fats a_deep a_fine a_pay a_hair a_sightPicture a_sightPull a_sightShows a_pad a_act a_where a_much a_kindMany a_had a_leaves a_mostPay a_canLast a_leastMissed a_kept a_isKept : Nat} (x1 : Int32) (x2 : Int32) (v_stones : Int32) (v_flat : Int32) (v_leastThick : Int32) (v_sights : Int32) (v_padMany : Int32) (v_acts : Int32) (v_pulled : Int32) (v_skyPull : Int32) (v_skyWhose : Int32) (v_badAct : Int32) (v_badWhy : Int32) (v_keptAt : Int32) (v_isWriting : Int32) (v_fats : Nat → Int32) {res : Int32} (C : Cx p s m av meth c RX11 cX11_ghostOn 6 (some .int) G cI cZ cO A) (hQ : RI p l e rX11_ghostOn s m av below meth c G A cX11_ghostOn .int Q (res) (wX11_ghostOn cI cZ a_this a_thick a_hollow a_damp a_fresh a_pulls a_fats a_deep a_fine a_pay a_hair a_sightPicture a_sightPull a_sightShows a_pad a_act a_where a_much a_kindMany a_had a_leaves a_mostPay a_canLast a_leastMissed a_kept a_isKept v_stones v_flat v_leastThick v_sights v_padMany v_acts v_pulled v_skyPull v_skyWhose v_badAct v_badWhy v_keptAt v_isWriting v_fats)) : ∀ (n : Nat) (x3 : Int32) (x4 : Int32), LX11_ghostOn_6 x1 x2 v_fats n x3 x4 = some res → ∀ (H : Heap) (locs : List Loc), HW G A s (wX11_ghostOn cI cZ a_this a_thick a_hollow a_damp a_fresh a_pulls a_fats a_deep a_fine a_pay a_hair a_sightPicture a_sightPull a_sightShows a_pad a_act a_where a_much a_kindMany a_had a_leaves a_mostPay a_canLast a_leastMissed a_kept a_isKept v_stones v_flat v_leastThick v_sights v_padMany v_acts v_pulled v_skyPull v_skyWhose v_badAct v_badWhy v_keptAt v_isWriting v_fats) H locs → ∀ ls : Array Slot, lv_has ls 6 [(0, .ref a_this), (1, .int x1), (2, .int x2), (3, .int x3), (4, .int x4)] → W p l e rX11_ghostOn s m av below meth c H locs 0 0 Q (F0 m 6 ls []) := by
  intro n
  induction n with
  | zero => intro x3 x4 h; cases h
  | succ n ih =>
    intro x3 x4 h H locs hW ls hl
    exact uX11_ghostOn_6 x1 x2 x3 x4 v_stones v_flat v_leastThick v_sights v_padMany v_acts v_pulled v_skyPull v_skyWhose v_badAct v_badWhy v_keptAt v_isWriting v_fats C hQ (k6 := LX11_ghostOn_6 x1 x2 v_fats n) ih h H locs hW ls hl
set_option maxRecDepth 20000 in
theorem uX11_ghostOn_0 {a_this a_thick a_hollow a_damp a_fresh a_pulls a_fats a_deep a_fine a_pay a_hair a_sightPicture a_sightPull a_sightShows a_pad a_act a_where a_much a_kindMany a_had a_leaves a_mostPay a_canLast a_leastMissed a_kept a_isKept : Nat} (x1 : Int32) (x2 : Int32) (v_stones : Int32) (v_flat : Int32) (v_leastThick : Int32) (v_sights : Int32) (v_padMany : Int32) (v_acts : Int32) (v_pulled : Int32) (v_skyPull : Int32) (v_skyWhose : Int32) (v_badAct : Int32) (v_badWhy : Int32) (v_keptAt : Int32) (v_isWriting : Int32) (v_fats : Nat → Int32) {res : Int32} (C : Cx p s m av meth c RX11 cX11_ghostOn 6 (some .int) G cI cZ cO A) (hQ : RI p l e rX11_ghostOn s m av below meth c G A cX11_ghostOn .int Q (res) (wX11_ghostOn cI cZ a_this a_thick a_hollow a_damp a_fresh a_pulls a_fats a_deep a_fine a_pay a_hair a_sightPicture a_sightPull a_sightShows a_pad a_act a_where a_much a_kindMany a_had a_leaves a_mostPay a_canLast a_leastMissed a_kept a_isKept v_stones v_flat v_leastThick v_sights v_padMany v_acts v_pulled v_skyPull v_skyWhose v_badAct v_badWhy v_keptAt v_isWriting v_fats)) (h : fX11_ghostOn x1 x2 v_fats = some res) (H : Heap) (locs : List Loc) (hW : HW G A s (wX11_ghostOn cI cZ a_this a_thick a_hollow a_damp a_fresh a_pulls a_fats a_deep a_fine a_pay a_hair a_sightPicture a_sightPull a_sightShows a_pad a_act a_where a_much a_kindMany a_had a_leaves a_mostPay a_canLast a_leastMissed a_kept a_isKept v_stones v_flat v_leastThick v_sights v_padMany v_acts v_pulled v_skyPull v_skyWhose v_badAct v_badWhy v_keptAt v_isWriting v_fats) H locs) (ls : Array Slot) (hl : lv_has ls 6 [(0, .ref a_this), (1, .int x1), (2, .int x2)]) : W p l e rX11_ghostOn s m av below meth c H locs 0 0 Q (F0 m 0 ls []) := by
  have hx := C.1
  have hb := C.2.1
  unfold fX11_ghostOn at h
  refine lv_bipush (v := (-6 : Int32)) hx hb dX11_ghostOn_0 (by decide) ?_
  refine lv_istore_n (lv' := [(3, .int (-6 : Int32)), (0, .ref a_this), (1, .int x1), (2, .int x2)]) hx hb dX11_ghostOn_2 rfl hl (Nat.le_of_ble_eq_true rfl) rfl (fun ls hl => ?_)
  refine lv_iconst (v := (0 : Int32)) hx hb dX11_ghostOn_3 (by decide) ?_
  refine lv_istore (lv' := [(4, .int (0 : Int32)), (3, .int (-6 : Int32)), (0, .ref a_this), (1, .int x1), (2, .int x2)]) hx hb dX11_ghostOn_4 hl (Nat.le_of_ble_eq_true rfl) rfl (fun ls hl => ?_)
  exact wX11_ghostOn_6_ x1 x2 v_stones v_flat v_leastThick v_sights v_padMany v_acts v_pulled v_skyPull v_skyWhose v_badAct v_badWhy v_keptAt v_isWriting v_fats C hQ 2000 (-6 : Int32) (0 : Int32) h _ _ hW _ (lv_sub hl [2, 3, 4, 1, 0] rfl)
theorem ctX11_ghostOn {l : Launch} {G : va_G} {cI cZ cO : ClassId} (a_this a_thick a_hollow a_damp a_fresh a_pulls a_fats a_deep a_fine a_pay a_hair a_sightPicture a_sightPull a_sightShows a_pad a_act a_where a_much a_kindMany a_had a_leaves a_mostPay a_canLast a_leastMissed a_kept a_isKept : Nat) (x1 : Int32) (x2 : Int32) (v_stones : Int32) (v_flat : Int32) (v_leastThick : Int32) (v_sights : Int32) (v_padMany : Int32) (v_acts : Int32) (v_pulled : Int32) (v_skyPull : Int32) (v_skyWhose : Int32) (v_badAct : Int32) (v_badWhy : Int32) (v_keptAt : Int32) (v_isWriting : Int32) (v_fats : Nat → Int32) {res : Int32} (h : fX11_ghostOn x1 x2 v_fats = some res) : MI l G cI cZ cO yX11_ghostOn cX11_ghostOn 6 .int rX11_ghostOn [.ref a_this, .int x1, .int x2] (wX11_ghostOn cI cZ a_this a_thick a_hollow a_damp a_fresh a_pulls a_fats a_deep a_fine a_pay a_hair a_sightPicture a_sightPull a_sightShows a_pad a_act a_where a_much a_kindMany a_had a_leaves a_mostPay a_canLast a_leastMissed a_kept a_isKept v_stones v_flat v_leastThick v_sights v_padMany v_acts v_pulled v_skyPull v_skyWhose v_badAct v_badWhy v_keptAt v_isWriting v_fats) (res) (wX11_ghostOn cI cZ a_this a_thick a_hollow a_damp a_fresh a_pulls a_fats a_deep a_fine a_pay a_hair a_sightPicture a_sightPull a_sightShows a_pad a_act a_where a_much a_kindMany a_had a_leaves a_mostPay a_canLast a_leastMissed a_kept a_isKept v_stones v_flat v_leastThick v_sights v_padMany v_acts v_pulled v_skyPull v_skyWhose v_badAct v_badWhy v_keptAt v_isWriting v_fats) := by
  refine MI.of (by decide) (Nat.le_of_ble_eq_true rfl) ?_
  intro p e s m below meth c A Q C hW hQ ls hl
  exact uX11_ghostOn_0 x1 x2 v_stones v_flat v_leastThick v_sights v_padMany v_acts v_pulled v_skyPull v_skyWhose v_badAct v_badWhy v_keptAt v_isWriting v_fats C hQ h _ _ hW _ hl
abbrev wX11_ghostFat (cI cZ : ClassId) (a_this a_thick a_hollow a_damp a_fresh a_pulls a_fats a_deep a_fine a_pay a_hair a_sightPicture a_sightPull a_sightShows a_pad a_act a_where a_much a_kindMany a_had a_leaves a_mostPay a_canLast a_leastMissed a_kept a_isKept : Nat) (v_stones : Int32) (v_flat : Int32) (v_leastThick : Int32) (v_sights : Int32) (v_padMany : Int32) (v_acts : Int32) (v_pulled : Int32) (v_skyPull : Int32) (v_skyWhose : Int32) (v_badAct : Int32) (v_badWhy : Int32) (v_keptAt : Int32) (v_isWriting : Int32) (v_fats : Nat → Int32) : va_W := [(a_this, .inr (11, [.int v_stones, .int v_flat, .int v_leastThick, .ref a_thick, .ref a_hollow, .ref a_damp, .ref a_fresh, .ref a_pulls, .ref a_fats, .ref a_deep, .ref a_fine, .ref a_pay, .ref a_hair, .ref a_sightPicture, .ref a_sightPull, .ref a_sightShows, .int v_sights, .ref a_pad, .int v_padMany, .ref a_act, .ref a_where, .ref a_much, .int v_acts, .int v_pulled, .ref a_kindMany, .int v_skyPull, .int v_skyWhose, .ref a_had, .ref a_leaves, .int v_badAct, .int v_badWhy, .ref a_mostPay, .ref a_canLast, .ref a_leastMissed, .ref a_kept, .ref a_isKept, .int v_keptAt, .int v_isWriting])), (a_fats, .inl (cI, 40, .inl v_fats))]
abbrev rX11_ghostFat : Room := { frames := 2, cells := 0, slots := 0, locals := 46 }
set_option maxRecDepth 20000 in
theorem uX11_ghostFat_0 {a_this a_thick a_hollow a_damp a_fresh a_pulls a_fats a_deep a_fine a_pay a_hair a_sightPicture a_sightPull a_sightShows a_pad a_act a_where a_much a_kindMany a_had a_leaves a_mostPay a_canLast a_leastMissed a_kept a_isKept : Nat} (x1 : Int32) (x2 : Int32) (v_stones : Int32) (v_flat : Int32) (v_leastThick : Int32) (v_sights : Int32) (v_padMany : Int32) (v_acts : Int32) (v_pulled : Int32) (v_skyPull : Int32) (v_skyWhose : Int32) (v_badAct : Int32) (v_badWhy : Int32) (v_keptAt : Int32) (v_isWriting : Int32) (v_fats : Nat → Int32) {res : Int32} (C : Cx p s m av meth c RX11 cX11_ghostFat 4 (some .int) G cI cZ cO A) (hQ : RI p l e rX11_ghostFat s m av below meth c G A cX11_ghostFat .int Q (res) (wX11_ghostFat cI cZ a_this a_thick a_hollow a_damp a_fresh a_pulls a_fats a_deep a_fine a_pay a_hair a_sightPicture a_sightPull a_sightShows a_pad a_act a_where a_much a_kindMany a_had a_leaves a_mostPay a_canLast a_leastMissed a_kept a_isKept v_stones v_flat v_leastThick v_sights v_padMany v_acts v_pulled v_skyPull v_skyWhose v_badAct v_badWhy v_keptAt v_isWriting v_fats)) (h : fX11_ghostFat x1 x2 v_fats = some res) (H : Heap) (locs : List Loc) (hW : HW G A s (wX11_ghostFat cI cZ a_this a_thick a_hollow a_damp a_fresh a_pulls a_fats a_deep a_fine a_pay a_hair a_sightPicture a_sightPull a_sightShows a_pad a_act a_where a_much a_kindMany a_had a_leaves a_mostPay a_canLast a_leastMissed a_kept a_isKept v_stones v_flat v_leastThick v_sights v_padMany v_acts v_pulled v_skyPull v_skyWhose v_badAct v_badWhy v_keptAt v_isWriting v_fats) H locs) (ls : Array Slot) (hl : lv_has ls 4 [(0, .ref a_this), (1, .int x1), (2, .int x2)]) : W p l e rX11_ghostFat s m av below meth c H locs 0 0 Q (F0 m 0 ls []) := by
  have hx := C.1
  have hb := C.2.1
  unfold fX11_ghostFat at h
  refine lv_aload_n hx hb dX11_ghostFat_0 rfl (lv_at hl 0 rfl) ?_
  refine lv_iload_n hx hb dX11_ghostFat_1 rfl (lv_at hl 1 rfl) ?_
  refine lv_iload_n hx hb dX11_ghostFat_2 rfl (lv_at hl 2 rfl) ?_
  obtain ⟨v_1, hv_1, h⟩ := bd_h h
  refine callVIr [0, 1] C lk_RX11_166 (ctX11_ghostOn a_this a_thick a_hollow a_damp a_fresh a_pulls a_fats a_deep a_fine a_pay a_hair a_sightPicture a_sightPull a_sightShows a_pad a_act a_where a_much a_kindMany a_had a_leaves a_mostPay a_canLast a_leastMissed a_kept a_isKept x1 x2 v_stones v_flat v_leastThick v_sights v_padMany v_acts v_pulled v_skyPull v_skyWhose v_badAct v_badWhy v_keptAt v_isWriting v_fats hv_1) hW hl 11 rfl rfl rfl rfl rfl ⟨rfl, rfl⟩ ⟨(Nat.le_of_ble_eq_true rfl), (Nat.le_of_ble_eq_true rfl)⟩ ⟨Nat.zero_le _, Nat.zero_le _⟩ rfl (Nat.le_of_ble_eq_true rfl) dX11_ghostFat_3 (fun H locs hW => ?_)
  refine lv_istore_n (lv' := [(3, .int v_1), (0, .ref a_this), (1, .int x1), (2, .int x2)]) hx hb dX11_ghostFat_6 rfl hl (Nat.le_of_ble_eq_true rfl) rfl (fun ls hl => ?_)
  refine lv_iload_n hx hb dX11_ghostFat_7 rfl (lv_at hl 0 rfl) ?_
  refine lv_if_ge (tgt := 15) hx hb dX11_ghostFat_8 (by decide) (fun c_2 => ?_) (fun c_2 => ?_)
  · have h := ip_h c_2 h
    refine lv_aload_n hx hb dX11_ghostFat_15 rfl (lv_at hl 1 rfl) ?_
    refine getW C fl_RX11_25 hW 0 rfl rfl dX11_ghostFat_16 ?_
    refine lv_iload_n hx hb dX11_ghostFat_19 rfl (lv_at hl 2 rfl) ?_
    refine lv_iload_n hx hb dX11_ghostFat_20 rfl (lv_at hl 0 rfl) ?_
    refine callSI0 C lk_RX11_110 (ctX11_at x1 v_1 rfl) hW hl rfl ⟨rfl, rfl⟩ ⟨(Nat.le_of_ble_eq_true rfl), (Nat.le_of_ble_eq_true rfl)⟩ ⟨Nat.zero_le _, Nat.zero_le _⟩ rfl (Nat.le_of_ble_eq_true rfl) dX11_ghostFat_21 (fun H locs hW => ?_)
    obtain ⟨g_3, h⟩ := gd_h h
    refine ialdW C hW 1 rfl g_3 dX11_ghostFat_24 ?_
    obtain rfl := Option.some.inj h
    exact hQ rfl _ _ _ _ dX11_ghostFat_25 hW
  · have h := in_h c_2 h
    refine lv_iconst (v := (0 : Int32)) hx hb dX11_ghostFat_11 (by decide) ?_
    refine lv_goto (tgt := 25) hx hb dX11_ghostFat_12 (by decide) ?_
    obtain rfl := Option.some.inj h
    exact hQ rfl _ _ _ _ dX11_ghostFat_25 hW
theorem ctX11_ghostFat {l : Launch} {G : va_G} {cI cZ cO : ClassId} (a_this a_thick a_hollow a_damp a_fresh a_pulls a_fats a_deep a_fine a_pay a_hair a_sightPicture a_sightPull a_sightShows a_pad a_act a_where a_much a_kindMany a_had a_leaves a_mostPay a_canLast a_leastMissed a_kept a_isKept : Nat) (x1 : Int32) (x2 : Int32) (v_stones : Int32) (v_flat : Int32) (v_leastThick : Int32) (v_sights : Int32) (v_padMany : Int32) (v_acts : Int32) (v_pulled : Int32) (v_skyPull : Int32) (v_skyWhose : Int32) (v_badAct : Int32) (v_badWhy : Int32) (v_keptAt : Int32) (v_isWriting : Int32) (v_fats : Nat → Int32) {res : Int32} (h : fX11_ghostFat x1 x2 v_fats = some res) : MI l G cI cZ cO yX11_ghostFat cX11_ghostFat 4 .int rX11_ghostFat [.ref a_this, .int x1, .int x2] (wX11_ghostFat cI cZ a_this a_thick a_hollow a_damp a_fresh a_pulls a_fats a_deep a_fine a_pay a_hair a_sightPicture a_sightPull a_sightShows a_pad a_act a_where a_much a_kindMany a_had a_leaves a_mostPay a_canLast a_leastMissed a_kept a_isKept v_stones v_flat v_leastThick v_sights v_padMany v_acts v_pulled v_skyPull v_skyWhose v_badAct v_badWhy v_keptAt v_isWriting v_fats) (res) (wX11_ghostFat cI cZ a_this a_thick a_hollow a_damp a_fresh a_pulls a_fats a_deep a_fine a_pay a_hair a_sightPicture a_sightPull a_sightShows a_pad a_act a_where a_much a_kindMany a_had a_leaves a_mostPay a_canLast a_leastMissed a_kept a_isKept v_stones v_flat v_leastThick v_sights v_padMany v_acts v_pulled v_skyPull v_skyWhose v_badAct v_badWhy v_keptAt v_isWriting v_fats) := by
  refine MI.of (by decide) (Nat.le_of_ble_eq_true rfl) ?_
  intro p e s m below meth c A Q C hW hQ ls hl
  exact uX11_ghostFat_0 x1 x2 v_stones v_flat v_leastThick v_sights v_padMany v_acts v_pulled v_skyPull v_skyWhose v_badAct v_badWhy v_keptAt v_isWriting v_fats C hQ h _ _ hW _ hl
abbrev wX11_pullOnce (cI cZ : ClassId) (a_this a_thick a_hollow a_damp a_fresh a_pulls a_fats a_deep a_fine a_pay a_hair a_sightPicture a_sightPull a_sightShows a_pad a_act a_where a_much a_kindMany a_had a_leaves a_mostPay a_canLast a_leastMissed a_kept a_isKept : Nat) (v_stones : Int32) (v_flat : Int32) (v_leastThick : Int32) (v_sights : Int32) (v_padMany : Int32) (v_acts : Int32) (v_pulled : Int32) (v_skyPull : Int32) (v_skyWhose : Int32) (v_badAct : Int32) (v_badWhy : Int32) (v_keptAt : Int32) (v_isWriting : Int32) (v_fresh : Nat → Int32) (v_damp : Nat → Int32) (v_pulls : Nat → Int32) (v_fats : Nat → Int32) (v_kindMany : Nat → Int32) (v_fine : Nat → Int32) : va_W := [(a_this, .inr (11, [.int v_stones, .int v_flat, .int v_leastThick, .ref a_thick, .ref a_hollow, .ref a_damp, .ref a_fresh, .ref a_pulls, .ref a_fats, .ref a_deep, .ref a_fine, .ref a_pay, .ref a_hair, .ref a_sightPicture, .ref a_sightPull, .ref a_sightShows, .int v_sights, .ref a_pad, .int v_padMany, .ref a_act, .ref a_where, .ref a_much, .int v_acts, .int v_pulled, .ref a_kindMany, .int v_skyPull, .int v_skyWhose, .ref a_had, .ref a_leaves, .int v_badAct, .int v_badWhy, .ref a_mostPay, .ref a_canLast, .ref a_leastMissed, .ref a_kept, .ref a_isKept, .int v_keptAt, .int v_isWriting])), (a_fresh, .inl (cI, 5, .inl v_fresh)), (a_damp, .inl (cI, 5, .inl v_damp)), (a_pulls, .inl (cI, 5, .inl v_pulls)), (a_fats, .inl (cI, 40, .inl v_fats)), (a_kindMany, .inl (cI, 5, .inl v_kindMany)), (a_fine, .inl (cI, 8, .inl v_fine))]
abbrev rX11_pullOnce : Room := { frames := 3, cells := 0, slots := 0, locals := 69 }
set_option maxRecDepth 20000 in
theorem uX11_pullOnce_157 {a_this a_thick a_hollow a_damp a_fresh a_pulls a_fats a_deep a_fine a_pay a_hair a_sightPicture a_sightPull a_sightShows a_pad a_act a_where a_much a_kindMany a_had a_leaves a_mostPay a_canLast a_leastMissed a_kept a_isKept : Nat} (x1 : Int32) (x2 : Int32) (x3 : Int32) (v_stones : Int32) (v_flat : Int32) (v_leastThick : Int32) (v_sights : Int32) (v_padMany : Int32) (v_acts : Int32) (v_pulled : Int32) (v_skyPull : Int32) (v_skyWhose : Int32) (v_badAct : Int32) (v_badWhy : Int32) (v_keptAt : Int32) (v_isWriting : Int32) (v_fresh : Nat → Int32) (v_damp : Nat → Int32) (v_pulls : Nat → Int32) (v_fats : Nat → Int32) (v_kindMany : Nat → Int32) (v_fine : Nat → Int32) {res : Int32 × Int32 × Int32 × (Nat → Int32) × (Nat → Int32) × (Nat → Int32) × (Nat → Int32)} (C : Cx p s m av meth c RX11 cX11_pullOnce 5 none G cI cZ cO A) (hQ : RV p l e rX11_pullOnce s m av below meth c G A cX11_pullOnce Q (wX11_pullOnce cI cZ a_this a_thick a_hollow a_damp a_fresh a_pulls a_fats a_deep a_fine a_pay a_hair a_sightPicture a_sightPull a_sightShows a_pad a_act a_where a_much a_kindMany a_had a_leaves a_mostPay a_canLast a_leastMissed a_kept a_isKept v_stones v_flat v_leastThick v_sights v_padMany v_acts res.1 res.2.1 res.2.2.1 v_badAct v_badWhy v_keptAt v_isWriting v_fresh res.2.2.2.1 res.2.2.2.2.1 res.2.2.2.2.2.1 res.2.2.2.2.2.2 v_fine)) (h : fX11_pullOnce_157 x1 x2 x3 v_pulled v_skyPull v_skyWhose v_damp v_pulls v_fats v_kindMany = some res) (H : Heap) (locs : List Loc) (hW : HW G A s (wX11_pullOnce cI cZ a_this a_thick a_hollow a_damp a_fresh a_pulls a_fats a_deep a_fine a_pay a_hair a_sightPicture a_sightPull a_sightShows a_pad a_act a_where a_much a_kindMany a_had a_leaves a_mostPay a_canLast a_leastMissed a_kept a_isKept v_stones v_flat v_leastThick v_sights v_padMany v_acts v_pulled v_skyPull v_skyWhose v_badAct v_badWhy v_keptAt v_isWriting v_fresh v_damp v_pulls v_fats v_kindMany v_fine) H locs) (ls : Array Slot) (hl : lv_has ls 5 [(0, .ref a_this), (1, .int x1), (2, .int x2), (3, .int x3)]) : W p l e rX11_pullOnce s m av below meth c H locs 0 0 Q (F0 m 157 ls []) := by
  have hx := C.1
  have hb := C.2.1
  unfold fX11_pullOnce_157 at h
  refine lv_aload_n hx hb dX11_pullOnce_157 rfl (lv_at hl 0 rfl) ?_
  refine lv_dup hx hb dX11_pullOnce_158 rfl ?_
  refine getW C fl_RX11_178 hW 0 rfl rfl dX11_pullOnce_159 ?_
  refine lv_iconst (v := (1 : Int32)) hx hb dX11_pullOnce_162 (by decide) ?_
  refine lv_iadd hx hb dX11_pullOnce_163 ?_
  refine lv_topi (fun v_13 ev_13 => ?_)
  have h := lt_h ev_13 h
  refine putW C fp_RX11_178 hW 0 rfl rfl rfl (Nat.le_of_ble_eq_true rfl) dX11_pullOnce_164 (fun H locs hW => ?_)
  have hW : HW G A s (wX11_pullOnce cI cZ a_this a_thick a_hollow a_damp a_fresh a_pulls a_fats a_deep a_fine a_pay a_hair a_sightPicture a_sightPull a_sightShows a_pad a_act a_where a_much a_kindMany a_had a_leaves a_mostPay a_canLast a_leastMissed a_kept a_isKept v_stones v_flat v_leastThick v_sights v_padMany v_acts v_13 v_skyPull v_skyWhose v_badAct v_badWhy v_keptAt v_isWriting v_fresh v_damp v_pulls v_fats v_kindMany v_fine) H locs := hW
  refine lv_aload_n hx hb dX11_pullOnce_167 rfl (lv_at hl 0 rfl) ?_
  refine getW C fl_RX11_61 hW 0 rfl rfl dX11_pullOnce_168 ?_
  refine lv_iload_n hx hb dX11_pullOnce_171 rfl (lv_at hl 3 rfl) ?_
  refine lv_dup2_11 hx hb dX11_pullOnce_172 rfl rfl ?_
  obtain ⟨g_14, h⟩ := gd_h h
  refine ialdW C hW 5 rfl g_14 dX11_pullOnce_173 ?_
  refine lv_iconst (v := (1 : Int32)) hx hb dX11_pullOnce_174 (by decide) ?_
  refine lv_iadd hx hb dX11_pullOnce_175 ?_
  refine lv_topi (fun v_15 ev_15 => ?_)
  have h := lt_h ev_15 h
  refine iastW C hW 5 rfl g_14 dX11_pullOnce_176 (fun H locs hW => ?_)
  have hW : HW G A s (wX11_pullOnce cI cZ a_this a_thick a_hollow a_damp a_fresh a_pulls a_fats a_deep a_fine a_pay a_hair a_sightPicture a_sightPull a_sightShows a_pad a_act a_where a_much a_kindMany a_had a_leaves a_mostPay a_canLast a_leastMissed a_kept a_isKept v_stones v_flat v_leastThick v_sights v_padMany v_acts v_13 v_skyPull v_skyWhose v_badAct v_badWhy v_keptAt v_isWriting v_fresh v_damp v_pulls v_fats (upd v_kindMany (Int32.toNatClampNeg x3) v_15) v_fine) H locs := hW
  refine lv_iload_n hx hb dX11_pullOnce_177 rfl (lv_at hl 3 rfl) ?_
  refine lv_iconst (v := (3 : Int32)) hx hb dX11_pullOnce_178 (by decide) ?_
  refine lv_icmp_ne (tgt := 207) hx hb dX11_pullOnce_179 (by decide) (fun c_16 => ?_) (fun c_16 => ?_)
  · have h := in_h c_16 h
    obtain rfl := Option.some.inj h
    exact hQ _ _ _ _ dX11_pullOnce_207 hW
  · have h := ip_h c_16 h
    refine lv_aload_n hx hb dX11_pullOnce_182 rfl (lv_at hl 0 rfl) ?_
    refine getW C fl_RX11_181 hW 0 rfl rfl dX11_pullOnce_183 ?_
    refine lv_if_ge (tgt := 207) hx hb dX11_pullOnce_186 (by decide) (fun c_17 => ?_) (fun c_17 => ?_)
    · have h := ip_h c_17 h
      obtain rfl := Option.some.inj h
      exact hQ _ _ _ _ dX11_pullOnce_207 hW
    · have h := in_h c_17 h
      refine lv_aload_n hx hb dX11_pullOnce_189 rfl (lv_at hl 0 rfl) ?_
      refine lv_aload_n hx hb dX11_pullOnce_190 rfl (lv_at hl 0 rfl) ?_
      refine getW C fl_RX11_178 hW 0 rfl rfl dX11_pullOnce_191 ?_
      refine putW C fp_RX11_181 hW 0 rfl rfl rfl (Nat.le_of_ble_eq_true rfl) dX11_pullOnce_194 (fun H locs hW => ?_)
      have hW : HW G A s (wX11_pullOnce cI cZ a_this a_thick a_hollow a_damp a_fresh a_pulls a_fats a_deep a_fine a_pay a_hair a_sightPicture a_sightPull a_sightShows a_pad a_act a_where a_much a_kindMany a_had a_leaves a_mostPay a_canLast a_leastMissed a_kept a_isKept v_stones v_flat v_leastThick v_sights v_padMany v_acts v_13 v_13 v_skyWhose v_badAct v_badWhy v_keptAt v_isWriting v_fresh v_damp v_pulls v_fats (upd v_kindMany (Int32.toNatClampNeg x3) v_15) v_fine) H locs := hW
      refine lv_aload_n hx hb dX11_pullOnce_197 rfl (lv_at hl 0 rfl) ?_
      refine lv_aload_n hx hb dX11_pullOnce_198 rfl (lv_at hl 0 rfl) ?_
      refine lv_iload_n hx hb dX11_pullOnce_199 rfl (lv_at hl 1 rfl) ?_
      refine lv_iload_n hx hb dX11_pullOnce_200 rfl (lv_at hl 2 rfl) ?_
      obtain ⟨v_18, hv_18, h⟩ := bd_h h
      refine callVIr [0, 4] C lk_RX11_166 (ctX11_ghostOn a_this a_thick a_hollow a_damp a_fresh a_pulls a_fats a_deep a_fine a_pay a_hair a_sightPicture a_sightPull a_sightShows a_pad a_act a_where a_much a_kindMany a_had a_leaves a_mostPay a_canLast a_leastMissed a_kept a_isKept x1 x2 v_stones v_flat v_leastThick v_sights v_padMany v_acts v_13 v_13 v_skyWhose v_badAct v_badWhy v_keptAt v_isWriting v_fats hv_18) hW hl 11 rfl rfl rfl rfl rfl ⟨rfl, rfl⟩ ⟨(Nat.le_of_ble_eq_true rfl), (Nat.le_of_ble_eq_true rfl)⟩ ⟨Nat.zero_le _, Nat.zero_le _⟩ rfl (Nat.le_of_ble_eq_true rfl) dX11_pullOnce_201 (fun H locs hW => ?_)
      refine putW C fp_RX11_184 hW 0 rfl rfl rfl (Nat.le_of_ble_eq_true rfl) dX11_pullOnce_204 (fun H locs hW => ?_)
      have hW : HW G A s (wX11_pullOnce cI cZ a_this a_thick a_hollow a_damp a_fresh a_pulls a_fats a_deep a_fine a_pay a_hair a_sightPicture a_sightPull a_sightShows a_pad a_act a_where a_much a_kindMany a_had a_leaves a_mostPay a_canLast a_leastMissed a_kept a_isKept v_stones v_flat v_leastThick v_sights v_padMany v_acts v_13 v_13 v_18 v_badAct v_badWhy v_keptAt v_isWriting v_fresh v_damp v_pulls v_fats (upd v_kindMany (Int32.toNatClampNeg x3) v_15) v_fine) H locs := hW
      obtain rfl := Option.some.inj h
      exact hQ _ _ _ _ dX11_pullOnce_207 hW
set_option maxRecDepth 20000 in
theorem uX11_pullOnce_116 {a_this a_thick a_hollow a_damp a_fresh a_pulls a_fats a_deep a_fine a_pay a_hair a_sightPicture a_sightPull a_sightShows a_pad a_act a_where a_much a_kindMany a_had a_leaves a_mostPay a_canLast a_leastMissed a_kept a_isKept : Nat} (x1 : Int32) (x2 : Int32) (x3 : Int32) (x4 : Int32) (s1 : Int32) (s2 : Int32) (v_stones : Int32) (v_flat : Int32) (v_leastThick : Int32) (v_sights : Int32) (v_padMany : Int32) (v_acts : Int32) (v_pulled : Int32) (v_skyPull : Int32) (v_skyWhose : Int32) (v_badAct : Int32) (v_badWhy : Int32) (v_keptAt : Int32) (v_isWriting : Int32) (v_fresh : Nat → Int32) (v_damp : Nat → Int32) (v_pulls : Nat → Int32) (v_fats : Nat → Int32) (v_kindMany : Nat → Int32) (v_fine : Nat → Int32) {res : Int32 × Int32 × Int32 × (Nat → Int32) × (Nat → Int32) × (Nat → Int32) × (Nat → Int32)} (C : Cx p s m av meth c RX11 cX11_pullOnce 5 none G cI cZ cO A) (hQ : RV p l e rX11_pullOnce s m av below meth c G A cX11_pullOnce Q (wX11_pullOnce cI cZ a_this a_thick a_hollow a_damp a_fresh a_pulls a_fats a_deep a_fine a_pay a_hair a_sightPicture a_sightPull a_sightShows a_pad a_act a_where a_much a_kindMany a_had a_leaves a_mostPay a_canLast a_leastMissed a_kept a_isKept v_stones v_flat v_leastThick v_sights v_padMany v_acts res.1 res.2.1 res.2.2.1 v_badAct v_badWhy v_keptAt v_isWriting v_fresh res.2.2.2.1 res.2.2.2.2.1 res.2.2.2.2.2.1 res.2.2.2.2.2.2 v_fine)) (h : fX11_pullOnce_116 x1 x2 x3 x4 s1 s2 v_pulled v_skyPull v_skyWhose v_damp v_pulls v_fats v_kindMany = some res) (H : Heap) (locs : List Loc) (hW : HW G A s (wX11_pullOnce cI cZ a_this a_thick a_hollow a_damp a_fresh a_pulls a_fats a_deep a_fine a_pay a_hair a_sightPicture a_sightPull a_sightShows a_pad a_act a_where a_much a_kindMany a_had a_leaves a_mostPay a_canLast a_leastMissed a_kept a_isKept v_stones v_flat v_leastThick v_sights v_padMany v_acts v_pulled v_skyPull v_skyWhose v_badAct v_badWhy v_keptAt v_isWriting v_fresh v_damp v_pulls v_fats v_kindMany v_fine) H locs) (ls : Array Slot) (hl : lv_has ls 5 [(0, .ref a_this), (1, .int x1), (2, .int x2), (3, .int x3), (4, .int x4)]) : W p l e rX11_pullOnce s m av below meth c H locs 0 0 Q (F0 m 116 ls [.int s2, .int s1, .ref a_fats]) := by
  have hx := C.1
  have hb := C.2.1
  unfold fX11_pullOnce_116 at h
  obtain ⟨g_11, h⟩ := gd_h h
  refine iastW C hW 4 rfl g_11 dX11_pullOnce_116 (fun H locs hW => ?_)
  have hW : HW G A s (wX11_pullOnce cI cZ a_this a_thick a_hollow a_damp a_fresh a_pulls a_fats a_deep a_fine a_pay a_hair a_sightPicture a_sightPull a_sightShows a_pad a_act a_where a_much a_kindMany a_had a_leaves a_mostPay a_canLast a_leastMissed a_kept a_isKept v_stones v_flat v_leastThick v_sights v_padMany v_acts v_pulled v_skyPull v_skyWhose v_badAct v_badWhy v_keptAt v_isWriting v_fresh v_damp v_pulls (upd v_fats (Int32.toNatClampNeg s1) s2) v_kindMany v_fine) H locs := hW
  refine lv_iload_n hx hb dX11_pullOnce_117 rfl (lv_at hl 3 rfl) ?_
  refine lv_if_ne (tgt := 157) hx hb dX11_pullOnce_118 (by decide) (fun c_12 => ?_) (fun c_12 => ?_)
  · have h := in_h c_12 h
    exact uX11_pullOnce_157 x1 x2 x3 v_stones v_flat v_leastThick v_sights v_padMany v_acts v_pulled v_skyPull v_skyWhose v_badAct v_badWhy v_keptAt v_isWriting v_fresh v_damp v_pulls (upd v_fats (Int32.toNatClampNeg s1) s2) v_kindMany v_fine C hQ h _ _ hW _ (lv_sub hl [0, 1, 2, 3] rfl)
  · have h := ip_h c_12 h
    refine lv_aload_n hx hb dX11_pullOnce_121 rfl (lv_at hl 0 rfl) ?_
    refine lv_iload_n hx hb dX11_pullOnce_122 rfl (lv_at hl 1 rfl) ?_
    refine lv_iload_n hx hb dX11_pullOnce_123 rfl (lv_at hl 2 rfl) ?_
    obtain ⟨v_19, hv_19, h⟩ := bd_h h
    refine callVIr [0, 4] C lk_RX11_175 (ctX11_ghostFat a_this a_thick a_hollow a_damp a_fresh a_pulls a_fats a_deep a_fine a_pay a_hair a_sightPicture a_sightPull a_sightShows a_pad a_act a_where a_much a_kindMany a_had a_leaves a_mostPay a_canLast a_leastMissed a_kept a_isKept x1 x2 v_stones v_flat v_leastThick v_sights v_padMany v_acts v_pulled v_skyPull v_skyWhose v_badAct v_badWhy v_keptAt v_isWriting (upd v_fats (Int32.toNatClampNeg s1) s2) hv_19) hW hl 11 rfl rfl rfl rfl rfl ⟨rfl, rfl⟩ ⟨(Nat.le_of_ble_eq_true rfl), (Nat.le_of_ble_eq_true rfl)⟩ ⟨Nat.zero_le _, Nat.zero_le _⟩ rfl (Nat.le_of_ble_eq_true rfl) dX11_pullOnce_124 (fun H locs hW => ?_)
    refine lv_aload_n hx hb dX11_pullOnce_127 rfl (lv_at hl 0 rfl) ?_
    refine getW C fl_RX11_25 hW 0 rfl rfl dX11_pullOnce_128 ?_
    refine lv_iload hx hb dX11_pullOnce_131 (lv_at hl 4 rfl) ?_
    obtain ⟨g_20, h⟩ := gd_h h
    refine ialdW C hW 4 rfl g_20 dX11_pullOnce_133 ?_
    refine lv_icmp_le (tgt := 141) hx hb dX11_pullOnce_134 (by decide) (fun c_21 => ?_) (fun c_21 => ?_)
    · have h := ip_h c_21 h
      refine lv_aload_n hx hb dX11_pullOnce_141 rfl (lv_at hl 0 rfl) ?_
      refine getW C fl_RX11_25 hW 0 rfl rfl dX11_pullOnce_142 ?_
      refine lv_iload hx hb dX11_pullOnce_145 (lv_at hl 4 rfl) ?_
      refine ialdW C hW 4 rfl g_20 dX11_pullOnce_147 ?_
      refine lv_if_ne (tgt := 155) hx hb dX11_pullOnce_148 (by decide) (fun c_22 => ?_) (fun c_22 => ?_)
      · have h := in_h c_22 h
        refine lv_iconst (v := (0 : Int32)) hx hb dX11_pullOnce_155 (by decide) ?_
        refine lv_istore_n (lv' := [(3, .int (0 : Int32)), (0, .ref a_this), (1, .int x1), (2, .int x2), (4, .int x4)]) hx hb dX11_pullOnce_156 rfl hl (Nat.le_of_ble_eq_true rfl) rfl (fun ls hl => ?_)
        exact uX11_pullOnce_157 x1 x2 (0 : Int32) v_stones v_flat v_leastThick v_sights v_padMany v_acts v_pulled v_skyPull v_skyWhose v_badAct v_badWhy v_keptAt v_isWriting v_fresh v_damp v_pulls (upd v_fats (Int32.toNatClampNeg s1) s2) v_kindMany v_fine C hQ h _ _ hW _ (lv_sub hl [1, 2, 3, 0] rfl)
      · have h := ip_h c_22 h
        refine lv_iconst (v := (4 : Int32)) hx hb dX11_pullOnce_151 (by decide) ?_
        refine lv_goto (tgt := 156) hx hb dX11_pullOnce_152 (by decide) ?_
        refine lv_istore_n (lv' := [(3, .int (4 : Int32)), (0, .ref a_this), (1, .int x1), (2, .int x2), (4, .int x4)]) hx hb dX11_pullOnce_156 rfl hl (Nat.le_of_ble_eq_true rfl) rfl (fun ls hl => ?_)
        exact uX11_pullOnce_157 x1 x2 (4 : Int32) v_stones v_flat v_leastThick v_sights v_padMany v_acts v_pulled v_skyPull v_skyWhose v_badAct v_badWhy v_keptAt v_isWriting v_fresh v_damp v_pulls (upd v_fats (Int32.toNatClampNeg s1) s2) v_kindMany v_fine C hQ h _ _ hW _ (lv_sub hl [1, 2, 3, 0] rfl)
    · have h := in_h c_21 h
      refine lv_iconst (v := (3 : Int32)) hx hb dX11_pullOnce_137 (by decide) ?_
      refine lv_goto (tgt := 156) hx hb dX11_pullOnce_138 (by decide) ?_
      refine lv_istore_n (lv' := [(3, .int (3 : Int32)), (0, .ref a_this), (1, .int x1), (2, .int x2), (4, .int x4)]) hx hb dX11_pullOnce_156 rfl hl (Nat.le_of_ble_eq_true rfl) rfl (fun ls hl => ?_)
      exact uX11_pullOnce_157 x1 x2 (3 : Int32) v_stones v_flat v_leastThick v_sights v_padMany v_acts v_pulled v_skyPull v_skyWhose v_badAct v_badWhy v_keptAt v_isWriting v_fresh v_damp v_pulls (upd v_fats (Int32.toNatClampNeg s1) s2) v_kindMany v_fine C hQ h _ _ hW _ (lv_sub hl [1, 2, 3, 0] rfl)
set_option maxRecDepth 20000 in
theorem uX11_pullOnce_37 {a_this a_thick a_hollow a_damp a_fresh a_pulls a_fats a_deep a_fine a_pay a_hair a_sightPicture a_sightPull a_sightShows a_pad a_act a_where a_much a_kindMany a_had a_leaves a_mostPay a_canLast a_leastMissed a_kept a_isKept : Nat} (x1 : Int32) (x2 : Int32) (s0 : Int32) (v_stones : Int32) (v_flat : Int32) (v_leastThick : Int32) (v_sights : Int32) (v_padMany : Int32) (v_acts : Int32) (v_pulled : Int32) (v_skyPull : Int32) (v_skyWhose : Int32) (v_badAct : Int32) (v_badWhy : Int32) (v_keptAt : Int32) (v_isWriting : Int32) (v_fresh : Nat → Int32) (v_damp : Nat → Int32) (v_pulls : Nat → Int32) (v_fats : Nat → Int32) (v_kindMany : Nat → Int32) (v_fine : Nat → Int32) {res : Int32 × Int32 × Int32 × (Nat → Int32) × (Nat → Int32) × (Nat → Int32) × (Nat → Int32)} (C : Cx p s m av meth c RX11 cX11_pullOnce 5 none G cI cZ cO A) (hQ : RV p l e rX11_pullOnce s m av below meth c G A cX11_pullOnce Q (wX11_pullOnce cI cZ a_this a_thick a_hollow a_damp a_fresh a_pulls a_fats a_deep a_fine a_pay a_hair a_sightPicture a_sightPull a_sightShows a_pad a_act a_where a_much a_kindMany a_had a_leaves a_mostPay a_canLast a_leastMissed a_kept a_isKept v_stones v_flat v_leastThick v_sights v_padMany v_acts res.1 res.2.1 res.2.2.1 v_badAct v_badWhy v_keptAt v_isWriting v_fresh res.2.2.2.1 res.2.2.2.2.1 res.2.2.2.2.2.1 res.2.2.2.2.2.2 v_fine)) (h : fX11_pullOnce_37 x1 x2 s0 v_pulled v_skyPull v_skyWhose v_damp v_pulls v_fats v_kindMany v_fine = some res) (H : Heap) (locs : List Loc) (hW : HW G A s (wX11_pullOnce cI cZ a_this a_thick a_hollow a_damp a_fresh a_pulls a_fats a_deep a_fine a_pay a_hair a_sightPicture a_sightPull a_sightShows a_pad a_act a_where a_much a_kindMany a_had a_leaves a_mostPay a_canLast a_leastMissed a_kept a_isKept v_stones v_flat v_leastThick v_sights v_padMany v_acts v_pulled v_skyPull v_skyWhose v_badAct v_badWhy v_keptAt v_isWriting v_fresh v_damp v_pulls v_fats v_kindMany v_fine) H locs) (ls : Array Slot) (hl : lv_has ls 5 [(0, .ref a_this), (1, .int x1), (2, .int x2)]) : W p l e rX11_pullOnce s m av below meth c H locs 0 0 Q (F0 m 37 ls [.int s0]) := by
  have hx := C.1
  have hb := C.2.1
  unfold fX11_pullOnce_37 at h
  refine lv_istore_n (lv' := [(3, .int s0), (0, .ref a_this), (1, .int x1), (2, .int x2)]) hx hb dX11_pullOnce_37 rfl hl (Nat.le_of_ble_eq_true rfl) rfl (fun ls hl => ?_)
  refine lv_aload_n hx hb dX11_pullOnce_38 rfl (lv_at hl 1 rfl) ?_
  refine getW C fl_RX11_16 hW 0 rfl rfl dX11_pullOnce_39 ?_
  refine lv_iload_n hx hb dX11_pullOnce_42 rfl (lv_at hl 2 rfl) ?_
  refine lv_aload_n hx hb dX11_pullOnce_43 rfl (lv_at hl 1 rfl) ?_
  refine getW C fl_RX11_16 hW 0 rfl rfl dX11_pullOnce_44 ?_
  refine lv_iload_n hx hb dX11_pullOnce_47 rfl (lv_at hl 2 rfl) ?_
  obtain ⟨g_5, h⟩ := gd_h h
  refine ialdW C hW 2 rfl g_5 dX11_pullOnce_48 ?_
  refine lv_iconst (v := (1 : Int32)) hx hb dX11_pullOnce_49 (by decide) ?_
  refine lv_isub hx hb dX11_pullOnce_50 ?_
  refine callSI0 C lk_RX11_169 (ctX11_notBelow0 ((v_damp (Int32.toNatClampNeg x1)) - (1 : Int32)) rfl) hW hl rfl ⟨rfl, rfl⟩ ⟨(Nat.le_of_ble_eq_true rfl), (Nat.le_of_ble_eq_true rfl)⟩ ⟨Nat.zero_le _, Nat.zero_le _⟩ rfl (Nat.le_of_ble_eq_true rfl) dX11_pullOnce_51 (fun H locs hW => ?_)
  refine lv_topi (fun v_6 ev_6 => ?_)
  have h := lt_h ev_6 h
  refine iastW C hW 2 rfl g_5 dX11_pullOnce_54 (fun H locs hW => ?_)
  have hW : HW G A s (wX11_pullOnce cI cZ a_this a_thick a_hollow a_damp a_fresh a_pulls a_fats a_deep a_fine a_pay a_hair a_sightPicture a_sightPull a_sightShows a_pad a_act a_where a_much a_kindMany a_had a_leaves a_mostPay a_canLast a_leastMissed a_kept a_isKept v_stones v_flat v_leastThick v_sights v_padMany v_acts v_pulled v_skyPull v_skyWhose v_badAct v_badWhy v_keptAt v_isWriting v_fresh (upd v_damp (Int32.toNatClampNeg x1) v_6) v_pulls v_fats v_kindMany v_fine) H locs := hW
  refine lv_aload_n hx hb dX11_pullOnce_55 rfl (lv_at hl 1 rfl) ?_
  refine getW C fl_RX11_22 hW 0 rfl rfl dX11_pullOnce_56 ?_
  refine lv_iload_n hx hb dX11_pullOnce_59 rfl (lv_at hl 2 rfl) ?_
  refine lv_dup2_11 hx hb dX11_pullOnce_60 rfl rfl ?_
  refine ialdW C hW 3 rfl g_5 dX11_pullOnce_61 ?_
  refine lv_iconst (v := (1 : Int32)) hx hb dX11_pullOnce_62 (by decide) ?_
  refine lv_iadd hx hb dX11_pullOnce_63 ?_
  refine lv_topi (fun v_7 ev_7 => ?_)
  have h := lt_h ev_7 h
  refine iastW C hW 3 rfl g_5 dX11_pullOnce_64 (fun H locs hW => ?_)
  have hW : HW G A s (wX11_pullOnce cI cZ a_this a_thick a_hollow a_damp a_fresh a_pulls a_fats a_deep a_fine a_pay a_hair a_sightPicture a_sightPull a_sightShows a_pad a_act a_where a_much a_kindMany a_had a_leaves a_mostPay a_canLast a_leastMissed a_kept a_isKept v_stones v_flat v_leastThick v_sights v_padMany v_acts v_pulled v_skyPull v_skyWhose v_badAct v_badWhy v_keptAt v_isWriting v_fresh (upd v_damp (Int32.toNatClampNeg x1) v_6) (upd v_pulls (Int32.toNatClampNeg x1) v_7) v_fats v_kindMany v_fine) H locs := hW
  refine lv_iload_n hx hb dX11_pullOnce_65 rfl (lv_at hl 2 rfl) ?_
  refine lv_iload_n hx hb dX11_pullOnce_66 rfl (lv_at hl 3 rfl) ?_
  refine callSI0 C lk_RX11_110 (ctX11_at x1 x2 rfl) hW hl rfl ⟨rfl, rfl⟩ ⟨(Nat.le_of_ble_eq_true rfl), (Nat.le_of_ble_eq_true rfl)⟩ ⟨Nat.zero_le _, Nat.zero_le _⟩ rfl (Nat.le_of_ble_eq_true rfl) dX11_pullOnce_67 (fun H locs hW => ?_)
  refine lv_topi (fun v_8 ev_8 => ?_)
  have h := lt_h ev_8 h
  refine lv_istore (lv' := [(4, .int v_8), (3, .int s0), (0, .ref a_this), (1, .int x1), (2, .int x2)]) hx hb dX11_pullOnce_70 hl (Nat.le_of_ble_eq_true rfl) rfl (fun ls hl => ?_)
  refine lv_aload_n hx hb dX11_pullOnce_72 rfl (lv_at hl 2 rfl) ?_
  refine getW C fl_RX11_25 hW 0 rfl rfl dX11_pullOnce_73 ?_
  refine lv_iload hx hb dX11_pullOnce_76 (lv_at hl 0 rfl) ?_
  refine lv_aload_n hx hb dX11_pullOnce_78 rfl (lv_at hl 2 rfl) ?_
  refine getW C fl_RX11_22 hW 0 rfl rfl dX11_pullOnce_79 ?_
  refine lv_iload_n hx hb dX11_pullOnce_82 rfl (lv_at hl 3 rfl) ?_
  refine ialdW C hW 3 rfl g_5 dX11_pullOnce_83 ?_
  refine lv_bipush (v := (10 : Int32)) hx hb dX11_pullOnce_84 (by decide) ?_
  refine lv_irem hx hb dX11_pullOnce_86 (by decide) ?_
  refine lv_if_ne (tgt := 109) hx hb dX11_pullOnce_87 (by decide) (fun c_9 => ?_) (fun c_9 => ?_)
  · have h := in_h c_9 h
    refine lv_aload_n hx hb dX11_pullOnce_109 rfl (lv_at hl 2 rfl) ?_
    refine getW C fl_RX11_25 hW 0 rfl rfl dX11_pullOnce_110 ?_
    refine lv_iload hx hb dX11_pullOnce_113 (lv_at hl 0 rfl) ?_
    obtain ⟨g_10, h⟩ := gd_h h
    refine ialdW C hW 4 rfl g_10 dX11_pullOnce_115 ?_
    exact uX11_pullOnce_116 x1 x2 s0 v_8 v_8 (v_fats (Int32.toNatClampNeg v_8)) v_stones v_flat v_leastThick v_sights v_padMany v_acts v_pulled v_skyPull v_skyWhose v_badAct v_badWhy v_keptAt v_isWriting v_fresh (upd v_damp (Int32.toNatClampNeg x1) v_6) (upd v_pulls (Int32.toNatClampNeg x1) v_7) v_fats v_kindMany v_fine C hQ h _ _ hW _ (lv_sub hl [2, 3, 4, 1, 0] rfl)
  · have h := ip_h c_9 h
    refine lv_aload_n hx hb dX11_pullOnce_90 rfl (lv_at hl 2 rfl) ?_
    refine getW C fl_RX11_25 hW 0 rfl rfl dX11_pullOnce_91 ?_
    refine lv_iload hx hb dX11_pullOnce_94 (lv_at hl 0 rfl) ?_
    obtain ⟨g_23, h⟩ := gd_h h
    refine ialdW C hW 4 rfl g_23 dX11_pullOnce_96 ?_
    refine lv_aload_n hx hb dX11_pullOnce_97 rfl (lv_at hl 2 rfl) ?_
    refine lv_iload_n hx hb dX11_pullOnce_98 rfl (lv_at hl 4 rfl) ?_
    obtain ⟨v_24, hv_24, h⟩ := bd_h h
    refine callVIr [0, 6] C lk_RX11_172 (ctX11_wearOf a_this a_thick a_hollow a_damp a_fresh a_pulls a_fats a_deep a_fine a_pay a_hair a_sightPicture a_sightPull a_sightShows a_pad a_act a_where a_much a_kindMany a_had a_leaves a_mostPay a_canLast a_leastMissed a_kept a_isKept x2 v_stones v_flat v_leastThick v_sights v_padMany v_acts v_pulled v_skyPull v_skyWhose v_badAct v_badWhy v_keptAt v_isWriting v_fine hv_24) hW hl 11 rfl rfl rfl rfl rfl ⟨rfl, rfl⟩ ⟨(Nat.le_of_ble_eq_true rfl), (Nat.le_of_ble_eq_true rfl)⟩ ⟨Nat.zero_le _, Nat.zero_le _⟩ rfl (Nat.le_of_ble_eq_true rfl) dX11_pullOnce_99 (fun H locs hW => ?_)
    refine lv_isub hx hb dX11_pullOnce_102 ?_
    refine callSI0 C lk_RX11_169 (ctX11_notBelow0 ((v_fats (Int32.toNatClampNeg v_8)) - v_24) rfl) hW hl rfl ⟨rfl, rfl⟩ ⟨(Nat.le_of_ble_eq_true rfl), (Nat.le_of_ble_eq_true rfl)⟩ ⟨Nat.zero_le _, Nat.zero_le _⟩ rfl (Nat.le_of_ble_eq_true rfl) dX11_pullOnce_103 (fun H locs hW => ?_)
    refine lv_goto (tgt := 116) hx hb dX11_pullOnce_106 (by decide) ?_
    exact uX11_pullOnce_116 x1 x2 s0 v_8 v_8 (fX11_notBelow0 ((v_fats (Int32.toNatClampNeg v_8)) - v_24)) v_stones v_flat v_leastThick v_sights v_padMany v_acts v_pulled v_skyPull v_skyWhose v_badAct v_badWhy v_keptAt v_isWriting v_fresh (upd v_damp (Int32.toNatClampNeg x1) v_6) (upd v_pulls (Int32.toNatClampNeg x1) v_7) v_fats v_kindMany v_fine C hQ h _ _ hW _ (lv_sub hl [2, 3, 4, 1, 0] rfl)
set_option maxRecDepth 20000 in
theorem uX11_pullOnce_0 {a_this a_thick a_hollow a_damp a_fresh a_pulls a_fats a_deep a_fine a_pay a_hair a_sightPicture a_sightPull a_sightShows a_pad a_act a_where a_much a_kindMany a_had a_leaves a_mostPay a_canLast a_leastMissed a_kept a_isKept : Nat} (x1 : Int32) (v_stones : Int32) (v_flat : Int32) (v_leastThick : Int32) (v_sights : Int32) (v_padMany : Int32) (v_acts : Int32) (v_pulled : Int32) (v_skyPull : Int32) (v_skyWhose : Int32) (v_badAct : Int32) (v_badWhy : Int32) (v_keptAt : Int32) (v_isWriting : Int32) (v_fresh : Nat → Int32) (v_damp : Nat → Int32) (v_pulls : Nat → Int32) (v_fats : Nat → Int32) (v_kindMany : Nat → Int32) (v_fine : Nat → Int32) {res : Int32 × Int32 × Int32 × (Nat → Int32) × (Nat → Int32) × (Nat → Int32) × (Nat → Int32)} (C : Cx p s m av meth c RX11 cX11_pullOnce 5 none G cI cZ cO A) (hQ : RV p l e rX11_pullOnce s m av below meth c G A cX11_pullOnce Q (wX11_pullOnce cI cZ a_this a_thick a_hollow a_damp a_fresh a_pulls a_fats a_deep a_fine a_pay a_hair a_sightPicture a_sightPull a_sightShows a_pad a_act a_where a_much a_kindMany a_had a_leaves a_mostPay a_canLast a_leastMissed a_kept a_isKept v_stones v_flat v_leastThick v_sights v_padMany v_acts res.1 res.2.1 res.2.2.1 v_badAct v_badWhy v_keptAt v_isWriting v_fresh res.2.2.2.1 res.2.2.2.2.1 res.2.2.2.2.2.1 res.2.2.2.2.2.2 v_fine)) (h : fX11_pullOnce x1 v_pulled v_skyPull v_skyWhose v_fresh v_damp v_pulls v_fats v_kindMany v_fine = some res) (H : Heap) (locs : List Loc) (hW : HW G A s (wX11_pullOnce cI cZ a_this a_thick a_hollow a_damp a_fresh a_pulls a_fats a_deep a_fine a_pay a_hair a_sightPicture a_sightPull a_sightShows a_pad a_act a_where a_much a_kindMany a_had a_leaves a_mostPay a_canLast a_leastMissed a_kept a_isKept v_stones v_flat v_leastThick v_sights v_padMany v_acts v_pulled v_skyPull v_skyWhose v_badAct v_badWhy v_keptAt v_isWriting v_fresh v_damp v_pulls v_fats v_kindMany v_fine) H locs) (ls : Array Slot) (hl : lv_has ls 5 [(0, .ref a_this), (1, .int x1)]) : W p l e rX11_pullOnce s m av below meth c H locs 0 0 Q (F0 m 0 ls []) := by
  have hx := C.1
  have hb := C.2.1
  unfold fX11_pullOnce at h
  refine lv_aload_n hx hb dX11_pullOnce_0 rfl (lv_at hl 0 rfl) ?_
  refine getW C fl_RX11_19 hW 0 rfl rfl dX11_pullOnce_1 ?_
  refine lv_iload_n hx hb dX11_pullOnce_4 rfl (lv_at hl 1 rfl) ?_
  obtain ⟨g_1, h⟩ := gd_h h
  refine ialdW C hW 1 rfl g_1 dX11_pullOnce_5 ?_
  refine lv_topi (fun v_2 ev_2 => ?_)
  have h := lt_h ev_2 h
  refine lv_istore_n (lv' := [(2, .int v_2), (0, .ref a_this), (1, .int x1)]) hx hb dX11_pullOnce_6 rfl hl (Nat.le_of_ble_eq_true rfl) rfl (fun ls hl => ?_)
  refine lv_aload_n hx hb dX11_pullOnce_7 rfl (lv_at hl 1 rfl) ?_
  refine getW C fl_RX11_16 hW 0 rfl rfl dX11_pullOnce_8 ?_
  refine lv_iload_n hx hb dX11_pullOnce_11 rfl (lv_at hl 2 rfl) ?_
  refine ialdW C hW 2 rfl g_1 dX11_pullOnce_12 ?_
  refine lv_iconst (v := (3 : Int32)) hx hb dX11_pullOnce_13 (by decide) ?_
  refine lv_icmp_gt (tgt := 21) hx hb dX11_pullOnce_14 (by decide) (fun c_3 => ?_) (fun c_3 => ?_)
  · have h := ip_h c_3 h
    refine lv_aload_n hx hb dX11_pullOnce_21 rfl (lv_at hl 1 rfl) ?_
    refine getW C fl_RX11_16 hW 0 rfl rfl dX11_pullOnce_22 ?_
    refine lv_iload_n hx hb dX11_pullOnce_25 rfl (lv_at hl 2 rfl) ?_
    refine ialdW C hW 2 rfl g_1 dX11_pullOnce_26 ?_
    refine lv_bipush (v := (15 : Int32)) hx hb dX11_pullOnce_27 (by decide) ?_
    refine lv_icmp_lt (tgt := 36) hx hb dX11_pullOnce_29 (by decide) (fun c_4 => ?_) (fun c_4 => ?_)
    · have h := ip_h c_4 h
      refine lv_iconst (v := (0 : Int32)) hx hb dX11_pullOnce_36 (by decide) ?_
      exact uX11_pullOnce_37 x1 v_2 (0 : Int32) v_stones v_flat v_leastThick v_sights v_padMany v_acts v_pulled v_skyPull v_skyWhose v_badAct v_badWhy v_keptAt v_isWriting v_fresh v_damp v_pulls v_fats v_kindMany v_fine C hQ h _ _ hW _ (lv_sub hl [1, 2, 0] rfl)
    · have h := in_h c_4 h
      refine lv_iconst (v := (2 : Int32)) hx hb dX11_pullOnce_32 (by decide) ?_
      refine lv_goto (tgt := 37) hx hb dX11_pullOnce_33 (by decide) ?_
      exact uX11_pullOnce_37 x1 v_2 (2 : Int32) v_stones v_flat v_leastThick v_sights v_padMany v_acts v_pulled v_skyPull v_skyWhose v_badAct v_badWhy v_keptAt v_isWriting v_fresh v_damp v_pulls v_fats v_kindMany v_fine C hQ h _ _ hW _ (lv_sub hl [1, 2, 0] rfl)
  · have h := in_h c_3 h
    refine lv_iconst (v := (1 : Int32)) hx hb dX11_pullOnce_17 (by decide) ?_
    refine lv_goto (tgt := 37) hx hb dX11_pullOnce_18 (by decide) ?_
    exact uX11_pullOnce_37 x1 v_2 (1 : Int32) v_stones v_flat v_leastThick v_sights v_padMany v_acts v_pulled v_skyPull v_skyWhose v_badAct v_badWhy v_keptAt v_isWriting v_fresh v_damp v_pulls v_fats v_kindMany v_fine C hQ h _ _ hW _ (lv_sub hl [1, 2, 0] rfl)
theorem ctX11_pullOnce {l : Launch} {G : va_G} {cI cZ cO : ClassId} (a_this a_thick a_hollow a_damp a_fresh a_pulls a_fats a_deep a_fine a_pay a_hair a_sightPicture a_sightPull a_sightShows a_pad a_act a_where a_much a_kindMany a_had a_leaves a_mostPay a_canLast a_leastMissed a_kept a_isKept : Nat) (x1 : Int32) (v_stones : Int32) (v_flat : Int32) (v_leastThick : Int32) (v_sights : Int32) (v_padMany : Int32) (v_acts : Int32) (v_pulled : Int32) (v_skyPull : Int32) (v_skyWhose : Int32) (v_badAct : Int32) (v_badWhy : Int32) (v_keptAt : Int32) (v_isWriting : Int32) (v_fresh : Nat → Int32) (v_damp : Nat → Int32) (v_pulls : Nat → Int32) (v_fats : Nat → Int32) (v_kindMany : Nat → Int32) (v_fine : Nat → Int32) {res : Int32 × Int32 × Int32 × (Nat → Int32) × (Nat → Int32) × (Nat → Int32) × (Nat → Int32)} (h : fX11_pullOnce x1 v_pulled v_skyPull v_skyWhose v_fresh v_damp v_pulls v_fats v_kindMany v_fine = some res) : MV l G cI cZ cO yX11_pullOnce cX11_pullOnce 5 rX11_pullOnce [.ref a_this, .int x1] (wX11_pullOnce cI cZ a_this a_thick a_hollow a_damp a_fresh a_pulls a_fats a_deep a_fine a_pay a_hair a_sightPicture a_sightPull a_sightShows a_pad a_act a_where a_much a_kindMany a_had a_leaves a_mostPay a_canLast a_leastMissed a_kept a_isKept v_stones v_flat v_leastThick v_sights v_padMany v_acts v_pulled v_skyPull v_skyWhose v_badAct v_badWhy v_keptAt v_isWriting v_fresh v_damp v_pulls v_fats v_kindMany v_fine) (wX11_pullOnce cI cZ a_this a_thick a_hollow a_damp a_fresh a_pulls a_fats a_deep a_fine a_pay a_hair a_sightPicture a_sightPull a_sightShows a_pad a_act a_where a_much a_kindMany a_had a_leaves a_mostPay a_canLast a_leastMissed a_kept a_isKept v_stones v_flat v_leastThick v_sights v_padMany v_acts res.1 res.2.1 res.2.2.1 v_badAct v_badWhy v_keptAt v_isWriting v_fresh res.2.2.2.1 res.2.2.2.2.1 res.2.2.2.2.2.1 res.2.2.2.2.2.2 v_fine) := by
  refine MV.of (by decide) (Nat.le_of_ble_eq_true rfl) ?_
  intro p e s m below meth c A Q C hW hQ ls hl
  exact uX11_pullOnce_0 x1 v_stones v_flat v_leastThick v_sights v_padMany v_acts v_pulled v_skyPull v_skyWhose v_badAct v_badWhy v_keptAt v_isWriting v_fresh v_damp v_pulls v_fats v_kindMany v_fine C hQ h _ _ hW _ hl
abbrev wX11_grindFor (cI cZ : ClassId) (a_this a_thick a_hollow a_damp a_fresh a_pulls a_fats a_deep a_fine a_pay a_hair a_sightPicture a_sightPull a_sightShows a_pad a_act a_where a_much a_kindMany a_had a_leaves a_mostPay a_canLast a_leastMissed a_kept a_isKept : Nat) (v_stones : Int32) (v_flat : Int32) (v_leastThick : Int32) (v_sights : Int32) (v_padMany : Int32) (v_acts : Int32) (v_pulled : Int32) (v_skyPull : Int32) (v_skyWhose : Int32) (v_badAct : Int32) (v_badWhy : Int32) (v_keptAt : Int32) (v_isWriting : Int32) (v_thick : Nat → Int32) (v_fresh : Nat → Int32) (v_pulls : Nat → Int32) (v_hollow : Nat → Int32) (v_fats : Nat → Int32) : va_W := [(a_this, .inr (11, [.int v_stones, .int v_flat, .int v_leastThick, .ref a_thick, .ref a_hollow, .ref a_damp, .ref a_fresh, .ref a_pulls, .ref a_fats, .ref a_deep, .ref a_fine, .ref a_pay, .ref a_hair, .ref a_sightPicture, .ref a_sightPull, .ref a_sightShows, .int v_sights, .ref a_pad, .int v_padMany, .ref a_act, .ref a_where, .ref a_much, .int v_acts, .int v_pulled, .ref a_kindMany, .int v_skyPull, .int v_skyWhose, .ref a_had, .ref a_leaves, .int v_badAct, .int v_badWhy, .ref a_mostPay, .ref a_canLast, .ref a_leastMissed, .ref a_kept, .ref a_isKept, .int v_keptAt, .int v_isWriting])), (a_thick, .inl (cI, 5, .inl v_thick)), (a_fresh, .inl (cI, 5, .inl v_fresh)), (a_pulls, .inl (cI, 5, .inl v_pulls)), (a_hollow, .inl (cI, 5, .inl v_hollow)), (a_fats, .inl (cI, 40, .inl v_fats))]
abbrev rX11_grindFor : Room := { frames := 1, cells := 0, slots := 0, locals := 21 }
set_option maxRecDepth 20000 in
theorem uX11_grindFor_30 {a_this a_thick a_hollow a_damp a_fresh a_pulls a_fats a_deep a_fine a_pay a_hair a_sightPicture a_sightPull a_sightShows a_pad a_act a_where a_much a_kindMany a_had a_leaves a_mostPay a_canLast a_leastMissed a_kept a_isKept : Nat} (x1 : Int32) (x2 : Int32) (x3 : Int32) (x4 : Int32) (v_stones : Int32) (v_flat : Int32) (v_leastThick : Int32) (v_sights : Int32) (v_padMany : Int32) (v_acts : Int32) (v_pulled : Int32) (v_skyPull : Int32) (v_skyWhose : Int32) (v_badAct : Int32) (v_badWhy : Int32) (v_keptAt : Int32) (v_isWriting : Int32) (v_thick : Nat → Int32) (v_fresh : Nat → Int32) (v_pulls : Nat → Int32) (v_hollow : Nat → Int32) (v_fats : Nat → Int32) {res : (Nat → Int32) × (Nat → Int32) × (Nat → Int32) × (Nat → Int32) × (Nat → Int32)} (C : Cx p s m av meth c RX11 cX11_grindFor 5 none G cI cZ cO A) (hQ : RV p l e rX11_grindFor s m av below meth c G A cX11_grindFor Q (wX11_grindFor cI cZ a_this a_thick a_hollow a_damp a_fresh a_pulls a_fats a_deep a_fine a_pay a_hair a_sightPicture a_sightPull a_sightShows a_pad a_act a_where a_much a_kindMany a_had a_leaves a_mostPay a_canLast a_leastMissed a_kept a_isKept v_stones v_flat v_leastThick v_sights v_padMany v_acts v_pulled v_skyPull v_skyWhose v_badAct v_badWhy v_keptAt v_isWriting res.1 res.2.1 res.2.2.1 res.2.2.2.1 res.2.2.2.2)) {k30 : (Int32) → (Nat → Int32) → Option ((Nat → Int32) × (Nat → Int32) × (Nat → Int32) × (Nat → Int32) × (Nat → Int32))} (hk30 : ∀ (x4 : Int32) (v_fats : Nat → Int32), k30 x4 v_fats = some res → ∀ (H : Heap) (locs : List Loc), HW G A s (wX11_grindFor cI cZ a_this a_thick a_hollow a_damp a_fresh a_pulls a_fats a_deep a_fine a_pay a_hair a_sightPicture a_sightPull a_sightShows a_pad a_act a_where a_much a_kindMany a_had a_leaves a_mostPay a_canLast a_leastMissed a_kept a_isKept v_stones v_flat v_leastThick v_sights v_padMany v_acts v_pulled v_skyPull v_skyWhose v_badAct v_badWhy v_keptAt v_isWriting v_thick v_fresh v_pulls v_hollow v_fats) H locs → ∀ ls : Array Slot, lv_has ls 5 [(0, .ref a_this), (1, .int x1), (2, .int x2), (3, .int x3), (4, .int x4)] → W p l e rX11_grindFor s m av below meth c H locs 0 0 Q (F0 m 30 ls [])) (h : FX11_grindFor_30 x1 x2 x3 v_thick v_fresh v_pulls v_hollow k30 x4 v_fats = some res) (H : Heap) (locs : List Loc) (hW : HW G A s (wX11_grindFor cI cZ a_this a_thick a_hollow a_damp a_fresh a_pulls a_fats a_deep a_fine a_pay a_hair a_sightPicture a_sightPull a_sightShows a_pad a_act a_where a_much a_kindMany a_had a_leaves a_mostPay a_canLast a_leastMissed a_kept a_isKept v_stones v_flat v_leastThick v_sights v_padMany v_acts v_pulled v_skyPull v_skyWhose v_badAct v_badWhy v_keptAt v_isWriting v_thick v_fresh v_pulls v_hollow v_fats) H locs) (ls : Array Slot) (hl : lv_has ls 5 [(0, .ref a_this), (1, .int x1), (2, .int x2), (3, .int x3), (4, .int x4)]) : W p l e rX11_grindFor s m av below meth c H locs 0 0 Q (F0 m 30 ls []) := by
  have hx := C.1
  have hb := C.2.1
  unfold FX11_grindFor_30 at h
  refine lv_iload hx hb dX11_grindFor_30 (lv_at hl 4 rfl) ?_
  refine lv_bipush (v := (8 : Int32)) hx hb dX11_grindFor_32 (by decide) ?_
  refine lv_icmp_ge (tgt := 72) hx hb dX11_grindFor_34 (by decide) (fun c_3 => ?_) (fun c_3 => ?_)
  · have h := ip_h c_3 h
    refine lv_aload_n hx hb dX11_grindFor_72 rfl (lv_at hl 0 rfl) ?_
    refine getW C fl_RX11_13 hW 0 rfl rfl dX11_grindFor_73 ?_
    refine lv_iload_n hx hb dX11_grindFor_76 rfl (lv_at hl 2 rfl) ?_
    obtain ⟨g_4, h⟩ := gd_h h
    refine ialdW C hW 4 rfl g_4 dX11_grindFor_77 ?_
    refine lv_iload_n hx hb dX11_grindFor_78 rfl (lv_at hl 1 rfl) ?_
    refine lv_iconst (v := (1 : Int32)) hx hb dX11_grindFor_79 (by decide) ?_
    refine lv_icmp_ne (tgt := 89) hx hb dX11_grindFor_80 (by decide) (fun c_5 => ?_) (fun c_5 => ?_)
    · have h := in_h c_5 h
      refine lv_iload_n hx hb dX11_grindFor_89 rfl (lv_at hl 3 rfl) ?_
      refine lv_ineg hx hb dX11_grindFor_90 ?_
      refine lv_iadd hx hb dX11_grindFor_91 ?_
      refine lv_topi (fun v_6 ev_6 => ?_)
      have h := lt_h ev_6 h
      refine lv_istore (lv' := [(4, .int v_6), (0, .ref a_this), (1, .int x1), (2, .int x2), (3, .int x3)]) hx hb dX11_grindFor_92 hl (Nat.le_of_ble_eq_true rfl) rfl (fun ls hl => ?_)
      refine lv_aload_n hx hb dX11_grindFor_94 rfl (lv_at hl 1 rfl) ?_
      refine getW C fl_RX11_13 hW 0 rfl rfl dX11_grindFor_95 ?_
      refine lv_iload_n hx hb dX11_grindFor_98 rfl (lv_at hl 3 rfl) ?_
      refine lv_iload hx hb dX11_grindFor_99 (lv_at hl 0 rfl) ?_
      refine lv_bipush (v := (99 : Int32)) hx hb dX11_grindFor_101 (by decide) ?_
      refine lv_icmp_le (tgt := 111) hx hb dX11_grindFor_103 (by decide) (fun c_7 => ?_) (fun c_7 => ?_)
      · have h := ip_h c_7 h
        refine lv_iload hx hb dX11_grindFor_111 (lv_at hl 0 rfl) ?_
        refine callSI0 C lk_RX11_169 (ctX11_notBelow0 v_6 rfl) hW hl rfl ⟨rfl, rfl⟩ ⟨(Nat.le_of_ble_eq_true rfl), (Nat.le_of_ble_eq_true rfl)⟩ ⟨Nat.zero_le _, Nat.zero_le _⟩ rfl (Nat.le_of_ble_eq_true rfl) dX11_grindFor_113 (fun H locs hW => ?_)
        refine lv_topi (fun v_8 ev_8 => ?_)
        have h := lt_h ev_8 h
        refine iastW C hW 4 rfl g_4 dX11_grindFor_116 (fun H locs hW => ?_)
        have hW : HW G A s (wX11_grindFor cI cZ a_this a_thick a_hollow a_damp a_fresh a_pulls a_fats a_deep a_fine a_pay a_hair a_sightPicture a_sightPull a_sightShows a_pad a_act a_where a_much a_kindMany a_had a_leaves a_mostPay a_canLast a_leastMissed a_kept a_isKept v_stones v_flat v_leastThick v_sights v_padMany v_acts v_pulled v_skyPull v_skyWhose v_badAct v_badWhy v_keptAt v_isWriting v_thick v_fresh v_pulls (upd v_hollow (Int32.toNatClampNeg x2) v_8) v_fats) H locs := hW
        obtain rfl := Option.some.inj h
        exact hQ _ _ _ _ dX11_grindFor_117 hW
      · have h := in_h c_7 h
        refine lv_bipush (v := (99 : Int32)) hx hb dX11_grindFor_106 (by decide) ?_
        refine lv_goto (tgt := 116) hx hb dX11_grindFor_108 (by decide) ?_
        refine iastW C hW 4 rfl g_4 dX11_grindFor_116 (fun H locs hW => ?_)
        have hW : HW G A s (wX11_grindFor cI cZ a_this a_thick a_hollow a_damp a_fresh a_pulls a_fats a_deep a_fine a_pay a_hair a_sightPicture a_sightPull a_sightShows a_pad a_act a_where a_much a_kindMany a_had a_leaves a_mostPay a_canLast a_leastMissed a_kept a_isKept v_stones v_flat v_leastThick v_sights v_padMany v_acts v_pulled v_skyPull v_skyWhose v_badAct v_badWhy v_keptAt v_isWriting v_thick v_fresh v_pulls (upd v_hollow (Int32.toNatClampNeg x2) (99 : Int32)) v_fats) H locs := hW
        obtain rfl := Option.some.inj h
        exact hQ _ _ _ _ dX11_grindFor_117 hW
    · have h := ip_h c_5 h
      refine lv_iconst (v := (2 : Int32)) hx hb dX11_grindFor_83 (by decide) ?_
      refine lv_iload_n hx hb dX11_grindFor_84 rfl (lv_at hl 3 rfl) ?_
      refine lv_imul hx hb dX11_grindFor_85 ?_
      refine lv_goto (tgt := 91) hx hb dX11_grindFor_86 (by decide) ?_
      refine lv_iadd hx hb dX11_grindFor_91 ?_
      refine lv_topi (fun v_9 ev_9 => ?_)
      have h := lt_h ev_9 h
      refine lv_istore (lv' := [(4, .int v_9), (0, .ref a_this), (1, .int x1), (2, .int x2), (3, .int x3)]) hx hb dX11_grindFor_92 hl (Nat.le_of_ble_eq_true rfl) rfl (fun ls hl => ?_)
      refine lv_aload_n hx hb dX11_grindFor_94 rfl (lv_at hl 1 rfl) ?_
      refine getW C fl_RX11_13 hW 0 rfl rfl dX11_grindFor_95 ?_
      refine lv_iload_n hx hb dX11_grindFor_98 rfl (lv_at hl 3 rfl) ?_
      refine lv_iload hx hb dX11_grindFor_99 (lv_at hl 0 rfl) ?_
      refine lv_bipush (v := (99 : Int32)) hx hb dX11_grindFor_101 (by decide) ?_
      refine lv_icmp_le (tgt := 111) hx hb dX11_grindFor_103 (by decide) (fun c_10 => ?_) (fun c_10 => ?_)
      · have h := ip_h c_10 h
        refine lv_iload hx hb dX11_grindFor_111 (lv_at hl 0 rfl) ?_
        refine callSI0 C lk_RX11_169 (ctX11_notBelow0 v_9 rfl) hW hl rfl ⟨rfl, rfl⟩ ⟨(Nat.le_of_ble_eq_true rfl), (Nat.le_of_ble_eq_true rfl)⟩ ⟨Nat.zero_le _, Nat.zero_le _⟩ rfl (Nat.le_of_ble_eq_true rfl) dX11_grindFor_113 (fun H locs hW => ?_)
        refine lv_topi (fun v_11 ev_11 => ?_)
        have h := lt_h ev_11 h
        refine iastW C hW 4 rfl g_4 dX11_grindFor_116 (fun H locs hW => ?_)
        have hW : HW G A s (wX11_grindFor cI cZ a_this a_thick a_hollow a_damp a_fresh a_pulls a_fats a_deep a_fine a_pay a_hair a_sightPicture a_sightPull a_sightShows a_pad a_act a_where a_much a_kindMany a_had a_leaves a_mostPay a_canLast a_leastMissed a_kept a_isKept v_stones v_flat v_leastThick v_sights v_padMany v_acts v_pulled v_skyPull v_skyWhose v_badAct v_badWhy v_keptAt v_isWriting v_thick v_fresh v_pulls (upd v_hollow (Int32.toNatClampNeg x2) v_11) v_fats) H locs := hW
        obtain rfl := Option.some.inj h
        exact hQ _ _ _ _ dX11_grindFor_117 hW
      · have h := in_h c_10 h
        refine lv_bipush (v := (99 : Int32)) hx hb dX11_grindFor_106 (by decide) ?_
        refine lv_goto (tgt := 116) hx hb dX11_grindFor_108 (by decide) ?_
        refine iastW C hW 4 rfl g_4 dX11_grindFor_116 (fun H locs hW => ?_)
        have hW : HW G A s (wX11_grindFor cI cZ a_this a_thick a_hollow a_damp a_fresh a_pulls a_fats a_deep a_fine a_pay a_hair a_sightPicture a_sightPull a_sightShows a_pad a_act a_where a_much a_kindMany a_had a_leaves a_mostPay a_canLast a_leastMissed a_kept a_isKept v_stones v_flat v_leastThick v_sights v_padMany v_acts v_pulled v_skyPull v_skyWhose v_badAct v_badWhy v_keptAt v_isWriting v_thick v_fresh v_pulls (upd v_hollow (Int32.toNatClampNeg x2) (99 : Int32)) v_fats) H locs := hW
        obtain rfl := Option.some.inj h
        exact hQ _ _ _ _ dX11_grindFor_117 hW
  · have h := in_h c_3 h
    refine lv_aload_n hx hb dX11_grindFor_37 rfl (lv_at hl 0 rfl) ?_
    refine getW C fl_RX11_25 hW 0 rfl rfl dX11_grindFor_38 ?_
    refine lv_iload_n hx hb dX11_grindFor_41 rfl (lv_at hl 2 rfl) ?_
    refine lv_iload hx hb dX11_grindFor_42 (lv_at hl 4 rfl) ?_
    refine callSI0 C lk_RX11_110 (ctX11_at x2 x4 rfl) hW hl rfl ⟨rfl, rfl⟩ ⟨(Nat.le_of_ble_eq_true rfl), (Nat.le_of_ble_eq_true rfl)⟩ ⟨Nat.zero_le _, Nat.zero_le _⟩ rfl (Nat.le_of_ble_eq_true rfl) dX11_grindFor_44 (fun H locs hW => ?_)
    refine lv_aload_n hx hb dX11_grindFor_47 rfl (lv_at hl 0 rfl) ?_
    refine getW C fl_RX11_25 hW 0 rfl rfl dX11_grindFor_48 ?_
    refine lv_iload_n hx hb dX11_grindFor_51 rfl (lv_at hl 2 rfl) ?_
    refine lv_iload hx hb dX11_grindFor_52 (lv_at hl 4 rfl) ?_
    refine callSI0 C lk_RX11_110 (ctX11_at x2 x4 rfl) hW hl rfl ⟨rfl, rfl⟩ ⟨(Nat.le_of_ble_eq_true rfl), (Nat.le_of_ble_eq_true rfl)⟩ ⟨Nat.zero_le _, Nat.zero_le _⟩ rfl (Nat.le_of_ble_eq_true rfl) dX11_grindFor_54 (fun H locs hW => ?_)
    obtain ⟨g_12, h⟩ := gd_h h
    refine ialdW C hW 5 rfl g_12 dX11_grindFor_57 ?_
    refine lv_iconst (v := (3 : Int32)) hx hb dX11_grindFor_58 (by decide) ?_
    refine lv_iload_n hx hb dX11_grindFor_59 rfl (lv_at hl 3 rfl) ?_
    refine lv_imul hx hb dX11_grindFor_60 ?_
    refine lv_isub hx hb dX11_grindFor_61 ?_
    refine callSI0 C lk_RX11_169 (ctX11_notBelow0 ((v_fats (Int32.toNatClampNeg (fX11_at x2 x4))) - ((3 : Int32) * x3)) rfl) hW hl rfl ⟨rfl, rfl⟩ ⟨(Nat.le_of_ble_eq_true rfl), (Nat.le_of_ble_eq_true rfl)⟩ ⟨Nat.zero_le _, Nat.zero_le _⟩ rfl (Nat.le_of_ble_eq_true rfl) dX11_grindFor_62 (fun H locs hW => ?_)
    refine lv_topi (fun v_13 ev_13 => ?_)
    have h := lt_h ev_13 h
    refine iastW C hW 5 rfl g_12 dX11_grindFor_65 (fun H locs hW => ?_)
    have hW : HW G A s (wX11_grindFor cI cZ a_this a_thick a_hollow a_damp a_fresh a_pulls a_fats a_deep a_fine a_pay a_hair a_sightPicture a_sightPull a_sightShows a_pad a_act a_where a_much a_kindMany a_had a_leaves a_mostPay a_canLast a_leastMissed a_kept a_isKept v_stones v_flat v_leastThick v_sights v_padMany v_acts v_pulled v_skyPull v_skyWhose v_badAct v_badWhy v_keptAt v_isWriting v_thick v_fresh v_pulls v_hollow (upd v_fats (Int32.toNatClampNeg (fX11_at x2 x4)) v_13)) H locs := hW
    obtain ⟨v_14, ev_14⟩ : ∃ y : Int32, y = x4 + (1 : Int32) := ⟨_, rfl⟩
    have h := lt_h ev_14 h
    refine lv_iinc (v := v_14) (lv' := [(4, .int v_14), (0, .ref a_this), (1, .int x1), (2, .int x2), (3, .int x3)]) hx hb dX11_grindFor_66 hl (k := 4) rfl (by rw [ev_14]; rfl) (Nat.le_of_ble_eq_true rfl) rfl (fun ls hl => ?_)
    refine lv_goto (tgt := 30) hx hb dX11_grindFor_69 (by decide) ?_
    exact hk30 v_14 (upd v_fats (Int32.toNatClampNeg (fX11_at x2 x4)) v_13) h _ _ hW _ (lv_sub hl [1, 2, 3, 4, 0] rfl)
theorem wX11_grindFor_30_ {a_this a_thick a_hollow a_damp a_fresh a_pulls a_fats a_deep a_fine a_pay a_hair a_sightPicture a_sightPull a_sightShows a_pad a_act a_where a_much a_kindMany a_had a_leaves a_mostPay a_canLast a_leastMissed a_kept a_isKept : Nat} (x1 : Int32) (x2 : Int32) (x3 : Int32) (v_stones : Int32) (v_flat : Int32) (v_leastThick : Int32) (v_sights : Int32) (v_padMany : Int32) (v_acts : Int32) (v_pulled : Int32) (v_skyPull : Int32) (v_skyWhose : Int32) (v_badAct : Int32) (v_badWhy : Int32) (v_keptAt : Int32) (v_isWriting : Int32) (v_thick : Nat → Int32) (v_fresh : Nat → Int32) (v_pulls : Nat → Int32) (v_hollow : Nat → Int32) {res : (Nat → Int32) × (Nat → Int32) × (Nat → Int32) × (Nat → Int32) × (Nat → Int32)} (C : Cx p s m av meth c RX11 cX11_grindFor 5 none G cI cZ cO A) (hQ : RV p l e rX11_grindFor s m av below meth c G A cX11_grindFor Q (wX11_grindFor cI cZ a_this a_thick a_hollow a_damp a_fresh a_pulls a_fats a_deep a_fine a_pay a_hair a_sightPicture a_sightPull a_sightShows a_pad a_act a_where a_much a_kindMany a_had a_leaves a_mostPay a_canLast a_leastMissed a_kept a_isKept v_stones v_flat v_leastThick v_sights v_padMany v_acts v_pulled v_skyPull v_skyWhose v_badAct v_badWhy v_keptAt v_isWriting res.1 res.2.1 res.2.2.1 res.2.2.2.1 res.2.2.2.2)) : ∀ (n : Nat) (x4 : Int32) (v_fats : Nat → Int32), LX11_grindFor_30 x1 x2 x3 v_thick v_fresh v_pulls v_hollow n x4 v_fats = some res → ∀ (H : Heap) (locs : List Loc), HW G A s (wX11_grindFor cI cZ a_this a_thick a_hollow a_damp a_fresh a_pulls a_fats a_deep a_fine a_pay a_hair a_sightPicture a_sightPull a_sightShows a_pad a_act a_where a_much a_kindMany a_had a_leaves a_mostPay a_canLast a_leastMissed a_kept a_isKept v_stones v_flat v_leastThick v_sights v_padMany v_acts v_pulled v_skyPull v_skyWhose v_badAct v_badWhy v_keptAt v_isWriting v_thick v_fresh v_pulls v_hollow v_fats) H locs → ∀ ls : Array Slot, lv_has ls 5 [(0, .ref a_this), (1, .int x1), (2, .int x2), (3, .int x3), (4, .int x4)] → W p l e rX11_grindFor s m av below meth c H locs 0 0 Q (F0 m 30 ls []) := by
  intro n
  induction n with
  | zero => intro x4 v_fats h; cases h
  | succ n ih =>
    intro x4 v_fats h H locs hW ls hl
    exact uX11_grindFor_30 x1 x2 x3 x4 v_stones v_flat v_leastThick v_sights v_padMany v_acts v_pulled v_skyPull v_skyWhose v_badAct v_badWhy v_keptAt v_isWriting v_thick v_fresh v_pulls v_hollow v_fats C hQ (k30 := LX11_grindFor_30 x1 x2 x3 v_thick v_fresh v_pulls v_hollow n) ih h H locs hW ls hl
set_option maxRecDepth 20000 in
theorem uX11_grindFor_0 {a_this a_thick a_hollow a_damp a_fresh a_pulls a_fats a_deep a_fine a_pay a_hair a_sightPicture a_sightPull a_sightShows a_pad a_act a_where a_much a_kindMany a_had a_leaves a_mostPay a_canLast a_leastMissed a_kept a_isKept : Nat} (x1 : Int32) (x2 : Int32) (x3 : Int32) (v_stones : Int32) (v_flat : Int32) (v_leastThick : Int32) (v_sights : Int32) (v_padMany : Int32) (v_acts : Int32) (v_pulled : Int32) (v_skyPull : Int32) (v_skyWhose : Int32) (v_badAct : Int32) (v_badWhy : Int32) (v_keptAt : Int32) (v_isWriting : Int32) (v_thick : Nat → Int32) (v_fresh : Nat → Int32) (v_pulls : Nat → Int32) (v_hollow : Nat → Int32) (v_fats : Nat → Int32) {res : (Nat → Int32) × (Nat → Int32) × (Nat → Int32) × (Nat → Int32) × (Nat → Int32)} (C : Cx p s m av meth c RX11 cX11_grindFor 5 none G cI cZ cO A) (hQ : RV p l e rX11_grindFor s m av below meth c G A cX11_grindFor Q (wX11_grindFor cI cZ a_this a_thick a_hollow a_damp a_fresh a_pulls a_fats a_deep a_fine a_pay a_hair a_sightPicture a_sightPull a_sightShows a_pad a_act a_where a_much a_kindMany a_had a_leaves a_mostPay a_canLast a_leastMissed a_kept a_isKept v_stones v_flat v_leastThick v_sights v_padMany v_acts v_pulled v_skyPull v_skyWhose v_badAct v_badWhy v_keptAt v_isWriting res.1 res.2.1 res.2.2.1 res.2.2.2.1 res.2.2.2.2)) (h : fX11_grindFor x1 x2 x3 v_thick v_fresh v_pulls v_hollow v_fats = some res) (H : Heap) (locs : List Loc) (hW : HW G A s (wX11_grindFor cI cZ a_this a_thick a_hollow a_damp a_fresh a_pulls a_fats a_deep a_fine a_pay a_hair a_sightPicture a_sightPull a_sightShows a_pad a_act a_where a_much a_kindMany a_had a_leaves a_mostPay a_canLast a_leastMissed a_kept a_isKept v_stones v_flat v_leastThick v_sights v_padMany v_acts v_pulled v_skyPull v_skyWhose v_badAct v_badWhy v_keptAt v_isWriting v_thick v_fresh v_pulls v_hollow v_fats) H locs) (ls : Array Slot) (hl : lv_has ls 5 [(0, .ref a_this), (1, .int x1), (2, .int x2), (3, .int x3)]) : W p l e rX11_grindFor s m av below meth c H locs 0 0 Q (F0 m 0 ls []) := by
  have hx := C.1
  have hb := C.2.1
  unfold fX11_grindFor at h
  refine lv_aload_n hx hb dX11_grindFor_0 rfl (lv_at hl 0 rfl) ?_
  refine getW C fl_RX11_7 hW 0 rfl rfl dX11_grindFor_1 ?_
  refine lv_iload_n hx hb dX11_grindFor_4 rfl (lv_at hl 2 rfl) ?_
  refine lv_dup2_11 hx hb dX11_grindFor_5 rfl rfl ?_
  obtain ⟨g_1, h⟩ := gd_h h
  refine ialdW C hW 1 rfl g_1 dX11_grindFor_6 ?_
  refine lv_iconst (v := (3 : Int32)) hx hb dX11_grindFor_7 (by decide) ?_
  refine lv_iload_n hx hb dX11_grindFor_8 rfl (lv_at hl 3 rfl) ?_
  refine lv_imul hx hb dX11_grindFor_9 ?_
  refine lv_isub hx hb dX11_grindFor_10 ?_
  refine lv_topi (fun v_2 ev_2 => ?_)
  have h := lt_h ev_2 h
  refine iastW C hW 1 rfl g_1 dX11_grindFor_11 (fun H locs hW => ?_)
  have hW : HW G A s (wX11_grindFor cI cZ a_this a_thick a_hollow a_damp a_fresh a_pulls a_fats a_deep a_fine a_pay a_hair a_sightPicture a_sightPull a_sightShows a_pad a_act a_where a_much a_kindMany a_had a_leaves a_mostPay a_canLast a_leastMissed a_kept a_isKept v_stones v_flat v_leastThick v_sights v_padMany v_acts v_pulled v_skyPull v_skyWhose v_badAct v_badWhy v_keptAt v_isWriting (upd v_thick (Int32.toNatClampNeg x2) v_2) v_fresh v_pulls v_hollow v_fats) H locs := hW
  refine lv_aload_n hx hb dX11_grindFor_12 rfl (lv_at hl 0 rfl) ?_
  refine getW C fl_RX11_19 hW 0 rfl rfl dX11_grindFor_13 ?_
  refine lv_iload_n hx hb dX11_grindFor_16 rfl (lv_at hl 2 rfl) ?_
  refine lv_bipush (v := (-6 : Int32)) hx hb dX11_grindFor_17 (by decide) ?_
  refine iastW C hW 2 rfl g_1 dX11_grindFor_19 (fun H locs hW => ?_)
  have hW : HW G A s (wX11_grindFor cI cZ a_this a_thick a_hollow a_damp a_fresh a_pulls a_fats a_deep a_fine a_pay a_hair a_sightPicture a_sightPull a_sightShows a_pad a_act a_where a_much a_kindMany a_had a_leaves a_mostPay a_canLast a_leastMissed a_kept a_isKept v_stones v_flat v_leastThick v_sights v_padMany v_acts v_pulled v_skyPull v_skyWhose v_badAct v_badWhy v_keptAt v_isWriting (upd v_thick (Int32.toNatClampNeg x2) v_2) (upd v_fresh (Int32.toNatClampNeg x2) (-6 : Int32)) v_pulls v_hollow v_fats) H locs := hW
  refine lv_aload_n hx hb dX11_grindFor_20 rfl (lv_at hl 0 rfl) ?_
  refine getW C fl_RX11_22 hW 0 rfl rfl dX11_grindFor_21 ?_
  refine lv_iload_n hx hb dX11_grindFor_24 rfl (lv_at hl 2 rfl) ?_
  refine lv_iconst (v := (0 : Int32)) hx hb dX11_grindFor_25 (by decide) ?_
  refine iastW C hW 3 rfl g_1 dX11_grindFor_26 (fun H locs hW => ?_)
  have hW : HW G A s (wX11_grindFor cI cZ a_this a_thick a_hollow a_damp a_fresh a_pulls a_fats a_deep a_fine a_pay a_hair a_sightPicture a_sightPull a_sightShows a_pad a_act a_where a_much a_kindMany a_had a_leaves a_mostPay a_canLast a_leastMissed a_kept a_isKept v_stones v_flat v_leastThick v_sights v_padMany v_acts v_pulled v_skyPull v_skyWhose v_badAct v_badWhy v_keptAt v_isWriting (upd v_thick (Int32.toNatClampNeg x2) v_2) (upd v_fresh (Int32.toNatClampNeg x2) (-6 : Int32)) (upd v_pulls (Int32.toNatClampNeg x2) (0 : Int32)) v_hollow v_fats) H locs := hW
  refine lv_iconst (v := (0 : Int32)) hx hb dX11_grindFor_27 (by decide) ?_
  refine lv_istore (lv' := [(4, .int (0 : Int32)), (0, .ref a_this), (1, .int x1), (2, .int x2), (3, .int x3)]) hx hb dX11_grindFor_28 hl (Nat.le_of_ble_eq_true rfl) rfl (fun ls hl => ?_)
  exact wX11_grindFor_30_ x1 x2 x3 v_stones v_flat v_leastThick v_sights v_padMany v_acts v_pulled v_skyPull v_skyWhose v_badAct v_badWhy v_keptAt v_isWriting (upd v_thick (Int32.toNatClampNeg x2) v_2) (upd v_fresh (Int32.toNatClampNeg x2) (-6 : Int32)) (upd v_pulls (Int32.toNatClampNeg x2) (0 : Int32)) v_hollow C hQ 2000 (0 : Int32) v_fats h _ _ hW _ (lv_sub hl [1, 2, 3, 4, 0] rfl)
theorem ctX11_grindFor {l : Launch} {G : va_G} {cI cZ cO : ClassId} (a_this a_thick a_hollow a_damp a_fresh a_pulls a_fats a_deep a_fine a_pay a_hair a_sightPicture a_sightPull a_sightShows a_pad a_act a_where a_much a_kindMany a_had a_leaves a_mostPay a_canLast a_leastMissed a_kept a_isKept : Nat) (x1 : Int32) (x2 : Int32) (x3 : Int32) (v_stones : Int32) (v_flat : Int32) (v_leastThick : Int32) (v_sights : Int32) (v_padMany : Int32) (v_acts : Int32) (v_pulled : Int32) (v_skyPull : Int32) (v_skyWhose : Int32) (v_badAct : Int32) (v_badWhy : Int32) (v_keptAt : Int32) (v_isWriting : Int32) (v_thick : Nat → Int32) (v_fresh : Nat → Int32) (v_pulls : Nat → Int32) (v_hollow : Nat → Int32) (v_fats : Nat → Int32) {res : (Nat → Int32) × (Nat → Int32) × (Nat → Int32) × (Nat → Int32) × (Nat → Int32)} (h : fX11_grindFor x1 x2 x3 v_thick v_fresh v_pulls v_hollow v_fats = some res) : MV l G cI cZ cO yX11_grindFor cX11_grindFor 5 rX11_grindFor [.ref a_this, .int x1, .int x2, .int x3] (wX11_grindFor cI cZ a_this a_thick a_hollow a_damp a_fresh a_pulls a_fats a_deep a_fine a_pay a_hair a_sightPicture a_sightPull a_sightShows a_pad a_act a_where a_much a_kindMany a_had a_leaves a_mostPay a_canLast a_leastMissed a_kept a_isKept v_stones v_flat v_leastThick v_sights v_padMany v_acts v_pulled v_skyPull v_skyWhose v_badAct v_badWhy v_keptAt v_isWriting v_thick v_fresh v_pulls v_hollow v_fats) (wX11_grindFor cI cZ a_this a_thick a_hollow a_damp a_fresh a_pulls a_fats a_deep a_fine a_pay a_hair a_sightPicture a_sightPull a_sightShows a_pad a_act a_where a_much a_kindMany a_had a_leaves a_mostPay a_canLast a_leastMissed a_kept a_isKept v_stones v_flat v_leastThick v_sights v_padMany v_acts v_pulled v_skyPull v_skyWhose v_badAct v_badWhy v_keptAt v_isWriting res.1 res.2.1 res.2.2.1 res.2.2.2.1 res.2.2.2.2) := by
  refine MV.of (by decide) (Nat.le_of_ble_eq_true rfl) ?_
  intro p e s m below meth c A Q C hW hQ ls hl
  exact uX11_grindFor_0 x1 x2 x3 v_stones v_flat v_leastThick v_sights v_padMany v_acts v_pulled v_skyPull v_skyWhose v_badAct v_badWhy v_keptAt v_isWriting v_thick v_fresh v_pulls v_hollow v_fats C hQ h _ _ hW _ hl
