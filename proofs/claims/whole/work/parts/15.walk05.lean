variable {p : Program} {l : Launch} {e : Env} {s : State} {m : MethodId} {av : Array Value} {below : List Frame} {meth : Method} {c : Code} {Q : State → Prop} {G : va_G} {cI cZ cO : ClassId} {A : Nat → Prop}
abbrev wX11_withOn (cI cZ : ClassId) (a_this a_thick a_hollow a_damp a_fresh a_pulls a_fats a_deep a_fine a_pay a_hair a_sightPicture a_sightPull a_sightShows a_pad a_act a_where a_much a_kindMany a_had a_leaves a_mostPay a_canLast a_leastMissed a_kept a_isKept : Nat) (v_stones : Int32) (v_flat : Int32) (v_leastThick : Int32) (v_sights : Int32) (v_padMany : Int32) (v_acts : Int32) (v_pulled : Int32) (v_skyPull : Int32) (v_skyWhose : Int32) (v_badAct : Int32) (v_badWhy : Int32) (v_keptAt : Int32) (v_isWriting : Int32) (v_pay : Nat → Int32) (v_mostPay : Nat → Int32) (v_canLast : Nat → Int32) : va_W := [(a_this, .inr (11, [.int v_stones, .int v_flat, .int v_leastThick, .ref a_thick, .ref a_hollow, .ref a_damp, .ref a_fresh, .ref a_pulls, .ref a_fats, .ref a_deep, .ref a_fine, .ref a_pay, .ref a_hair, .ref a_sightPicture, .ref a_sightPull, .ref a_sightShows, .int v_sights, .ref a_pad, .int v_padMany, .ref a_act, .ref a_where, .ref a_much, .int v_acts, .int v_pulled, .ref a_kindMany, .int v_skyPull, .int v_skyWhose, .ref a_had, .ref a_leaves, .int v_badAct, .int v_badWhy, .ref a_mostPay, .ref a_canLast, .ref a_leastMissed, .ref a_kept, .ref a_isKept, .int v_keptAt, .int v_isWriting])), (a_pay, .inl (cI, 8, .inl v_pay)), (a_mostPay, .inl (cI, 288, .inl v_mostPay)), (a_canLast, .inl (cZ, 40, .inl v_canLast))]
abbrev rX11_withOn : Room := { frames := 1, cells := 0, slots := 0, locals := 21 }
set_option maxRecDepth 20000 in
theorem uX11_withOn_26 {a_this a_thick a_hollow a_damp a_fresh a_pulls a_fats a_deep a_fine a_pay a_hair a_sightPicture a_sightPull a_sightShows a_pad a_act a_where a_much a_kindMany a_had a_leaves a_mostPay a_canLast a_leastMissed a_kept a_isKept : Nat} (x1 : Int32) (x2 : Int32) (x3 : Int32) (s0 : Int32) (v_stones : Int32) (v_flat : Int32) (v_leastThick : Int32) (v_sights : Int32) (v_padMany : Int32) (v_acts : Int32) (v_pulled : Int32) (v_skyPull : Int32) (v_skyWhose : Int32) (v_badAct : Int32) (v_badWhy : Int32) (v_keptAt : Int32) (v_isWriting : Int32) (v_pay : Nat → Int32) (v_mostPay : Nat → Int32) (v_canLast : Nat → Int32) {res : Int32} (C : Cx p s m av meth c RX11 cX11_withOn 5 (some .int) G cI cZ cO A) (hQ : RI p l e rX11_withOn s m av below meth c G A cX11_withOn .int Q (res) (wX11_withOn cI cZ a_this a_thick a_hollow a_damp a_fresh a_pulls a_fats a_deep a_fine a_pay a_hair a_sightPicture a_sightPull a_sightShows a_pad a_act a_where a_much a_kindMany a_had a_leaves a_mostPay a_canLast a_leastMissed a_kept a_isKept v_stones v_flat v_leastThick v_sights v_padMany v_acts v_pulled v_skyPull v_skyWhose v_badAct v_badWhy v_keptAt v_isWriting v_pay v_mostPay v_canLast)) (h : fX11_withOn_26 x1 x2 x3 s0 v_pay v_mostPay = some res) (H : Heap) (locs : List Loc) (hW : HW G A s (wX11_withOn cI cZ a_this a_thick a_hollow a_damp a_fresh a_pulls a_fats a_deep a_fine a_pay a_hair a_sightPicture a_sightPull a_sightShows a_pad a_act a_where a_much a_kindMany a_had a_leaves a_mostPay a_canLast a_leastMissed a_kept a_isKept v_stones v_flat v_leastThick v_sights v_padMany v_acts v_pulled v_skyPull v_skyWhose v_badAct v_badWhy v_keptAt v_isWriting v_pay v_mostPay v_canLast) H locs) (ls : Array Slot) (hl : lv_has ls 5 [(0, .ref a_this), (1, .int x1), (2, .int x2), (3, .int x3)]) : W p l e rX11_withOn s m av below meth c H locs 0 0 Q (F0 m 26 ls [.int s0]) := by
  have hx := C.1
  have hb := C.2.1
  unfold fX11_withOn_26 at h
  refine lv_istore (lv' := [(4, .int s0), (0, .ref a_this), (1, .int x1), (2, .int x2), (3, .int x3)]) hx hb dX11_withOn_26 hl (Nat.le_of_ble_eq_true rfl) rfl (fun ls hl => ?_)
  refine lv_iload hx hb dX11_withOn_28 (lv_at hl 0 rfl) ?_
  refine lv_if_eq (tgt := 60) hx hb dX11_withOn_30 (by decide) (fun c_2 => ?_) (fun c_2 => ?_)
  · have h := ip_h c_2 h
    refine lv_iconst (v := (-1 : Int32)) hx hb dX11_withOn_60 (by decide) ?_
    obtain rfl := Option.some.inj h
    exact hQ rfl _ _ _ _ dX11_withOn_61 hW
  · have h := in_h c_2 h
    refine lv_aload_n hx hb dX11_withOn_33 rfl (lv_at hl 1 rfl) ?_
    refine getW C fl_RX11_34 hW 0 rfl rfl dX11_withOn_34 ?_
    refine lv_iload_n hx hb dX11_withOn_37 rfl (lv_at hl 2 rfl) ?_
    obtain ⟨g_3, h⟩ := gd_h h
    refine ialdW C hW 1 rfl g_3 dX11_withOn_38 ?_
    refine lv_aload_n hx hb dX11_withOn_39 rfl (lv_at hl 1 rfl) ?_
    refine getW C fl_RX11_70 hW 0 rfl rfl dX11_withOn_40 ?_
    refine lv_bipush (v := (32 : Int32)) hx hb dX11_withOn_43 (by decide) ?_
    refine lv_iload_n hx hb dX11_withOn_45 rfl (lv_at hl 2 rfl) ?_
    refine lv_iconst (v := (1 : Int32)) hx hb dX11_withOn_46 (by decide) ?_
    refine lv_iadd hx hb dX11_withOn_47 ?_
    refine lv_imul hx hb dX11_withOn_48 ?_
    refine lv_iload_n hx hb dX11_withOn_49 rfl (lv_at hl 3 rfl) ?_
    refine lv_iconst (v := (1 : Int32)) hx hb dX11_withOn_50 (by decide) ?_
    refine lv_iload_n hx hb dX11_withOn_51 rfl (lv_at hl 4 rfl) ?_
    refine lv_ishl hx hb dX11_withOn_52 ?_
    refine lv_ior hx hb dX11_withOn_53 ?_
    refine lv_iadd hx hb dX11_withOn_54 ?_
    obtain ⟨g_4, h⟩ := gd_h h
    refine ialdW C hW 2 rfl g_4 dX11_withOn_55 ?_
    refine lv_iadd hx hb dX11_withOn_56 ?_
    refine lv_goto (tgt := 61) hx hb dX11_withOn_57 (by decide) ?_
    obtain rfl := Option.some.inj h
    exact hQ rfl _ _ _ _ dX11_withOn_61 hW
set_option maxRecDepth 20000 in
theorem uX11_withOn_0 {a_this a_thick a_hollow a_damp a_fresh a_pulls a_fats a_deep a_fine a_pay a_hair a_sightPicture a_sightPull a_sightShows a_pad a_act a_where a_much a_kindMany a_had a_leaves a_mostPay a_canLast a_leastMissed a_kept a_isKept : Nat} (x1 : Int32) (x2 : Int32) (x3 : Int32) (v_stones : Int32) (v_flat : Int32) (v_leastThick : Int32) (v_sights : Int32) (v_padMany : Int32) (v_acts : Int32) (v_pulled : Int32) (v_skyPull : Int32) (v_skyWhose : Int32) (v_badAct : Int32) (v_badWhy : Int32) (v_keptAt : Int32) (v_isWriting : Int32) (v_pay : Nat → Int32) (v_mostPay : Nat → Int32) (v_canLast : Nat → Int32) {res : Int32} (C : Cx p s m av meth c RX11 cX11_withOn 5 (some .int) G cI cZ cO A) (hQ : RI p l e rX11_withOn s m av below meth c G A cX11_withOn .int Q (res) (wX11_withOn cI cZ a_this a_thick a_hollow a_damp a_fresh a_pulls a_fats a_deep a_fine a_pay a_hair a_sightPicture a_sightPull a_sightShows a_pad a_act a_where a_much a_kindMany a_had a_leaves a_mostPay a_canLast a_leastMissed a_kept a_isKept v_stones v_flat v_leastThick v_sights v_padMany v_acts v_pulled v_skyPull v_skyWhose v_badAct v_badWhy v_keptAt v_isWriting v_pay v_mostPay v_canLast)) (h : fX11_withOn x1 x2 x3 v_pay v_mostPay v_canLast = some res) (H : Heap) (locs : List Loc) (hW : HW G A s (wX11_withOn cI cZ a_this a_thick a_hollow a_damp a_fresh a_pulls a_fats a_deep a_fine a_pay a_hair a_sightPicture a_sightPull a_sightShows a_pad a_act a_where a_much a_kindMany a_had a_leaves a_mostPay a_canLast a_leastMissed a_kept a_isKept v_stones v_flat v_leastThick v_sights v_padMany v_acts v_pulled v_skyPull v_skyWhose v_badAct v_badWhy v_keptAt v_isWriting v_pay v_mostPay v_canLast) H locs) (ls : Array Slot) (hl : lv_has ls 5 [(0, .ref a_this), (1, .int x1), (2, .int x2), (3, .int x3)]) : W p l e rX11_withOn s m av below meth c H locs 0 0 Q (F0 m 0 ls []) := by
  have hx := C.1
  have hb := C.2.1
  unfold fX11_withOn at h
  refine lv_iload_n hx hb dX11_withOn_0 rfl (lv_at hl 2 rfl) ?_
  refine lv_iload_n hx hb dX11_withOn_1 rfl (lv_at hl 3 rfl) ?_
  refine lv_ishr hx hb dX11_withOn_2 ?_
  refine lv_iconst (v := (1 : Int32)) hx hb dX11_withOn_3 (by decide) ?_
  refine lv_iand hx hb dX11_withOn_4 ?_
  refine lv_if_ne (tgt := 25) hx hb dX11_withOn_5 (by decide) (fun c_1 => ?_) (fun c_1 => ?_)
  · have h := in_h c_1 h
    refine lv_iconst (v := (0 : Int32)) hx hb dX11_withOn_25 (by decide) ?_
    exact uX11_withOn_26 x1 x2 x3 (0 : Int32) v_stones v_flat v_leastThick v_sights v_padMany v_acts v_pulled v_skyPull v_skyWhose v_badAct v_badWhy v_keptAt v_isWriting v_pay v_mostPay v_canLast C hQ h _ _ hW _ (lv_sub hl [0, 1, 2, 3] rfl)
  · have h := ip_h c_1 h
    refine lv_aload_n hx hb dX11_withOn_8 rfl (lv_at hl 0 rfl) ?_
    refine getW C fl_RX11_73 hW 0 rfl rfl dX11_withOn_9 ?_
    refine lv_iload_n hx hb dX11_withOn_12 rfl (lv_at hl 3 rfl) ?_
    refine lv_iload_n hx hb dX11_withOn_13 rfl (lv_at hl 1 rfl) ?_
    refine callSI0 C lk_RX11_110 (ctX11_at x3 x1 rfl) hW hl rfl ⟨rfl, rfl⟩ ⟨(Nat.le_of_ble_eq_true rfl), (Nat.le_of_ble_eq_true rfl)⟩ ⟨Nat.zero_le _, Nat.zero_le _⟩ rfl (Nat.le_of_ble_eq_true rfl) dX11_withOn_14 (fun H locs hW => ?_)
    obtain ⟨g_5, h⟩ := gd_h h
    refine zaldW C hW 3 rfl g_5 dX11_withOn_17 ?_
    refine lv_if_eq (tgt := 25) hx hb dX11_withOn_18 (by decide) (fun c_6 => ?_) (fun c_6 => ?_)
    · have h := ip_h c_6 h
      refine lv_iconst (v := (0 : Int32)) hx hb dX11_withOn_25 (by decide) ?_
      exact uX11_withOn_26 x1 x2 x3 (0 : Int32) v_stones v_flat v_leastThick v_sights v_padMany v_acts v_pulled v_skyPull v_skyWhose v_badAct v_badWhy v_keptAt v_isWriting v_pay v_mostPay v_canLast C hQ h _ _ hW _ (lv_sub hl [0, 1, 2, 3] rfl)
    · have h := in_h c_6 h
      refine lv_iconst (v := (1 : Int32)) hx hb dX11_withOn_21 (by decide) ?_
      refine lv_goto (tgt := 26) hx hb dX11_withOn_22 (by decide) ?_
      exact uX11_withOn_26 x1 x2 x3 (1 : Int32) v_stones v_flat v_leastThick v_sights v_padMany v_acts v_pulled v_skyPull v_skyWhose v_badAct v_badWhy v_keptAt v_isWriting v_pay v_mostPay v_canLast C hQ h _ _ hW _ (lv_sub hl [0, 1, 2, 3] rfl)
theorem ctX11_withOn {l : Launch} {G : va_G} {cI cZ cO : ClassId} (a_this a_thick a_hollow a_damp a_fresh a_pulls a_fats a_deep a_fine a_pay a_hair a_sightPicture a_sightPull a_sightShows a_pad a_act a_where a_much a_kindMany a_had a_leaves a_mostPay a_canLast a_leastMissed a_kept a_isKept : Nat) (x1 : Int32) (x2 : Int32) (x3 : Int32) (v_stones : Int32) (v_flat : Int32) (v_leastThick : Int32) (v_sights : Int32) (v_padMany : Int32) (v_acts : Int32) (v_pulled : Int32) (v_skyPull : Int32) (v_skyWhose : Int32) (v_badAct : Int32) (v_badWhy : Int32) (v_keptAt : Int32) (v_isWriting : Int32) (v_pay : Nat → Int32) (v_mostPay : Nat → Int32) (v_canLast : Nat → Int32) {res : Int32} (h : fX11_withOn x1 x2 x3 v_pay v_mostPay v_canLast = some res) : MI l G cI cZ cO yX11_withOn cX11_withOn 5 .int rX11_withOn [.ref a_this, .int x1, .int x2, .int x3] (wX11_withOn cI cZ a_this a_thick a_hollow a_damp a_fresh a_pulls a_fats a_deep a_fine a_pay a_hair a_sightPicture a_sightPull a_sightShows a_pad a_act a_where a_much a_kindMany a_had a_leaves a_mostPay a_canLast a_leastMissed a_kept a_isKept v_stones v_flat v_leastThick v_sights v_padMany v_acts v_pulled v_skyPull v_skyWhose v_badAct v_badWhy v_keptAt v_isWriting v_pay v_mostPay v_canLast) (res) (wX11_withOn cI cZ a_this a_thick a_hollow a_damp a_fresh a_pulls a_fats a_deep a_fine a_pay a_hair a_sightPicture a_sightPull a_sightShows a_pad a_act a_where a_much a_kindMany a_had a_leaves a_mostPay a_canLast a_leastMissed a_kept a_isKept v_stones v_flat v_leastThick v_sights v_padMany v_acts v_pulled v_skyPull v_skyWhose v_badAct v_badWhy v_keptAt v_isWriting v_pay v_mostPay v_canLast) := by
  refine MI.of (by decide) (Nat.le_of_ble_eq_true rfl) ?_
  intro p e s m below meth c A Q C hW hQ ls hl
  exact uX11_withOn_0 x1 x2 x3 v_stones v_flat v_leastThick v_sights v_padMany v_acts v_pulled v_skyPull v_skyWhose v_badAct v_badWhy v_keptAt v_isWriting v_pay v_mostPay v_canLast C hQ h _ _ hW _ hl
abbrev wX11_bestFrom (cI cZ : ClassId) (a_this a_thick a_hollow a_damp a_fresh a_pulls a_fats a_deep a_fine a_pay a_hair a_sightPicture a_sightPull a_sightShows a_pad a_act a_where a_much a_kindMany a_had a_leaves a_mostPay a_canLast a_leastMissed a_kept a_isKept : Nat) (v_stones : Int32) (v_flat : Int32) (v_leastThick : Int32) (v_sights : Int32) (v_padMany : Int32) (v_acts : Int32) (v_pulled : Int32) (v_skyPull : Int32) (v_skyWhose : Int32) (v_badAct : Int32) (v_badWhy : Int32) (v_keptAt : Int32) (v_isWriting : Int32) (v_mostPay : Nat → Int32) (v_pay : Nat → Int32) (v_canLast : Nat → Int32) : va_W := [(a_this, .inr (11, [.int v_stones, .int v_flat, .int v_leastThick, .ref a_thick, .ref a_hollow, .ref a_damp, .ref a_fresh, .ref a_pulls, .ref a_fats, .ref a_deep, .ref a_fine, .ref a_pay, .ref a_hair, .ref a_sightPicture, .ref a_sightPull, .ref a_sightShows, .int v_sights, .ref a_pad, .int v_padMany, .ref a_act, .ref a_where, .ref a_much, .int v_acts, .int v_pulled, .ref a_kindMany, .int v_skyPull, .int v_skyWhose, .ref a_had, .ref a_leaves, .int v_badAct, .int v_badWhy, .ref a_mostPay, .ref a_canLast, .ref a_leastMissed, .ref a_kept, .ref a_isKept, .int v_keptAt, .int v_isWriting])), (a_mostPay, .inl (cI, 288, .inl v_mostPay)), (a_pay, .inl (cI, 8, .inl v_pay)), (a_canLast, .inl (cZ, 40, .inl v_canLast))]
abbrev rX11_bestFrom : Room := { frames := 2, cells := 0, slots := 0, locals := 45 }
set_option maxRecDepth 20000 in
theorem uX11_bestFrom_17 {a_this a_thick a_hollow a_damp a_fresh a_pulls a_fats a_deep a_fine a_pay a_hair a_sightPicture a_sightPull a_sightShows a_pad a_act a_where a_much a_kindMany a_had a_leaves a_mostPay a_canLast a_leastMissed a_kept a_isKept : Nat} (x1 : Int32) (x2 : Int32) (x3 : Int32) (x4 : Int32) (v_stones : Int32) (v_flat : Int32) (v_leastThick : Int32) (v_sights : Int32) (v_padMany : Int32) (v_acts : Int32) (v_pulled : Int32) (v_skyPull : Int32) (v_skyWhose : Int32) (v_badAct : Int32) (v_badWhy : Int32) (v_keptAt : Int32) (v_isWriting : Int32) (v_mostPay : Nat → Int32) (v_pay : Nat → Int32) (v_canLast : Nat → Int32) {res : Int32} (C : Cx p s m av meth c RX11 cX11_bestFrom 6 (some .int) G cI cZ cO A) (hQ : RI p l e rX11_bestFrom s m av below meth c G A cX11_bestFrom .int Q (res) (wX11_bestFrom cI cZ a_this a_thick a_hollow a_damp a_fresh a_pulls a_fats a_deep a_fine a_pay a_hair a_sightPicture a_sightPull a_sightShows a_pad a_act a_where a_much a_kindMany a_had a_leaves a_mostPay a_canLast a_leastMissed a_kept a_isKept v_stones v_flat v_leastThick v_sights v_padMany v_acts v_pulled v_skyPull v_skyWhose v_badAct v_badWhy v_keptAt v_isWriting v_mostPay v_pay v_canLast)) {k17 : (Int32) → (Int32) → Option (Int32)} (hk17 : ∀ (x3 : Int32) (x4 : Int32), k17 x3 x4 = some res → ∀ (H : Heap) (locs : List Loc), HW G A s (wX11_bestFrom cI cZ a_this a_thick a_hollow a_damp a_fresh a_pulls a_fats a_deep a_fine a_pay a_hair a_sightPicture a_sightPull a_sightShows a_pad a_act a_where a_much a_kindMany a_had a_leaves a_mostPay a_canLast a_leastMissed a_kept a_isKept v_stones v_flat v_leastThick v_sights v_padMany v_acts v_pulled v_skyPull v_skyWhose v_badAct v_badWhy v_keptAt v_isWriting v_mostPay v_pay v_canLast) H locs → ∀ ls : Array Slot, lv_has ls 6 [(0, .ref a_this), (1, .int x1), (2, .int x2), (3, .int x3), (4, .int x4)] → W p l e rX11_bestFrom s m av below meth c H locs 0 0 Q (F0 m 17 ls [])) (h : FX11_bestFrom_17 x1 x2 v_mostPay v_pay v_canLast k17 x3 x4 = some res) (H : Heap) (locs : List Loc) (hW : HW G A s (wX11_bestFrom cI cZ a_this a_thick a_hollow a_damp a_fresh a_pulls a_fats a_deep a_fine a_pay a_hair a_sightPicture a_sightPull a_sightShows a_pad a_act a_where a_much a_kindMany a_had a_leaves a_mostPay a_canLast a_leastMissed a_kept a_isKept v_stones v_flat v_leastThick v_sights v_padMany v_acts v_pulled v_skyPull v_skyWhose v_badAct v_badWhy v_keptAt v_isWriting v_mostPay v_pay v_canLast) H locs) (ls : Array Slot) (hl : lv_has ls 6 [(0, .ref a_this), (1, .int x1), (2, .int x2), (3, .int x3), (4, .int x4)]) : W p l e rX11_bestFrom s m av below meth c H locs 0 0 Q (F0 m 17 ls []) := by
  have hx := C.1
  have hb := C.2.1
  unfold FX11_bestFrom_17 at h
  refine lv_iload hx hb dX11_bestFrom_17 (lv_at hl 4 rfl) ?_
  refine lv_iconst (v := (5 : Int32)) hx hb dX11_bestFrom_19 (by decide) ?_
  refine lv_icmp_ge (tgt := 52) hx hb dX11_bestFrom_20 (by decide) (fun c_3 => ?_) (fun c_3 => ?_)
  · have h := ip_h c_3 h
    refine lv_iload_n hx hb dX11_bestFrom_52 rfl (lv_at hl 3 rfl) ?_
    obtain rfl := Option.some.inj h
    exact hQ rfl _ _ _ _ dX11_bestFrom_53 hW
  · have h := in_h c_3 h
    refine lv_aload_n hx hb dX11_bestFrom_23 rfl (lv_at hl 0 rfl) ?_
    refine lv_iload_n hx hb dX11_bestFrom_24 rfl (lv_at hl 1 rfl) ?_
    refine lv_iload_n hx hb dX11_bestFrom_25 rfl (lv_at hl 2 rfl) ?_
    refine lv_iload hx hb dX11_bestFrom_26 (lv_at hl 4 rfl) ?_
    obtain ⟨v_4, hv_4, h⟩ := bd_h h
    refine callVIr [0, 2, 1, 3] C lk_RX11_237 (ctX11_withOn a_this a_thick a_hollow a_damp a_fresh a_pulls a_fats a_deep a_fine a_pay a_hair a_sightPicture a_sightPull a_sightShows a_pad a_act a_where a_much a_kindMany a_had a_leaves a_mostPay a_canLast a_leastMissed a_kept a_isKept x1 x2 x4 v_stones v_flat v_leastThick v_sights v_padMany v_acts v_pulled v_skyPull v_skyWhose v_badAct v_badWhy v_keptAt v_isWriting v_pay v_mostPay v_canLast hv_4) hW hl 11 rfl rfl rfl rfl rfl ⟨rfl, rfl⟩ ⟨(Nat.le_of_ble_eq_true rfl), (Nat.le_of_ble_eq_true rfl)⟩ ⟨Nat.zero_le _, Nat.zero_le _⟩ rfl (Nat.le_of_ble_eq_true rfl) dX11_bestFrom_28 (fun H locs hW => ?_)
    refine lv_istore (lv' := [(5, .int v_4), (0, .ref a_this), (1, .int x1), (2, .int x2), (3, .int x3), (4, .int x4)]) hx hb dX11_bestFrom_31 hl (Nat.le_of_ble_eq_true rfl) rfl (fun ls hl => ?_)
    refine lv_iload hx hb dX11_bestFrom_33 (lv_at hl 0 rfl) ?_
    refine lv_iload_n hx hb dX11_bestFrom_35 rfl (lv_at hl 4 rfl) ?_
    refine lv_icmp_le (tgt := 44) hx hb dX11_bestFrom_36 (by decide) (fun c_5 => ?_) (fun c_5 => ?_)
    · have h := ip_h c_5 h
      refine lv_iload_n hx hb dX11_bestFrom_44 rfl (lv_at hl 4 rfl) ?_
      refine lv_istore_n (lv' := [(3, .int x3), (5, .int v_4), (0, .ref a_this), (1, .int x1), (2, .int x2), (4, .int x4)]) hx hb dX11_bestFrom_45 rfl hl (Nat.le_of_ble_eq_true rfl) rfl (fun ls hl => ?_)
      obtain ⟨v_6, ev_6⟩ : ∃ y : Int32, y = x4 + (1 : Int32) := ⟨_, rfl⟩
      have h := lt_h ev_6 h
      refine lv_iinc (v := v_6) (lv' := [(4, .int v_6), (3, .int x3), (5, .int v_4), (0, .ref a_this), (1, .int x1), (2, .int x2)]) hx hb dX11_bestFrom_46 hl (k := 5) rfl (by rw [ev_6]; rfl) (Nat.le_of_ble_eq_true rfl) rfl (fun ls hl => ?_)
      refine lv_goto (tgt := 17) hx hb dX11_bestFrom_49 (by decide) ?_
      exact hk17 x3 v_6 h _ _ hW _ (lv_sub hl [3, 4, 5, 1, 0] rfl)
    · have h := in_h c_5 h
      refine lv_iload hx hb dX11_bestFrom_39 (lv_at hl 0 rfl) ?_
      refine lv_goto (tgt := 45) hx hb dX11_bestFrom_41 (by decide) ?_
      refine lv_istore_n (lv' := [(3, .int v_4), (5, .int v_4), (0, .ref a_this), (1, .int x1), (2, .int x2), (4, .int x4)]) hx hb dX11_bestFrom_45 rfl hl (Nat.le_of_ble_eq_true rfl) rfl (fun ls hl => ?_)
      obtain ⟨v_7, ev_7⟩ : ∃ y : Int32, y = x4 + (1 : Int32) := ⟨_, rfl⟩
      have h := lt_h ev_7 h
      refine lv_iinc (v := v_7) (lv' := [(4, .int v_7), (3, .int v_4), (5, .int v_4), (0, .ref a_this), (1, .int x1), (2, .int x2)]) hx hb dX11_bestFrom_46 hl (k := 5) rfl (by rw [ev_7]; rfl) (Nat.le_of_ble_eq_true rfl) rfl (fun ls hl => ?_)
      refine lv_goto (tgt := 17) hx hb dX11_bestFrom_49 (by decide) ?_
      exact hk17 v_4 v_7 h _ _ hW _ (lv_sub hl [3, 4, 5, 1, 0] rfl)
theorem wX11_bestFrom_17_ {a_this a_thick a_hollow a_damp a_fresh a_pulls a_fats a_deep a_fine a_pay a_hair a_sightPicture a_sightPull a_sightShows a_pad a_act a_where a_much a_kindMany a_had a_leaves a_mostPay a_canLast a_leastMissed a_kept a_isKept : Nat} (x1 : Int32) (x2 : Int32) (v_stones : Int32) (v_flat : Int32) (v_leastThick : Int32) (v_sights : Int32) (v_padMany : Int32) (v_acts : Int32) (v_pulled : Int32) (v_skyPull : Int32) (v_skyWhose : Int32) (v_badAct : Int32) (v_badWhy : Int32) (v_keptAt : Int32) (v_isWriting : Int32) (v_mostPay : Nat → Int32) (v_pay : Nat → Int32) (v_canLast : Nat → Int32) {res : Int32} (C : Cx p s m av meth c RX11 cX11_bestFrom 6 (some .int) G cI cZ cO A) (hQ : RI p l e rX11_bestFrom s m av below meth c G A cX11_bestFrom .int Q (res) (wX11_bestFrom cI cZ a_this a_thick a_hollow a_damp a_fresh a_pulls a_fats a_deep a_fine a_pay a_hair a_sightPicture a_sightPull a_sightShows a_pad a_act a_where a_much a_kindMany a_had a_leaves a_mostPay a_canLast a_leastMissed a_kept a_isKept v_stones v_flat v_leastThick v_sights v_padMany v_acts v_pulled v_skyPull v_skyWhose v_badAct v_badWhy v_keptAt v_isWriting v_mostPay v_pay v_canLast)) : ∀ (n : Nat) (x3 : Int32) (x4 : Int32), LX11_bestFrom_17 x1 x2 v_mostPay v_pay v_canLast n x3 x4 = some res → ∀ (H : Heap) (locs : List Loc), HW G A s (wX11_bestFrom cI cZ a_this a_thick a_hollow a_damp a_fresh a_pulls a_fats a_deep a_fine a_pay a_hair a_sightPicture a_sightPull a_sightShows a_pad a_act a_where a_much a_kindMany a_had a_leaves a_mostPay a_canLast a_leastMissed a_kept a_isKept v_stones v_flat v_leastThick v_sights v_padMany v_acts v_pulled v_skyPull v_skyWhose v_badAct v_badWhy v_keptAt v_isWriting v_mostPay v_pay v_canLast) H locs → ∀ ls : Array Slot, lv_has ls 6 [(0, .ref a_this), (1, .int x1), (2, .int x2), (3, .int x3), (4, .int x4)] → W p l e rX11_bestFrom s m av below meth c H locs 0 0 Q (F0 m 17 ls []) := by
  intro n
  induction n with
  | zero => intro x3 x4 h; cases h
  | succ n ih =>
    intro x3 x4 h H locs hW ls hl
    exact uX11_bestFrom_17 x1 x2 x3 x4 v_stones v_flat v_leastThick v_sights v_padMany v_acts v_pulled v_skyPull v_skyWhose v_badAct v_badWhy v_keptAt v_isWriting v_mostPay v_pay v_canLast C hQ (k17 := LX11_bestFrom_17 x1 x2 v_mostPay v_pay v_canLast n) ih h H locs hW ls hl
set_option maxRecDepth 20000 in
theorem uX11_bestFrom_0 {a_this a_thick a_hollow a_damp a_fresh a_pulls a_fats a_deep a_fine a_pay a_hair a_sightPicture a_sightPull a_sightShows a_pad a_act a_where a_much a_kindMany a_had a_leaves a_mostPay a_canLast a_leastMissed a_kept a_isKept : Nat} (x1 : Int32) (x2 : Int32) (v_stones : Int32) (v_flat : Int32) (v_leastThick : Int32) (v_sights : Int32) (v_padMany : Int32) (v_acts : Int32) (v_pulled : Int32) (v_skyPull : Int32) (v_skyWhose : Int32) (v_badAct : Int32) (v_badWhy : Int32) (v_keptAt : Int32) (v_isWriting : Int32) (v_mostPay : Nat → Int32) (v_pay : Nat → Int32) (v_canLast : Nat → Int32) {res : Int32} (C : Cx p s m av meth c RX11 cX11_bestFrom 6 (some .int) G cI cZ cO A) (hQ : RI p l e rX11_bestFrom s m av below meth c G A cX11_bestFrom .int Q (res) (wX11_bestFrom cI cZ a_this a_thick a_hollow a_damp a_fresh a_pulls a_fats a_deep a_fine a_pay a_hair a_sightPicture a_sightPull a_sightShows a_pad a_act a_where a_much a_kindMany a_had a_leaves a_mostPay a_canLast a_leastMissed a_kept a_isKept v_stones v_flat v_leastThick v_sights v_padMany v_acts v_pulled v_skyPull v_skyWhose v_badAct v_badWhy v_keptAt v_isWriting v_mostPay v_pay v_canLast)) (h : fX11_bestFrom x1 x2 v_mostPay v_pay v_canLast = some res) (H : Heap) (locs : List Loc) (hW : HW G A s (wX11_bestFrom cI cZ a_this a_thick a_hollow a_damp a_fresh a_pulls a_fats a_deep a_fine a_pay a_hair a_sightPicture a_sightPull a_sightShows a_pad a_act a_where a_much a_kindMany a_had a_leaves a_mostPay a_canLast a_leastMissed a_kept a_isKept v_stones v_flat v_leastThick v_sights v_padMany v_acts v_pulled v_skyPull v_skyWhose v_badAct v_badWhy v_keptAt v_isWriting v_mostPay v_pay v_canLast) H locs) (ls : Array Slot) (hl : lv_has ls 6 [(0, .ref a_this), (1, .int x1), (2, .int x2)]) : W p l e rX11_bestFrom s m av below meth c H locs 0 0 Q (F0 m 0 ls []) := by
  have hx := C.1
  have hb := C.2.1
  unfold fX11_bestFrom at h
  refine lv_aload_n hx hb dX11_bestFrom_0 rfl (lv_at hl 0 rfl) ?_
  refine getW C fl_RX11_70 hW 0 rfl rfl dX11_bestFrom_1 ?_
  refine lv_bipush (v := (32 : Int32)) hx hb dX11_bestFrom_4 (by decide) ?_
  refine lv_iload_n hx hb dX11_bestFrom_6 rfl (lv_at hl 1 rfl) ?_
  refine lv_iconst (v := (1 : Int32)) hx hb dX11_bestFrom_7 (by decide) ?_
  refine lv_iadd hx hb dX11_bestFrom_8 ?_
  refine lv_imul hx hb dX11_bestFrom_9 ?_
  refine lv_iload_n hx hb dX11_bestFrom_10 rfl (lv_at hl 2 rfl) ?_
  refine lv_iadd hx hb dX11_bestFrom_11 ?_
  obtain ⟨g_1, h⟩ := gd_h h
  refine ialdW C hW 1 rfl g_1 dX11_bestFrom_12 ?_
  refine lv_topi (fun v_2 ev_2 => ?_)
  have h := lt_h ev_2 h
  refine lv_istore_n (lv' := [(3, .int v_2), (0, .ref a_this), (1, .int x1), (2, .int x2)]) hx hb dX11_bestFrom_13 rfl hl (Nat.le_of_ble_eq_true rfl) rfl (fun ls hl => ?_)
  refine lv_iconst (v := (0 : Int32)) hx hb dX11_bestFrom_14 (by decide) ?_
  refine lv_istore (lv' := [(4, .int (0 : Int32)), (3, .int v_2), (0, .ref a_this), (1, .int x1), (2, .int x2)]) hx hb dX11_bestFrom_15 hl (Nat.le_of_ble_eq_true rfl) rfl (fun ls hl => ?_)
  exact wX11_bestFrom_17_ x1 x2 v_stones v_flat v_leastThick v_sights v_padMany v_acts v_pulled v_skyPull v_skyWhose v_badAct v_badWhy v_keptAt v_isWriting v_mostPay v_pay v_canLast C hQ 2000 v_2 (0 : Int32) h _ _ hW _ (lv_sub hl [2, 3, 4, 1, 0] rfl)
theorem ctX11_bestFrom {l : Launch} {G : va_G} {cI cZ cO : ClassId} (a_this a_thick a_hollow a_damp a_fresh a_pulls a_fats a_deep a_fine a_pay a_hair a_sightPicture a_sightPull a_sightShows a_pad a_act a_where a_much a_kindMany a_had a_leaves a_mostPay a_canLast a_leastMissed a_kept a_isKept : Nat) (x1 : Int32) (x2 : Int32) (v_stones : Int32) (v_flat : Int32) (v_leastThick : Int32) (v_sights : Int32) (v_padMany : Int32) (v_acts : Int32) (v_pulled : Int32) (v_skyPull : Int32) (v_skyWhose : Int32) (v_badAct : Int32) (v_badWhy : Int32) (v_keptAt : Int32) (v_isWriting : Int32) (v_mostPay : Nat → Int32) (v_pay : Nat → Int32) (v_canLast : Nat → Int32) {res : Int32} (h : fX11_bestFrom x1 x2 v_mostPay v_pay v_canLast = some res) : MI l G cI cZ cO yX11_bestFrom cX11_bestFrom 6 .int rX11_bestFrom [.ref a_this, .int x1, .int x2] (wX11_bestFrom cI cZ a_this a_thick a_hollow a_damp a_fresh a_pulls a_fats a_deep a_fine a_pay a_hair a_sightPicture a_sightPull a_sightShows a_pad a_act a_where a_much a_kindMany a_had a_leaves a_mostPay a_canLast a_leastMissed a_kept a_isKept v_stones v_flat v_leastThick v_sights v_padMany v_acts v_pulled v_skyPull v_skyWhose v_badAct v_badWhy v_keptAt v_isWriting v_mostPay v_pay v_canLast) (res) (wX11_bestFrom cI cZ a_this a_thick a_hollow a_damp a_fresh a_pulls a_fats a_deep a_fine a_pay a_hair a_sightPicture a_sightPull a_sightShows a_pad a_act a_where a_much a_kindMany a_had a_leaves a_mostPay a_canLast a_leastMissed a_kept a_isKept v_stones v_flat v_leastThick v_sights v_padMany v_acts v_pulled v_skyPull v_skyWhose v_badAct v_badWhy v_keptAt v_isWriting v_mostPay v_pay v_canLast) := by
  refine MI.of (by decide) (Nat.le_of_ble_eq_true rfl) ?_
  intro p e s m below meth c A Q C hW hQ ls hl
  exact uX11_bestFrom_0 x1 x2 v_stones v_flat v_leastThick v_sights v_padMany v_acts v_pulled v_skyPull v_skyWhose v_badAct v_badWhy v_keptAt v_isWriting v_mostPay v_pay v_canLast C hQ h _ _ hW _ hl
abbrev wX11_layOrders (cI cZ : ClassId) (a_this a_thick a_hollow a_damp a_fresh a_pulls a_fats a_deep a_fine a_pay a_hair a_sightPicture a_sightPull a_sightShows a_pad a_act a_where a_much a_kindMany a_had a_leaves a_mostPay a_canLast a_leastMissed a_kept a_isKept : Nat) (v_stones : Int32) (v_flat : Int32) (v_leastThick : Int32) (v_sights : Int32) (v_padMany : Int32) (v_acts : Int32) (v_pulled : Int32) (v_skyPull : Int32) (v_skyWhose : Int32) (v_badAct : Int32) (v_badWhy : Int32) (v_keptAt : Int32) (v_isWriting : Int32) (v_mostPay : Nat → Int32) (v_pay : Nat → Int32) (v_canLast : Nat → Int32) (v_deep : Nat → Int32) (v_fats : Nat → Int32) (v_fine : Nat → Int32) (v_hollow : Nat → Int32) (v_thick : Nat → Int32) : va_W := [(a_this, .inr (11, [.int v_stones, .int v_flat, .int v_leastThick, .ref a_thick, .ref a_hollow, .ref a_damp, .ref a_fresh, .ref a_pulls, .ref a_fats, .ref a_deep, .ref a_fine, .ref a_pay, .ref a_hair, .ref a_sightPicture, .ref a_sightPull, .ref a_sightShows, .int v_sights, .ref a_pad, .int v_padMany, .ref a_act, .ref a_where, .ref a_much, .int v_acts, .int v_pulled, .ref a_kindMany, .int v_skyPull, .int v_skyWhose, .ref a_had, .ref a_leaves, .int v_badAct, .int v_badWhy, .ref a_mostPay, .ref a_canLast, .ref a_leastMissed, .ref a_kept, .ref a_isKept, .int v_keptAt, .int v_isWriting])), (a_mostPay, .inl (cI, 288, .inl v_mostPay)), (a_pay, .inl (cI, 8, .inl v_pay)), (a_canLast, .inl (cZ, 40, .inl v_canLast)), (a_deep, .inl (cI, 8, .inl v_deep)), (a_fats, .inl (cI, 40, .inl v_fats)), (a_fine, .inl (cI, 8, .inl v_fine)), (a_hollow, .inl (cI, 5, .inl v_hollow)), (a_thick, .inl (cI, 5, .inl v_thick))]
abbrev rX11_layOrders : Room := { frames := 3, cells := 0, slots := 0, locals := 70 }
set_option maxRecDepth 20000 in
theorem uX11_layOrders_161 {a_this a_thick a_hollow a_damp a_fresh a_pulls a_fats a_deep a_fine a_pay a_hair a_sightPicture a_sightPull a_sightShows a_pad a_act a_where a_much a_kindMany a_had a_leaves a_mostPay a_canLast a_leastMissed a_kept a_isKept : Nat} (x3 : Int32) (x4 : Int32) (v_stones : Int32) (v_flat : Int32) (v_leastThick : Int32) (v_sights : Int32) (v_padMany : Int32) (v_acts : Int32) (v_pulled : Int32) (v_skyPull : Int32) (v_skyWhose : Int32) (v_badAct : Int32) (v_badWhy : Int32) (v_keptAt : Int32) (v_isWriting : Int32) (v_mostPay : Nat → Int32) (v_pay : Nat → Int32) (v_canLast : Nat → Int32) (v_deep : Nat → Int32) (v_fats : Nat → Int32) (v_fine : Nat → Int32) (v_hollow : Nat → Int32) (v_thick : Nat → Int32) {res : (Nat → Int32) × (Nat → Int32)} (C : Cx p s m av meth c RX11 cX11_layOrders 6 none G cI cZ cO A) (hQ : RV p l e rX11_layOrders s m av below meth c G A cX11_layOrders Q (wX11_layOrders cI cZ a_this a_thick a_hollow a_damp a_fresh a_pulls a_fats a_deep a_fine a_pay a_hair a_sightPicture a_sightPull a_sightShows a_pad a_act a_where a_much a_kindMany a_had a_leaves a_mostPay a_canLast a_leastMissed a_kept a_isKept v_stones v_flat v_leastThick v_sights v_padMany v_acts v_pulled v_skyPull v_skyWhose v_badAct v_badWhy v_keptAt v_isWriting res.1 v_pay res.2 v_deep v_fats v_fine v_hollow v_thick)) {k154 : (Int32) → (Nat → Int32) → Option ((Nat → Int32) × (Nat → Int32))} {k161 : (Int32) → (Nat → Int32) → Option ((Nat → Int32) × (Nat → Int32))} (hk154 : ∀ (x3 : Int32) (v_mostPay : Nat → Int32), k154 x3 v_mostPay = some res → ∀ (H : Heap) (locs : List Loc), HW G A s (wX11_layOrders cI cZ a_this a_thick a_hollow a_damp a_fresh a_pulls a_fats a_deep a_fine a_pay a_hair a_sightPicture a_sightPull a_sightShows a_pad a_act a_where a_much a_kindMany a_had a_leaves a_mostPay a_canLast a_leastMissed a_kept a_isKept v_stones v_flat v_leastThick v_sights v_padMany v_acts v_pulled v_skyPull v_skyWhose v_badAct v_badWhy v_keptAt v_isWriting v_mostPay v_pay v_canLast v_deep v_fats v_fine v_hollow v_thick) H locs → ∀ ls : Array Slot, lv_has ls 6 [(0, .ref a_this), (3, .int x3)] → W p l e rX11_layOrders s m av below meth c H locs 0 0 Q (F0 m 154 ls [])) (hk161 : ∀ (x4 : Int32) (v_mostPay : Nat → Int32), k161 x4 v_mostPay = some res → ∀ (H : Heap) (locs : List Loc), HW G A s (wX11_layOrders cI cZ a_this a_thick a_hollow a_damp a_fresh a_pulls a_fats a_deep a_fine a_pay a_hair a_sightPicture a_sightPull a_sightShows a_pad a_act a_where a_much a_kindMany a_had a_leaves a_mostPay a_canLast a_leastMissed a_kept a_isKept v_stones v_flat v_leastThick v_sights v_padMany v_acts v_pulled v_skyPull v_skyWhose v_badAct v_badWhy v_keptAt v_isWriting v_mostPay v_pay v_canLast v_deep v_fats v_fine v_hollow v_thick) H locs → ∀ ls : Array Slot, lv_has ls 6 [(0, .ref a_this), (3, .int x3), (4, .int x4)] → W p l e rX11_layOrders s m av below meth c H locs 0 0 Q (F0 m 161 ls [])) (h : FX11_layOrders_161 x3 v_pay v_canLast k154 k161 x4 v_mostPay = some res) (H : Heap) (locs : List Loc) (hW : HW G A s (wX11_layOrders cI cZ a_this a_thick a_hollow a_damp a_fresh a_pulls a_fats a_deep a_fine a_pay a_hair a_sightPicture a_sightPull a_sightShows a_pad a_act a_where a_much a_kindMany a_had a_leaves a_mostPay a_canLast a_leastMissed a_kept a_isKept v_stones v_flat v_leastThick v_sights v_padMany v_acts v_pulled v_skyPull v_skyWhose v_badAct v_badWhy v_keptAt v_isWriting v_mostPay v_pay v_canLast v_deep v_fats v_fine v_hollow v_thick) H locs) (ls : Array Slot) (hl : lv_has ls 6 [(0, .ref a_this), (3, .int x3), (4, .int x4)]) : W p l e rX11_layOrders s m av below meth c H locs 0 0 Q (F0 m 161 ls []) := by
  have hx := C.1
  have hb := C.2.1
  unfold FX11_layOrders_161 at h
  refine lv_iload hx hb dX11_layOrders_161 (lv_at hl 2 rfl) ?_
  refine lv_bipush (v := (32 : Int32)) hx hb dX11_layOrders_163 (by decide) ?_
  refine lv_icmp_ge (tgt := 193) hx hb dX11_layOrders_165 (by decide) (fun c_4 => ?_) (fun c_4 => ?_)
  · have h := ip_h c_4 h
    obtain ⟨v_5, ev_5⟩ : ∃ y : Int32, y = x3 + (-1 : Int32) := ⟨_, rfl⟩
    have h := lt_h ev_5 h
    refine lv_iinc (v := v_5) (lv' := [(3, .int v_5), (0, .ref a_this), (4, .int x4)]) hx hb dX11_layOrders_193 hl (k := 1) rfl (by rw [ev_5]; rfl) (Nat.le_of_ble_eq_true rfl) rfl (fun ls hl => ?_)
    refine lv_goto (tgt := 154) hx hb dX11_layOrders_196 (by decide) ?_
    exact hk154 v_5 v_mostPay h _ _ hW _ (lv_sub hl [1, 0] rfl)
  · have h := in_h c_4 h
    refine lv_aload_n hx hb dX11_layOrders_168 rfl (lv_at hl 0 rfl) ?_
    refine getW C fl_RX11_70 hW 0 rfl rfl dX11_layOrders_169 ?_
    refine lv_bipush (v := (32 : Int32)) hx hb dX11_layOrders_172 (by decide) ?_
    refine lv_iload_n hx hb dX11_layOrders_174 rfl (lv_at hl 1 rfl) ?_
    refine lv_imul hx hb dX11_layOrders_175 ?_
    refine lv_iload hx hb dX11_layOrders_176 (lv_at hl 2 rfl) ?_
    refine lv_iadd hx hb dX11_layOrders_178 ?_
    refine lv_aload_n hx hb dX11_layOrders_179 rfl (lv_at hl 0 rfl) ?_
    refine lv_iload_n hx hb dX11_layOrders_180 rfl (lv_at hl 1 rfl) ?_
    refine lv_iload hx hb dX11_layOrders_181 (lv_at hl 2 rfl) ?_
    obtain ⟨v_6, hv_6, h⟩ := bd_h h
    refine callVIr [0, 1, 2, 3] C lk_RX11_234 (ctX11_bestFrom a_this a_thick a_hollow a_damp a_fresh a_pulls a_fats a_deep a_fine a_pay a_hair a_sightPicture a_sightPull a_sightShows a_pad a_act a_where a_much a_kindMany a_had a_leaves a_mostPay a_canLast a_leastMissed a_kept a_isKept x3 x4 v_stones v_flat v_leastThick v_sights v_padMany v_acts v_pulled v_skyPull v_skyWhose v_badAct v_badWhy v_keptAt v_isWriting v_mostPay v_pay v_canLast hv_6) hW hl 11 rfl rfl rfl rfl rfl ⟨rfl, rfl⟩ ⟨(Nat.le_of_ble_eq_true rfl), (Nat.le_of_ble_eq_true rfl)⟩ ⟨Nat.zero_le _, Nat.zero_le _⟩ rfl (Nat.le_of_ble_eq_true rfl) dX11_layOrders_183 (fun H locs hW => ?_)
    obtain ⟨g_7, h⟩ := gd_h h
    refine iastW C hW 1 rfl g_7 dX11_layOrders_186 (fun H locs hW => ?_)
    have hW : HW G A s (wX11_layOrders cI cZ a_this a_thick a_hollow a_damp a_fresh a_pulls a_fats a_deep a_fine a_pay a_hair a_sightPicture a_sightPull a_sightShows a_pad a_act a_where a_much a_kindMany a_had a_leaves a_mostPay a_canLast a_leastMissed a_kept a_isKept v_stones v_flat v_leastThick v_sights v_padMany v_acts v_pulled v_skyPull v_skyWhose v_badAct v_badWhy v_keptAt v_isWriting (upd v_mostPay (Int32.toNatClampNeg (((32 : Int32) * x3) + x4)) v_6) v_pay v_canLast v_deep v_fats v_fine v_hollow v_thick) H locs := hW
    obtain ⟨v_8, ev_8⟩ : ∃ y : Int32, y = x4 + (1 : Int32) := ⟨_, rfl⟩
    have h := lt_h ev_8 h
    refine lv_iinc (v := v_8) (lv' := [(4, .int v_8), (0, .ref a_this), (3, .int x3)]) hx hb dX11_layOrders_187 hl (k := 2) rfl (by rw [ev_8]; rfl) (Nat.le_of_ble_eq_true rfl) rfl (fun ls hl => ?_)
    refine lv_goto (tgt := 161) hx hb dX11_layOrders_190 (by decide) ?_
    exact hk161 v_8 (upd v_mostPay (Int32.toNatClampNeg (((32 : Int32) * x3) + x4)) v_6) h _ _ hW _ (lv_sub hl [1, 2, 0] rfl)
theorem wX11_layOrders_161_ {a_this a_thick a_hollow a_damp a_fresh a_pulls a_fats a_deep a_fine a_pay a_hair a_sightPicture a_sightPull a_sightShows a_pad a_act a_where a_much a_kindMany a_had a_leaves a_mostPay a_canLast a_leastMissed a_kept a_isKept : Nat} (x3 : Int32) (v_stones : Int32) (v_flat : Int32) (v_leastThick : Int32) (v_sights : Int32) (v_padMany : Int32) (v_acts : Int32) (v_pulled : Int32) (v_skyPull : Int32) (v_skyWhose : Int32) (v_badAct : Int32) (v_badWhy : Int32) (v_keptAt : Int32) (v_isWriting : Int32) (v_pay : Nat → Int32) (v_canLast : Nat → Int32) (v_deep : Nat → Int32) (v_fats : Nat → Int32) (v_fine : Nat → Int32) (v_hollow : Nat → Int32) (v_thick : Nat → Int32) {res : (Nat → Int32) × (Nat → Int32)} (C : Cx p s m av meth c RX11 cX11_layOrders 6 none G cI cZ cO A) (hQ : RV p l e rX11_layOrders s m av below meth c G A cX11_layOrders Q (wX11_layOrders cI cZ a_this a_thick a_hollow a_damp a_fresh a_pulls a_fats a_deep a_fine a_pay a_hair a_sightPicture a_sightPull a_sightShows a_pad a_act a_where a_much a_kindMany a_had a_leaves a_mostPay a_canLast a_leastMissed a_kept a_isKept v_stones v_flat v_leastThick v_sights v_padMany v_acts v_pulled v_skyPull v_skyWhose v_badAct v_badWhy v_keptAt v_isWriting res.1 v_pay res.2 v_deep v_fats v_fine v_hollow v_thick)) {k154 : (Int32) → (Nat → Int32) → Option ((Nat → Int32) × (Nat → Int32))} (hk154 : ∀ (x3 : Int32) (v_mostPay : Nat → Int32), k154 x3 v_mostPay = some res → ∀ (H : Heap) (locs : List Loc), HW G A s (wX11_layOrders cI cZ a_this a_thick a_hollow a_damp a_fresh a_pulls a_fats a_deep a_fine a_pay a_hair a_sightPicture a_sightPull a_sightShows a_pad a_act a_where a_much a_kindMany a_had a_leaves a_mostPay a_canLast a_leastMissed a_kept a_isKept v_stones v_flat v_leastThick v_sights v_padMany v_acts v_pulled v_skyPull v_skyWhose v_badAct v_badWhy v_keptAt v_isWriting v_mostPay v_pay v_canLast v_deep v_fats v_fine v_hollow v_thick) H locs → ∀ ls : Array Slot, lv_has ls 6 [(0, .ref a_this), (3, .int x3)] → W p l e rX11_layOrders s m av below meth c H locs 0 0 Q (F0 m 154 ls [])) : ∀ (n : Nat) (x4 : Int32) (v_mostPay : Nat → Int32), LX11_layOrders_161 x3 v_pay v_canLast k154 n x4 v_mostPay = some res → ∀ (H : Heap) (locs : List Loc), HW G A s (wX11_layOrders cI cZ a_this a_thick a_hollow a_damp a_fresh a_pulls a_fats a_deep a_fine a_pay a_hair a_sightPicture a_sightPull a_sightShows a_pad a_act a_where a_much a_kindMany a_had a_leaves a_mostPay a_canLast a_leastMissed a_kept a_isKept v_stones v_flat v_leastThick v_sights v_padMany v_acts v_pulled v_skyPull v_skyWhose v_badAct v_badWhy v_keptAt v_isWriting v_mostPay v_pay v_canLast v_deep v_fats v_fine v_hollow v_thick) H locs → ∀ ls : Array Slot, lv_has ls 6 [(0, .ref a_this), (3, .int x3), (4, .int x4)] → W p l e rX11_layOrders s m av below meth c H locs 0 0 Q (F0 m 161 ls []) := by
  intro n
  induction n with
  | zero => intro x4 v_mostPay h; cases h
  | succ n ih =>
    intro x4 v_mostPay h H locs hW ls hl
    exact uX11_layOrders_161 x3 x4 v_stones v_flat v_leastThick v_sights v_padMany v_acts v_pulled v_skyPull v_skyWhose v_badAct v_badWhy v_keptAt v_isWriting v_mostPay v_pay v_canLast v_deep v_fats v_fine v_hollow v_thick C hQ hk154 (k161 := LX11_layOrders_161 x3 v_pay v_canLast k154 n) ih h H locs hW ls hl
set_option maxRecDepth 20000 in
theorem uX11_layOrders_154 {a_this a_thick a_hollow a_damp a_fresh a_pulls a_fats a_deep a_fine a_pay a_hair a_sightPicture a_sightPull a_sightShows a_pad a_act a_where a_much a_kindMany a_had a_leaves a_mostPay a_canLast a_leastMissed a_kept a_isKept : Nat} (x3 : Int32) (v_stones : Int32) (v_flat : Int32) (v_leastThick : Int32) (v_sights : Int32) (v_padMany : Int32) (v_acts : Int32) (v_pulled : Int32) (v_skyPull : Int32) (v_skyWhose : Int32) (v_badAct : Int32) (v_badWhy : Int32) (v_keptAt : Int32) (v_isWriting : Int32) (v_mostPay : Nat → Int32) (v_pay : Nat → Int32) (v_canLast : Nat → Int32) (v_deep : Nat → Int32) (v_fats : Nat → Int32) (v_fine : Nat → Int32) (v_hollow : Nat → Int32) (v_thick : Nat → Int32) {res : (Nat → Int32) × (Nat → Int32)} (C : Cx p s m av meth c RX11 cX11_layOrders 6 none G cI cZ cO A) (hQ : RV p l e rX11_layOrders s m av below meth c G A cX11_layOrders Q (wX11_layOrders cI cZ a_this a_thick a_hollow a_damp a_fresh a_pulls a_fats a_deep a_fine a_pay a_hair a_sightPicture a_sightPull a_sightShows a_pad a_act a_where a_much a_kindMany a_had a_leaves a_mostPay a_canLast a_leastMissed a_kept a_isKept v_stones v_flat v_leastThick v_sights v_padMany v_acts v_pulled v_skyPull v_skyWhose v_badAct v_badWhy v_keptAt v_isWriting res.1 v_pay res.2 v_deep v_fats v_fine v_hollow v_thick)) {k154 : (Int32) → (Nat → Int32) → Option ((Nat → Int32) × (Nat → Int32))} (hk154 : ∀ (x3 : Int32) (v_mostPay : Nat → Int32), k154 x3 v_mostPay = some res → ∀ (H : Heap) (locs : List Loc), HW G A s (wX11_layOrders cI cZ a_this a_thick a_hollow a_damp a_fresh a_pulls a_fats a_deep a_fine a_pay a_hair a_sightPicture a_sightPull a_sightShows a_pad a_act a_where a_much a_kindMany a_had a_leaves a_mostPay a_canLast a_leastMissed a_kept a_isKept v_stones v_flat v_leastThick v_sights v_padMany v_acts v_pulled v_skyPull v_skyWhose v_badAct v_badWhy v_keptAt v_isWriting v_mostPay v_pay v_canLast v_deep v_fats v_fine v_hollow v_thick) H locs → ∀ ls : Array Slot, lv_has ls 6 [(0, .ref a_this), (3, .int x3)] → W p l e rX11_layOrders s m av below meth c H locs 0 0 Q (F0 m 154 ls [])) (h : FX11_layOrders_154 v_pay v_canLast k154 x3 v_mostPay = some res) (H : Heap) (locs : List Loc) (hW : HW G A s (wX11_layOrders cI cZ a_this a_thick a_hollow a_damp a_fresh a_pulls a_fats a_deep a_fine a_pay a_hair a_sightPicture a_sightPull a_sightShows a_pad a_act a_where a_much a_kindMany a_had a_leaves a_mostPay a_canLast a_leastMissed a_kept a_isKept v_stones v_flat v_leastThick v_sights v_padMany v_acts v_pulled v_skyPull v_skyWhose v_badAct v_badWhy v_keptAt v_isWriting v_mostPay v_pay v_canLast v_deep v_fats v_fine v_hollow v_thick) H locs) (ls : Array Slot) (hl : lv_has ls 6 [(0, .ref a_this), (3, .int x3)]) : W p l e rX11_layOrders s m av below meth c H locs 0 0 Q (F0 m 154 ls []) := by
  have hx := C.1
  have hb := C.2.1
  unfold FX11_layOrders_154 at h
  refine lv_iload_n hx hb dX11_layOrders_154 rfl (lv_at hl 1 rfl) ?_
  refine lv_if_lt (tgt := 199) hx hb dX11_layOrders_155 (by decide) (fun c_3 => ?_) (fun c_3 => ?_)
  · have h := ip_h c_3 h
    obtain rfl := Option.some.inj h
    exact hQ _ _ _ _ dX11_layOrders_199 hW
  · have h := in_h c_3 h
    refine lv_iconst (v := (0 : Int32)) hx hb dX11_layOrders_158 (by decide) ?_
    refine lv_istore (lv' := [(4, .int (0 : Int32)), (0, .ref a_this), (3, .int x3)]) hx hb dX11_layOrders_159 hl (Nat.le_of_ble_eq_true rfl) rfl (fun ls hl => ?_)
    exact wX11_layOrders_161_ x3 v_stones v_flat v_leastThick v_sights v_padMany v_acts v_pulled v_skyPull v_skyWhose v_badAct v_badWhy v_keptAt v_isWriting v_pay v_canLast v_deep v_fats v_fine v_hollow v_thick C hQ hk154 2000 (0 : Int32) v_mostPay h _ _ hW _ (lv_sub hl [1, 2, 0] rfl)
theorem wX11_layOrders_154_ {a_this a_thick a_hollow a_damp a_fresh a_pulls a_fats a_deep a_fine a_pay a_hair a_sightPicture a_sightPull a_sightShows a_pad a_act a_where a_much a_kindMany a_had a_leaves a_mostPay a_canLast a_leastMissed a_kept a_isKept : Nat} (v_stones : Int32) (v_flat : Int32) (v_leastThick : Int32) (v_sights : Int32) (v_padMany : Int32) (v_acts : Int32) (v_pulled : Int32) (v_skyPull : Int32) (v_skyWhose : Int32) (v_badAct : Int32) (v_badWhy : Int32) (v_keptAt : Int32) (v_isWriting : Int32) (v_pay : Nat → Int32) (v_canLast : Nat → Int32) (v_deep : Nat → Int32) (v_fats : Nat → Int32) (v_fine : Nat → Int32) (v_hollow : Nat → Int32) (v_thick : Nat → Int32) {res : (Nat → Int32) × (Nat → Int32)} (C : Cx p s m av meth c RX11 cX11_layOrders 6 none G cI cZ cO A) (hQ : RV p l e rX11_layOrders s m av below meth c G A cX11_layOrders Q (wX11_layOrders cI cZ a_this a_thick a_hollow a_damp a_fresh a_pulls a_fats a_deep a_fine a_pay a_hair a_sightPicture a_sightPull a_sightShows a_pad a_act a_where a_much a_kindMany a_had a_leaves a_mostPay a_canLast a_leastMissed a_kept a_isKept v_stones v_flat v_leastThick v_sights v_padMany v_acts v_pulled v_skyPull v_skyWhose v_badAct v_badWhy v_keptAt v_isWriting res.1 v_pay res.2 v_deep v_fats v_fine v_hollow v_thick)) : ∀ (n : Nat) (x3 : Int32) (v_mostPay : Nat → Int32), LX11_layOrders_154 v_pay v_canLast n x3 v_mostPay = some res → ∀ (H : Heap) (locs : List Loc), HW G A s (wX11_layOrders cI cZ a_this a_thick a_hollow a_damp a_fresh a_pulls a_fats a_deep a_fine a_pay a_hair a_sightPicture a_sightPull a_sightShows a_pad a_act a_where a_much a_kindMany a_had a_leaves a_mostPay a_canLast a_leastMissed a_kept a_isKept v_stones v_flat v_leastThick v_sights v_padMany v_acts v_pulled v_skyPull v_skyWhose v_badAct v_badWhy v_keptAt v_isWriting v_mostPay v_pay v_canLast v_deep v_fats v_fine v_hollow v_thick) H locs → ∀ ls : Array Slot, lv_has ls 6 [(0, .ref a_this), (3, .int x3)] → W p l e rX11_layOrders s m av below meth c H locs 0 0 Q (F0 m 154 ls []) := by
  intro n
  induction n with
  | zero => intro x3 v_mostPay h; cases h
  | succ n ih =>
    intro x3 v_mostPay h H locs hW ls hl
    exact uX11_layOrders_154 x3 v_stones v_flat v_leastThick v_sights v_padMany v_acts v_pulled v_skyPull v_skyWhose v_badAct v_badWhy v_keptAt v_isWriting v_mostPay v_pay v_canLast v_deep v_fats v_fine v_hollow v_thick C hQ (k154 := LX11_layOrders_154 v_pay v_canLast n) ih h H locs hW ls hl
set_option maxRecDepth 20000 in
theorem uX11_layOrders_128 {a_this a_thick a_hollow a_damp a_fresh a_pulls a_fats a_deep a_fine a_pay a_hair a_sightPicture a_sightPull a_sightShows a_pad a_act a_where a_much a_kindMany a_had a_leaves a_mostPay a_canLast a_leastMissed a_kept a_isKept : Nat} (x3 : Int32) (v_stones : Int32) (v_flat : Int32) (v_leastThick : Int32) (v_sights : Int32) (v_padMany : Int32) (v_acts : Int32) (v_pulled : Int32) (v_skyPull : Int32) (v_skyWhose : Int32) (v_badAct : Int32) (v_badWhy : Int32) (v_keptAt : Int32) (v_isWriting : Int32) (v_mostPay : Nat → Int32) (v_pay : Nat → Int32) (v_canLast : Nat → Int32) (v_deep : Nat → Int32) (v_fats : Nat → Int32) (v_fine : Nat → Int32) (v_hollow : Nat → Int32) (v_thick : Nat → Int32) {res : (Nat → Int32) × (Nat → Int32)} (C : Cx p s m av meth c RX11 cX11_layOrders 6 none G cI cZ cO A) (hQ : RV p l e rX11_layOrders s m av below meth c G A cX11_layOrders Q (wX11_layOrders cI cZ a_this a_thick a_hollow a_damp a_fresh a_pulls a_fats a_deep a_fine a_pay a_hair a_sightPicture a_sightPull a_sightShows a_pad a_act a_where a_much a_kindMany a_had a_leaves a_mostPay a_canLast a_leastMissed a_kept a_isKept v_stones v_flat v_leastThick v_sights v_padMany v_acts v_pulled v_skyPull v_skyWhose v_badAct v_badWhy v_keptAt v_isWriting res.1 v_pay res.2 v_deep v_fats v_fine v_hollow v_thick)) {k128 : (Int32) → (Nat → Int32) → Option ((Nat → Int32) × (Nat → Int32))} (hk128 : ∀ (x3 : Int32) (v_mostPay : Nat → Int32), k128 x3 v_mostPay = some res → ∀ (H : Heap) (locs : List Loc), HW G A s (wX11_layOrders cI cZ a_this a_thick a_hollow a_damp a_fresh a_pulls a_fats a_deep a_fine a_pay a_hair a_sightPicture a_sightPull a_sightShows a_pad a_act a_where a_much a_kindMany a_had a_leaves a_mostPay a_canLast a_leastMissed a_kept a_isKept v_stones v_flat v_leastThick v_sights v_padMany v_acts v_pulled v_skyPull v_skyWhose v_badAct v_badWhy v_keptAt v_isWriting v_mostPay v_pay v_canLast v_deep v_fats v_fine v_hollow v_thick) H locs → ∀ ls : Array Slot, lv_has ls 6 [(0, .ref a_this), (3, .int x3)] → W p l e rX11_layOrders s m av below meth c H locs 0 0 Q (F0 m 128 ls [])) (h : FX11_layOrders_128 v_pay v_canLast k128 x3 v_mostPay = some res) (H : Heap) (locs : List Loc) (hW : HW G A s (wX11_layOrders cI cZ a_this a_thick a_hollow a_damp a_fresh a_pulls a_fats a_deep a_fine a_pay a_hair a_sightPicture a_sightPull a_sightShows a_pad a_act a_where a_much a_kindMany a_had a_leaves a_mostPay a_canLast a_leastMissed a_kept a_isKept v_stones v_flat v_leastThick v_sights v_padMany v_acts v_pulled v_skyPull v_skyWhose v_badAct v_badWhy v_keptAt v_isWriting v_mostPay v_pay v_canLast v_deep v_fats v_fine v_hollow v_thick) H locs) (ls : Array Slot) (hl : lv_has ls 6 [(0, .ref a_this), (3, .int x3)]) : W p l e rX11_layOrders s m av below meth c H locs 0 0 Q (F0 m 128 ls []) := by
  have hx := C.1
  have hb := C.2.1
  unfold FX11_layOrders_128 at h
  refine lv_iload_n hx hb dX11_layOrders_128 rfl (lv_at hl 1 rfl) ?_
  refine lv_bipush (v := (32 : Int32)) hx hb dX11_layOrders_129 (by decide) ?_
  refine lv_icmp_ge (tgt := 151) hx hb dX11_layOrders_131 (by decide) (fun c_2 => ?_) (fun c_2 => ?_)
  · have h := ip_h c_2 h
    refine lv_bipush (v := (7 : Int32)) hx hb dX11_layOrders_151 (by decide) ?_
    refine lv_istore_n (lv' := [(3, .int (7 : Int32)), (0, .ref a_this)]) hx hb dX11_layOrders_153 rfl hl (Nat.le_of_ble_eq_true rfl) rfl (fun ls hl => ?_)
    exact wX11_layOrders_154_ v_stones v_flat v_leastThick v_sights v_padMany v_acts v_pulled v_skyPull v_skyWhose v_badAct v_badWhy v_keptAt v_isWriting v_pay v_canLast v_deep v_fats v_fine v_hollow v_thick C hQ 2000 (7 : Int32) v_mostPay h _ _ hW _ (lv_sub hl [1, 0] rfl)
  · have h := in_h c_2 h
    refine lv_aload_n hx hb dX11_layOrders_134 rfl (lv_at hl 0 rfl) ?_
    refine getW C fl_RX11_70 hW 0 rfl rfl dX11_layOrders_135 ?_
    refine lv_sipush (v := (256 : Int32)) hx hb dX11_layOrders_138 (by decide) ?_
    refine lv_iload_n hx hb dX11_layOrders_141 rfl (lv_at hl 1 rfl) ?_
    refine lv_iadd hx hb dX11_layOrders_142 ?_
    refine lv_iconst (v := (0 : Int32)) hx hb dX11_layOrders_143 (by decide) ?_
    obtain ⟨g_9, h⟩ := gd_h h
    refine iastW C hW 1 rfl g_9 dX11_layOrders_144 (fun H locs hW => ?_)
    have hW : HW G A s (wX11_layOrders cI cZ a_this a_thick a_hollow a_damp a_fresh a_pulls a_fats a_deep a_fine a_pay a_hair a_sightPicture a_sightPull a_sightShows a_pad a_act a_where a_much a_kindMany a_had a_leaves a_mostPay a_canLast a_leastMissed a_kept a_isKept v_stones v_flat v_leastThick v_sights v_padMany v_acts v_pulled v_skyPull v_skyWhose v_badAct v_badWhy v_keptAt v_isWriting (upd v_mostPay (Int32.toNatClampNeg ((256 : Int32) + x3)) (0 : Int32)) v_pay v_canLast v_deep v_fats v_fine v_hollow v_thick) H locs := hW
    obtain ⟨v_10, ev_10⟩ : ∃ y : Int32, y = x3 + (1 : Int32) := ⟨_, rfl⟩
    have h := lt_h ev_10 h
    refine lv_iinc (v := v_10) (lv' := [(3, .int v_10), (0, .ref a_this)]) hx hb dX11_layOrders_145 hl (k := 1) rfl (by rw [ev_10]; rfl) (Nat.le_of_ble_eq_true rfl) rfl (fun ls hl => ?_)
    refine lv_goto (tgt := 128) hx hb dX11_layOrders_148 (by decide) ?_
    exact hk128 v_10 (upd v_mostPay (Int32.toNatClampNeg ((256 : Int32) + x3)) (0 : Int32)) h _ _ hW _ (lv_sub hl [1, 0] rfl)
theorem wX11_layOrders_128_ {a_this a_thick a_hollow a_damp a_fresh a_pulls a_fats a_deep a_fine a_pay a_hair a_sightPicture a_sightPull a_sightShows a_pad a_act a_where a_much a_kindMany a_had a_leaves a_mostPay a_canLast a_leastMissed a_kept a_isKept : Nat} (v_stones : Int32) (v_flat : Int32) (v_leastThick : Int32) (v_sights : Int32) (v_padMany : Int32) (v_acts : Int32) (v_pulled : Int32) (v_skyPull : Int32) (v_skyWhose : Int32) (v_badAct : Int32) (v_badWhy : Int32) (v_keptAt : Int32) (v_isWriting : Int32) (v_pay : Nat → Int32) (v_canLast : Nat → Int32) (v_deep : Nat → Int32) (v_fats : Nat → Int32) (v_fine : Nat → Int32) (v_hollow : Nat → Int32) (v_thick : Nat → Int32) {res : (Nat → Int32) × (Nat → Int32)} (C : Cx p s m av meth c RX11 cX11_layOrders 6 none G cI cZ cO A) (hQ : RV p l e rX11_layOrders s m av below meth c G A cX11_layOrders Q (wX11_layOrders cI cZ a_this a_thick a_hollow a_damp a_fresh a_pulls a_fats a_deep a_fine a_pay a_hair a_sightPicture a_sightPull a_sightShows a_pad a_act a_where a_much a_kindMany a_had a_leaves a_mostPay a_canLast a_leastMissed a_kept a_isKept v_stones v_flat v_leastThick v_sights v_padMany v_acts v_pulled v_skyPull v_skyWhose v_badAct v_badWhy v_keptAt v_isWriting res.1 v_pay res.2 v_deep v_fats v_fine v_hollow v_thick)) : ∀ (n : Nat) (x3 : Int32) (v_mostPay : Nat → Int32), LX11_layOrders_128 v_pay v_canLast n x3 v_mostPay = some res → ∀ (H : Heap) (locs : List Loc), HW G A s (wX11_layOrders cI cZ a_this a_thick a_hollow a_damp a_fresh a_pulls a_fats a_deep a_fine a_pay a_hair a_sightPicture a_sightPull a_sightShows a_pad a_act a_where a_much a_kindMany a_had a_leaves a_mostPay a_canLast a_leastMissed a_kept a_isKept v_stones v_flat v_leastThick v_sights v_padMany v_acts v_pulled v_skyPull v_skyWhose v_badAct v_badWhy v_keptAt v_isWriting v_mostPay v_pay v_canLast v_deep v_fats v_fine v_hollow v_thick) H locs → ∀ ls : Array Slot, lv_has ls 6 [(0, .ref a_this), (3, .int x3)] → W p l e rX11_layOrders s m av below meth c H locs 0 0 Q (F0 m 128 ls []) := by
  intro n
  induction n with
  | zero => intro x3 v_mostPay h; cases h
  | succ n ih =>
    intro x3 v_mostPay h H locs hW ls hl
    exact uX11_layOrders_128 x3 v_stones v_flat v_leastThick v_sights v_padMany v_acts v_pulled v_skyPull v_skyWhose v_badAct v_badWhy v_keptAt v_isWriting v_mostPay v_pay v_canLast v_deep v_fats v_fine v_hollow v_thick C hQ (k128 := LX11_layOrders_128 v_pay v_canLast n) ih h H locs hW ls hl
set_option maxRecDepth 20000 in
theorem uX11_layOrders_68 {a_this a_thick a_hollow a_damp a_fresh a_pulls a_fats a_deep a_fine a_pay a_hair a_sightPicture a_sightPull a_sightShows a_pad a_act a_where a_much a_kindMany a_had a_leaves a_mostPay a_canLast a_leastMissed a_kept a_isKept : Nat} (x1 : Int32) (x2 : Int32) (x3 : Int32) (x4 : Int32) (s0 : Int32) (v_stones : Int32) (v_flat : Int32) (v_leastThick : Int32) (v_sights : Int32) (v_padMany : Int32) (v_acts : Int32) (v_pulled : Int32) (v_skyPull : Int32) (v_skyWhose : Int32) (v_badAct : Int32) (v_badWhy : Int32) (v_keptAt : Int32) (v_isWriting : Int32) (v_mostPay : Nat → Int32) (v_pay : Nat → Int32) (v_canLast : Nat → Int32) (v_deep : Nat → Int32) (v_fats : Nat → Int32) (v_fine : Nat → Int32) (v_hollow : Nat → Int32) (v_thick : Nat → Int32) {res : (Nat → Int32) × (Nat → Int32)} (C : Cx p s m av meth c RX11 cX11_layOrders 6 none G cI cZ cO A) (hQ : RV p l e rX11_layOrders s m av below meth c G A cX11_layOrders Q (wX11_layOrders cI cZ a_this a_thick a_hollow a_damp a_fresh a_pulls a_fats a_deep a_fine a_pay a_hair a_sightPicture a_sightPull a_sightShows a_pad a_act a_where a_much a_kindMany a_had a_leaves a_mostPay a_canLast a_leastMissed a_kept a_isKept v_stones v_flat v_leastThick v_sights v_padMany v_acts v_pulled v_skyPull v_skyWhose v_badAct v_badWhy v_keptAt v_isWriting res.1 v_pay res.2 v_deep v_fats v_fine v_hollow v_thick)) {k11 : (Int32) → (Nat → Int32) → Option ((Nat → Int32) × (Nat → Int32))} (hk11 : ∀ (x4 : Int32) (v_canLast : Nat → Int32), k11 x4 v_canLast = some res → ∀ (H : Heap) (locs : List Loc), HW G A s (wX11_layOrders cI cZ a_this a_thick a_hollow a_damp a_fresh a_pulls a_fats a_deep a_fine a_pay a_hair a_sightPicture a_sightPull a_sightShows a_pad a_act a_where a_much a_kindMany a_had a_leaves a_mostPay a_canLast a_leastMissed a_kept a_isKept v_stones v_flat v_leastThick v_sights v_padMany v_acts v_pulled v_skyPull v_skyWhose v_badAct v_badWhy v_keptAt v_isWriting v_mostPay v_pay v_canLast v_deep v_fats v_fine v_hollow v_thick) H locs → ∀ ls : Array Slot, lv_has ls 6 [(0, .ref a_this), (1, .int x1), (2, .int x2), (3, .int x3), (4, .int x4)] → W p l e rX11_layOrders s m av below meth c H locs 0 0 Q (F0 m 11 ls [])) (h : fX11_layOrders_68 x2 x3 x4 s0 v_canLast v_deep v_fats v_fine k11 = some res) (H : Heap) (locs : List Loc) (hW : HW G A s (wX11_layOrders cI cZ a_this a_thick a_hollow a_damp a_fresh a_pulls a_fats a_deep a_fine a_pay a_hair a_sightPicture a_sightPull a_sightShows a_pad a_act a_where a_much a_kindMany a_had a_leaves a_mostPay a_canLast a_leastMissed a_kept a_isKept v_stones v_flat v_leastThick v_sights v_padMany v_acts v_pulled v_skyPull v_skyWhose v_badAct v_badWhy v_keptAt v_isWriting v_mostPay v_pay v_canLast v_deep v_fats v_fine v_hollow v_thick) H locs) (ls : Array Slot) (hl : lv_has ls 6 [(0, .ref a_this), (1, .int x1), (2, .int x2), (3, .int x3), (4, .int x4)]) : W p l e rX11_layOrders s m av below meth c H locs 0 0 Q (F0 m 68 ls [.int s0]) := by
  have hx := C.1
  have hb := C.2.1
  unfold fX11_layOrders_68 at h
  refine lv_istore (lv' := [(5, .int s0), (0, .ref a_this), (1, .int x1), (2, .int x2), (3, .int x3), (4, .int x4)]) hx hb dX11_layOrders_68 hl (Nat.le_of_ble_eq_true rfl) rfl (fun ls hl => ?_)
  refine lv_aload_n hx hb dX11_layOrders_70 rfl (lv_at hl 1 rfl) ?_
  refine getW C fl_RX11_73 hW 0 rfl rfl dX11_layOrders_71 ?_
  refine lv_iload hx hb dX11_layOrders_74 (lv_at hl 5 rfl) ?_
  refine lv_iload_n hx hb dX11_layOrders_76 rfl (lv_at hl 4 rfl) ?_
  refine callSI0 C lk_RX11_110 (ctX11_at x4 x3 rfl) hW hl rfl ⟨rfl, rfl⟩ ⟨(Nat.le_of_ble_eq_true rfl), (Nat.le_of_ble_eq_true rfl)⟩ ⟨Nat.zero_le _, Nat.zero_le _⟩ rfl (Nat.le_of_ble_eq_true rfl) dX11_layOrders_77 (fun H locs hW => ?_)
  refine lv_iload hx hb dX11_layOrders_80 (lv_at hl 0 rfl) ?_
  refine lv_if_eq (tgt := 112) hx hb dX11_layOrders_82 (by decide) (fun c_14 => ?_) (fun c_14 => ?_)
  · have h := ip_h c_14 h
    refine lv_iconst (v := (0 : Int32)) hx hb dX11_layOrders_112 (by decide) ?_
    obtain ⟨g_15, h⟩ := gd_h h
    refine zastW C hW 3 rfl g_15 dX11_layOrders_113 (fun H locs hW => ?_)
    have hW : HW G A s (wX11_layOrders cI cZ a_this a_thick a_hollow a_damp a_fresh a_pulls a_fats a_deep a_fine a_pay a_hair a_sightPicture a_sightPull a_sightShows a_pad a_act a_where a_much a_kindMany a_had a_leaves a_mostPay a_canLast a_leastMissed a_kept a_isKept v_stones v_flat v_leastThick v_sights v_padMany v_acts v_pulled v_skyPull v_skyWhose v_badAct v_badWhy v_keptAt v_isWriting v_mostPay v_pay (upd v_canLast (Int32.toNatClampNeg (fX11_at x4 x3)) (vp_nar .boolean (0 : Int32))) v_deep v_fats v_fine v_hollow v_thick) H locs := hW
    obtain ⟨v_16, ev_16⟩ : ∃ y : Int32, y = x4 + (1 : Int32) := ⟨_, rfl⟩
    have h := lt_h ev_16 h
    refine lv_iinc (v := v_16) (lv' := [(4, .int v_16), (5, .int s0), (0, .ref a_this), (1, .int x1), (2, .int x2), (3, .int x3)]) hx hb dX11_layOrders_114 hl (k := 5) rfl (by rw [ev_16]; rfl) (Nat.le_of_ble_eq_true rfl) rfl (fun ls hl => ?_)
    refine lv_goto (tgt := 11) hx hb dX11_layOrders_117 (by decide) ?_
    exact hk11 v_16 (upd v_canLast (Int32.toNatClampNeg (fX11_at x4 x3)) (vp_nar .boolean (0 : Int32))) h _ _ hW _ (lv_sub hl [2, 3, 4, 5, 0] rfl)
  · have h := in_h c_14 h
    refine lv_aload_n hx hb dX11_layOrders_85 rfl (lv_at hl 1 rfl) ?_
    refine lv_iload_n hx hb dX11_layOrders_86 rfl (lv_at hl 4 rfl) ?_
    refine lv_aload_n hx hb dX11_layOrders_87 rfl (lv_at hl 1 rfl) ?_
    refine getW C fl_RX11_28 hW 0 rfl rfl dX11_layOrders_88 ?_
    refine lv_iload_n hx hb dX11_layOrders_91 rfl (lv_at hl 4 rfl) ?_
    obtain ⟨g_17, h⟩ := gd_h h
    refine ialdW C hW 4 rfl g_17 dX11_layOrders_92 ?_
    refine lv_iconst (v := (0 : Int32)) hx hb dX11_layOrders_93 (by decide) ?_
    refine lv_aload_n hx hb dX11_layOrders_94 rfl (lv_at hl 1 rfl) ?_
    refine lv_iload hx hb dX11_layOrders_95 (lv_at hl 5 rfl) ?_
    refine lv_iload_n hx hb dX11_layOrders_97 rfl (lv_at hl 4 rfl) ?_
    obtain ⟨v_18, hv_18, h⟩ := bd_h h
    refine callVIr [0, 5] C lk_RX11_175 (ctX11_ghostFat a_this a_thick a_hollow a_damp a_fresh a_pulls a_fats a_deep a_fine a_pay a_hair a_sightPicture a_sightPull a_sightShows a_pad a_act a_where a_much a_kindMany a_had a_leaves a_mostPay a_canLast a_leastMissed a_kept a_isKept x4 x3 v_stones v_flat v_leastThick v_sights v_padMany v_acts v_pulled v_skyPull v_skyWhose v_badAct v_badWhy v_keptAt v_isWriting v_fats hv_18) hW hl 11 rfl rfl rfl rfl rfl ⟨rfl, rfl⟩ ⟨(Nat.le_of_ble_eq_true rfl), (Nat.le_of_ble_eq_true rfl)⟩ ⟨Nat.zero_le _, Nat.zero_le _⟩ rfl (Nat.le_of_ble_eq_true rfl) dX11_layOrders_98 (fun H locs hW => ?_)
    obtain ⟨v_19, hv_19, h⟩ := bd_h h
    refine callVIr [0, 6] C lk_RX11_230 (ctX11_lasts a_this a_thick a_hollow a_damp a_fresh a_pulls a_fats a_deep a_fine a_pay a_hair a_sightPicture a_sightPull a_sightShows a_pad a_act a_where a_much a_kindMany a_had a_leaves a_mostPay a_canLast a_leastMissed a_kept a_isKept x3 (v_deep (Int32.toNatClampNeg x3)) (0 : Int32) v_18 v_stones v_flat v_leastThick v_sights v_padMany v_acts v_pulled v_skyPull v_skyWhose v_badAct v_badWhy v_keptAt v_isWriting v_fine hv_19) hW hl 11 rfl rfl rfl rfl rfl ⟨rfl, rfl⟩ ⟨(Nat.le_of_ble_eq_true rfl), (Nat.le_of_ble_eq_true rfl)⟩ ⟨Nat.zero_le _, Nat.zero_le _⟩ rfl (Nat.le_of_ble_eq_true rfl) dX11_layOrders_101 (fun H locs hW => ?_)
    refine lv_iload_n hx hb dX11_layOrders_104 rfl (lv_at hl 3 rfl) ?_
    refine lv_icmp_lt (tgt := 112) hx hb dX11_layOrders_105 (by decide) (fun c_20 => ?_) (fun c_20 => ?_)
    · have h := ip_h c_20 h
      refine lv_iconst (v := (0 : Int32)) hx hb dX11_layOrders_112 (by decide) ?_
      obtain ⟨g_21, h⟩ := gd_h h
      refine zastW C hW 3 rfl g_21 dX11_layOrders_113 (fun H locs hW => ?_)
      have hW : HW G A s (wX11_layOrders cI cZ a_this a_thick a_hollow a_damp a_fresh a_pulls a_fats a_deep a_fine a_pay a_hair a_sightPicture a_sightPull a_sightShows a_pad a_act a_where a_much a_kindMany a_had a_leaves a_mostPay a_canLast a_leastMissed a_kept a_isKept v_stones v_flat v_leastThick v_sights v_padMany v_acts v_pulled v_skyPull v_skyWhose v_badAct v_badWhy v_keptAt v_isWriting v_mostPay v_pay (upd v_canLast (Int32.toNatClampNeg (fX11_at x4 x3)) (vp_nar .boolean (0 : Int32))) v_deep v_fats v_fine v_hollow v_thick) H locs := hW
      obtain ⟨v_22, ev_22⟩ : ∃ y : Int32, y = x4 + (1 : Int32) := ⟨_, rfl⟩
      have h := lt_h ev_22 h
      refine lv_iinc (v := v_22) (lv' := [(4, .int v_22), (5, .int s0), (0, .ref a_this), (1, .int x1), (2, .int x2), (3, .int x3)]) hx hb dX11_layOrders_114 hl (k := 5) rfl (by rw [ev_22]; rfl) (Nat.le_of_ble_eq_true rfl) rfl (fun ls hl => ?_)
      refine lv_goto (tgt := 11) hx hb dX11_layOrders_117 (by decide) ?_
      exact hk11 v_22 (upd v_canLast (Int32.toNatClampNeg (fX11_at x4 x3)) (vp_nar .boolean (0 : Int32))) h _ _ hW _ (lv_sub hl [2, 3, 4, 5, 0] rfl)
    · have h := in_h c_20 h
      refine lv_iconst (v := (1 : Int32)) hx hb dX11_layOrders_108 (by decide) ?_
      refine lv_goto (tgt := 113) hx hb dX11_layOrders_109 (by decide) ?_
      obtain ⟨g_23, h⟩ := gd_h h
      refine zastW C hW 3 rfl g_23 dX11_layOrders_113 (fun H locs hW => ?_)
      have hW : HW G A s (wX11_layOrders cI cZ a_this a_thick a_hollow a_damp a_fresh a_pulls a_fats a_deep a_fine a_pay a_hair a_sightPicture a_sightPull a_sightShows a_pad a_act a_where a_much a_kindMany a_had a_leaves a_mostPay a_canLast a_leastMissed a_kept a_isKept v_stones v_flat v_leastThick v_sights v_padMany v_acts v_pulled v_skyPull v_skyWhose v_badAct v_badWhy v_keptAt v_isWriting v_mostPay v_pay (upd v_canLast (Int32.toNatClampNeg (fX11_at x4 x3)) (vp_nar .boolean (1 : Int32))) v_deep v_fats v_fine v_hollow v_thick) H locs := hW
      obtain ⟨v_24, ev_24⟩ : ∃ y : Int32, y = x4 + (1 : Int32) := ⟨_, rfl⟩
      have h := lt_h ev_24 h
      refine lv_iinc (v := v_24) (lv' := [(4, .int v_24), (5, .int s0), (0, .ref a_this), (1, .int x1), (2, .int x2), (3, .int x3)]) hx hb dX11_layOrders_114 hl (k := 5) rfl (by rw [ev_24]; rfl) (Nat.le_of_ble_eq_true rfl) rfl (fun ls hl => ?_)
      refine lv_goto (tgt := 11) hx hb dX11_layOrders_117 (by decide) ?_
      exact hk11 v_24 (upd v_canLast (Int32.toNatClampNeg (fX11_at x4 x3)) (vp_nar .boolean (1 : Int32))) h _ _ hW _ (lv_sub hl [2, 3, 4, 5, 0] rfl)
set_option maxRecDepth 20000 in
theorem uX11_layOrders_11 {a_this a_thick a_hollow a_damp a_fresh a_pulls a_fats a_deep a_fine a_pay a_hair a_sightPicture a_sightPull a_sightShows a_pad a_act a_where a_much a_kindMany a_had a_leaves a_mostPay a_canLast a_leastMissed a_kept a_isKept : Nat} (x1 : Int32) (x2 : Int32) (x3 : Int32) (x4 : Int32) (v_stones : Int32) (v_flat : Int32) (v_leastThick : Int32) (v_sights : Int32) (v_padMany : Int32) (v_acts : Int32) (v_pulled : Int32) (v_skyPull : Int32) (v_skyWhose : Int32) (v_badAct : Int32) (v_badWhy : Int32) (v_keptAt : Int32) (v_isWriting : Int32) (v_mostPay : Nat → Int32) (v_pay : Nat → Int32) (v_canLast : Nat → Int32) (v_deep : Nat → Int32) (v_fats : Nat → Int32) (v_fine : Nat → Int32) (v_hollow : Nat → Int32) (v_thick : Nat → Int32) {res : (Nat → Int32) × (Nat → Int32)} (C : Cx p s m av meth c RX11 cX11_layOrders 6 none G cI cZ cO A) (hQ : RV p l e rX11_layOrders s m av below meth c G A cX11_layOrders Q (wX11_layOrders cI cZ a_this a_thick a_hollow a_damp a_fresh a_pulls a_fats a_deep a_fine a_pay a_hair a_sightPicture a_sightPull a_sightShows a_pad a_act a_where a_much a_kindMany a_had a_leaves a_mostPay a_canLast a_leastMissed a_kept a_isKept v_stones v_flat v_leastThick v_sights v_padMany v_acts v_pulled v_skyPull v_skyWhose v_badAct v_badWhy v_keptAt v_isWriting res.1 v_pay res.2 v_deep v_fats v_fine v_hollow v_thick)) {k2 : (Int32) → (Nat → Int32) → Option ((Nat → Int32) × (Nat → Int32))} {k11 : (Int32) → (Nat → Int32) → Option ((Nat → Int32) × (Nat → Int32))} (hk2 : ∀ (x3 : Int32) (v_canLast : Nat → Int32), k2 x3 v_canLast = some res → ∀ (H : Heap) (locs : List Loc), HW G A s (wX11_layOrders cI cZ a_this a_thick a_hollow a_damp a_fresh a_pulls a_fats a_deep a_fine a_pay a_hair a_sightPicture a_sightPull a_sightShows a_pad a_act a_where a_much a_kindMany a_had a_leaves a_mostPay a_canLast a_leastMissed a_kept a_isKept v_stones v_flat v_leastThick v_sights v_padMany v_acts v_pulled v_skyPull v_skyWhose v_badAct v_badWhy v_keptAt v_isWriting v_mostPay v_pay v_canLast v_deep v_fats v_fine v_hollow v_thick) H locs → ∀ ls : Array Slot, lv_has ls 6 [(0, .ref a_this), (1, .int x1), (2, .int x2), (3, .int x3)] → W p l e rX11_layOrders s m av below meth c H locs 0 0 Q (F0 m 2 ls [])) (hk11 : ∀ (x4 : Int32) (v_canLast : Nat → Int32), k11 x4 v_canLast = some res → ∀ (H : Heap) (locs : List Loc), HW G A s (wX11_layOrders cI cZ a_this a_thick a_hollow a_damp a_fresh a_pulls a_fats a_deep a_fine a_pay a_hair a_sightPicture a_sightPull a_sightShows a_pad a_act a_where a_much a_kindMany a_had a_leaves a_mostPay a_canLast a_leastMissed a_kept a_isKept v_stones v_flat v_leastThick v_sights v_padMany v_acts v_pulled v_skyPull v_skyWhose v_badAct v_badWhy v_keptAt v_isWriting v_mostPay v_pay v_canLast v_deep v_fats v_fine v_hollow v_thick) H locs → ∀ ls : Array Slot, lv_has ls 6 [(0, .ref a_this), (1, .int x1), (2, .int x2), (3, .int x3), (4, .int x4)] → W p l e rX11_layOrders s m av below meth c H locs 0 0 Q (F0 m 11 ls [])) (h : FX11_layOrders_11 x1 x2 x3 v_stones v_flat v_leastThick v_deep v_fats v_fine v_hollow v_thick k2 k11 x4 v_canLast = some res) (H : Heap) (locs : List Loc) (hW : HW G A s (wX11_layOrders cI cZ a_this a_thick a_hollow a_damp a_fresh a_pulls a_fats a_deep a_fine a_pay a_hair a_sightPicture a_sightPull a_sightShows a_pad a_act a_where a_much a_kindMany a_had a_leaves a_mostPay a_canLast a_leastMissed a_kept a_isKept v_stones v_flat v_leastThick v_sights v_padMany v_acts v_pulled v_skyPull v_skyWhose v_badAct v_badWhy v_keptAt v_isWriting v_mostPay v_pay v_canLast v_deep v_fats v_fine v_hollow v_thick) H locs) (ls : Array Slot) (hl : lv_has ls 6 [(0, .ref a_this), (1, .int x1), (2, .int x2), (3, .int x3), (4, .int x4)]) : W p l e rX11_layOrders s m av below meth c H locs 0 0 Q (F0 m 11 ls []) := by
  have hx := C.1
  have hb := C.2.1
  unfold FX11_layOrders_11 at h
  refine lv_iload hx hb dX11_layOrders_11 (lv_at hl 4 rfl) ?_
  refine lv_iconst (v := (5 : Int32)) hx hb dX11_layOrders_13 (by decide) ?_
  refine lv_icmp_ge (tgt := 120) hx hb dX11_layOrders_14 (by decide) (fun c_11 => ?_) (fun c_11 => ?_)
  · have h := ip_h c_11 h
    obtain ⟨v_12, ev_12⟩ : ∃ y : Int32, y = x3 + (1 : Int32) := ⟨_, rfl⟩
    have h := lt_h ev_12 h
    refine lv_iinc (v := v_12) (lv' := [(3, .int v_12), (0, .ref a_this), (1, .int x1), (2, .int x2), (4, .int x4)]) hx hb dX11_layOrders_120 hl (k := 3) rfl (by rw [ev_12]; rfl) (Nat.le_of_ble_eq_true rfl) rfl (fun ls hl => ?_)
    refine lv_goto (tgt := 2) hx hb dX11_layOrders_123 (by decide) ?_
    exact hk2 v_12 v_canLast h _ _ hW _ (lv_sub hl [1, 2, 3, 0] rfl)
  · have h := in_h c_11 h
    refine lv_iload_n hx hb dX11_layOrders_17 rfl (lv_at hl 1 rfl) ?_
    refine lv_iload_n hx hb dX11_layOrders_18 rfl (lv_at hl 3 rfl) ?_
    refine lv_ishr hx hb dX11_layOrders_19 ?_
    refine lv_iconst (v := (1 : Int32)) hx hb dX11_layOrders_20 (by decide) ?_
    refine lv_iand hx hb dX11_layOrders_21 ?_
    refine lv_iconst (v := (1 : Int32)) hx hb dX11_layOrders_22 (by decide) ?_
    refine lv_icmp_ne (tgt := 67) hx hb dX11_layOrders_23 (by decide) (fun c_13 => ?_) (fun c_13 => ?_)
    · have h := in_h c_13 h
      refine lv_iconst (v := (0 : Int32)) hx hb dX11_layOrders_67 (by decide) ?_
      exact uX11_layOrders_68 x1 x2 x3 x4 (0 : Int32) v_stones v_flat v_leastThick v_sights v_padMany v_acts v_pulled v_skyPull v_skyWhose v_badAct v_badWhy v_keptAt v_isWriting v_mostPay v_pay v_canLast v_deep v_fats v_fine v_hollow v_thick C hQ hk11 h _ _ hW _ (lv_sub hl [0, 1, 2, 3, 4] rfl)
    · have h := ip_h c_13 h
      refine lv_aload_n hx hb dX11_layOrders_26 rfl (lv_at hl 0 rfl) ?_
      refine lv_iload hx hb dX11_layOrders_27 (lv_at hl 4 rfl) ?_
      refine callVIr [0] C lk_RX11_118 (ctX11_isStone a_this a_thick a_hollow a_damp a_fresh a_pulls a_fats a_deep a_fine a_pay a_hair a_sightPicture a_sightPull a_sightShows a_pad a_act a_where a_much a_kindMany a_had a_leaves a_mostPay a_canLast a_leastMissed a_kept a_isKept x4 v_stones v_flat v_leastThick v_sights v_padMany v_acts v_pulled v_skyPull v_skyWhose v_badAct v_badWhy v_keptAt v_isWriting rfl) hW hl 11 rfl rfl rfl rfl rfl ⟨rfl, rfl⟩ ⟨(Nat.le_of_ble_eq_true rfl), (Nat.le_of_ble_eq_true rfl)⟩ ⟨Nat.zero_le _, Nat.zero_le _⟩ rfl (Nat.le_of_ble_eq_true rfl) dX11_layOrders_29 (fun H locs hW => ?_)
      refine lv_if_eq (tgt := 67) hx hb dX11_layOrders_32 (by decide) (fun c_25 => ?_) (fun c_25 => ?_)
      · have h := ip_h c_25 h
        refine lv_iconst (v := (0 : Int32)) hx hb dX11_layOrders_67 (by decide) ?_
        exact uX11_layOrders_68 x1 x2 x3 x4 (0 : Int32) v_stones v_flat v_leastThick v_sights v_padMany v_acts v_pulled v_skyPull v_skyWhose v_badAct v_badWhy v_keptAt v_isWriting v_mostPay v_pay v_canLast v_deep v_fats v_fine v_hollow v_thick C hQ hk11 h _ _ hW _ (lv_sub hl [0, 1, 2, 3, 4] rfl)
      · have h := in_h c_25 h
        refine lv_aload_n hx hb dX11_layOrders_35 rfl (lv_at hl 0 rfl) ?_
        refine getW C fl_RX11_13 hW 0 rfl rfl dX11_layOrders_36 ?_
        refine lv_iload hx hb dX11_layOrders_39 (lv_at hl 4 rfl) ?_
        obtain ⟨g_26, h⟩ := gd_h h
        refine ialdW C hW 7 rfl g_26 dX11_layOrders_41 ?_
        refine lv_aload_n hx hb dX11_layOrders_42 rfl (lv_at hl 0 rfl) ?_
        refine getW C fl_RX11_86 hW 0 rfl rfl dX11_layOrders_43 ?_
        refine lv_icmp_gt (tgt := 67) hx hb dX11_layOrders_46 (by decide) (fun c_27 => ?_) (fun c_27 => ?_)
        · have h := ip_h c_27 h
          refine lv_iconst (v := (0 : Int32)) hx hb dX11_layOrders_67 (by decide) ?_
          exact uX11_layOrders_68 x1 x2 x3 x4 (0 : Int32) v_stones v_flat v_leastThick v_sights v_padMany v_acts v_pulled v_skyPull v_skyWhose v_badAct v_badWhy v_keptAt v_isWriting v_mostPay v_pay v_canLast v_deep v_fats v_fine v_hollow v_thick C hQ hk11 h _ _ hW _ (lv_sub hl [0, 1, 2, 3, 4] rfl)
        · have h := in_h c_27 h
          refine lv_aload_n hx hb dX11_layOrders_49 rfl (lv_at hl 0 rfl) ?_
          refine getW C fl_RX11_7 hW 0 rfl rfl dX11_layOrders_50 ?_
          refine lv_iload hx hb dX11_layOrders_53 (lv_at hl 4 rfl) ?_
          refine ialdW C hW 8 rfl g_26 dX11_layOrders_55 ?_
          refine lv_aload_n hx hb dX11_layOrders_56 rfl (lv_at hl 0 rfl) ?_
          refine getW C fl_RX11_90 hW 0 rfl rfl dX11_layOrders_57 ?_
          refine lv_icmp_lt (tgt := 67) hx hb dX11_layOrders_60 (by decide) (fun c_28 => ?_) (fun c_28 => ?_)
          · have h := ip_h c_28 h
            refine lv_iconst (v := (0 : Int32)) hx hb dX11_layOrders_67 (by decide) ?_
            exact uX11_layOrders_68 x1 x2 x3 x4 (0 : Int32) v_stones v_flat v_leastThick v_sights v_padMany v_acts v_pulled v_skyPull v_skyWhose v_badAct v_badWhy v_keptAt v_isWriting v_mostPay v_pay v_canLast v_deep v_fats v_fine v_hollow v_thick C hQ hk11 h _ _ hW _ (lv_sub hl [0, 1, 2, 3, 4] rfl)
          · have h := in_h c_28 h
            refine lv_iconst (v := (1 : Int32)) hx hb dX11_layOrders_63 (by decide) ?_
            refine lv_goto (tgt := 68) hx hb dX11_layOrders_64 (by decide) ?_
            exact uX11_layOrders_68 x1 x2 x3 x4 (1 : Int32) v_stones v_flat v_leastThick v_sights v_padMany v_acts v_pulled v_skyPull v_skyWhose v_badAct v_badWhy v_keptAt v_isWriting v_mostPay v_pay v_canLast v_deep v_fats v_fine v_hollow v_thick C hQ hk11 h _ _ hW _ (lv_sub hl [0, 1, 2, 3, 4] rfl)
theorem wX11_layOrders_11_ {a_this a_thick a_hollow a_damp a_fresh a_pulls a_fats a_deep a_fine a_pay a_hair a_sightPicture a_sightPull a_sightShows a_pad a_act a_where a_much a_kindMany a_had a_leaves a_mostPay a_canLast a_leastMissed a_kept a_isKept : Nat} (x1 : Int32) (x2 : Int32) (x3 : Int32) (v_stones : Int32) (v_flat : Int32) (v_leastThick : Int32) (v_sights : Int32) (v_padMany : Int32) (v_acts : Int32) (v_pulled : Int32) (v_skyPull : Int32) (v_skyWhose : Int32) (v_badAct : Int32) (v_badWhy : Int32) (v_keptAt : Int32) (v_isWriting : Int32) (v_mostPay : Nat → Int32) (v_pay : Nat → Int32) (v_deep : Nat → Int32) (v_fats : Nat → Int32) (v_fine : Nat → Int32) (v_hollow : Nat → Int32) (v_thick : Nat → Int32) {res : (Nat → Int32) × (Nat → Int32)} (C : Cx p s m av meth c RX11 cX11_layOrders 6 none G cI cZ cO A) (hQ : RV p l e rX11_layOrders s m av below meth c G A cX11_layOrders Q (wX11_layOrders cI cZ a_this a_thick a_hollow a_damp a_fresh a_pulls a_fats a_deep a_fine a_pay a_hair a_sightPicture a_sightPull a_sightShows a_pad a_act a_where a_much a_kindMany a_had a_leaves a_mostPay a_canLast a_leastMissed a_kept a_isKept v_stones v_flat v_leastThick v_sights v_padMany v_acts v_pulled v_skyPull v_skyWhose v_badAct v_badWhy v_keptAt v_isWriting res.1 v_pay res.2 v_deep v_fats v_fine v_hollow v_thick)) {k2 : (Int32) → (Nat → Int32) → Option ((Nat → Int32) × (Nat → Int32))} (hk2 : ∀ (x3 : Int32) (v_canLast : Nat → Int32), k2 x3 v_canLast = some res → ∀ (H : Heap) (locs : List Loc), HW G A s (wX11_layOrders cI cZ a_this a_thick a_hollow a_damp a_fresh a_pulls a_fats a_deep a_fine a_pay a_hair a_sightPicture a_sightPull a_sightShows a_pad a_act a_where a_much a_kindMany a_had a_leaves a_mostPay a_canLast a_leastMissed a_kept a_isKept v_stones v_flat v_leastThick v_sights v_padMany v_acts v_pulled v_skyPull v_skyWhose v_badAct v_badWhy v_keptAt v_isWriting v_mostPay v_pay v_canLast v_deep v_fats v_fine v_hollow v_thick) H locs → ∀ ls : Array Slot, lv_has ls 6 [(0, .ref a_this), (1, .int x1), (2, .int x2), (3, .int x3)] → W p l e rX11_layOrders s m av below meth c H locs 0 0 Q (F0 m 2 ls [])) : ∀ (n : Nat) (x4 : Int32) (v_canLast : Nat → Int32), LX11_layOrders_11 x1 x2 x3 v_stones v_flat v_leastThick v_deep v_fats v_fine v_hollow v_thick k2 n x4 v_canLast = some res → ∀ (H : Heap) (locs : List Loc), HW G A s (wX11_layOrders cI cZ a_this a_thick a_hollow a_damp a_fresh a_pulls a_fats a_deep a_fine a_pay a_hair a_sightPicture a_sightPull a_sightShows a_pad a_act a_where a_much a_kindMany a_had a_leaves a_mostPay a_canLast a_leastMissed a_kept a_isKept v_stones v_flat v_leastThick v_sights v_padMany v_acts v_pulled v_skyPull v_skyWhose v_badAct v_badWhy v_keptAt v_isWriting v_mostPay v_pay v_canLast v_deep v_fats v_fine v_hollow v_thick) H locs → ∀ ls : Array Slot, lv_has ls 6 [(0, .ref a_this), (1, .int x1), (2, .int x2), (3, .int x3), (4, .int x4)] → W p l e rX11_layOrders s m av below meth c H locs 0 0 Q (F0 m 11 ls []) := by
  intro n
  induction n with
  | zero => intro x4 v_canLast h; cases h
  | succ n ih =>
    intro x4 v_canLast h H locs hW ls hl
    exact uX11_layOrders_11 x1 x2 x3 x4 v_stones v_flat v_leastThick v_sights v_padMany v_acts v_pulled v_skyPull v_skyWhose v_badAct v_badWhy v_keptAt v_isWriting v_mostPay v_pay v_canLast v_deep v_fats v_fine v_hollow v_thick C hQ hk2 (k11 := LX11_layOrders_11 x1 x2 x3 v_stones v_flat v_leastThick v_deep v_fats v_fine v_hollow v_thick k2 n) ih h H locs hW ls hl
set_option maxRecDepth 20000 in
theorem uX11_layOrders_2 {a_this a_thick a_hollow a_damp a_fresh a_pulls a_fats a_deep a_fine a_pay a_hair a_sightPicture a_sightPull a_sightShows a_pad a_act a_where a_much a_kindMany a_had a_leaves a_mostPay a_canLast a_leastMissed a_kept a_isKept : Nat} (x1 : Int32) (x2 : Int32) (x3 : Int32) (v_stones : Int32) (v_flat : Int32) (v_leastThick : Int32) (v_sights : Int32) (v_padMany : Int32) (v_acts : Int32) (v_pulled : Int32) (v_skyPull : Int32) (v_skyWhose : Int32) (v_badAct : Int32) (v_badWhy : Int32) (v_keptAt : Int32) (v_isWriting : Int32) (v_mostPay : Nat → Int32) (v_pay : Nat → Int32) (v_canLast : Nat → Int32) (v_deep : Nat → Int32) (v_fats : Nat → Int32) (v_fine : Nat → Int32) (v_hollow : Nat → Int32) (v_thick : Nat → Int32) {res : (Nat → Int32) × (Nat → Int32)} (C : Cx p s m av meth c RX11 cX11_layOrders 6 none G cI cZ cO A) (hQ : RV p l e rX11_layOrders s m av below meth c G A cX11_layOrders Q (wX11_layOrders cI cZ a_this a_thick a_hollow a_damp a_fresh a_pulls a_fats a_deep a_fine a_pay a_hair a_sightPicture a_sightPull a_sightShows a_pad a_act a_where a_much a_kindMany a_had a_leaves a_mostPay a_canLast a_leastMissed a_kept a_isKept v_stones v_flat v_leastThick v_sights v_padMany v_acts v_pulled v_skyPull v_skyWhose v_badAct v_badWhy v_keptAt v_isWriting res.1 v_pay res.2 v_deep v_fats v_fine v_hollow v_thick)) {k2 : (Int32) → (Nat → Int32) → Option ((Nat → Int32) × (Nat → Int32))} (hk2 : ∀ (x3 : Int32) (v_canLast : Nat → Int32), k2 x3 v_canLast = some res → ∀ (H : Heap) (locs : List Loc), HW G A s (wX11_layOrders cI cZ a_this a_thick a_hollow a_damp a_fresh a_pulls a_fats a_deep a_fine a_pay a_hair a_sightPicture a_sightPull a_sightShows a_pad a_act a_where a_much a_kindMany a_had a_leaves a_mostPay a_canLast a_leastMissed a_kept a_isKept v_stones v_flat v_leastThick v_sights v_padMany v_acts v_pulled v_skyPull v_skyWhose v_badAct v_badWhy v_keptAt v_isWriting v_mostPay v_pay v_canLast v_deep v_fats v_fine v_hollow v_thick) H locs → ∀ ls : Array Slot, lv_has ls 6 [(0, .ref a_this), (1, .int x1), (2, .int x2), (3, .int x3)] → W p l e rX11_layOrders s m av below meth c H locs 0 0 Q (F0 m 2 ls [])) (h : FX11_layOrders_2 x1 x2 v_stones v_flat v_leastThick v_mostPay v_pay v_deep v_fats v_fine v_hollow v_thick k2 x3 v_canLast = some res) (H : Heap) (locs : List Loc) (hW : HW G A s (wX11_layOrders cI cZ a_this a_thick a_hollow a_damp a_fresh a_pulls a_fats a_deep a_fine a_pay a_hair a_sightPicture a_sightPull a_sightShows a_pad a_act a_where a_much a_kindMany a_had a_leaves a_mostPay a_canLast a_leastMissed a_kept a_isKept v_stones v_flat v_leastThick v_sights v_padMany v_acts v_pulled v_skyPull v_skyWhose v_badAct v_badWhy v_keptAt v_isWriting v_mostPay v_pay v_canLast v_deep v_fats v_fine v_hollow v_thick) H locs) (ls : Array Slot) (hl : lv_has ls 6 [(0, .ref a_this), (1, .int x1), (2, .int x2), (3, .int x3)]) : W p l e rX11_layOrders s m av below meth c H locs 0 0 Q (F0 m 2 ls []) := by
  have hx := C.1
  have hb := C.2.1
  unfold FX11_layOrders_2 at h
  refine lv_iload_n hx hb dX11_layOrders_2 rfl (lv_at hl 3 rfl) ?_
  refine lv_bipush (v := (8 : Int32)) hx hb dX11_layOrders_3 (by decide) ?_
  refine lv_icmp_ge (tgt := 126) hx hb dX11_layOrders_5 (by decide) (fun c_1 => ?_) (fun c_1 => ?_)
  · have h := ip_h c_1 h
    refine lv_iconst (v := (0 : Int32)) hx hb dX11_layOrders_126 (by decide) ?_
    refine lv_istore_n (lv' := [(3, .int (0 : Int32)), (0, .ref a_this), (1, .int x1), (2, .int x2)]) hx hb dX11_layOrders_127 rfl hl (Nat.le_of_ble_eq_true rfl) rfl (fun ls hl => ?_)
    exact wX11_layOrders_128_ v_stones v_flat v_leastThick v_sights v_padMany v_acts v_pulled v_skyPull v_skyWhose v_badAct v_badWhy v_keptAt v_isWriting v_pay v_canLast v_deep v_fats v_fine v_hollow v_thick C hQ 2000 (0 : Int32) v_mostPay h _ _ hW _ (lv_sub hl [1, 0] rfl)
  · have h := in_h c_1 h
    refine lv_iconst (v := (0 : Int32)) hx hb dX11_layOrders_8 (by decide) ?_
    refine lv_istore (lv' := [(4, .int (0 : Int32)), (0, .ref a_this), (1, .int x1), (2, .int x2), (3, .int x3)]) hx hb dX11_layOrders_9 hl (Nat.le_of_ble_eq_true rfl) rfl (fun ls hl => ?_)
    exact wX11_layOrders_11_ x1 x2 x3 v_stones v_flat v_leastThick v_sights v_padMany v_acts v_pulled v_skyPull v_skyWhose v_badAct v_badWhy v_keptAt v_isWriting v_mostPay v_pay v_deep v_fats v_fine v_hollow v_thick C hQ hk2 2000 (0 : Int32) v_canLast h _ _ hW _ (lv_sub hl [1, 2, 3, 4, 0] rfl)
theorem wX11_layOrders_2_ {a_this a_thick a_hollow a_damp a_fresh a_pulls a_fats a_deep a_fine a_pay a_hair a_sightPicture a_sightPull a_sightShows a_pad a_act a_where a_much a_kindMany a_had a_leaves a_mostPay a_canLast a_leastMissed a_kept a_isKept : Nat} (x1 : Int32) (x2 : Int32) (v_stones : Int32) (v_flat : Int32) (v_leastThick : Int32) (v_sights : Int32) (v_padMany : Int32) (v_acts : Int32) (v_pulled : Int32) (v_skyPull : Int32) (v_skyWhose : Int32) (v_badAct : Int32) (v_badWhy : Int32) (v_keptAt : Int32) (v_isWriting : Int32) (v_mostPay : Nat → Int32) (v_pay : Nat → Int32) (v_deep : Nat → Int32) (v_fats : Nat → Int32) (v_fine : Nat → Int32) (v_hollow : Nat → Int32) (v_thick : Nat → Int32) {res : (Nat → Int32) × (Nat → Int32)} (C : Cx p s m av meth c RX11 cX11_layOrders 6 none G cI cZ cO A) (hQ : RV p l e rX11_layOrders s m av below meth c G A cX11_layOrders Q (wX11_layOrders cI cZ a_this a_thick a_hollow a_damp a_fresh a_pulls a_fats a_deep a_fine a_pay a_hair a_sightPicture a_sightPull a_sightShows a_pad a_act a_where a_much a_kindMany a_had a_leaves a_mostPay a_canLast a_leastMissed a_kept a_isKept v_stones v_flat v_leastThick v_sights v_padMany v_acts v_pulled v_skyPull v_skyWhose v_badAct v_badWhy v_keptAt v_isWriting res.1 v_pay res.2 v_deep v_fats v_fine v_hollow v_thick)) : ∀ (n : Nat) (x3 : Int32) (v_canLast : Nat → Int32), LX11_layOrders_2 x1 x2 v_stones v_flat v_leastThick v_mostPay v_pay v_deep v_fats v_fine v_hollow v_thick n x3 v_canLast = some res → ∀ (H : Heap) (locs : List Loc), HW G A s (wX11_layOrders cI cZ a_this a_thick a_hollow a_damp a_fresh a_pulls a_fats a_deep a_fine a_pay a_hair a_sightPicture a_sightPull a_sightShows a_pad a_act a_where a_much a_kindMany a_had a_leaves a_mostPay a_canLast a_leastMissed a_kept a_isKept v_stones v_flat v_leastThick v_sights v_padMany v_acts v_pulled v_skyPull v_skyWhose v_badAct v_badWhy v_keptAt v_isWriting v_mostPay v_pay v_canLast v_deep v_fats v_fine v_hollow v_thick) H locs → ∀ ls : Array Slot, lv_has ls 6 [(0, .ref a_this), (1, .int x1), (2, .int x2), (3, .int x3)] → W p l e rX11_layOrders s m av below meth c H locs 0 0 Q (F0 m 2 ls []) := by
  intro n
  induction n with
  | zero => intro x3 v_canLast h; cases h
  | succ n ih =>
    intro x3 v_canLast h H locs hW ls hl
    exact uX11_layOrders_2 x1 x2 x3 v_stones v_flat v_leastThick v_sights v_padMany v_acts v_pulled v_skyPull v_skyWhose v_badAct v_badWhy v_keptAt v_isWriting v_mostPay v_pay v_canLast v_deep v_fats v_fine v_hollow v_thick C hQ (k2 := LX11_layOrders_2 x1 x2 v_stones v_flat v_leastThick v_mostPay v_pay v_deep v_fats v_fine v_hollow v_thick n) ih h H locs hW ls hl
set_option maxRecDepth 20000 in
theorem uX11_layOrders_0 {a_this a_thick a_hollow a_damp a_fresh a_pulls a_fats a_deep a_fine a_pay a_hair a_sightPicture a_sightPull a_sightShows a_pad a_act a_where a_much a_kindMany a_had a_leaves a_mostPay a_canLast a_leastMissed a_kept a_isKept : Nat} (x1 : Int32) (x2 : Int32) (v_stones : Int32) (v_flat : Int32) (v_leastThick : Int32) (v_sights : Int32) (v_padMany : Int32) (v_acts : Int32) (v_pulled : Int32) (v_skyPull : Int32) (v_skyWhose : Int32) (v_badAct : Int32) (v_badWhy : Int32) (v_keptAt : Int32) (v_isWriting : Int32) (v_mostPay : Nat → Int32) (v_pay : Nat → Int32) (v_canLast : Nat → Int32) (v_deep : Nat → Int32) (v_fats : Nat → Int32) (v_fine : Nat → Int32) (v_hollow : Nat → Int32) (v_thick : Nat → Int32) {res : (Nat → Int32) × (Nat → Int32)} (C : Cx p s m av meth c RX11 cX11_layOrders 6 none G cI cZ cO A) (hQ : RV p l e rX11_layOrders s m av below meth c G A cX11_layOrders Q (wX11_layOrders cI cZ a_this a_thick a_hollow a_damp a_fresh a_pulls a_fats a_deep a_fine a_pay a_hair a_sightPicture a_sightPull a_sightShows a_pad a_act a_where a_much a_kindMany a_had a_leaves a_mostPay a_canLast a_leastMissed a_kept a_isKept v_stones v_flat v_leastThick v_sights v_padMany v_acts v_pulled v_skyPull v_skyWhose v_badAct v_badWhy v_keptAt v_isWriting res.1 v_pay res.2 v_deep v_fats v_fine v_hollow v_thick)) (h : fX11_layOrders x1 x2 v_stones v_flat v_leastThick v_mostPay v_pay v_canLast v_deep v_fats v_fine v_hollow v_thick = some res) (H : Heap) (locs : List Loc) (hW : HW G A s (wX11_layOrders cI cZ a_this a_thick a_hollow a_damp a_fresh a_pulls a_fats a_deep a_fine a_pay a_hair a_sightPicture a_sightPull a_sightShows a_pad a_act a_where a_much a_kindMany a_had a_leaves a_mostPay a_canLast a_leastMissed a_kept a_isKept v_stones v_flat v_leastThick v_sights v_padMany v_acts v_pulled v_skyPull v_skyWhose v_badAct v_badWhy v_keptAt v_isWriting v_mostPay v_pay v_canLast v_deep v_fats v_fine v_hollow v_thick) H locs) (ls : Array Slot) (hl : lv_has ls 6 [(0, .ref a_this), (1, .int x1), (2, .int x2)]) : W p l e rX11_layOrders s m av below meth c H locs 0 0 Q (F0 m 0 ls []) := by
  have hx := C.1
  have hb := C.2.1
  unfold fX11_layOrders at h
  refine lv_iconst (v := (0 : Int32)) hx hb dX11_layOrders_0 (by decide) ?_
  refine lv_istore_n (lv' := [(3, .int (0 : Int32)), (0, .ref a_this), (1, .int x1), (2, .int x2)]) hx hb dX11_layOrders_1 rfl hl (Nat.le_of_ble_eq_true rfl) rfl (fun ls hl => ?_)
  exact wX11_layOrders_2_ x1 x2 v_stones v_flat v_leastThick v_sights v_padMany v_acts v_pulled v_skyPull v_skyWhose v_badAct v_badWhy v_keptAt v_isWriting v_mostPay v_pay v_deep v_fats v_fine v_hollow v_thick C hQ 2000 (0 : Int32) v_canLast h _ _ hW _ (lv_sub hl [1, 2, 3, 0] rfl)
theorem ctX11_layOrders {l : Launch} {G : va_G} {cI cZ cO : ClassId} (a_this a_thick a_hollow a_damp a_fresh a_pulls a_fats a_deep a_fine a_pay a_hair a_sightPicture a_sightPull a_sightShows a_pad a_act a_where a_much a_kindMany a_had a_leaves a_mostPay a_canLast a_leastMissed a_kept a_isKept : Nat) (x1 : Int32) (x2 : Int32) (v_stones : Int32) (v_flat : Int32) (v_leastThick : Int32) (v_sights : Int32) (v_padMany : Int32) (v_acts : Int32) (v_pulled : Int32) (v_skyPull : Int32) (v_skyWhose : Int32) (v_badAct : Int32) (v_badWhy : Int32) (v_keptAt : Int32) (v_isWriting : Int32) (v_mostPay : Nat → Int32) (v_pay : Nat → Int32) (v_canLast : Nat → Int32) (v_deep : Nat → Int32) (v_fats : Nat → Int32) (v_fine : Nat → Int32) (v_hollow : Nat → Int32) (v_thick : Nat → Int32) {res : (Nat → Int32) × (Nat → Int32)} (h : fX11_layOrders x1 x2 v_stones v_flat v_leastThick v_mostPay v_pay v_canLast v_deep v_fats v_fine v_hollow v_thick = some res) : MV l G cI cZ cO yX11_layOrders cX11_layOrders 6 rX11_layOrders [.ref a_this, .int x1, .int x2] (wX11_layOrders cI cZ a_this a_thick a_hollow a_damp a_fresh a_pulls a_fats a_deep a_fine a_pay a_hair a_sightPicture a_sightPull a_sightShows a_pad a_act a_where a_much a_kindMany a_had a_leaves a_mostPay a_canLast a_leastMissed a_kept a_isKept v_stones v_flat v_leastThick v_sights v_padMany v_acts v_pulled v_skyPull v_skyWhose v_badAct v_badWhy v_keptAt v_isWriting v_mostPay v_pay v_canLast v_deep v_fats v_fine v_hollow v_thick) (wX11_layOrders cI cZ a_this a_thick a_hollow a_damp a_fresh a_pulls a_fats a_deep a_fine a_pay a_hair a_sightPicture a_sightPull a_sightShows a_pad a_act a_where a_much a_kindMany a_had a_leaves a_mostPay a_canLast a_leastMissed a_kept a_isKept v_stones v_flat v_leastThick v_sights v_padMany v_acts v_pulled v_skyPull v_skyWhose v_badAct v_badWhy v_keptAt v_isWriting res.1 v_pay res.2 v_deep v_fats v_fine v_hollow v_thick) := by
  refine MV.of (by decide) (Nat.le_of_ble_eq_true rfl) ?_
  intro p e s m below meth c A Q C hW hQ ls hl
  exact uX11_layOrders_0 x1 x2 v_stones v_flat v_leastThick v_sights v_padMany v_acts v_pulled v_skyPull v_skyWhose v_badAct v_badWhy v_keptAt v_isWriting v_mostPay v_pay v_canLast v_deep v_fats v_fine v_hollow v_thick C hQ h _ _ hW _ hl
abbrev wX11_orders (cI cZ : ClassId) (a_this a_thick a_hollow a_damp a_fresh a_pulls a_fats a_deep a_fine a_pay a_hair a_sightPicture a_sightPull a_sightShows a_pad a_act a_where a_much a_kindMany a_had a_leaves a_mostPay a_canLast a_leastMissed a_kept a_isKept : Nat) (v_stones : Int32) (v_flat : Int32) (v_leastThick : Int32) (v_sights : Int32) (v_padMany : Int32) (v_acts : Int32) (v_pulled : Int32) (v_skyPull : Int32) (v_skyWhose : Int32) (v_badAct : Int32) (v_badWhy : Int32) (v_keptAt : Int32) (v_isWriting : Int32) (v_mostPay : Nat → Int32) (v_pay : Nat → Int32) (v_canLast : Nat → Int32) (v_deep : Nat → Int32) (v_fats : Nat → Int32) (v_fine : Nat → Int32) (v_hollow : Nat → Int32) (v_thick : Nat → Int32) : va_W := [(a_this, .inr (11, [.int v_stones, .int v_flat, .int v_leastThick, .ref a_thick, .ref a_hollow, .ref a_damp, .ref a_fresh, .ref a_pulls, .ref a_fats, .ref a_deep, .ref a_fine, .ref a_pay, .ref a_hair, .ref a_sightPicture, .ref a_sightPull, .ref a_sightShows, .int v_sights, .ref a_pad, .int v_padMany, .ref a_act, .ref a_where, .ref a_much, .int v_acts, .int v_pulled, .ref a_kindMany, .int v_skyPull, .int v_skyWhose, .ref a_had, .ref a_leaves, .int v_badAct, .int v_badWhy, .ref a_mostPay, .ref a_canLast, .ref a_leastMissed, .ref a_kept, .ref a_isKept, .int v_keptAt, .int v_isWriting])), (a_mostPay, .inl (cI, 288, .inl v_mostPay)), (a_pay, .inl (cI, 8, .inl v_pay)), (a_canLast, .inl (cZ, 40, .inl v_canLast)), (a_deep, .inl (cI, 8, .inl v_deep)), (a_fats, .inl (cI, 40, .inl v_fats)), (a_fine, .inl (cI, 8, .inl v_fine)), (a_hollow, .inl (cI, 5, .inl v_hollow)), (a_thick, .inl (cI, 5, .inl v_thick))]
abbrev rX11_orders : Room := { frames := 4, cells := 0, slots := 0, locals := 95 }
set_option maxRecDepth 20000 in
theorem uX11_orders_103 {a_this a_thick a_hollow a_damp a_fresh a_pulls a_fats a_deep a_fine a_pay a_hair a_sightPicture a_sightPull a_sightShows a_pad a_act a_where a_much a_kindMany a_had a_leaves a_mostPay a_canLast a_leastMissed a_kept a_isKept : Nat} (x3 : Int32) (x5 : Int32) (x6 : Int32) (x7 : Int32) (x8 : Int32) (v_stones : Int32) (v_flat : Int32) (v_leastThick : Int32) (v_sights : Int32) (v_padMany : Int32) (v_acts : Int32) (v_pulled : Int32) (v_skyPull : Int32) (v_skyWhose : Int32) (v_badAct : Int32) (v_badWhy : Int32) (v_keptAt : Int32) (v_isWriting : Int32) (v_mostPay : Nat → Int32) (v_pay : Nat → Int32) (v_canLast : Nat → Int32) (v_deep : Nat → Int32) (v_fats : Nat → Int32) (v_fine : Nat → Int32) (v_hollow : Nat → Int32) (v_thick : Nat → Int32) {res : Int32 × (Nat → Int32) × (Nat → Int32)} (C : Cx p s m av meth c RX11 cX11_orders 9 (some .int) G cI cZ cO A) (hQ : RI p l e rX11_orders s m av below meth c G A cX11_orders .int Q (res.1) (wX11_orders cI cZ a_this a_thick a_hollow a_damp a_fresh a_pulls a_fats a_deep a_fine a_pay a_hair a_sightPicture a_sightPull a_sightShows a_pad a_act a_where a_much a_kindMany a_had a_leaves a_mostPay a_canLast a_leastMissed a_kept a_isKept v_stones v_flat v_leastThick v_sights v_padMany v_acts v_pulled v_skyPull v_skyWhose v_badAct v_badWhy v_keptAt v_isWriting res.2.1 v_pay res.2.2 v_deep v_fats v_fine v_hollow v_thick)) {k90 : (Int32) → (Int32) → (Int32) → Option (Int32 × (Nat → Int32) × (Nat → Int32))} {k103 : (Int32) → (Int32) → Option (Int32 × (Nat → Int32) × (Nat → Int32))} (hk90 : ∀ (x5 : Int32) (x6 : Int32) (x7 : Int32), k90 x5 x6 x7 = some res → ∀ (H : Heap) (locs : List Loc), HW G A s (wX11_orders cI cZ a_this a_thick a_hollow a_damp a_fresh a_pulls a_fats a_deep a_fine a_pay a_hair a_sightPicture a_sightPull a_sightShows a_pad a_act a_where a_much a_kindMany a_had a_leaves a_mostPay a_canLast a_leastMissed a_kept a_isKept v_stones v_flat v_leastThick v_sights v_padMany v_acts v_pulled v_skyPull v_skyWhose v_badAct v_badWhy v_keptAt v_isWriting v_mostPay v_pay v_canLast v_deep v_fats v_fine v_hollow v_thick) H locs → ∀ ls : Array Slot, lv_has ls 9 [(0, .ref a_this), (3, .int x3), (5, .int x5), (6, .int x6), (7, .int x7)] → W p l e rX11_orders s m av below meth c H locs 0 0 Q (F0 m 90 ls [])) (hk103 : ∀ (x6 : Int32) (x8 : Int32), k103 x6 x8 = some res → ∀ (H : Heap) (locs : List Loc), HW G A s (wX11_orders cI cZ a_this a_thick a_hollow a_damp a_fresh a_pulls a_fats a_deep a_fine a_pay a_hair a_sightPicture a_sightPull a_sightShows a_pad a_act a_where a_much a_kindMany a_had a_leaves a_mostPay a_canLast a_leastMissed a_kept a_isKept v_stones v_flat v_leastThick v_sights v_padMany v_acts v_pulled v_skyPull v_skyWhose v_badAct v_badWhy v_keptAt v_isWriting v_mostPay v_pay v_canLast v_deep v_fats v_fine v_hollow v_thick) H locs → ∀ ls : Array Slot, lv_has ls 9 [(0, .ref a_this), (3, .int x3), (5, .int x5), (6, .int x6), (7, .int x7), (8, .int x8)] → W p l e rX11_orders s m av below meth c H locs 0 0 Q (F0 m 103 ls [])) (h : FX11_orders_103 x5 x7 v_mostPay v_pay v_canLast k90 k103 x6 x8 = some res) (H : Heap) (locs : List Loc) (hW : HW G A s (wX11_orders cI cZ a_this a_thick a_hollow a_damp a_fresh a_pulls a_fats a_deep a_fine a_pay a_hair a_sightPicture a_sightPull a_sightShows a_pad a_act a_where a_much a_kindMany a_had a_leaves a_mostPay a_canLast a_leastMissed a_kept a_isKept v_stones v_flat v_leastThick v_sights v_padMany v_acts v_pulled v_skyPull v_skyWhose v_badAct v_badWhy v_keptAt v_isWriting v_mostPay v_pay v_canLast v_deep v_fats v_fine v_hollow v_thick) H locs) (ls : Array Slot) (hl : lv_has ls 9 [(0, .ref a_this), (3, .int x3), (5, .int x5), (6, .int x6), (7, .int x7), (8, .int x8)]) : W p l e rX11_orders s m av below meth c H locs 0 0 Q (F0 m 103 ls []) := by
  have hx := C.1
  have hb := C.2.1
  unfold FX11_orders_103 at h
  refine lv_iload hx hb dX11_orders_103 (lv_at hl 5 rfl) ?_
  refine lv_if_lt (tgt := 149) hx hb dX11_orders_105 (by decide) (fun c_8 => ?_) (fun c_8 => ?_)
  · have h := ip_h c_8 h
    refine lv_iload hx hb dX11_orders_149 (lv_at hl 2 rfl) ?_
    refine lv_iload hx hb dX11_orders_151 (lv_at hl 3 rfl) ?_
    refine lv_if_ge (tgt := 160) hx hb dX11_orders_153 (by decide) (fun c_9 => ?_) (fun c_9 => ?_)
    · have h := ip_h c_9 h
      refine lv_iconst (v := (1 : Int32)) hx hb dX11_orders_160 (by decide) ?_
      refine lv_iload hx hb dX11_orders_161 (lv_at hl 3 rfl) ?_
      refine lv_ishl hx hb dX11_orders_163 ?_
      refine lv_ior hx hb dX11_orders_164 ?_
      refine lv_topi (fun v_10 ev_10 => ?_)
      have h := lt_h ev_10 h
      refine lv_istore (lv' := [(5, .int v_10), (0, .ref a_this), (3, .int x3), (6, .int x6), (7, .int x7), (8, .int x8)]) hx hb dX11_orders_165 hl (Nat.le_of_ble_eq_true rfl) rfl (fun ls hl => ?_)
      obtain ⟨v_11, ev_11⟩ : ∃ y : Int32, y = x7 + (1 : Int32) := ⟨_, rfl⟩
      have h := lt_h ev_11 h
      refine lv_iinc (v := v_11) (lv' := [(7, .int v_11), (5, .int v_10), (0, .ref a_this), (3, .int x3), (6, .int x6), (8, .int x8)]) hx hb dX11_orders_167 hl (k := 4) rfl (by rw [ev_11]; rfl) (Nat.le_of_ble_eq_true rfl) rfl (fun ls hl => ?_)
      refine lv_goto (tgt := 90) hx hb dX11_orders_170 (by decide) ?_
      exact hk90 v_10 x6 v_11 h _ _ hW _ (lv_sub hl [2, 3, 1, 4, 0] rfl)
    · have h := in_h c_9 h
      refine lv_iconst (v := (0 : Int32)) hx hb dX11_orders_156 (by decide) ?_
      refine lv_goto (tgt := 164) hx hb dX11_orders_157 (by decide) ?_
      refine lv_ior hx hb dX11_orders_164 ?_
      refine lv_topi (fun v_12 ev_12 => ?_)
      have h := lt_h ev_12 h
      refine lv_istore (lv' := [(5, .int v_12), (0, .ref a_this), (3, .int x3), (6, .int x6), (7, .int x7), (8, .int x8)]) hx hb dX11_orders_165 hl (Nat.le_of_ble_eq_true rfl) rfl (fun ls hl => ?_)
      obtain ⟨v_13, ev_13⟩ : ∃ y : Int32, y = x7 + (1 : Int32) := ⟨_, rfl⟩
      have h := lt_h ev_13 h
      refine lv_iinc (v := v_13) (lv' := [(7, .int v_13), (5, .int v_12), (0, .ref a_this), (3, .int x3), (6, .int x6), (8, .int x8)]) hx hb dX11_orders_167 hl (k := 4) rfl (by rw [ev_13]; rfl) (Nat.le_of_ble_eq_true rfl) rfl (fun ls hl => ?_)
      refine lv_goto (tgt := 90) hx hb dX11_orders_170 (by decide) ?_
      exact hk90 v_12 x6 v_13 h _ _ hW _ (lv_sub hl [2, 3, 1, 4, 0] rfl)
  · have h := in_h c_8 h
    refine lv_aload_n hx hb dX11_orders_108 rfl (lv_at hl 0 rfl) ?_
    refine lv_iload hx hb dX11_orders_109 (lv_at hl 4 rfl) ?_
    refine lv_iload hx hb dX11_orders_111 (lv_at hl 2 rfl) ?_
    refine lv_iload hx hb dX11_orders_113 (lv_at hl 5 rfl) ?_
    obtain ⟨v_14, hv_14, h⟩ := bd_h h
    refine callVIr [0, 2, 1, 3] C lk_RX11_237 (ctX11_withOn a_this a_thick a_hollow a_damp a_fresh a_pulls a_fats a_deep a_fine a_pay a_hair a_sightPicture a_sightPull a_sightShows a_pad a_act a_where a_much a_kindMany a_had a_leaves a_mostPay a_canLast a_leastMissed a_kept a_isKept x7 x5 x8 v_stones v_flat v_leastThick v_sights v_padMany v_acts v_pulled v_skyPull v_skyWhose v_badAct v_badWhy v_keptAt v_isWriting v_pay v_mostPay v_canLast hv_14) hW hl 11 rfl rfl rfl rfl rfl ⟨rfl, rfl⟩ ⟨(Nat.le_of_ble_eq_true rfl), (Nat.le_of_ble_eq_true rfl)⟩ ⟨Nat.zero_le _, Nat.zero_le _⟩ rfl (Nat.le_of_ble_eq_true rfl) dX11_orders_115 (fun H locs hW => ?_)
    refine lv_aload_n hx hb dX11_orders_118 rfl (lv_at hl 0 rfl) ?_
    refine getW C fl_RX11_70 hW 0 rfl rfl dX11_orders_119 ?_
    refine lv_bipush (v := (32 : Int32)) hx hb dX11_orders_122 (by decide) ?_
    refine lv_iload hx hb dX11_orders_124 (lv_at hl 4 rfl) ?_
    refine lv_imul hx hb dX11_orders_126 ?_
    refine lv_iload hx hb dX11_orders_127 (lv_at hl 2 rfl) ?_
    refine lv_iadd hx hb dX11_orders_129 ?_
    obtain ⟨g_15, h⟩ := gd_h h
    refine ialdW C hW 1 rfl g_15 dX11_orders_130 ?_
    refine lv_icmp_ne (tgt := 139) hx hb dX11_orders_131 (by decide) (fun c_16 => ?_) (fun c_16 => ?_)
    · have h := in_h c_16 h
      refine lv_iload hx hb dX11_orders_139 (lv_at hl 3 rfl) ?_
      refine lv_istore (lv' := [(6, .int x6), (0, .ref a_this), (3, .int x3), (5, .int x5), (7, .int x7), (8, .int x8)]) hx hb dX11_orders_141 hl (Nat.le_of_ble_eq_true rfl) rfl (fun ls hl => ?_)
      obtain ⟨v_17, ev_17⟩ : ∃ y : Int32, y = x8 + (-1 : Int32) := ⟨_, rfl⟩
      have h := lt_h ev_17 h
      refine lv_iinc (v := v_17) (lv' := [(8, .int v_17), (6, .int x6), (0, .ref a_this), (3, .int x3), (5, .int x5), (7, .int x7)]) hx hb dX11_orders_143 hl (k := 5) rfl (by rw [ev_17]; rfl) (Nat.le_of_ble_eq_true rfl) rfl (fun ls hl => ?_)
      refine lv_goto (tgt := 103) hx hb dX11_orders_146 (by decide) ?_
      exact hk103 x6 v_17 h _ _ hW _ (lv_sub hl [2, 3, 4, 1, 5, 0] rfl)
    · have h := ip_h c_16 h
      refine lv_iload hx hb dX11_orders_134 (lv_at hl 5 rfl) ?_
      refine lv_goto (tgt := 141) hx hb dX11_orders_136 (by decide) ?_
      refine lv_istore (lv' := [(6, .int x8), (0, .ref a_this), (3, .int x3), (5, .int x5), (7, .int x7), (8, .int x8)]) hx hb dX11_orders_141 hl (Nat.le_of_ble_eq_true rfl) rfl (fun ls hl => ?_)
      obtain ⟨v_18, ev_18⟩ : ∃ y : Int32, y = x8 + (-1 : Int32) := ⟨_, rfl⟩
      have h := lt_h ev_18 h
      refine lv_iinc (v := v_18) (lv' := [(8, .int v_18), (6, .int x8), (0, .ref a_this), (3, .int x3), (5, .int x5), (7, .int x7)]) hx hb dX11_orders_143 hl (k := 5) rfl (by rw [ev_18]; rfl) (Nat.le_of_ble_eq_true rfl) rfl (fun ls hl => ?_)
      refine lv_goto (tgt := 103) hx hb dX11_orders_146 (by decide) ?_
      exact hk103 x8 v_18 h _ _ hW _ (lv_sub hl [2, 3, 4, 1, 5, 0] rfl)
theorem wX11_orders_103_ {a_this a_thick a_hollow a_damp a_fresh a_pulls a_fats a_deep a_fine a_pay a_hair a_sightPicture a_sightPull a_sightShows a_pad a_act a_where a_much a_kindMany a_had a_leaves a_mostPay a_canLast a_leastMissed a_kept a_isKept : Nat} (x3 : Int32) (x5 : Int32) (x7 : Int32) (v_stones : Int32) (v_flat : Int32) (v_leastThick : Int32) (v_sights : Int32) (v_padMany : Int32) (v_acts : Int32) (v_pulled : Int32) (v_skyPull : Int32) (v_skyWhose : Int32) (v_badAct : Int32) (v_badWhy : Int32) (v_keptAt : Int32) (v_isWriting : Int32) (v_mostPay : Nat → Int32) (v_pay : Nat → Int32) (v_canLast : Nat → Int32) (v_deep : Nat → Int32) (v_fats : Nat → Int32) (v_fine : Nat → Int32) (v_hollow : Nat → Int32) (v_thick : Nat → Int32) {res : Int32 × (Nat → Int32) × (Nat → Int32)} (C : Cx p s m av meth c RX11 cX11_orders 9 (some .int) G cI cZ cO A) (hQ : RI p l e rX11_orders s m av below meth c G A cX11_orders .int Q (res.1) (wX11_orders cI cZ a_this a_thick a_hollow a_damp a_fresh a_pulls a_fats a_deep a_fine a_pay a_hair a_sightPicture a_sightPull a_sightShows a_pad a_act a_where a_much a_kindMany a_had a_leaves a_mostPay a_canLast a_leastMissed a_kept a_isKept v_stones v_flat v_leastThick v_sights v_padMany v_acts v_pulled v_skyPull v_skyWhose v_badAct v_badWhy v_keptAt v_isWriting res.2.1 v_pay res.2.2 v_deep v_fats v_fine v_hollow v_thick)) {k90 : (Int32) → (Int32) → (Int32) → Option (Int32 × (Nat → Int32) × (Nat → Int32))} (hk90 : ∀ (x5 : Int32) (x6 : Int32) (x7 : Int32), k90 x5 x6 x7 = some res → ∀ (H : Heap) (locs : List Loc), HW G A s (wX11_orders cI cZ a_this a_thick a_hollow a_damp a_fresh a_pulls a_fats a_deep a_fine a_pay a_hair a_sightPicture a_sightPull a_sightShows a_pad a_act a_where a_much a_kindMany a_had a_leaves a_mostPay a_canLast a_leastMissed a_kept a_isKept v_stones v_flat v_leastThick v_sights v_padMany v_acts v_pulled v_skyPull v_skyWhose v_badAct v_badWhy v_keptAt v_isWriting v_mostPay v_pay v_canLast v_deep v_fats v_fine v_hollow v_thick) H locs → ∀ ls : Array Slot, lv_has ls 9 [(0, .ref a_this), (3, .int x3), (5, .int x5), (6, .int x6), (7, .int x7)] → W p l e rX11_orders s m av below meth c H locs 0 0 Q (F0 m 90 ls [])) : ∀ (n : Nat) (x6 : Int32) (x8 : Int32), LX11_orders_103 x5 x7 v_mostPay v_pay v_canLast k90 n x6 x8 = some res → ∀ (H : Heap) (locs : List Loc), HW G A s (wX11_orders cI cZ a_this a_thick a_hollow a_damp a_fresh a_pulls a_fats a_deep a_fine a_pay a_hair a_sightPicture a_sightPull a_sightShows a_pad a_act a_where a_much a_kindMany a_had a_leaves a_mostPay a_canLast a_leastMissed a_kept a_isKept v_stones v_flat v_leastThick v_sights v_padMany v_acts v_pulled v_skyPull v_skyWhose v_badAct v_badWhy v_keptAt v_isWriting v_mostPay v_pay v_canLast v_deep v_fats v_fine v_hollow v_thick) H locs → ∀ ls : Array Slot, lv_has ls 9 [(0, .ref a_this), (3, .int x3), (5, .int x5), (6, .int x6), (7, .int x7), (8, .int x8)] → W p l e rX11_orders s m av below meth c H locs 0 0 Q (F0 m 103 ls []) := by
  intro n
  induction n with
  | zero => intro x6 x8 h; cases h
  | succ n ih =>
    intro x6 x8 h H locs hW ls hl
    exact uX11_orders_103 x3 x5 x6 x7 x8 v_stones v_flat v_leastThick v_sights v_padMany v_acts v_pulled v_skyPull v_skyWhose v_badAct v_badWhy v_keptAt v_isWriting v_mostPay v_pay v_canLast v_deep v_fats v_fine v_hollow v_thick C hQ hk90 (k103 := LX11_orders_103 x5 x7 v_mostPay v_pay v_canLast k90 n) ih h H locs hW ls hl
set_option maxRecDepth 20000 in
theorem uX11_orders_90 {a_this a_thick a_hollow a_damp a_fresh a_pulls a_fats a_deep a_fine a_pay a_hair a_sightPicture a_sightPull a_sightShows a_pad a_act a_where a_much a_kindMany a_had a_leaves a_mostPay a_canLast a_leastMissed a_kept a_isKept : Nat} (x3 : Int32) (x5 : Int32) (x6 : Int32) (x7 : Int32) (v_stones : Int32) (v_flat : Int32) (v_leastThick : Int32) (v_sights : Int32) (v_padMany : Int32) (v_acts : Int32) (v_pulled : Int32) (v_skyPull : Int32) (v_skyWhose : Int32) (v_badAct : Int32) (v_badWhy : Int32) (v_keptAt : Int32) (v_isWriting : Int32) (v_mostPay : Nat → Int32) (v_pay : Nat → Int32) (v_canLast : Nat → Int32) (v_deep : Nat → Int32) (v_fats : Nat → Int32) (v_fine : Nat → Int32) (v_hollow : Nat → Int32) (v_thick : Nat → Int32) {res : Int32 × (Nat → Int32) × (Nat → Int32)} (C : Cx p s m av meth c RX11 cX11_orders 9 (some .int) G cI cZ cO A) (hQ : RI p l e rX11_orders s m av below meth c G A cX11_orders .int Q (res.1) (wX11_orders cI cZ a_this a_thick a_hollow a_damp a_fresh a_pulls a_fats a_deep a_fine a_pay a_hair a_sightPicture a_sightPull a_sightShows a_pad a_act a_where a_much a_kindMany a_had a_leaves a_mostPay a_canLast a_leastMissed a_kept a_isKept v_stones v_flat v_leastThick v_sights v_padMany v_acts v_pulled v_skyPull v_skyWhose v_badAct v_badWhy v_keptAt v_isWriting res.2.1 v_pay res.2.2 v_deep v_fats v_fine v_hollow v_thick)) {k90 : (Int32) → (Int32) → (Int32) → Option (Int32 × (Nat → Int32) × (Nat → Int32))} (hk90 : ∀ (x5 : Int32) (x6 : Int32) (x7 : Int32), k90 x5 x6 x7 = some res → ∀ (H : Heap) (locs : List Loc), HW G A s (wX11_orders cI cZ a_this a_thick a_hollow a_damp a_fresh a_pulls a_fats a_deep a_fine a_pay a_hair a_sightPicture a_sightPull a_sightShows a_pad a_act a_where a_much a_kindMany a_had a_leaves a_mostPay a_canLast a_leastMissed a_kept a_isKept v_stones v_flat v_leastThick v_sights v_padMany v_acts v_pulled v_skyPull v_skyWhose v_badAct v_badWhy v_keptAt v_isWriting v_mostPay v_pay v_canLast v_deep v_fats v_fine v_hollow v_thick) H locs → ∀ ls : Array Slot, lv_has ls 9 [(0, .ref a_this), (3, .int x3), (5, .int x5), (6, .int x6), (7, .int x7)] → W p l e rX11_orders s m av below meth c H locs 0 0 Q (F0 m 90 ls [])) (h : FX11_orders_90 x3 v_mostPay v_pay v_canLast k90 x5 x6 x7 = some res) (H : Heap) (locs : List Loc) (hW : HW G A s (wX11_orders cI cZ a_this a_thick a_hollow a_damp a_fresh a_pulls a_fats a_deep a_fine a_pay a_hair a_sightPicture a_sightPull a_sightShows a_pad a_act a_where a_much a_kindMany a_had a_leaves a_mostPay a_canLast a_leastMissed a_kept a_isKept v_stones v_flat v_leastThick v_sights v_padMany v_acts v_pulled v_skyPull v_skyWhose v_badAct v_badWhy v_keptAt v_isWriting v_mostPay v_pay v_canLast v_deep v_fats v_fine v_hollow v_thick) H locs) (ls : Array Slot) (hl : lv_has ls 9 [(0, .ref a_this), (3, .int x3), (5, .int x5), (6, .int x6), (7, .int x7)]) : W p l e rX11_orders s m av below meth c H locs 0 0 Q (F0 m 90 ls []) := by
  have hx := C.1
  have hb := C.2.1
  unfold FX11_orders_90 at h
  refine lv_iload hx hb dX11_orders_90 (lv_at hl 4 rfl) ?_
  refine lv_iload_n hx hb dX11_orders_92 rfl (lv_at hl 1 rfl) ?_
  refine lv_icmp_gt (tgt := 173) hx hb dX11_orders_93 (by decide) (fun c_7 => ?_) (fun c_7 => ?_)
  · have h := ip_h c_7 h
    refine lv_iload hx hb dX11_orders_173 (lv_at hl 3 rfl) ?_
    obtain rfl := Option.some.inj h
    exact hQ rfl _ _ _ _ dX11_orders_175 hW
  · have h := in_h c_7 h
    refine lv_bipush (v := (-6 : Int32)) hx hb dX11_orders_96 (by decide) ?_
    refine lv_istore (lv' := [(6, .int (-6 : Int32)), (0, .ref a_this), (3, .int x3), (5, .int x5), (7, .int x7)]) hx hb dX11_orders_98 hl (Nat.le_of_ble_eq_true rfl) rfl (fun ls hl => ?_)
    refine lv_iconst (v := (4 : Int32)) hx hb dX11_orders_100 (by decide) ?_
    refine lv_istore (lv' := [(8, .int (4 : Int32)), (6, .int (-6 : Int32)), (0, .ref a_this), (3, .int x3), (5, .int x5), (7, .int x7)]) hx hb dX11_orders_101 hl (Nat.le_of_ble_eq_true rfl) rfl (fun ls hl => ?_)
    exact wX11_orders_103_ x3 x5 x7 v_stones v_flat v_leastThick v_sights v_padMany v_acts v_pulled v_skyPull v_skyWhose v_badAct v_badWhy v_keptAt v_isWriting v_mostPay v_pay v_canLast v_deep v_fats v_fine v_hollow v_thick C hQ hk90 2000 (-6 : Int32) (4 : Int32) h _ _ hW _ (lv_sub hl [2, 3, 4, 1, 5, 0] rfl)
theorem wX11_orders_90_ {a_this a_thick a_hollow a_damp a_fresh a_pulls a_fats a_deep a_fine a_pay a_hair a_sightPicture a_sightPull a_sightShows a_pad a_act a_where a_much a_kindMany a_had a_leaves a_mostPay a_canLast a_leastMissed a_kept a_isKept : Nat} (x3 : Int32) (v_stones : Int32) (v_flat : Int32) (v_leastThick : Int32) (v_sights : Int32) (v_padMany : Int32) (v_acts : Int32) (v_pulled : Int32) (v_skyPull : Int32) (v_skyWhose : Int32) (v_badAct : Int32) (v_badWhy : Int32) (v_keptAt : Int32) (v_isWriting : Int32) (v_mostPay : Nat → Int32) (v_pay : Nat → Int32) (v_canLast : Nat → Int32) (v_deep : Nat → Int32) (v_fats : Nat → Int32) (v_fine : Nat → Int32) (v_hollow : Nat → Int32) (v_thick : Nat → Int32) {res : Int32 × (Nat → Int32) × (Nat → Int32)} (C : Cx p s m av meth c RX11 cX11_orders 9 (some .int) G cI cZ cO A) (hQ : RI p l e rX11_orders s m av below meth c G A cX11_orders .int Q (res.1) (wX11_orders cI cZ a_this a_thick a_hollow a_damp a_fresh a_pulls a_fats a_deep a_fine a_pay a_hair a_sightPicture a_sightPull a_sightShows a_pad a_act a_where a_much a_kindMany a_had a_leaves a_mostPay a_canLast a_leastMissed a_kept a_isKept v_stones v_flat v_leastThick v_sights v_padMany v_acts v_pulled v_skyPull v_skyWhose v_badAct v_badWhy v_keptAt v_isWriting res.2.1 v_pay res.2.2 v_deep v_fats v_fine v_hollow v_thick)) : ∀ (n : Nat) (x5 : Int32) (x6 : Int32) (x7 : Int32), LX11_orders_90 x3 v_mostPay v_pay v_canLast n x5 x6 x7 = some res → ∀ (H : Heap) (locs : List Loc), HW G A s (wX11_orders cI cZ a_this a_thick a_hollow a_damp a_fresh a_pulls a_fats a_deep a_fine a_pay a_hair a_sightPicture a_sightPull a_sightShows a_pad a_act a_where a_much a_kindMany a_had a_leaves a_mostPay a_canLast a_leastMissed a_kept a_isKept v_stones v_flat v_leastThick v_sights v_padMany v_acts v_pulled v_skyPull v_skyWhose v_badAct v_badWhy v_keptAt v_isWriting v_mostPay v_pay v_canLast v_deep v_fats v_fine v_hollow v_thick) H locs → ∀ ls : Array Slot, lv_has ls 9 [(0, .ref a_this), (3, .int x3), (5, .int x5), (6, .int x6), (7, .int x7)] → W p l e rX11_orders s m av below meth c H locs 0 0 Q (F0 m 90 ls []) := by
  intro n
  induction n with
  | zero => intro x5 x6 x7 h; cases h
  | succ n ih =>
    intro x5 x6 x7 h H locs hW ls hl
    exact uX11_orders_90 x3 x5 x6 x7 v_stones v_flat v_leastThick v_sights v_padMany v_acts v_pulled v_skyPull v_skyWhose v_badAct v_badWhy v_keptAt v_isWriting v_mostPay v_pay v_canLast v_deep v_fats v_fine v_hollow v_thick C hQ (k90 := LX11_orders_90 x3 v_mostPay v_pay v_canLast n) ih h H locs hW ls hl
set_option maxRecDepth 20000 in
theorem uX11_orders_26 {a_this a_thick a_hollow a_damp a_fresh a_pulls a_fats a_deep a_fine a_pay a_hair a_sightPicture a_sightPull a_sightShows a_pad a_act a_where a_much a_kindMany a_had a_leaves a_mostPay a_canLast a_leastMissed a_kept a_isKept : Nat} (x1 : Int32) (x2 : Int32) (x3 : Int32) (s0 : Int32) (v_stones : Int32) (v_flat : Int32) (v_leastThick : Int32) (v_sights : Int32) (v_padMany : Int32) (v_acts : Int32) (v_pulled : Int32) (v_skyPull : Int32) (v_skyWhose : Int32) (v_badAct : Int32) (v_badWhy : Int32) (v_keptAt : Int32) (v_isWriting : Int32) (v_mostPay : Nat → Int32) (v_pay : Nat → Int32) (v_canLast : Nat → Int32) (v_deep : Nat → Int32) (v_fats : Nat → Int32) (v_fine : Nat → Int32) (v_hollow : Nat → Int32) (v_thick : Nat → Int32) {res : Int32 × (Nat → Int32) × (Nat → Int32)} (C : Cx p s m av meth c RX11 cX11_orders 9 (some .int) G cI cZ cO A) (hQ : RI p l e rX11_orders s m av below meth c G A cX11_orders .int Q (res.1) (wX11_orders cI cZ a_this a_thick a_hollow a_damp a_fresh a_pulls a_fats a_deep a_fine a_pay a_hair a_sightPicture a_sightPull a_sightShows a_pad a_act a_where a_much a_kindMany a_had a_leaves a_mostPay a_canLast a_leastMissed a_kept a_isKept v_stones v_flat v_leastThick v_sights v_padMany v_acts v_pulled v_skyPull v_skyWhose v_badAct v_badWhy v_keptAt v_isWriting res.2.1 v_pay res.2.2 v_deep v_fats v_fine v_hollow v_thick)) (h : fX11_orders_26 x1 x2 x3 s0 v_stones v_flat v_leastThick v_mostPay v_pay v_canLast v_deep v_fats v_fine v_hollow v_thick = some res) (H : Heap) (locs : List Loc) (hW : HW G A s (wX11_orders cI cZ a_this a_thick a_hollow a_damp a_fresh a_pulls a_fats a_deep a_fine a_pay a_hair a_sightPicture a_sightPull a_sightShows a_pad a_act a_where a_much a_kindMany a_had a_leaves a_mostPay a_canLast a_leastMissed a_kept a_isKept v_stones v_flat v_leastThick v_sights v_padMany v_acts v_pulled v_skyPull v_skyWhose v_badAct v_badWhy v_keptAt v_isWriting v_mostPay v_pay v_canLast v_deep v_fats v_fine v_hollow v_thick) H locs) (ls : Array Slot) (hl : lv_has ls 9 [(0, .ref a_this), (1, .int x1), (2, .int x2), (3, .int x3)]) : W p l e rX11_orders s m av below meth c H locs 0 0 Q (F0 m 26 ls [.int s0]) := by
  have hx := C.1
  have hb := C.2.1
  unfold fX11_orders_26 at h
  refine lv_istore (lv' := [(4, .int s0), (0, .ref a_this), (1, .int x1), (2, .int x2), (3, .int x3)]) hx hb dX11_orders_26 hl (Nat.le_of_ble_eq_true rfl) rfl (fun ls hl => ?_)
  refine lv_iload hx hb dX11_orders_28 (lv_at hl 0 rfl) ?_
  refine lv_if_ne (tgt := 35) hx hb dX11_orders_30 (by decide) (fun c_2 => ?_) (fun c_2 => ?_)
  · have h := in_h c_2 h
    refine lv_iload_n hx hb dX11_orders_35 rfl (lv_at hl 2 rfl) ?_
    refine lv_i2l hx hb dX11_orders_36 rfl ?_
    refine lv_lconst (v := (0 : Int64)) hx hb dX11_orders_37 (by decide) ?_
    refine lv_ldc2 (v := (255 : Int64)) hx hb C.2.2.2.2.2.1 (C.2.2.2.2.1 _ wd_1064) dX11_orders_38 ?_
    refine callSI0 C lk_RX11_95 (ctX11_in (Int32.toInt64 x1) (0 : Int64) (255 : Int64) rfl) hW hl rfl ⟨rfl, rfl⟩ ⟨(Nat.le_of_ble_eq_true rfl), (Nat.le_of_ble_eq_true rfl)⟩ ⟨Nat.zero_le _, Nat.zero_le _⟩ rfl (Nat.le_of_ble_eq_true rfl) dX11_orders_41 (fun H locs hW => ?_)
    refine lv_if_eq (tgt := 59) hx hb dX11_orders_44 (by decide) (fun c_3 => ?_) (fun c_3 => ?_)
    · have h := ip_h c_3 h
      refine lv_bipush (v := (-2 : Int32)) hx hb dX11_orders_59 (by decide) ?_
      obtain rfl := Option.some.inj h
      exact hQ rfl _ _ _ _ dX11_orders_61 hW
    · have h := in_h c_3 h
      refine lv_iload_n hx hb dX11_orders_47 rfl (lv_at hl 3 rfl) ?_
      refine lv_i2l hx hb dX11_orders_48 rfl ?_
      refine lv_lconst (v := (0 : Int64)) hx hb dX11_orders_49 (by decide) ?_
      refine lv_ldc2 (v := (999 : Int64)) hx hb C.2.2.2.2.2.1 (C.2.2.2.2.1 _ wd_925) dX11_orders_50 ?_
      refine callSI0 C lk_RX11_95 (ctX11_in (Int32.toInt64 x2) (0 : Int64) (999 : Int64) rfl) hW hl rfl ⟨rfl, rfl⟩ ⟨(Nat.le_of_ble_eq_true rfl), (Nat.le_of_ble_eq_true rfl)⟩ ⟨Nat.zero_le _, Nat.zero_le _⟩ rfl (Nat.le_of_ble_eq_true rfl) dX11_orders_53 (fun H locs hW => ?_)
      refine lv_if_ne (tgt := 62) hx hb dX11_orders_56 (by decide) (fun c_4 => ?_) (fun c_4 => ?_)
      · have h := in_h c_4 h
        refine lv_aload_n hx hb dX11_orders_62 rfl (lv_at hl 1 rfl) ?_
        refine lv_iload_n hx hb dX11_orders_63 rfl (lv_at hl 2 rfl) ?_
        refine lv_iload_n hx hb dX11_orders_64 rfl (lv_at hl 3 rfl) ?_
        obtain ⟨v_5, hv_5, h⟩ := bd_h h
        refine callVVm [0, 1, 2, 3, 4, 5, 6, 7, 8] [] [] (wX11_orders cI cZ a_this a_thick a_hollow a_damp a_fresh a_pulls a_fats a_deep a_fine a_pay a_hair a_sightPicture a_sightPull a_sightShows a_pad a_act a_where a_much a_kindMany a_had a_leaves a_mostPay a_canLast a_leastMissed a_kept a_isKept v_stones v_flat v_leastThick v_sights v_padMany v_acts v_pulled v_skyPull v_skyWhose v_badAct v_badWhy v_keptAt v_isWriting v_5.1 v_pay v_5.2 v_deep v_fats v_fine v_hollow v_thick) C lk_RX11_242 (ctX11_layOrders a_this a_thick a_hollow a_damp a_fresh a_pulls a_fats a_deep a_fine a_pay a_hair a_sightPicture a_sightPull a_sightShows a_pad a_act a_where a_much a_kindMany a_had a_leaves a_mostPay a_canLast a_leastMissed a_kept a_isKept x1 x2 v_stones v_flat v_leastThick v_sights v_padMany v_acts v_pulled v_skyPull v_skyWhose v_badAct v_badWhy v_keptAt v_isWriting v_mostPay v_pay v_canLast v_deep v_fats v_fine v_hollow v_thick hv_5) hW hl 11 rfl rfl rfl rfl rfl rfl rfl rfl rfl rfl ⟨rfl, rfl⟩ ⟨(Nat.le_of_ble_eq_true rfl), (Nat.le_of_ble_eq_true rfl)⟩ ⟨Nat.zero_le _, Nat.zero_le _⟩ rfl (Nat.le_of_ble_eq_true rfl) dX11_orders_65 (fun H locs hW => ?_)
        refine lv_iload_n hx hb dX11_orders_68 rfl (lv_at hl 4 rfl) ?_
        refine lv_iconst (v := (-1 : Int32)) hx hb dX11_orders_69 (by decide) ?_
        refine lv_icmp_ne (tgt := 80) hx hb dX11_orders_70 (by decide) (fun c_6 => ?_) (fun c_6 => ?_)
        · have h := in_h c_6 h
          refine lv_iconst (v := (0 : Int32)) hx hb dX11_orders_80 (by decide) ?_
          refine lv_istore (lv' := [(5, .int (0 : Int32)), (4, .int s0), (0, .ref a_this), (1, .int x1), (2, .int x2), (3, .int x3)]) hx hb dX11_orders_81 hl (Nat.le_of_ble_eq_true rfl) rfl (fun ls hl => ?_)
          refine lv_bipush (v := (-6 : Int32)) hx hb dX11_orders_83 (by decide) ?_
          refine lv_istore (lv' := [(6, .int (-6 : Int32)), (5, .int (0 : Int32)), (4, .int s0), (0, .ref a_this), (1, .int x1), (2, .int x2), (3, .int x3)]) hx hb dX11_orders_85 hl (Nat.le_of_ble_eq_true rfl) rfl (fun ls hl => ?_)
          refine lv_iconst (v := (0 : Int32)) hx hb dX11_orders_87 (by decide) ?_
          refine lv_istore (lv' := [(7, .int (0 : Int32)), (6, .int (-6 : Int32)), (5, .int (0 : Int32)), (4, .int s0), (0, .ref a_this), (1, .int x1), (2, .int x2), (3, .int x3)]) hx hb dX11_orders_88 hl (Nat.le_of_ble_eq_true rfl) rfl (fun ls hl => ?_)
          exact wX11_orders_90_ x3 v_stones v_flat v_leastThick v_sights v_padMany v_acts v_pulled v_skyPull v_skyWhose v_badAct v_badWhy v_keptAt v_isWriting v_5.1 v_pay v_5.2 v_deep v_fats v_fine v_hollow v_thick C hQ 2000 (0 : Int32) (-6 : Int32) (0 : Int32) h _ _ hW _ (lv_sub hl [4, 7, 2, 1, 0] rfl)
        · have h := ip_h c_6 h
          refine lv_aload_n hx hb dX11_orders_73 rfl (lv_at hl 1 rfl) ?_
          refine getW C fl_RX11_70 hW 0 rfl rfl dX11_orders_74 ?_
          refine lv_iconst (v := (0 : Int32)) hx hb dX11_orders_77 (by decide) ?_
          refine ialdW C hW 1 rfl (show ¬ ((0 : Int32) < 0 ∨ 288 ≤ Int32.toNatClampNeg (0 : Int32)) by decide) dX11_orders_78 ?_
          obtain rfl := Option.some.inj h
          exact hQ rfl _ _ _ _ dX11_orders_79 hW
      · have h := ip_h c_4 h
        refine lv_bipush (v := (-2 : Int32)) hx hb dX11_orders_59 (by decide) ?_
        obtain rfl := Option.some.inj h
        exact hQ rfl _ _ _ _ dX11_orders_61 hW
  · have h := ip_h c_2 h
    refine lv_iconst (v := (-1 : Int32)) hx hb dX11_orders_33 (by decide) ?_
    obtain rfl := Option.some.inj h
    exact hQ rfl _ _ _ _ dX11_orders_34 hW
set_option maxRecDepth 20000 in
theorem uX11_orders_0 {a_this a_thick a_hollow a_damp a_fresh a_pulls a_fats a_deep a_fine a_pay a_hair a_sightPicture a_sightPull a_sightShows a_pad a_act a_where a_much a_kindMany a_had a_leaves a_mostPay a_canLast a_leastMissed a_kept a_isKept : Nat} (x1 : Int32) (x2 : Int32) (x3 : Int32) (v_stones : Int32) (v_flat : Int32) (v_leastThick : Int32) (v_sights : Int32) (v_padMany : Int32) (v_acts : Int32) (v_pulled : Int32) (v_skyPull : Int32) (v_skyWhose : Int32) (v_badAct : Int32) (v_badWhy : Int32) (v_keptAt : Int32) (v_isWriting : Int32) (v_mostPay : Nat → Int32) (v_pay : Nat → Int32) (v_canLast : Nat → Int32) (v_deep : Nat → Int32) (v_fats : Nat → Int32) (v_fine : Nat → Int32) (v_hollow : Nat → Int32) (v_thick : Nat → Int32) {res : Int32 × (Nat → Int32) × (Nat → Int32)} (C : Cx p s m av meth c RX11 cX11_orders 9 (some .int) G cI cZ cO A) (hQ : RI p l e rX11_orders s m av below meth c G A cX11_orders .int Q (res.1) (wX11_orders cI cZ a_this a_thick a_hollow a_damp a_fresh a_pulls a_fats a_deep a_fine a_pay a_hair a_sightPicture a_sightPull a_sightShows a_pad a_act a_where a_much a_kindMany a_had a_leaves a_mostPay a_canLast a_leastMissed a_kept a_isKept v_stones v_flat v_leastThick v_sights v_padMany v_acts v_pulled v_skyPull v_skyWhose v_badAct v_badWhy v_keptAt v_isWriting res.2.1 v_pay res.2.2 v_deep v_fats v_fine v_hollow v_thick)) (h : fX11_orders x1 x2 x3 v_stones v_flat v_leastThick v_mostPay v_pay v_canLast v_deep v_fats v_fine v_hollow v_thick = some res) (H : Heap) (locs : List Loc) (hW : HW G A s (wX11_orders cI cZ a_this a_thick a_hollow a_damp a_fresh a_pulls a_fats a_deep a_fine a_pay a_hair a_sightPicture a_sightPull a_sightShows a_pad a_act a_where a_much a_kindMany a_had a_leaves a_mostPay a_canLast a_leastMissed a_kept a_isKept v_stones v_flat v_leastThick v_sights v_padMany v_acts v_pulled v_skyPull v_skyWhose v_badAct v_badWhy v_keptAt v_isWriting v_mostPay v_pay v_canLast v_deep v_fats v_fine v_hollow v_thick) H locs) (ls : Array Slot) (hl : lv_has ls 9 [(0, .ref a_this), (1, .int x1), (2, .int x2), (3, .int x3)]) : W p l e rX11_orders s m av below meth c H locs 0 0 Q (F0 m 0 ls []) := by
  have hx := C.1
  have hb := C.2.1
  unfold fX11_orders at h
  refine lv_iload_n hx hb dX11_orders_0 rfl (lv_at hl 3 rfl) ?_
  refine lv_iconst (v := (-1 : Int32)) hx hb dX11_orders_1 (by decide) ?_
  refine lv_icmp_eq (tgt := 21) hx hb dX11_orders_2 (by decide) (fun c_1 => ?_) (fun c_1 => ?_)
  · have h := ip_h c_1 h
    refine lv_iconst (v := (1 : Int32)) hx hb dX11_orders_21 (by decide) ?_
    refine lv_goto (tgt := 26) hx hb dX11_orders_22 (by decide) ?_
    exact uX11_orders_26 x1 x2 x3 (1 : Int32) v_stones v_flat v_leastThick v_sights v_padMany v_acts v_pulled v_skyPull v_skyWhose v_badAct v_badWhy v_keptAt v_isWriting v_mostPay v_pay v_canLast v_deep v_fats v_fine v_hollow v_thick C hQ h _ _ hW _ (lv_sub hl [0, 1, 2, 3] rfl)
  · have h := in_h c_1 h
    refine lv_iload_n hx hb dX11_orders_5 rfl (lv_at hl 3 rfl) ?_
    refine callSI0 C lk_RX11_122 (ctX11_isPicture x3 rfl) hW hl rfl ⟨rfl, rfl⟩ ⟨(Nat.le_of_ble_eq_true rfl), (Nat.le_of_ble_eq_true rfl)⟩ ⟨Nat.zero_le _, Nat.zero_le _⟩ rfl (Nat.le_of_ble_eq_true rfl) dX11_orders_6 (fun H locs hW => ?_)
    refine lv_if_eq (tgt := 25) hx hb dX11_orders_9 (by decide) (fun c_19 => ?_) (fun c_19 => ?_)
    · have h := ip_h c_19 h
      refine lv_iconst (v := (0 : Int32)) hx hb dX11_orders_25 (by decide) ?_
      exact uX11_orders_26 x1 x2 x3 (0 : Int32) v_stones v_flat v_leastThick v_sights v_padMany v_acts v_pulled v_skyPull v_skyWhose v_badAct v_badWhy v_keptAt v_isWriting v_mostPay v_pay v_canLast v_deep v_fats v_fine v_hollow v_thick C hQ h _ _ hW _ (lv_sub hl [0, 1, 2, 3] rfl)
    · have h := in_h c_19 h
      refine lv_iload_n hx hb dX11_orders_12 rfl (lv_at hl 1 rfl) ?_
      refine lv_iload_n hx hb dX11_orders_13 rfl (lv_at hl 3 rfl) ?_
      refine lv_ishr hx hb dX11_orders_14 ?_
      refine lv_iconst (v := (1 : Int32)) hx hb dX11_orders_15 (by decide) ?_
      refine lv_iand hx hb dX11_orders_16 ?_
      refine lv_iconst (v := (1 : Int32)) hx hb dX11_orders_17 (by decide) ?_
      refine lv_icmp_ne (tgt := 25) hx hb dX11_orders_18 (by decide) (fun c_20 => ?_) (fun c_20 => ?_)
      · have h := in_h c_20 h
        refine lv_iconst (v := (0 : Int32)) hx hb dX11_orders_25 (by decide) ?_
        exact uX11_orders_26 x1 x2 x3 (0 : Int32) v_stones v_flat v_leastThick v_sights v_padMany v_acts v_pulled v_skyPull v_skyWhose v_badAct v_badWhy v_keptAt v_isWriting v_mostPay v_pay v_canLast v_deep v_fats v_fine v_hollow v_thick C hQ h _ _ hW _ (lv_sub hl [0, 1, 2, 3] rfl)
      · have h := ip_h c_20 h
        refine lv_iconst (v := (1 : Int32)) hx hb dX11_orders_21 (by decide) ?_
        refine lv_goto (tgt := 26) hx hb dX11_orders_22 (by decide) ?_
        exact uX11_orders_26 x1 x2 x3 (1 : Int32) v_stones v_flat v_leastThick v_sights v_padMany v_acts v_pulled v_skyPull v_skyWhose v_badAct v_badWhy v_keptAt v_isWriting v_mostPay v_pay v_canLast v_deep v_fats v_fine v_hollow v_thick C hQ h _ _ hW _ (lv_sub hl [0, 1, 2, 3] rfl)
theorem ctX11_orders {l : Launch} {G : va_G} {cI cZ cO : ClassId} (a_this a_thick a_hollow a_damp a_fresh a_pulls a_fats a_deep a_fine a_pay a_hair a_sightPicture a_sightPull a_sightShows a_pad a_act a_where a_much a_kindMany a_had a_leaves a_mostPay a_canLast a_leastMissed a_kept a_isKept : Nat) (x1 : Int32) (x2 : Int32) (x3 : Int32) (v_stones : Int32) (v_flat : Int32) (v_leastThick : Int32) (v_sights : Int32) (v_padMany : Int32) (v_acts : Int32) (v_pulled : Int32) (v_skyPull : Int32) (v_skyWhose : Int32) (v_badAct : Int32) (v_badWhy : Int32) (v_keptAt : Int32) (v_isWriting : Int32) (v_mostPay : Nat → Int32) (v_pay : Nat → Int32) (v_canLast : Nat → Int32) (v_deep : Nat → Int32) (v_fats : Nat → Int32) (v_fine : Nat → Int32) (v_hollow : Nat → Int32) (v_thick : Nat → Int32) {res : Int32 × (Nat → Int32) × (Nat → Int32)} (h : fX11_orders x1 x2 x3 v_stones v_flat v_leastThick v_mostPay v_pay v_canLast v_deep v_fats v_fine v_hollow v_thick = some res) : MI l G cI cZ cO yX11_orders cX11_orders 9 .int rX11_orders [.ref a_this, .int x1, .int x2, .int x3] (wX11_orders cI cZ a_this a_thick a_hollow a_damp a_fresh a_pulls a_fats a_deep a_fine a_pay a_hair a_sightPicture a_sightPull a_sightShows a_pad a_act a_where a_much a_kindMany a_had a_leaves a_mostPay a_canLast a_leastMissed a_kept a_isKept v_stones v_flat v_leastThick v_sights v_padMany v_acts v_pulled v_skyPull v_skyWhose v_badAct v_badWhy v_keptAt v_isWriting v_mostPay v_pay v_canLast v_deep v_fats v_fine v_hollow v_thick) (res.1) (wX11_orders cI cZ a_this a_thick a_hollow a_damp a_fresh a_pulls a_fats a_deep a_fine a_pay a_hair a_sightPicture a_sightPull a_sightShows a_pad a_act a_where a_much a_kindMany a_had a_leaves a_mostPay a_canLast a_leastMissed a_kept a_isKept v_stones v_flat v_leastThick v_sights v_padMany v_acts v_pulled v_skyPull v_skyWhose v_badAct v_badWhy v_keptAt v_isWriting res.2.1 v_pay res.2.2 v_deep v_fats v_fine v_hollow v_thick) := by
  refine MI.of (by decide) (Nat.le_of_ble_eq_true rfl) ?_
  intro p e s m below meth c A Q C hW hQ ls hl
  exact uX11_orders_0 x1 x2 x3 v_stones v_flat v_leastThick v_sights v_padMany v_acts v_pulled v_skyPull v_skyWhose v_badAct v_badWhy v_keptAt v_isWriting v_mostPay v_pay v_canLast v_deep v_fats v_fine v_hollow v_thick C hQ h _ _ hW _ hl
abbrev wX11_colours (cI cZ : ClassId) (a_this a_thick a_hollow a_damp a_fresh a_pulls a_fats a_deep a_fine a_pay a_hair a_sightPicture a_sightPull a_sightShows a_pad a_act a_where a_much a_kindMany a_had a_leaves a_mostPay a_canLast a_leastMissed a_kept a_isKept : Nat) (v_stones : Int32) (v_flat : Int32) (v_leastThick : Int32) (v_sights : Int32) (v_padMany : Int32) (v_acts : Int32) (v_pulled : Int32) (v_skyPull : Int32) (v_skyWhose : Int32) (v_badAct : Int32) (v_badWhy : Int32) (v_keptAt : Int32) (v_isWriting : Int32) (v_leastMissed : Nat → Int32) (v_hair : Nat → Int32) : va_W := [(a_this, .inr (11, [.int v_stones, .int v_flat, .int v_leastThick, .ref a_thick, .ref a_hollow, .ref a_damp, .ref a_fresh, .ref a_pulls, .ref a_fats, .ref a_deep, .ref a_fine, .ref a_pay, .ref a_hair, .ref a_sightPicture, .ref a_sightPull, .ref a_sightShows, .int v_sights, .ref a_pad, .int v_padMany, .ref a_act, .ref a_where, .ref a_much, .int v_acts, .int v_pulled, .ref a_kindMany, .int v_skyPull, .int v_skyWhose, .ref a_had, .ref a_leaves, .int v_badAct, .int v_badWhy, .ref a_mostPay, .ref a_canLast, .ref a_leastMissed, .ref a_kept, .ref a_isKept, .int v_keptAt, .int v_isWriting])), (a_leastMissed, .inl (cI, 64, .inl v_leastMissed)), (a_hair, .inl (cI, 6, .inl v_hair))]
abbrev rX11_colours : Room := { frames := 1, cells := 0, slots := 0, locals := 25 }
set_option maxRecDepth 20000 in
theorem uX11_colours_145 {a_this a_thick a_hollow a_damp a_fresh a_pulls a_fats a_deep a_fine a_pay a_hair a_sightPicture a_sightPull a_sightShows a_pad a_act a_where a_much a_kindMany a_had a_leaves a_mostPay a_canLast a_leastMissed a_kept a_isKept : Nat} (x1 : Int32) (x2 : Int32) (x4 : Int32) (x5 : Int32) (x6 : Int32) (x7 : Int32) (x9 : Int32) (s0 : Int32) (v_stones : Int32) (v_flat : Int32) (v_leastThick : Int32) (v_sights : Int32) (v_padMany : Int32) (v_acts : Int32) (v_pulled : Int32) (v_skyPull : Int32) (v_skyWhose : Int32) (v_badAct : Int32) (v_badWhy : Int32) (v_keptAt : Int32) (v_isWriting : Int32) (v_leastMissed : Nat → Int32) (v_hair : Nat → Int32) {res : Int32 × (Nat → Int32)} (C : Cx p s m av meth c RX11 cX11_colours 11 (some .int) G cI cZ cO A) (hQ : RI p l e rX11_colours s m av below meth c G A cX11_colours .int Q (res.1) (wX11_colours cI cZ a_this a_thick a_hollow a_damp a_fresh a_pulls a_fats a_deep a_fine a_pay a_hair a_sightPicture a_sightPull a_sightShows a_pad a_act a_where a_much a_kindMany a_had a_leaves a_mostPay a_canLast a_leastMissed a_kept a_isKept v_stones v_flat v_leastThick v_sights v_padMany v_acts v_pulled v_skyPull v_skyWhose v_badAct v_badWhy v_keptAt v_isWriting res.2 v_hair)) {k61 : (Int32) → (Int32) → (Int32) → Option (Int32 × (Nat → Int32))} (hk61 : ∀ (x4 : Int32) (x6 : Int32) (x7 : Int32), k61 x4 x6 x7 = some res → ∀ (H : Heap) (locs : List Loc), HW G A s (wX11_colours cI cZ a_this a_thick a_hollow a_damp a_fresh a_pulls a_fats a_deep a_fine a_pay a_hair a_sightPicture a_sightPull a_sightShows a_pad a_act a_where a_much a_kindMany a_had a_leaves a_mostPay a_canLast a_leastMissed a_kept a_isKept v_stones v_flat v_leastThick v_sights v_padMany v_acts v_pulled v_skyPull v_skyWhose v_badAct v_badWhy v_keptAt v_isWriting v_leastMissed v_hair) H locs → ∀ ls : Array Slot, lv_has ls 11 [(0, .ref a_this), (1, .int x1), (2, .int x2), (4, .int x4), (5, .int x5), (6, .int x6), (7, .int x7)] → W p l e rX11_colours s m av below meth c H locs 0 0 Q (F0 m 61 ls [])) (h : fX11_colours_145 x4 x6 x7 x9 s0 k61 = some res) (H : Heap) (locs : List Loc) (hW : HW G A s (wX11_colours cI cZ a_this a_thick a_hollow a_damp a_fresh a_pulls a_fats a_deep a_fine a_pay a_hair a_sightPicture a_sightPull a_sightShows a_pad a_act a_where a_much a_kindMany a_had a_leaves a_mostPay a_canLast a_leastMissed a_kept a_isKept v_stones v_flat v_leastThick v_sights v_padMany v_acts v_pulled v_skyPull v_skyWhose v_badAct v_badWhy v_keptAt v_isWriting v_leastMissed v_hair) H locs) (ls : Array Slot) (hl : lv_has ls 11 [(0, .ref a_this), (1, .int x1), (2, .int x2), (4, .int x4), (5, .int x5), (6, .int x6), (7, .int x7), (9, .int x9)]) : W p l e rX11_colours s m av below meth c H locs 0 0 Q (F0 m 145 ls [.int s0]) := by
  have hx := C.1
  have hb := C.2.1
  unfold fX11_colours_145 at h
  refine lv_istore (lv' := [(10, .int s0), (0, .ref a_this), (1, .int x1), (2, .int x2), (4, .int x4), (5, .int x5), (6, .int x6), (7, .int x7), (9, .int x9)]) hx hb dX11_colours_145 hl (Nat.le_of_ble_eq_true rfl) rfl (fun ls hl => ?_)
  refine lv_iload hx hb dX11_colours_147 (lv_at hl 0 rfl) ?_
  refine lv_if_eq (tgt := 157) hx hb dX11_colours_149 (by decide) (fun c_15 => ?_) (fun c_15 => ?_)
  · have h := ip_h c_15 h
    refine lv_iload hx hb dX11_colours_157 (lv_at hl 6 rfl) ?_
    refine lv_istore (lv' := [(6, .int x6), (10, .int s0), (0, .ref a_this), (1, .int x1), (2, .int x2), (4, .int x4), (5, .int x5), (7, .int x7), (9, .int x9)]) hx hb dX11_colours_159 hl (Nat.le_of_ble_eq_true rfl) rfl (fun ls hl => ?_)
    refine lv_iload hx hb dX11_colours_161 (lv_at hl 1 rfl) ?_
    refine lv_if_eq (tgt := 171) hx hb dX11_colours_163 (by decide) (fun c_16 => ?_) (fun c_16 => ?_)
    · have h := ip_h c_16 h
      refine lv_iload hx hb dX11_colours_171 (lv_at hl 5 rfl) ?_
      refine lv_istore (lv' := [(4, .int x4), (6, .int x6), (10, .int s0), (0, .ref a_this), (1, .int x1), (2, .int x2), (5, .int x5), (7, .int x7), (9, .int x9)]) hx hb dX11_colours_173 hl (Nat.le_of_ble_eq_true rfl) rfl (fun ls hl => ?_)
      obtain ⟨v_17, ev_17⟩ : ∃ y : Int32, y = x7 + (-1 : Int32) := ⟨_, rfl⟩
      have h := lt_h ev_17 h
      refine lv_iinc (v := v_17) (lv' := [(7, .int v_17), (4, .int x4), (6, .int x6), (10, .int s0), (0, .ref a_this), (1, .int x1), (2, .int x2), (5, .int x5), (9, .int x9)]) hx hb dX11_colours_175 hl (k := 7) rfl (by rw [ev_17]; rfl) (Nat.le_of_ble_eq_true rfl) rfl (fun ls hl => ?_)
      refine lv_goto (tgt := 61) hx hb dX11_colours_178 (by decide) ?_
      exact hk61 x4 x6 v_17 h _ _ hW _ (lv_sub hl [4, 5, 6, 1, 7, 2, 0] rfl)
    · have h := in_h c_16 h
      refine lv_iload hx hb dX11_colours_166 (lv_at hl 7 rfl) ?_
      refine lv_goto (tgt := 173) hx hb dX11_colours_168 (by decide) ?_
      refine lv_istore (lv' := [(4, .int x7), (6, .int x6), (10, .int s0), (0, .ref a_this), (1, .int x1), (2, .int x2), (5, .int x5), (7, .int x7), (9, .int x9)]) hx hb dX11_colours_173 hl (Nat.le_of_ble_eq_true rfl) rfl (fun ls hl => ?_)
      obtain ⟨v_18, ev_18⟩ : ∃ y : Int32, y = x7 + (-1 : Int32) := ⟨_, rfl⟩
      have h := lt_h ev_18 h
      refine lv_iinc (v := v_18) (lv' := [(7, .int v_18), (4, .int x7), (6, .int x6), (10, .int s0), (0, .ref a_this), (1, .int x1), (2, .int x2), (5, .int x5), (9, .int x9)]) hx hb dX11_colours_175 hl (k := 7) rfl (by rw [ev_18]; rfl) (Nat.le_of_ble_eq_true rfl) rfl (fun ls hl => ?_)
      refine lv_goto (tgt := 61) hx hb dX11_colours_178 (by decide) ?_
      exact hk61 x7 x6 v_18 h _ _ hW _ (lv_sub hl [4, 5, 6, 1, 7, 2, 0] rfl)
  · have h := in_h c_15 h
    refine lv_iload hx hb dX11_colours_152 (lv_at hl 8 rfl) ?_
    refine lv_goto (tgt := 159) hx hb dX11_colours_154 (by decide) ?_
    refine lv_istore (lv' := [(6, .int x9), (10, .int s0), (0, .ref a_this), (1, .int x1), (2, .int x2), (4, .int x4), (5, .int x5), (7, .int x7), (9, .int x9)]) hx hb dX11_colours_159 hl (Nat.le_of_ble_eq_true rfl) rfl (fun ls hl => ?_)
    refine lv_iload hx hb dX11_colours_161 (lv_at hl 1 rfl) ?_
    refine lv_if_eq (tgt := 171) hx hb dX11_colours_163 (by decide) (fun c_19 => ?_) (fun c_19 => ?_)
    · have h := ip_h c_19 h
      refine lv_iload hx hb dX11_colours_171 (lv_at hl 5 rfl) ?_
      refine lv_istore (lv' := [(4, .int x4), (6, .int x9), (10, .int s0), (0, .ref a_this), (1, .int x1), (2, .int x2), (5, .int x5), (7, .int x7), (9, .int x9)]) hx hb dX11_colours_173 hl (Nat.le_of_ble_eq_true rfl) rfl (fun ls hl => ?_)
      obtain ⟨v_20, ev_20⟩ : ∃ y : Int32, y = x7 + (-1 : Int32) := ⟨_, rfl⟩
      have h := lt_h ev_20 h
      refine lv_iinc (v := v_20) (lv' := [(7, .int v_20), (4, .int x4), (6, .int x9), (10, .int s0), (0, .ref a_this), (1, .int x1), (2, .int x2), (5, .int x5), (9, .int x9)]) hx hb dX11_colours_175 hl (k := 7) rfl (by rw [ev_20]; rfl) (Nat.le_of_ble_eq_true rfl) rfl (fun ls hl => ?_)
      refine lv_goto (tgt := 61) hx hb dX11_colours_178 (by decide) ?_
      exact hk61 x4 x9 v_20 h _ _ hW _ (lv_sub hl [4, 5, 6, 1, 7, 2, 0] rfl)
    · have h := in_h c_19 h
      refine lv_iload hx hb dX11_colours_166 (lv_at hl 7 rfl) ?_
      refine lv_goto (tgt := 173) hx hb dX11_colours_168 (by decide) ?_
      refine lv_istore (lv' := [(4, .int x7), (6, .int x9), (10, .int s0), (0, .ref a_this), (1, .int x1), (2, .int x2), (5, .int x5), (7, .int x7), (9, .int x9)]) hx hb dX11_colours_173 hl (Nat.le_of_ble_eq_true rfl) rfl (fun ls hl => ?_)
      obtain ⟨v_21, ev_21⟩ : ∃ y : Int32, y = x7 + (-1 : Int32) := ⟨_, rfl⟩
      have h := lt_h ev_21 h
      refine lv_iinc (v := v_21) (lv' := [(7, .int v_21), (4, .int x7), (6, .int x9), (10, .int s0), (0, .ref a_this), (1, .int x1), (2, .int x2), (5, .int x5), (9, .int x9)]) hx hb dX11_colours_175 hl (k := 7) rfl (by rw [ev_21]; rfl) (Nat.le_of_ble_eq_true rfl) rfl (fun ls hl => ?_)
      refine lv_goto (tgt := 61) hx hb dX11_colours_178 (by decide) ?_
      exact hk61 x7 x9 v_21 h _ _ hW _ (lv_sub hl [4, 5, 6, 1, 7, 2, 0] rfl)
set_option maxRecDepth 20000 in
theorem uX11_colours_81 {a_this a_thick a_hollow a_damp a_fresh a_pulls a_fats a_deep a_fine a_pay a_hair a_sightPicture a_sightPull a_sightShows a_pad a_act a_where a_much a_kindMany a_had a_leaves a_mostPay a_canLast a_leastMissed a_kept a_isKept : Nat} (x1 : Int32) (x2 : Int32) (x4 : Int32) (x5 : Int32) (x6 : Int32) (x7 : Int32) (s0 : Int32) (v_stones : Int32) (v_flat : Int32) (v_leastThick : Int32) (v_sights : Int32) (v_padMany : Int32) (v_acts : Int32) (v_pulled : Int32) (v_skyPull : Int32) (v_skyWhose : Int32) (v_badAct : Int32) (v_badWhy : Int32) (v_keptAt : Int32) (v_isWriting : Int32) (v_leastMissed : Nat → Int32) (v_hair : Nat → Int32) {res : Int32 × (Nat → Int32)} (C : Cx p s m av meth c RX11 cX11_colours 11 (some .int) G cI cZ cO A) (hQ : RI p l e rX11_colours s m av below meth c G A cX11_colours .int Q (res.1) (wX11_colours cI cZ a_this a_thick a_hollow a_damp a_fresh a_pulls a_fats a_deep a_fine a_pay a_hair a_sightPicture a_sightPull a_sightShows a_pad a_act a_where a_much a_kindMany a_had a_leaves a_mostPay a_canLast a_leastMissed a_kept a_isKept v_stones v_flat v_leastThick v_sights v_padMany v_acts v_pulled v_skyPull v_skyWhose v_badAct v_badWhy v_keptAt v_isWriting res.2 v_hair)) {k61 : (Int32) → (Int32) → (Int32) → Option (Int32 × (Nat → Int32))} (hk61 : ∀ (x4 : Int32) (x6 : Int32) (x7 : Int32), k61 x4 x6 x7 = some res → ∀ (H : Heap) (locs : List Loc), HW G A s (wX11_colours cI cZ a_this a_thick a_hollow a_damp a_fresh a_pulls a_fats a_deep a_fine a_pay a_hair a_sightPicture a_sightPull a_sightShows a_pad a_act a_where a_much a_kindMany a_had a_leaves a_mostPay a_canLast a_leastMissed a_kept a_isKept v_stones v_flat v_leastThick v_sights v_padMany v_acts v_pulled v_skyPull v_skyWhose v_badAct v_badWhy v_keptAt v_isWriting v_leastMissed v_hair) H locs → ∀ ls : Array Slot, lv_has ls 11 [(0, .ref a_this), (1, .int x1), (2, .int x2), (4, .int x4), (5, .int x5), (6, .int x6), (7, .int x7)] → W p l e rX11_colours s m av below meth c H locs 0 0 Q (F0 m 61 ls [])) (h : fX11_colours_81 x4 x5 x6 x7 s0 v_leastMissed v_hair k61 = some res) (H : Heap) (locs : List Loc) (hW : HW G A s (wX11_colours cI cZ a_this a_thick a_hollow a_damp a_fresh a_pulls a_fats a_deep a_fine a_pay a_hair a_sightPicture a_sightPull a_sightShows a_pad a_act a_where a_much a_kindMany a_had a_leaves a_mostPay a_canLast a_leastMissed a_kept a_isKept v_stones v_flat v_leastThick v_sights v_padMany v_acts v_pulled v_skyPull v_skyWhose v_badAct v_badWhy v_keptAt v_isWriting v_leastMissed v_hair) H locs) (ls : Array Slot) (hl : lv_has ls 11 [(0, .ref a_this), (1, .int x1), (2, .int x2), (4, .int x4), (5, .int x5), (6, .int x6), (7, .int x7)]) : W p l e rX11_colours s m av below meth c H locs 0 0 Q (F0 m 81 ls [.int s0]) := by
  have hx := C.1
  have hb := C.2.1
  unfold fX11_colours_81 at h
  refine lv_istore (lv' := [(8, .int s0), (0, .ref a_this), (1, .int x1), (2, .int x2), (4, .int x4), (5, .int x5), (6, .int x6), (7, .int x7)]) hx hb dX11_colours_81 hl (Nat.le_of_ble_eq_true rfl) rfl (fun ls hl => ?_)
  refine lv_iload hx hb dX11_colours_83 (lv_at hl 0 rfl) ?_
  refine lv_if_eq (tgt := 120) hx hb dX11_colours_85 (by decide) (fun c_13 => ?_) (fun c_13 => ?_)
  · have h := ip_h c_13 h
    refine lv_iconst (v := (0 : Int32)) hx hb dX11_colours_120 (by decide) ?_
    refine lv_istore (lv' := [(9, .int (0 : Int32)), (8, .int s0), (0, .ref a_this), (1, .int x1), (2, .int x2), (4, .int x4), (5, .int x5), (6, .int x6), (7, .int x7)]) hx hb dX11_colours_121 hl (Nat.le_of_ble_eq_true rfl) rfl (fun ls hl => ?_)
    refine lv_iload hx hb dX11_colours_123 (lv_at hl 1 rfl) ?_
    refine lv_if_eq (tgt := 144) hx hb dX11_colours_125 (by decide) (fun c_14 => ?_) (fun c_14 => ?_)
    · have h := ip_h c_14 h
      refine lv_iconst (v := (0 : Int32)) hx hb dX11_colours_144 (by decide) ?_
      exact uX11_colours_145 x1 x2 x4 x5 x6 x7 (0 : Int32) (0 : Int32) v_stones v_flat v_leastThick v_sights v_padMany v_acts v_pulled v_skyPull v_skyWhose v_badAct v_badWhy v_keptAt v_isWriting v_leastMissed v_hair C hQ hk61 h _ _ hW _ (lv_sub hl [2, 3, 4, 5, 6, 7, 8, 0] rfl)
    · have h := in_h c_14 h
      refine lv_iload hx hb dX11_colours_128 (lv_at hl 7 rfl) ?_
      refine lv_if_lt (tgt := 140) hx hb dX11_colours_130 (by decide) (fun c_22 => ?_) (fun c_22 => ?_)
      · have h := ip_h c_22 h
        refine lv_iconst (v := (1 : Int32)) hx hb dX11_colours_140 (by decide) ?_
        refine lv_goto (tgt := 145) hx hb dX11_colours_141 (by decide) ?_
        exact uX11_colours_145 x1 x2 x4 x5 x6 x7 (0 : Int32) (1 : Int32) v_stones v_flat v_leastThick v_sights v_padMany v_acts v_pulled v_skyPull v_skyWhose v_badAct v_badWhy v_keptAt v_isWriting v_leastMissed v_hair C hQ hk61 h _ _ hW _ (lv_sub hl [2, 3, 4, 5, 6, 7, 8, 0] rfl)
      · have h := in_h c_22 h
        refine lv_iload hx hb dX11_colours_133 (lv_at hl 0 rfl) ?_
        refine lv_iload hx hb dX11_colours_135 (lv_at hl 7 rfl) ?_
        refine lv_icmp_gt (tgt := 144) hx hb dX11_colours_137 (by decide) (fun c_23 => ?_) (fun c_23 => ?_)
        · have h := ip_h c_23 h
          refine lv_iconst (v := (0 : Int32)) hx hb dX11_colours_144 (by decide) ?_
          exact uX11_colours_145 x1 x2 x4 x5 x6 x7 (0 : Int32) (0 : Int32) v_stones v_flat v_leastThick v_sights v_padMany v_acts v_pulled v_skyPull v_skyWhose v_badAct v_badWhy v_keptAt v_isWriting v_leastMissed v_hair C hQ hk61 h _ _ hW _ (lv_sub hl [2, 3, 4, 5, 6, 7, 8, 0] rfl)
        · have h := in_h c_23 h
          refine lv_iconst (v := (1 : Int32)) hx hb dX11_colours_140 (by decide) ?_
          refine lv_goto (tgt := 145) hx hb dX11_colours_141 (by decide) ?_
          exact uX11_colours_145 x1 x2 x4 x5 x6 x7 (0 : Int32) (1 : Int32) v_stones v_flat v_leastThick v_sights v_padMany v_acts v_pulled v_skyPull v_skyWhose v_badAct v_badWhy v_keptAt v_isWriting v_leastMissed v_hair C hQ hk61 h _ _ hW _ (lv_sub hl [2, 3, 4, 5, 6, 7, 8, 0] rfl)
  · have h := in_h c_13 h
    refine lv_iload hx hb dX11_colours_88 (lv_at hl 5 rfl) ?_
    obtain ⟨v_24, hv_24, h⟩ := bd_h h
    refine callSI0 C lk_RX11_114 (ctX11_ones x5 hv_24) hW hl rfl ⟨rfl, rfl⟩ ⟨(Nat.le_of_ble_eq_true rfl), (Nat.le_of_ble_eq_true rfl)⟩ ⟨Nat.zero_le _, Nat.zero_le _⟩ rfl (Nat.le_of_ble_eq_true rfl) dX11_colours_90 (fun H locs hW => ?_)
    refine lv_aload_n hx hb dX11_colours_93 rfl (lv_at hl 1 rfl) ?_
    refine getW C fl_RX11_37 hW 0 rfl rfl dX11_colours_94 ?_
    refine lv_iload hx hb dX11_colours_97 (lv_at hl 7 rfl) ?_
    obtain ⟨g_25, h⟩ := gd_h h
    refine ialdW C hW 2 rfl g_25 dX11_colours_99 ?_
    refine lv_isub hx hb dX11_colours_100 ?_
    refine callSI0 C lk_RX11_248 (ctX11_size (v_24 - (v_hair (Int32.toNatClampNeg x7))) rfl) hW hl rfl ⟨rfl, rfl⟩ ⟨(Nat.le_of_ble_eq_true rfl), (Nat.le_of_ble_eq_true rfl)⟩ ⟨Nat.zero_le _, Nat.zero_le _⟩ rfl (Nat.le_of_ble_eq_true rfl) dX11_colours_101 (fun H locs hW => ?_)
    refine lv_aload_n hx hb dX11_colours_104 rfl (lv_at hl 1 rfl) ?_
    refine getW C fl_RX11_77 hW 0 rfl rfl dX11_colours_105 ?_
    refine lv_iload hx hb dX11_colours_108 (lv_at hl 5 rfl) ?_
    refine lv_iconst (v := (1 : Int32)) hx hb dX11_colours_110 (by decide) ?_
    refine lv_iload hx hb dX11_colours_111 (lv_at hl 7 rfl) ?_
    refine lv_ishl hx hb dX11_colours_113 ?_
    refine lv_ior hx hb dX11_colours_114 ?_
    obtain ⟨g_26, h⟩ := gd_h h
    refine ialdW C hW 1 rfl g_26 dX11_colours_115 ?_
    refine lv_iadd hx hb dX11_colours_116 ?_
    refine lv_goto (tgt := 121) hx hb dX11_colours_117 (by decide) ?_
    refine lv_topi (fun v_27 ev_27 => ?_)
    have h := lt_h ev_27 h
    refine lv_istore (lv' := [(9, .int v_27), (8, .int s0), (0, .ref a_this), (1, .int x1), (2, .int x2), (4, .int x4), (5, .int x5), (6, .int x6), (7, .int x7)]) hx hb dX11_colours_121 hl (Nat.le_of_ble_eq_true rfl) rfl (fun ls hl => ?_)
    refine lv_iload hx hb dX11_colours_123 (lv_at hl 1 rfl) ?_
    refine lv_if_eq (tgt := 144) hx hb dX11_colours_125 (by decide) (fun c_28 => ?_) (fun c_28 => ?_)
    · have h := ip_h c_28 h
      refine lv_iconst (v := (0 : Int32)) hx hb dX11_colours_144 (by decide) ?_
      exact uX11_colours_145 x1 x2 x4 x5 x6 x7 v_27 (0 : Int32) v_stones v_flat v_leastThick v_sights v_padMany v_acts v_pulled v_skyPull v_skyWhose v_badAct v_badWhy v_keptAt v_isWriting v_leastMissed v_hair C hQ hk61 h _ _ hW _ (lv_sub hl [2, 3, 4, 5, 6, 7, 8, 0] rfl)
    · have h := in_h c_28 h
      refine lv_iload hx hb dX11_colours_128 (lv_at hl 7 rfl) ?_
      refine lv_if_lt (tgt := 140) hx hb dX11_colours_130 (by decide) (fun c_29 => ?_) (fun c_29 => ?_)
      · have h := ip_h c_29 h
        refine lv_iconst (v := (1 : Int32)) hx hb dX11_colours_140 (by decide) ?_
        refine lv_goto (tgt := 145) hx hb dX11_colours_141 (by decide) ?_
        exact uX11_colours_145 x1 x2 x4 x5 x6 x7 v_27 (1 : Int32) v_stones v_flat v_leastThick v_sights v_padMany v_acts v_pulled v_skyPull v_skyWhose v_badAct v_badWhy v_keptAt v_isWriting v_leastMissed v_hair C hQ hk61 h _ _ hW _ (lv_sub hl [2, 3, 4, 5, 6, 7, 8, 0] rfl)
      · have h := in_h c_29 h
        refine lv_iload hx hb dX11_colours_133 (lv_at hl 0 rfl) ?_
        refine lv_iload hx hb dX11_colours_135 (lv_at hl 7 rfl) ?_
        refine lv_icmp_gt (tgt := 144) hx hb dX11_colours_137 (by decide) (fun c_30 => ?_) (fun c_30 => ?_)
        · have h := ip_h c_30 h
          refine lv_iconst (v := (0 : Int32)) hx hb dX11_colours_144 (by decide) ?_
          exact uX11_colours_145 x1 x2 x4 x5 x6 x7 v_27 (0 : Int32) v_stones v_flat v_leastThick v_sights v_padMany v_acts v_pulled v_skyPull v_skyWhose v_badAct v_badWhy v_keptAt v_isWriting v_leastMissed v_hair C hQ hk61 h _ _ hW _ (lv_sub hl [2, 3, 4, 5, 6, 7, 8, 0] rfl)
        · have h := in_h c_30 h
          refine lv_iconst (v := (1 : Int32)) hx hb dX11_colours_140 (by decide) ?_
          refine lv_goto (tgt := 145) hx hb dX11_colours_141 (by decide) ?_
          exact uX11_colours_145 x1 x2 x4 x5 x6 x7 v_27 (1 : Int32) v_stones v_flat v_leastThick v_sights v_padMany v_acts v_pulled v_skyPull v_skyWhose v_badAct v_badWhy v_keptAt v_isWriting v_leastMissed v_hair C hQ hk61 h _ _ hW _ (lv_sub hl [2, 3, 4, 5, 6, 7, 8, 0] rfl)
set_option maxRecDepth 20000 in
theorem uX11_colours_61 {a_this a_thick a_hollow a_damp a_fresh a_pulls a_fats a_deep a_fine a_pay a_hair a_sightPicture a_sightPull a_sightShows a_pad a_act a_where a_much a_kindMany a_had a_leaves a_mostPay a_canLast a_leastMissed a_kept a_isKept : Nat} (x1 : Int32) (x2 : Int32) (x4 : Int32) (x5 : Int32) (x6 : Int32) (x7 : Int32) (v_stones : Int32) (v_flat : Int32) (v_leastThick : Int32) (v_sights : Int32) (v_padMany : Int32) (v_acts : Int32) (v_pulled : Int32) (v_skyPull : Int32) (v_skyWhose : Int32) (v_badAct : Int32) (v_badWhy : Int32) (v_keptAt : Int32) (v_isWriting : Int32) (v_leastMissed : Nat → Int32) (v_hair : Nat → Int32) {res : Int32 × (Nat → Int32)} (C : Cx p s m av meth c RX11 cX11_colours 11 (some .int) G cI cZ cO A) (hQ : RI p l e rX11_colours s m av below meth c G A cX11_colours .int Q (res.1) (wX11_colours cI cZ a_this a_thick a_hollow a_damp a_fresh a_pulls a_fats a_deep a_fine a_pay a_hair a_sightPicture a_sightPull a_sightShows a_pad a_act a_where a_much a_kindMany a_had a_leaves a_mostPay a_canLast a_leastMissed a_kept a_isKept v_stones v_flat v_leastThick v_sights v_padMany v_acts v_pulled v_skyPull v_skyWhose v_badAct v_badWhy v_keptAt v_isWriting res.2 v_hair)) {k47 : (Int32) → (Int32) → (Nat → Int32) → Option (Int32 × (Nat → Int32))} {k61 : (Int32) → (Int32) → (Int32) → Option (Int32 × (Nat → Int32))} (hk47 : ∀ (x4 : Int32) (x5 : Int32) (v_leastMissed : Nat → Int32), k47 x4 x5 v_leastMissed = some res → ∀ (H : Heap) (locs : List Loc), HW G A s (wX11_colours cI cZ a_this a_thick a_hollow a_damp a_fresh a_pulls a_fats a_deep a_fine a_pay a_hair a_sightPicture a_sightPull a_sightShows a_pad a_act a_where a_much a_kindMany a_had a_leaves a_mostPay a_canLast a_leastMissed a_kept a_isKept v_stones v_flat v_leastThick v_sights v_padMany v_acts v_pulled v_skyPull v_skyWhose v_badAct v_badWhy v_keptAt v_isWriting v_leastMissed v_hair) H locs → ∀ ls : Array Slot, lv_has ls 11 [(0, .ref a_this), (1, .int x1), (2, .int x2), (4, .int x4), (5, .int x5)] → W p l e rX11_colours s m av below meth c H locs 0 0 Q (F0 m 47 ls [])) (hk61 : ∀ (x4 : Int32) (x6 : Int32) (x7 : Int32), k61 x4 x6 x7 = some res → ∀ (H : Heap) (locs : List Loc), HW G A s (wX11_colours cI cZ a_this a_thick a_hollow a_damp a_fresh a_pulls a_fats a_deep a_fine a_pay a_hair a_sightPicture a_sightPull a_sightShows a_pad a_act a_where a_much a_kindMany a_had a_leaves a_mostPay a_canLast a_leastMissed a_kept a_isKept v_stones v_flat v_leastThick v_sights v_padMany v_acts v_pulled v_skyPull v_skyWhose v_badAct v_badWhy v_keptAt v_isWriting v_leastMissed v_hair) H locs → ∀ ls : Array Slot, lv_has ls 11 [(0, .ref a_this), (1, .int x1), (2, .int x2), (4, .int x4), (5, .int x5), (6, .int x6), (7, .int x7)] → W p l e rX11_colours s m av below meth c H locs 0 0 Q (F0 m 61 ls [])) (h : FX11_colours_61 x5 v_leastMissed v_hair k47 k61 x4 x6 x7 = some res) (H : Heap) (locs : List Loc) (hW : HW G A s (wX11_colours cI cZ a_this a_thick a_hollow a_damp a_fresh a_pulls a_fats a_deep a_fine a_pay a_hair a_sightPicture a_sightPull a_sightShows a_pad a_act a_where a_much a_kindMany a_had a_leaves a_mostPay a_canLast a_leastMissed a_kept a_isKept v_stones v_flat v_leastThick v_sights v_padMany v_acts v_pulled v_skyPull v_skyWhose v_badAct v_badWhy v_keptAt v_isWriting v_leastMissed v_hair) H locs) (ls : Array Slot) (hl : lv_has ls 11 [(0, .ref a_this), (1, .int x1), (2, .int x2), (4, .int x4), (5, .int x5), (6, .int x6), (7, .int x7)]) : W p l e rX11_colours s m av below meth c H locs 0 0 Q (F0 m 61 ls []) := by
  have hx := C.1
  have hb := C.2.1
  unfold FX11_colours_61 at h
  refine lv_iload hx hb dX11_colours_61 (lv_at hl 6 rfl) ?_
  refine lv_if_lt (tgt := 181) hx hb dX11_colours_63 (by decide) (fun c_9 => ?_) (fun c_9 => ?_)
  · have h := ip_h c_9 h
    refine lv_aload_n hx hb dX11_colours_181 rfl (lv_at hl 0 rfl) ?_
    refine getW C fl_RX11_77 hW 0 rfl rfl dX11_colours_182 ?_
    refine lv_iload hx hb dX11_colours_185 (lv_at hl 4 rfl) ?_
    refine lv_iload hx hb dX11_colours_187 (lv_at hl 5 rfl) ?_
    obtain ⟨g_10, h⟩ := gd_h h
    refine iastW C hW 1 rfl g_10 dX11_colours_189 (fun H locs hW => ?_)
    have hW : HW G A s (wX11_colours cI cZ a_this a_thick a_hollow a_damp a_fresh a_pulls a_fats a_deep a_fine a_pay a_hair a_sightPicture a_sightPull a_sightShows a_pad a_act a_where a_much a_kindMany a_had a_leaves a_mostPay a_canLast a_leastMissed a_kept a_isKept v_stones v_flat v_leastThick v_sights v_padMany v_acts v_pulled v_skyPull v_skyWhose v_badAct v_badWhy v_keptAt v_isWriting (upd v_leastMissed (Int32.toNatClampNeg x5) x6) v_hair) H locs := hW
    obtain ⟨v_11, ev_11⟩ : ∃ y : Int32, y = x5 + (-1 : Int32) := ⟨_, rfl⟩
    have h := lt_h ev_11 h
    refine lv_iinc (v := v_11) (lv' := [(5, .int v_11), (0, .ref a_this), (1, .int x1), (2, .int x2), (4, .int x4), (6, .int x6), (7, .int x7)]) hx hb dX11_colours_190 hl (k := 4) rfl (by rw [ev_11]; rfl) (Nat.le_of_ble_eq_true rfl) rfl (fun ls hl => ?_)
    refine lv_goto (tgt := 47) hx hb dX11_colours_193 (by decide) ?_
    exact hk47 x4 v_11 (upd v_leastMissed (Int32.toNatClampNeg x5) x6) h _ _ hW _ (lv_sub hl [1, 2, 3, 4, 0] rfl)
  · have h := in_h c_9 h
    refine lv_iload hx hb dX11_colours_66 (lv_at hl 4 rfl) ?_
    refine lv_iload hx hb dX11_colours_68 (lv_at hl 6 rfl) ?_
    refine lv_ishr hx hb dX11_colours_70 ?_
    refine lv_iconst (v := (1 : Int32)) hx hb dX11_colours_71 (by decide) ?_
    refine lv_iand hx hb dX11_colours_72 ?_
    refine lv_if_ne (tgt := 80) hx hb dX11_colours_73 (by decide) (fun c_12 => ?_) (fun c_12 => ?_)
    · have h := in_h c_12 h
      refine lv_iconst (v := (0 : Int32)) hx hb dX11_colours_80 (by decide) ?_
      exact uX11_colours_81 x1 x2 x4 x5 x6 x7 (0 : Int32) v_stones v_flat v_leastThick v_sights v_padMany v_acts v_pulled v_skyPull v_skyWhose v_badAct v_badWhy v_keptAt v_isWriting v_leastMissed v_hair C hQ hk61 h _ _ hW _ (lv_sub hl [0, 1, 2, 3, 4, 5, 6] rfl)
    · have h := ip_h c_12 h
      refine lv_iconst (v := (1 : Int32)) hx hb dX11_colours_76 (by decide) ?_
      refine lv_goto (tgt := 81) hx hb dX11_colours_77 (by decide) ?_
      exact uX11_colours_81 x1 x2 x4 x5 x6 x7 (1 : Int32) v_stones v_flat v_leastThick v_sights v_padMany v_acts v_pulled v_skyPull v_skyWhose v_badAct v_badWhy v_keptAt v_isWriting v_leastMissed v_hair C hQ hk61 h _ _ hW _ (lv_sub hl [0, 1, 2, 3, 4, 5, 6] rfl)
theorem wX11_colours_61_ {a_this a_thick a_hollow a_damp a_fresh a_pulls a_fats a_deep a_fine a_pay a_hair a_sightPicture a_sightPull a_sightShows a_pad a_act a_where a_much a_kindMany a_had a_leaves a_mostPay a_canLast a_leastMissed a_kept a_isKept : Nat} (x1 : Int32) (x2 : Int32) (x5 : Int32) (v_stones : Int32) (v_flat : Int32) (v_leastThick : Int32) (v_sights : Int32) (v_padMany : Int32) (v_acts : Int32) (v_pulled : Int32) (v_skyPull : Int32) (v_skyWhose : Int32) (v_badAct : Int32) (v_badWhy : Int32) (v_keptAt : Int32) (v_isWriting : Int32) (v_leastMissed : Nat → Int32) (v_hair : Nat → Int32) {res : Int32 × (Nat → Int32)} (C : Cx p s m av meth c RX11 cX11_colours 11 (some .int) G cI cZ cO A) (hQ : RI p l e rX11_colours s m av below meth c G A cX11_colours .int Q (res.1) (wX11_colours cI cZ a_this a_thick a_hollow a_damp a_fresh a_pulls a_fats a_deep a_fine a_pay a_hair a_sightPicture a_sightPull a_sightShows a_pad a_act a_where a_much a_kindMany a_had a_leaves a_mostPay a_canLast a_leastMissed a_kept a_isKept v_stones v_flat v_leastThick v_sights v_padMany v_acts v_pulled v_skyPull v_skyWhose v_badAct v_badWhy v_keptAt v_isWriting res.2 v_hair)) {k47 : (Int32) → (Int32) → (Nat → Int32) → Option (Int32 × (Nat → Int32))} (hk47 : ∀ (x4 : Int32) (x5 : Int32) (v_leastMissed : Nat → Int32), k47 x4 x5 v_leastMissed = some res → ∀ (H : Heap) (locs : List Loc), HW G A s (wX11_colours cI cZ a_this a_thick a_hollow a_damp a_fresh a_pulls a_fats a_deep a_fine a_pay a_hair a_sightPicture a_sightPull a_sightShows a_pad a_act a_where a_much a_kindMany a_had a_leaves a_mostPay a_canLast a_leastMissed a_kept a_isKept v_stones v_flat v_leastThick v_sights v_padMany v_acts v_pulled v_skyPull v_skyWhose v_badAct v_badWhy v_keptAt v_isWriting v_leastMissed v_hair) H locs → ∀ ls : Array Slot, lv_has ls 11 [(0, .ref a_this), (1, .int x1), (2, .int x2), (4, .int x4), (5, .int x5)] → W p l e rX11_colours s m av below meth c H locs 0 0 Q (F0 m 47 ls [])) : ∀ (n : Nat) (x4 : Int32) (x6 : Int32) (x7 : Int32), LX11_colours_61 x5 v_leastMissed v_hair k47 n x4 x6 x7 = some res → ∀ (H : Heap) (locs : List Loc), HW G A s (wX11_colours cI cZ a_this a_thick a_hollow a_damp a_fresh a_pulls a_fats a_deep a_fine a_pay a_hair a_sightPicture a_sightPull a_sightShows a_pad a_act a_where a_much a_kindMany a_had a_leaves a_mostPay a_canLast a_leastMissed a_kept a_isKept v_stones v_flat v_leastThick v_sights v_padMany v_acts v_pulled v_skyPull v_skyWhose v_badAct v_badWhy v_keptAt v_isWriting v_leastMissed v_hair) H locs → ∀ ls : Array Slot, lv_has ls 11 [(0, .ref a_this), (1, .int x1), (2, .int x2), (4, .int x4), (5, .int x5), (6, .int x6), (7, .int x7)] → W p l e rX11_colours s m av below meth c H locs 0 0 Q (F0 m 61 ls []) := by
  intro n
  induction n with
  | zero => intro x4 x6 x7 h; cases h
  | succ n ih =>
    intro x4 x6 x7 h H locs hW ls hl
    exact uX11_colours_61 x1 x2 x4 x5 x6 x7 v_stones v_flat v_leastThick v_sights v_padMany v_acts v_pulled v_skyPull v_skyWhose v_badAct v_badWhy v_keptAt v_isWriting v_leastMissed v_hair C hQ hk47 (k61 := LX11_colours_61 x5 v_leastMissed v_hair k47 n) ih h H locs hW ls hl
set_option maxRecDepth 20000 in
theorem uX11_colours_47 {a_this a_thick a_hollow a_damp a_fresh a_pulls a_fats a_deep a_fine a_pay a_hair a_sightPicture a_sightPull a_sightShows a_pad a_act a_where a_much a_kindMany a_had a_leaves a_mostPay a_canLast a_leastMissed a_kept a_isKept : Nat} (x1 : Int32) (x2 : Int32) (x4 : Int32) (x5 : Int32) (v_stones : Int32) (v_flat : Int32) (v_leastThick : Int32) (v_sights : Int32) (v_padMany : Int32) (v_acts : Int32) (v_pulled : Int32) (v_skyPull : Int32) (v_skyWhose : Int32) (v_badAct : Int32) (v_badWhy : Int32) (v_keptAt : Int32) (v_isWriting : Int32) (v_leastMissed : Nat → Int32) (v_hair : Nat → Int32) {res : Int32 × (Nat → Int32)} (C : Cx p s m av meth c RX11 cX11_colours 11 (some .int) G cI cZ cO A) (hQ : RI p l e rX11_colours s m av below meth c G A cX11_colours .int Q (res.1) (wX11_colours cI cZ a_this a_thick a_hollow a_damp a_fresh a_pulls a_fats a_deep a_fine a_pay a_hair a_sightPicture a_sightPull a_sightShows a_pad a_act a_where a_much a_kindMany a_had a_leaves a_mostPay a_canLast a_leastMissed a_kept a_isKept v_stones v_flat v_leastThick v_sights v_padMany v_acts v_pulled v_skyPull v_skyWhose v_badAct v_badWhy v_keptAt v_isWriting res.2 v_hair)) {k47 : (Int32) → (Int32) → (Nat → Int32) → Option (Int32 × (Nat → Int32))} (hk47 : ∀ (x4 : Int32) (x5 : Int32) (v_leastMissed : Nat → Int32), k47 x4 x5 v_leastMissed = some res → ∀ (H : Heap) (locs : List Loc), HW G A s (wX11_colours cI cZ a_this a_thick a_hollow a_damp a_fresh a_pulls a_fats a_deep a_fine a_pay a_hair a_sightPicture a_sightPull a_sightShows a_pad a_act a_where a_much a_kindMany a_had a_leaves a_mostPay a_canLast a_leastMissed a_kept a_isKept v_stones v_flat v_leastThick v_sights v_padMany v_acts v_pulled v_skyPull v_skyWhose v_badAct v_badWhy v_keptAt v_isWriting v_leastMissed v_hair) H locs → ∀ ls : Array Slot, lv_has ls 11 [(0, .ref a_this), (1, .int x1), (2, .int x2), (4, .int x4), (5, .int x5)] → W p l e rX11_colours s m av below meth c H locs 0 0 Q (F0 m 47 ls [])) (h : FX11_colours_47 x1 x2 v_hair k47 x4 x5 v_leastMissed = some res) (H : Heap) (locs : List Loc) (hW : HW G A s (wX11_colours cI cZ a_this a_thick a_hollow a_damp a_fresh a_pulls a_fats a_deep a_fine a_pay a_hair a_sightPicture a_sightPull a_sightShows a_pad a_act a_where a_much a_kindMany a_had a_leaves a_mostPay a_canLast a_leastMissed a_kept a_isKept v_stones v_flat v_leastThick v_sights v_padMany v_acts v_pulled v_skyPull v_skyWhose v_badAct v_badWhy v_keptAt v_isWriting v_leastMissed v_hair) H locs) (ls : Array Slot) (hl : lv_has ls 11 [(0, .ref a_this), (1, .int x1), (2, .int x2), (4, .int x4), (5, .int x5)]) : W p l e rX11_colours s m av below meth c H locs 0 0 Q (F0 m 47 ls []) := by
  have hx := C.1
  have hb := C.2.1
  unfold FX11_colours_47 at h
  refine lv_iload hx hb dX11_colours_47 (lv_at hl 4 rfl) ?_
  refine lv_if_lt (tgt := 196) hx hb dX11_colours_49 (by decide) (fun c_6 => ?_) (fun c_6 => ?_)
  · have h := ip_h c_6 h
    refine lv_iload_n hx hb dX11_colours_196 rfl (lv_at hl 2 rfl) ?_
    refine lv_if_ne (tgt := 209) hx hb dX11_colours_197 (by decide) (fun c_7 => ?_) (fun c_7 => ?_)
    · have h := in_h c_7 h
      refine lv_iload hx hb dX11_colours_209 (lv_at hl 3 rfl) ?_
      obtain rfl := Option.some.inj h
      exact hQ rfl _ _ _ _ dX11_colours_211 hW
    · have h := ip_h c_7 h
      refine lv_aload_n hx hb dX11_colours_200 rfl (lv_at hl 0 rfl) ?_
      refine getW C fl_RX11_77 hW 0 rfl rfl dX11_colours_201 ?_
      refine lv_iconst (v := (0 : Int32)) hx hb dX11_colours_204 (by decide) ?_
      refine ialdW C hW 1 rfl (show ¬ ((0 : Int32) < 0 ∨ 64 ≤ Int32.toNatClampNeg (0 : Int32)) by decide) dX11_colours_205 ?_
      refine lv_goto (tgt := 211) hx hb dX11_colours_206 (by decide) ?_
      obtain rfl := Option.some.inj h
      exact hQ rfl _ _ _ _ dX11_colours_211 hW
  · have h := in_h c_6 h
    refine lv_bipush (v := (-6 : Int32)) hx hb dX11_colours_52 (by decide) ?_
    refine lv_istore (lv' := [(6, .int (-6 : Int32)), (0, .ref a_this), (1, .int x1), (2, .int x2), (4, .int x4), (5, .int x5)]) hx hb dX11_colours_54 hl (Nat.le_of_ble_eq_true rfl) rfl (fun ls hl => ?_)
    refine lv_iload_n hx hb dX11_colours_56 rfl (lv_at hl 2 rfl) ?_
    refine lv_iconst (v := (1 : Int32)) hx hb dX11_colours_57 (by decide) ?_
    refine lv_isub hx hb dX11_colours_58 ?_
    refine lv_topi (fun v_8 ev_8 => ?_)
    have h := lt_h ev_8 h
    refine lv_istore (lv' := [(7, .int v_8), (6, .int (-6 : Int32)), (0, .ref a_this), (1, .int x1), (2, .int x2), (4, .int x4), (5, .int x5)]) hx hb dX11_colours_59 hl (Nat.le_of_ble_eq_true rfl) rfl (fun ls hl => ?_)
    exact wX11_colours_61_ x1 x2 x5 v_stones v_flat v_leastThick v_sights v_padMany v_acts v_pulled v_skyPull v_skyWhose v_badAct v_badWhy v_keptAt v_isWriting v_leastMissed v_hair C hQ hk47 2000 x4 (-6 : Int32) v_8 h _ _ hW _ (lv_sub hl [2, 3, 4, 5, 6, 1, 0] rfl)
theorem wX11_colours_47_ {a_this a_thick a_hollow a_damp a_fresh a_pulls a_fats a_deep a_fine a_pay a_hair a_sightPicture a_sightPull a_sightShows a_pad a_act a_where a_much a_kindMany a_had a_leaves a_mostPay a_canLast a_leastMissed a_kept a_isKept : Nat} (x1 : Int32) (x2 : Int32) (v_stones : Int32) (v_flat : Int32) (v_leastThick : Int32) (v_sights : Int32) (v_padMany : Int32) (v_acts : Int32) (v_pulled : Int32) (v_skyPull : Int32) (v_skyWhose : Int32) (v_badAct : Int32) (v_badWhy : Int32) (v_keptAt : Int32) (v_isWriting : Int32) (v_hair : Nat → Int32) {res : Int32 × (Nat → Int32)} (C : Cx p s m av meth c RX11 cX11_colours 11 (some .int) G cI cZ cO A) (hQ : RI p l e rX11_colours s m av below meth c G A cX11_colours .int Q (res.1) (wX11_colours cI cZ a_this a_thick a_hollow a_damp a_fresh a_pulls a_fats a_deep a_fine a_pay a_hair a_sightPicture a_sightPull a_sightShows a_pad a_act a_where a_much a_kindMany a_had a_leaves a_mostPay a_canLast a_leastMissed a_kept a_isKept v_stones v_flat v_leastThick v_sights v_padMany v_acts v_pulled v_skyPull v_skyWhose v_badAct v_badWhy v_keptAt v_isWriting res.2 v_hair)) : ∀ (n : Nat) (x4 : Int32) (x5 : Int32) (v_leastMissed : Nat → Int32), LX11_colours_47 x1 x2 v_hair n x4 x5 v_leastMissed = some res → ∀ (H : Heap) (locs : List Loc), HW G A s (wX11_colours cI cZ a_this a_thick a_hollow a_damp a_fresh a_pulls a_fats a_deep a_fine a_pay a_hair a_sightPicture a_sightPull a_sightShows a_pad a_act a_where a_much a_kindMany a_had a_leaves a_mostPay a_canLast a_leastMissed a_kept a_isKept v_stones v_flat v_leastThick v_sights v_padMany v_acts v_pulled v_skyPull v_skyWhose v_badAct v_badWhy v_keptAt v_isWriting v_leastMissed v_hair) H locs → ∀ ls : Array Slot, lv_has ls 11 [(0, .ref a_this), (1, .int x1), (2, .int x2), (4, .int x4), (5, .int x5)] → W p l e rX11_colours s m av below meth c H locs 0 0 Q (F0 m 47 ls []) := by
  intro n
  induction n with
  | zero => intro x4 x5 v_leastMissed h; cases h
  | succ n ih =>
    intro x4 x5 v_leastMissed h H locs hW ls hl
    exact uX11_colours_47 x1 x2 x4 x5 v_stones v_flat v_leastThick v_sights v_padMany v_acts v_pulled v_skyPull v_skyWhose v_badAct v_badWhy v_keptAt v_isWriting v_leastMissed v_hair C hQ (k47 := LX11_colours_47 x1 x2 v_hair n) ih h H locs hW ls hl
set_option maxRecDepth 20000 in
theorem uX11_colours_0 {a_this a_thick a_hollow a_damp a_fresh a_pulls a_fats a_deep a_fine a_pay a_hair a_sightPicture a_sightPull a_sightShows a_pad a_act a_where a_much a_kindMany a_had a_leaves a_mostPay a_canLast a_leastMissed a_kept a_isKept : Nat} (x1 : Int32) (x2 : Int32) (v_stones : Int32) (v_flat : Int32) (v_leastThick : Int32) (v_sights : Int32) (v_padMany : Int32) (v_acts : Int32) (v_pulled : Int32) (v_skyPull : Int32) (v_skyWhose : Int32) (v_badAct : Int32) (v_badWhy : Int32) (v_keptAt : Int32) (v_isWriting : Int32) (v_leastMissed : Nat → Int32) (v_hair : Nat → Int32) {res : Int32 × (Nat → Int32)} (C : Cx p s m av meth c RX11 cX11_colours 11 (some .int) G cI cZ cO A) (hQ : RI p l e rX11_colours s m av below meth c G A cX11_colours .int Q (res.1) (wX11_colours cI cZ a_this a_thick a_hollow a_damp a_fresh a_pulls a_fats a_deep a_fine a_pay a_hair a_sightPicture a_sightPull a_sightShows a_pad a_act a_where a_much a_kindMany a_had a_leaves a_mostPay a_canLast a_leastMissed a_kept a_isKept v_stones v_flat v_leastThick v_sights v_padMany v_acts v_pulled v_skyPull v_skyWhose v_badAct v_badWhy v_keptAt v_isWriting res.2 v_hair)) (h : fX11_colours x1 x2 v_leastMissed v_hair = some res) (H : Heap) (locs : List Loc) (hW : HW G A s (wX11_colours cI cZ a_this a_thick a_hollow a_damp a_fresh a_pulls a_fats a_deep a_fine a_pay a_hair a_sightPicture a_sightPull a_sightShows a_pad a_act a_where a_much a_kindMany a_had a_leaves a_mostPay a_canLast a_leastMissed a_kept a_isKept v_stones v_flat v_leastThick v_sights v_padMany v_acts v_pulled v_skyPull v_skyWhose v_badAct v_badWhy v_keptAt v_isWriting v_leastMissed v_hair) H locs) (ls : Array Slot) (hl : lv_has ls 11 [(0, .ref a_this), (1, .int x1), (2, .int x2)]) : W p l e rX11_colours s m av below meth c H locs 0 0 Q (F0 m 0 ls []) := by
  have hx := C.1
  have hb := C.2.1
  unfold fX11_colours at h
  refine lv_iload_n hx hb dX11_colours_0 rfl (lv_at hl 1 rfl) ?_
  refine lv_i2l hx hb dX11_colours_1 rfl ?_
  refine lv_lconst (v := (1 : Int64)) hx hb dX11_colours_2 (by decide) ?_
  refine lv_ldc2 (v := (6 : Int64)) hx hb C.2.2.2.2.2.1 (C.2.2.2.2.1 _ wd_1081) dX11_colours_3 ?_
  refine callSI0 C lk_RX11_95 (ctX11_in (Int32.toInt64 x1) (1 : Int64) (6 : Int64) rfl) hW hl rfl ⟨rfl, rfl⟩ ⟨(Nat.le_of_ble_eq_true rfl), (Nat.le_of_ble_eq_true rfl)⟩ ⟨Nat.zero_le _, Nat.zero_le _⟩ rfl (Nat.le_of_ble_eq_true rfl) dX11_colours_6 (fun H locs hW => ?_)
  refine lv_if_eq (tgt := 22) hx hb dX11_colours_9 (by decide) (fun c_1 => ?_) (fun c_1 => ?_)
  · have h := ip_h c_1 h
    refine lv_bipush (v := (-2 : Int32)) hx hb dX11_colours_22 (by decide) ?_
    obtain rfl := Option.some.inj h
    exact hQ rfl _ _ _ _ dX11_colours_24 hW
  · have h := in_h c_1 h
    refine lv_iload_n hx hb dX11_colours_12 rfl (lv_at hl 2 rfl) ?_
    refine lv_i2l hx hb dX11_colours_13 rfl ?_
    refine lv_lconst (v := (0 : Int64)) hx hb dX11_colours_14 (by decide) ?_
    refine lv_lconst (v := (1 : Int64)) hx hb dX11_colours_15 (by decide) ?_
    refine callSI0 C lk_RX11_95 (ctX11_in (Int32.toInt64 x2) (0 : Int64) (1 : Int64) rfl) hW hl rfl ⟨rfl, rfl⟩ ⟨(Nat.le_of_ble_eq_true rfl), (Nat.le_of_ble_eq_true rfl)⟩ ⟨Nat.zero_le _, Nat.zero_le _⟩ rfl (Nat.le_of_ble_eq_true rfl) dX11_colours_16 (fun H locs hW => ?_)
    refine lv_if_ne (tgt := 25) hx hb dX11_colours_19 (by decide) (fun c_2 => ?_) (fun c_2 => ?_)
    · have h := in_h c_2 h
      refine lv_iconst (v := (1 : Int32)) hx hb dX11_colours_25 (by decide) ?_
      refine lv_iload_n hx hb dX11_colours_26 rfl (lv_at hl 1 rfl) ?_
      refine lv_ishl hx hb dX11_colours_27 ?_
      refine lv_iconst (v := (1 : Int32)) hx hb dX11_colours_28 (by decide) ?_
      refine lv_isub hx hb dX11_colours_29 ?_
      refine lv_topi (fun v_3 ev_3 => ?_)
      have h := lt_h ev_3 h
      refine lv_istore_n (lv' := [(3, .int v_3), (0, .ref a_this), (1, .int x1), (2, .int x2)]) hx hb dX11_colours_30 rfl hl (Nat.le_of_ble_eq_true rfl) rfl (fun ls hl => ?_)
      refine lv_bipush (v := (-6 : Int32)) hx hb dX11_colours_31 (by decide) ?_
      refine lv_istore (lv' := [(4, .int (-6 : Int32)), (3, .int v_3), (0, .ref a_this), (1, .int x1), (2, .int x2)]) hx hb dX11_colours_33 hl (Nat.le_of_ble_eq_true rfl) rfl (fun ls hl => ?_)
      refine lv_aload_n hx hb dX11_colours_35 rfl (lv_at hl 2 rfl) ?_
      refine getW C fl_RX11_77 hW 0 rfl rfl dX11_colours_36 ?_
      refine lv_iload_n hx hb dX11_colours_39 rfl (lv_at hl 1 rfl) ?_
      refine lv_iconst (v := (0 : Int32)) hx hb dX11_colours_40 (by decide) ?_
      obtain ⟨g_4, h⟩ := gd_h h
      refine iastW C hW 1 rfl g_4 dX11_colours_41 (fun H locs hW => ?_)
      have hW : HW G A s (wX11_colours cI cZ a_this a_thick a_hollow a_damp a_fresh a_pulls a_fats a_deep a_fine a_pay a_hair a_sightPicture a_sightPull a_sightShows a_pad a_act a_where a_much a_kindMany a_had a_leaves a_mostPay a_canLast a_leastMissed a_kept a_isKept v_stones v_flat v_leastThick v_sights v_padMany v_acts v_pulled v_skyPull v_skyWhose v_badAct v_badWhy v_keptAt v_isWriting (upd v_leastMissed (Int32.toNatClampNeg v_3) (0 : Int32)) v_hair) H locs := hW
      refine lv_iload_n hx hb dX11_colours_42 rfl (lv_at hl 1 rfl) ?_
      refine lv_iconst (v := (1 : Int32)) hx hb dX11_colours_43 (by decide) ?_
      refine lv_isub hx hb dX11_colours_44 ?_
      refine lv_topi (fun v_5 ev_5 => ?_)
      have h := lt_h ev_5 h
      refine lv_istore (lv' := [(5, .int v_5), (4, .int (-6 : Int32)), (3, .int v_3), (0, .ref a_this), (1, .int x1), (2, .int x2)]) hx hb dX11_colours_45 hl (Nat.le_of_ble_eq_true rfl) rfl (fun ls hl => ?_)
      exact wX11_colours_47_ x1 x2 v_stones v_flat v_leastThick v_sights v_padMany v_acts v_pulled v_skyPull v_skyWhose v_badAct v_badWhy v_keptAt v_isWriting v_hair C hQ 2000 (-6 : Int32) v_5 (upd v_leastMissed (Int32.toNatClampNeg v_3) (0 : Int32)) h _ _ hW _ (lv_sub hl [3, 4, 5, 1, 0] rfl)
    · have h := ip_h c_2 h
      refine lv_bipush (v := (-2 : Int32)) hx hb dX11_colours_22 (by decide) ?_
      obtain rfl := Option.some.inj h
      exact hQ rfl _ _ _ _ dX11_colours_24 hW
theorem ctX11_colours {l : Launch} {G : va_G} {cI cZ cO : ClassId} (a_this a_thick a_hollow a_damp a_fresh a_pulls a_fats a_deep a_fine a_pay a_hair a_sightPicture a_sightPull a_sightShows a_pad a_act a_where a_much a_kindMany a_had a_leaves a_mostPay a_canLast a_leastMissed a_kept a_isKept : Nat) (x1 : Int32) (x2 : Int32) (v_stones : Int32) (v_flat : Int32) (v_leastThick : Int32) (v_sights : Int32) (v_padMany : Int32) (v_acts : Int32) (v_pulled : Int32) (v_skyPull : Int32) (v_skyWhose : Int32) (v_badAct : Int32) (v_badWhy : Int32) (v_keptAt : Int32) (v_isWriting : Int32) (v_leastMissed : Nat → Int32) (v_hair : Nat → Int32) {res : Int32 × (Nat → Int32)} (h : fX11_colours x1 x2 v_leastMissed v_hair = some res) : MI l G cI cZ cO yX11_colours cX11_colours 11 .int rX11_colours [.ref a_this, .int x1, .int x2] (wX11_colours cI cZ a_this a_thick a_hollow a_damp a_fresh a_pulls a_fats a_deep a_fine a_pay a_hair a_sightPicture a_sightPull a_sightShows a_pad a_act a_where a_much a_kindMany a_had a_leaves a_mostPay a_canLast a_leastMissed a_kept a_isKept v_stones v_flat v_leastThick v_sights v_padMany v_acts v_pulled v_skyPull v_skyWhose v_badAct v_badWhy v_keptAt v_isWriting v_leastMissed v_hair) (res.1) (wX11_colours cI cZ a_this a_thick a_hollow a_damp a_fresh a_pulls a_fats a_deep a_fine a_pay a_hair a_sightPicture a_sightPull a_sightShows a_pad a_act a_where a_much a_kindMany a_had a_leaves a_mostPay a_canLast a_leastMissed a_kept a_isKept v_stones v_flat v_leastThick v_sights v_padMany v_acts v_pulled v_skyPull v_skyWhose v_badAct v_badWhy v_keptAt v_isWriting res.2 v_hair) := by
  refine MI.of (by decide) (Nat.le_of_ble_eq_true rfl) ?_
  intro p e s m below meth c A Q C hW hQ ls hl
  exact uX11_colours_0 x1 x2 v_stones v_flat v_leastThick v_sights v_padMany v_acts v_pulled v_skyPull v_skyWhose v_badAct v_badWhy v_keptAt v_isWriting v_leastMissed v_hair C hQ h _ _ hW _ hl
abbrev wX11_lowest (cI cZ : ClassId) : va_W := []
abbrev rX11_lowest : Room := { frames := 0, cells := 0, slots := 0, locals := 0 }
set_option maxRecDepth 20000 in
theorem uX11_lowest_6 (x0 : Int64) (x2 : Int64) (x4 : Int32) (x5 : Int64) (x7 : Int64) {res : Int64} (C : Cx p s m av meth c RX11 cX11_lowest 11 (some .long) G cI cZ cO A) (hQ : RL_ p l e rX11_lowest s m av below meth c G A cX11_lowest Q (res) (wX11_lowest cI cZ)) {k6 : (Int64) → (Int64) → Option (Int64)} (hk6 : ∀ (x5 : Int64) (x7 : Int64), k6 x5 x7 = some res → ∀ (H : Heap) (locs : List Loc), HW G A s (wX11_lowest cI cZ) H locs → ∀ ls : Array Slot, lv_has ls 11 [(0, .long x0), (2, .long x2), (4, .int x4), (5, .long x5), (7, .long x7)] → W p l e rX11_lowest s m av below meth c H locs 0 0 Q (F0 m 6 ls [])) (h : FX11_lowest_6 x0 x2 x4 k6 x5 x7 = some res) (H : Heap) (locs : List Loc) (hW : HW G A s (wX11_lowest cI cZ) H locs) (ls : Array Slot) (hl : lv_has ls 11 [(0, .long x0), (2, .long x2), (4, .int x4), (5, .long x5), (7, .long x7)]) : W p l e rX11_lowest s m av below meth c H locs 0 0 Q (F0 m 6 ls []) := by
  have hx := C.1
  have hb := C.2.1
  unfold FX11_lowest_6 at h
  refine lv_lload hx hb dX11_lowest_6 (lv_at hl 4 rfl) ?_
  refine lv_lconst (v := (0 : Int64)) hx hb dX11_lowest_8 (by decide) ?_
  refine W.lcmp hx hb dX11_lowest_9 ?_
  refine lv_if_eq (tgt := 31) hx hb dX11_lowest_10 (by decide) (fun c_1 => ?_) (fun c_1 => ?_)
  · have h := ip_h c_1 h
    refine lv_iload hx hb dX11_lowest_31 (lv_at hl 2 rfl) ?_
    refine lv_if_ne (tgt := 43) hx hb dX11_lowest_33 (by decide) (fun c_2 => ?_) (fun c_2 => ?_)
    · have h := in_h c_2 h
      refine lv_lload_n hx hb dX11_lowest_43 rfl (lv_at hl 1 rfl) ?_
      refine lv_lload hx hb dX11_lowest_44 (lv_at hl 3 rfl) ?_
      obtain ⟨g_3, h⟩ := gd_h h
      refine lv_ldiv hx hb dX11_lowest_46 g_3 ?_
      obtain rfl := Option.some.inj h
      exact hQ _ _ _ _ dX11_lowest_47 hW
    · have h := ip_h c_2 h
      refine lv_lload_n hx hb dX11_lowest_36 rfl (lv_at hl 0 rfl) ?_
      refine lv_lload hx hb dX11_lowest_37 (lv_at hl 3 rfl) ?_
      obtain ⟨g_4, h⟩ := gd_h h
      refine lv_ldiv hx hb dX11_lowest_39 g_4 ?_
      refine lv_goto (tgt := 47) hx hb dX11_lowest_40 (by decide) ?_
      obtain rfl := Option.some.inj h
      exact hQ _ _ _ _ dX11_lowest_47 hW
  · have h := in_h c_1 h
    refine lv_lload hx hb dX11_lowest_13 (lv_at hl 3 rfl) ?_
    refine lv_lload hx hb dX11_lowest_15 (lv_at hl 4 rfl) ?_
    obtain ⟨g_5, h⟩ := gd_h h
    refine lv_lrem hx hb dX11_lowest_17 g_5 ?_
    refine lv_topl (fun v_6 ev_6 => ?_)
    have h := lt_h ev_6 h
    refine lv_lstore (lv' := [(9, .long v_6), (0, .long x0), (2, .long x2), (4, .int x4), (5, .long x5), (7, .long x7)]) hx hb dX11_lowest_18 hl (Nat.le_of_ble_eq_true rfl) rfl (fun ls hl => ?_)
    refine lv_lload hx hb dX11_lowest_20 (lv_at hl 5 rfl) ?_
    refine lv_lstore (lv' := [(5, .long x7), (9, .long v_6), (0, .long x0), (2, .long x2), (4, .int x4), (7, .long x7)]) hx hb dX11_lowest_22 hl (Nat.le_of_ble_eq_true rfl) rfl (fun ls hl => ?_)
    refine lv_lload hx hb dX11_lowest_24 (lv_at hl 1 rfl) ?_
    refine lv_lstore (lv' := [(7, .long v_6), (5, .long x7), (9, .long v_6), (0, .long x0), (2, .long x2), (4, .int x4)]) hx hb dX11_lowest_26 hl (Nat.le_of_ble_eq_true rfl) rfl (fun ls hl => ?_)
    refine lv_goto (tgt := 6) hx hb dX11_lowest_28 (by decide) ?_
    exact hk6 x7 v_6 h _ _ hW _ (lv_sub hl [3, 4, 5, 1, 0] rfl)
theorem wX11_lowest_6_ (x0 : Int64) (x2 : Int64) (x4 : Int32) {res : Int64} (C : Cx p s m av meth c RX11 cX11_lowest 11 (some .long) G cI cZ cO A) (hQ : RL_ p l e rX11_lowest s m av below meth c G A cX11_lowest Q (res) (wX11_lowest cI cZ)) : ∀ (n : Nat) (x5 : Int64) (x7 : Int64), LX11_lowest_6 x0 x2 x4 n x5 x7 = some res → ∀ (H : Heap) (locs : List Loc), HW G A s (wX11_lowest cI cZ) H locs → ∀ ls : Array Slot, lv_has ls 11 [(0, .long x0), (2, .long x2), (4, .int x4), (5, .long x5), (7, .long x7)] → W p l e rX11_lowest s m av below meth c H locs 0 0 Q (F0 m 6 ls []) := by
  intro n
  induction n with
  | zero => intro x5 x7 h; cases h
  | succ n ih =>
    intro x5 x7 h H locs hW ls hl
    exact uX11_lowest_6 x0 x2 x4 x5 x7 C hQ (k6 := LX11_lowest_6 x0 x2 x4 n) ih h H locs hW ls hl
set_option maxRecDepth 20000 in
theorem uX11_lowest_0 (x0 : Int64) (x2 : Int64) (x4 : Int32) {res : Int64} (C : Cx p s m av meth c RX11 cX11_lowest 11 (some .long) G cI cZ cO A) (hQ : RL_ p l e rX11_lowest s m av below meth c G A cX11_lowest Q (res) (wX11_lowest cI cZ)) (h : fX11_lowest x0 x2 x4 = some res) (H : Heap) (locs : List Loc) (hW : HW G A s (wX11_lowest cI cZ) H locs) (ls : Array Slot) (hl : lv_has ls 11 [(0, .long x0), (2, .long x2), (4, .int x4)]) : W p l e rX11_lowest s m av below meth c H locs 0 0 Q (F0 m 0 ls []) := by
  have hx := C.1
  have hb := C.2.1
  unfold fX11_lowest at h
  refine lv_lload_n hx hb dX11_lowest_0 rfl (lv_at hl 1 rfl) ?_
  refine lv_lstore (lv' := [(5, .long x2), (0, .long x0), (2, .long x2), (4, .int x4)]) hx hb dX11_lowest_1 hl (Nat.le_of_ble_eq_true rfl) rfl (fun ls hl => ?_)
  refine lv_lload_n hx hb dX11_lowest_3 rfl (lv_at hl 1 rfl) ?_
  refine lv_lstore (lv' := [(7, .long x0), (5, .long x2), (0, .long x0), (2, .long x2), (4, .int x4)]) hx hb dX11_lowest_4 hl (Nat.le_of_ble_eq_true rfl) rfl (fun ls hl => ?_)
  exact wX11_lowest_6_ x0 x2 x4 C hQ 2000 x2 x0 h _ _ hW _ (lv_sub hl [2, 3, 4, 1, 0] rfl)
theorem ctX11_lowest {l : Launch} {G : va_G} {cI cZ cO : ClassId} (x0 : Int64) (x2 : Int64) (x4 : Int32) {res : Int64} (h : fX11_lowest x0 x2 x4 = some res) : ML l G cI cZ cO yX11_lowest cX11_lowest 11 .long rX11_lowest [.long x0, .long x2, .int x4] (wX11_lowest cI cZ) (res) (wX11_lowest cI cZ) := by
  refine ML.of (by decide) (Nat.le_of_ble_eq_true rfl) ?_
  intro p e s m below meth c A Q C hW hQ ls hl
  exact uX11_lowest_0 x0 x2 x4 C hQ h _ _ hW _ hl
abbrev wX11_crack (cI cZ : ClassId) (a_this a_thick a_hollow a_damp a_fresh a_pulls a_fats a_deep a_fine a_pay a_hair a_sightPicture a_sightPull a_sightShows a_pad a_act a_where a_much a_kindMany a_had a_leaves a_mostPay a_canLast a_leastMissed a_kept a_isKept : Nat) (v_stones : Int32) (v_flat : Int32) (v_leastThick : Int32) (v_sights : Int32) (v_padMany : Int32) (v_acts : Int32) (v_pulled : Int32) (v_skyPull : Int32) (v_skyWhose : Int32) (v_badAct : Int32) (v_badWhy : Int32) (v_keptAt : Int32) (v_isWriting : Int32) (v_thick : Nat → Int32) : va_W := [(a_this, .inr (11, [.int v_stones, .int v_flat, .int v_leastThick, .ref a_thick, .ref a_hollow, .ref a_damp, .ref a_fresh, .ref a_pulls, .ref a_fats, .ref a_deep, .ref a_fine, .ref a_pay, .ref a_hair, .ref a_sightPicture, .ref a_sightPull, .ref a_sightShows, .int v_sights, .ref a_pad, .int v_padMany, .ref a_act, .ref a_where, .ref a_much, .int v_acts, .int v_pulled, .ref a_kindMany, .int v_skyPull, .int v_skyWhose, .ref a_had, .ref a_leaves, .int v_badAct, .int v_badWhy, .ref a_mostPay, .ref a_canLast, .ref a_leastMissed, .ref a_kept, .ref a_isKept, .int v_keptAt, .int v_isWriting])), (a_thick, .inl (cI, 5, .inl v_thick))]
abbrev rX11_crack : Room := { frames := 2, cells := 0, slots := 0, locals := 46 }
set_option maxRecDepth 20000 in
theorem uX11_crack_106 {a_this a_thick a_hollow a_damp a_fresh a_pulls a_fats a_deep a_fine a_pay a_hair a_sightPicture a_sightPull a_sightShows a_pad a_act a_where a_much a_kindMany a_had a_leaves a_mostPay a_canLast a_leastMissed a_kept a_isKept : Nat} (x3 : Int32) (x4 : Int32) (x5 : Int32) (x7 : Int32) (x8 : Int64) (x10 : Int64) (x12 : Int64) (x14 : Int32) (v_stones : Int32) (v_flat : Int32) (v_leastThick : Int32) (v_sights : Int32) (v_padMany : Int32) (v_acts : Int32) (v_pulled : Int32) (v_skyPull : Int32) (v_skyWhose : Int32) (v_badAct : Int32) (v_badWhy : Int32) (v_keptAt : Int32) (v_isWriting : Int32) (v_thick : Nat → Int32) {res : Int64} (C : Cx p s m av meth c RX11 cX11_crack 15 (some .long) G cI cZ cO A) (hQ : RL_ p l e rX11_crack s m av below meth c G A cX11_crack Q (res) (wX11_crack cI cZ a_this a_thick a_hollow a_damp a_fresh a_pulls a_fats a_deep a_fine a_pay a_hair a_sightPicture a_sightPull a_sightShows a_pad a_act a_where a_much a_kindMany a_had a_leaves a_mostPay a_canLast a_leastMissed a_kept a_isKept v_stones v_flat v_leastThick v_sights v_padMany v_acts v_pulled v_skyPull v_skyWhose v_badAct v_badWhy v_keptAt v_isWriting v_thick)) {k106 : (Int64) → (Int64) → (Int64) → (Int32) → Option (Int64)} (hk106 : ∀ (x8 : Int64) (x10 : Int64) (x12 : Int64) (x14 : Int32), k106 x8 x10 x12 x14 = some res → ∀ (H : Heap) (locs : List Loc), HW G A s (wX11_crack cI cZ a_this a_thick a_hollow a_damp a_fresh a_pulls a_fats a_deep a_fine a_pay a_hair a_sightPicture a_sightPull a_sightShows a_pad a_act a_where a_much a_kindMany a_had a_leaves a_mostPay a_canLast a_leastMissed a_kept a_isKept v_stones v_flat v_leastThick v_sights v_padMany v_acts v_pulled v_skyPull v_skyWhose v_badAct v_badWhy v_keptAt v_isWriting v_thick) H locs → ∀ ls : Array Slot, lv_has ls 15 [(3, .int x3), (4, .int x4), (5, .int x5), (7, .int x7), (8, .long x8), (10, .long x10), (12, .long x12), (14, .int x14)] → W p l e rX11_crack s m av below meth c H locs 0 0 Q (F0 m 106 ls [])) (h : FX11_crack_106 x3 x4 x5 x7 k106 x8 x10 x12 x14 = some res) (H : Heap) (locs : List Loc) (hW : HW G A s (wX11_crack cI cZ a_this a_thick a_hollow a_damp a_fresh a_pulls a_fats a_deep a_fine a_pay a_hair a_sightPicture a_sightPull a_sightShows a_pad a_act a_where a_much a_kindMany a_had a_leaves a_mostPay a_canLast a_leastMissed a_kept a_isKept v_stones v_flat v_leastThick v_sights v_padMany v_acts v_pulled v_skyPull v_skyWhose v_badAct v_badWhy v_keptAt v_isWriting v_thick) H locs) (ls : Array Slot) (hl : lv_has ls 15 [(3, .int x3), (4, .int x4), (5, .int x5), (7, .int x7), (8, .long x8), (10, .long x10), (12, .long x12), (14, .int x14)]) : W p l e rX11_crack s m av below meth c H locs 0 0 Q (F0 m 106 ls []) := by
  have hx := C.1
  have hb := C.2.1
  unfold FX11_crack_106 at h
  refine lv_iload hx hb dX11_crack_106 (lv_at hl 7 rfl) ?_
  refine lv_iload_n hx hb dX11_crack_108 rfl (lv_at hl 0 rfl) ?_
  refine lv_icmp_gt (tgt := 155) hx hb dX11_crack_109 (by decide) (fun c_9 => ?_) (fun c_9 => ?_)
  · have h := ip_h c_9 h
    refine lv_iload hx hb dX11_crack_155 (lv_at hl 1 rfl) ?_
    refine lv_if_ne (tgt := 165) hx hb dX11_crack_157 (by decide) (fun c_10 => ?_) (fun c_10 => ?_)
    · have h := in_h c_10 h
      refine lv_lload hx hb dX11_crack_165 (lv_at hl 6 rfl) ?_
      refine lv_iload_n hx hb dX11_crack_167 rfl (lv_at hl 0 rfl) ?_
      refine lv_iconst (v := (1 : Int32)) hx hb dX11_crack_168 (by decide) ?_
      refine lv_iadd hx hb dX11_crack_169 ?_
      refine lv_i2l hx hb dX11_crack_170 rfl ?_
      refine lv_lload hx hb dX11_crack_171 (lv_at hl 4 rfl) ?_
      refine lv_lmul hx hb dX11_crack_173 ?_
      refine lv_ladd hx hb dX11_crack_174 ?_
      refine lv_lload hx hb dX11_crack_175 (lv_at hl 5 rfl) ?_
      refine lv_iload hx hb dX11_crack_177 (lv_at hl 2 rfl) ?_
      obtain ⟨v_11, hv_11, h⟩ := bd_h h
      refine callSL0 C lk_RX11_259 (ctX11_lowest (x12 + ((Int32.toInt64 (x3 + (1 : Int32))) * x8)) x10 x5 hv_11) hW hl rfl ⟨rfl, rfl⟩ ⟨(Nat.le_of_ble_eq_true rfl), (Nat.le_of_ble_eq_true rfl)⟩ ⟨Nat.zero_le _, Nat.zero_le _⟩ rfl (Nat.le_of_ble_eq_true rfl) dX11_crack_179 (fun H locs hW => ?_)
      obtain rfl := Option.some.inj h
      exact hQ _ _ _ _ dX11_crack_182 hW
    · have h := ip_h c_10 h
      refine lv_lload hx hb dX11_crack_160 (lv_at hl 4 rfl) ?_
      refine lv_goto (tgt := 175) hx hb dX11_crack_162 (by decide) ?_
      refine lv_lload hx hb dX11_crack_175 (lv_at hl 5 rfl) ?_
      refine lv_iload hx hb dX11_crack_177 (lv_at hl 2 rfl) ?_
      obtain ⟨v_12, hv_12, h⟩ := bd_h h
      refine callSL0 C lk_RX11_259 (ctX11_lowest x8 x10 x5 hv_12) hW hl rfl ⟨rfl, rfl⟩ ⟨(Nat.le_of_ble_eq_true rfl), (Nat.le_of_ble_eq_true rfl)⟩ ⟨Nat.zero_le _, Nat.zero_le _⟩ rfl (Nat.le_of_ble_eq_true rfl) dX11_crack_179 (fun H locs hW => ?_)
      obtain rfl := Option.some.inj h
      exact hQ _ _ _ _ dX11_crack_182 hW
  · have h := in_h c_9 h
    refine lv_ldc2 (v := (10 : Int64)) hx hb C.2.2.2.2.2.1 (C.2.2.2.2.1 _ wd_1092) dX11_crack_112 ?_
    refine lv_lload hx hb dX11_crack_115 (lv_at hl 6 rfl) ?_
    refine lv_lmul hx hb dX11_crack_117 ?_
    refine lv_iload hx hb dX11_crack_118 (lv_at hl 7 rfl) ?_
    refine lv_iload hx hb dX11_crack_120 (lv_at hl 3 rfl) ?_
    refine lv_imul hx hb dX11_crack_122 ?_
    refine lv_i2l hx hb dX11_crack_123 rfl ?_
    refine lv_lload hx hb dX11_crack_124 (lv_at hl 4 rfl) ?_
    refine lv_lmul hx hb dX11_crack_126 ?_
    refine lv_ladd hx hb dX11_crack_127 ?_
    refine lv_topl (fun v_13 ev_13 => ?_)
    have h := lt_h ev_13 h
    refine lv_lstore (lv' := [(12, .long v_13), (3, .int x3), (4, .int x4), (5, .int x5), (7, .int x7), (8, .long x8), (10, .long x10), (14, .int x14)]) hx hb dX11_crack_128 hl (Nat.le_of_ble_eq_true rfl) rfl (fun ls hl => ?_)
    refine lv_lload hx hb dX11_crack_130 (lv_at hl 5 rfl) ?_
    refine lv_bipush (v := (10 : Int32)) hx hb dX11_crack_132 (by decide) ?_
    refine lv_iload hx hb dX11_crack_134 (lv_at hl 4 rfl) ?_
    refine lv_isub hx hb dX11_crack_136 ?_
    refine lv_i2l hx hb dX11_crack_137 rfl ?_
    refine lv_lmul hx hb dX11_crack_138 ?_
    refine lv_topl (fun v_14 ev_14 => ?_)
    have h := lt_h ev_14 h
    refine lv_lstore (lv' := [(8, .long v_14), (12, .long v_13), (3, .int x3), (4, .int x4), (5, .int x5), (7, .int x7), (10, .long x10), (14, .int x14)]) hx hb dX11_crack_139 hl (Nat.le_of_ble_eq_true rfl) rfl (fun ls hl => ?_)
    refine lv_lload hx hb dX11_crack_141 (lv_at hl 6 rfl) ?_
    refine lv_ldc2 (v := (10 : Int64)) hx hb C.2.2.2.2.2.1 (C.2.2.2.2.1 _ wd_1092) dX11_crack_143 ?_
    refine lv_lmul hx hb dX11_crack_146 ?_
    refine lv_topl (fun v_15 ev_15 => ?_)
    have h := lt_h ev_15 h
    refine lv_lstore (lv' := [(10, .long v_15), (8, .long v_14), (12, .long v_13), (3, .int x3), (4, .int x4), (5, .int x5), (7, .int x7), (14, .int x14)]) hx hb dX11_crack_147 hl (Nat.le_of_ble_eq_true rfl) rfl (fun ls hl => ?_)
    obtain ⟨v_16, ev_16⟩ : ∃ y : Int32, y = x14 + (1 : Int32) := ⟨_, rfl⟩
    have h := lt_h ev_16 h
    refine lv_iinc (v := v_16) (lv' := [(14, .int v_16), (10, .long v_15), (8, .long v_14), (12, .long v_13), (3, .int x3), (4, .int x4), (5, .int x5), (7, .int x7)]) hx hb dX11_crack_149 hl (k := 7) rfl (by rw [ev_16]; rfl) (Nat.le_of_ble_eq_true rfl) rfl (fun ls hl => ?_)
    refine lv_goto (tgt := 106) hx hb dX11_crack_152 (by decide) ?_
    exact hk106 v_14 v_15 v_13 v_16 h _ _ hW _ (lv_sub hl [4, 5, 6, 7, 2, 1, 3, 0] rfl)
theorem wX11_crack_106_ {a_this a_thick a_hollow a_damp a_fresh a_pulls a_fats a_deep a_fine a_pay a_hair a_sightPicture a_sightPull a_sightShows a_pad a_act a_where a_much a_kindMany a_had a_leaves a_mostPay a_canLast a_leastMissed a_kept a_isKept : Nat} (x3 : Int32) (x4 : Int32) (x5 : Int32) (x7 : Int32) (v_stones : Int32) (v_flat : Int32) (v_leastThick : Int32) (v_sights : Int32) (v_padMany : Int32) (v_acts : Int32) (v_pulled : Int32) (v_skyPull : Int32) (v_skyWhose : Int32) (v_badAct : Int32) (v_badWhy : Int32) (v_keptAt : Int32) (v_isWriting : Int32) (v_thick : Nat → Int32) {res : Int64} (C : Cx p s m av meth c RX11 cX11_crack 15 (some .long) G cI cZ cO A) (hQ : RL_ p l e rX11_crack s m av below meth c G A cX11_crack Q (res) (wX11_crack cI cZ a_this a_thick a_hollow a_damp a_fresh a_pulls a_fats a_deep a_fine a_pay a_hair a_sightPicture a_sightPull a_sightShows a_pad a_act a_where a_much a_kindMany a_had a_leaves a_mostPay a_canLast a_leastMissed a_kept a_isKept v_stones v_flat v_leastThick v_sights v_padMany v_acts v_pulled v_skyPull v_skyWhose v_badAct v_badWhy v_keptAt v_isWriting v_thick)) : ∀ (n : Nat) (x8 : Int64) (x10 : Int64) (x12 : Int64) (x14 : Int32), LX11_crack_106 x3 x4 x5 x7 n x8 x10 x12 x14 = some res → ∀ (H : Heap) (locs : List Loc), HW G A s (wX11_crack cI cZ a_this a_thick a_hollow a_damp a_fresh a_pulls a_fats a_deep a_fine a_pay a_hair a_sightPicture a_sightPull a_sightShows a_pad a_act a_where a_much a_kindMany a_had a_leaves a_mostPay a_canLast a_leastMissed a_kept a_isKept v_stones v_flat v_leastThick v_sights v_padMany v_acts v_pulled v_skyPull v_skyWhose v_badAct v_badWhy v_keptAt v_isWriting v_thick) H locs → ∀ ls : Array Slot, lv_has ls 15 [(3, .int x3), (4, .int x4), (5, .int x5), (7, .int x7), (8, .long x8), (10, .long x10), (12, .long x12), (14, .int x14)] → W p l e rX11_crack s m av below meth c H locs 0 0 Q (F0 m 106 ls []) := by
  intro n
  induction n with
  | zero => intro x8 x10 x12 x14 h; cases h
  | succ n ih =>
    intro x8 x10 x12 x14 h H locs hW ls hl
    exact uX11_crack_106 x3 x4 x5 x7 x8 x10 x12 x14 v_stones v_flat v_leastThick v_sights v_padMany v_acts v_pulled v_skyPull v_skyWhose v_badAct v_badWhy v_keptAt v_isWriting v_thick C hQ (k106 := LX11_crack_106 x3 x4 x5 x7 n) ih h H locs hW ls hl
set_option maxRecDepth 20000 in
theorem uX11_crack_0 {a_this a_thick a_hollow a_damp a_fresh a_pulls a_fats a_deep a_fine a_pay a_hair a_sightPicture a_sightPull a_sightShows a_pad a_act a_where a_much a_kindMany a_had a_leaves a_mostPay a_canLast a_leastMissed a_kept a_isKept : Nat} (x1 : Int32) (x2 : Int32) (x3 : Int32) (x4 : Int32) (x5 : Int32) (v_stones : Int32) (v_flat : Int32) (v_leastThick : Int32) (v_sights : Int32) (v_padMany : Int32) (v_acts : Int32) (v_pulled : Int32) (v_skyPull : Int32) (v_skyWhose : Int32) (v_badAct : Int32) (v_badWhy : Int32) (v_keptAt : Int32) (v_isWriting : Int32) (v_thick : Nat → Int32) {res : Int64} (C : Cx p s m av meth c RX11 cX11_crack 15 (some .long) G cI cZ cO A) (hQ : RL_ p l e rX11_crack s m av below meth c G A cX11_crack Q (res) (wX11_crack cI cZ a_this a_thick a_hollow a_damp a_fresh a_pulls a_fats a_deep a_fine a_pay a_hair a_sightPicture a_sightPull a_sightShows a_pad a_act a_where a_much a_kindMany a_had a_leaves a_mostPay a_canLast a_leastMissed a_kept a_isKept v_stones v_flat v_leastThick v_sights v_padMany v_acts v_pulled v_skyPull v_skyWhose v_badAct v_badWhy v_keptAt v_isWriting v_thick)) (h : fX11_crack x1 x2 x3 x4 x5 v_stones v_thick = some res) (H : Heap) (locs : List Loc) (hW : HW G A s (wX11_crack cI cZ a_this a_thick a_hollow a_damp a_fresh a_pulls a_fats a_deep a_fine a_pay a_hair a_sightPicture a_sightPull a_sightShows a_pad a_act a_where a_much a_kindMany a_had a_leaves a_mostPay a_canLast a_leastMissed a_kept a_isKept v_stones v_flat v_leastThick v_sights v_padMany v_acts v_pulled v_skyPull v_skyWhose v_badAct v_badWhy v_keptAt v_isWriting v_thick) H locs) (ls : Array Slot) (hl : lv_has ls 15 [(0, .ref a_this), (1, .int x1), (2, .int x2), (3, .int x3), (4, .int x4), (5, .int x5)]) : W p l e rX11_crack s m av below meth c H locs 0 0 Q (F0 m 0 ls []) := by
  have hx := C.1
  have hb := C.2.1
  unfold fX11_crack at h
  refine lv_aload_n hx hb dX11_crack_0 rfl (lv_at hl 0 rfl) ?_
  refine lv_iload_n hx hb dX11_crack_1 rfl (lv_at hl 1 rfl) ?_
  refine callVIr [0] C lk_RX11_118 (ctX11_isStone a_this a_thick a_hollow a_damp a_fresh a_pulls a_fats a_deep a_fine a_pay a_hair a_sightPicture a_sightPull a_sightShows a_pad a_act a_where a_much a_kindMany a_had a_leaves a_mostPay a_canLast a_leastMissed a_kept a_isKept x1 v_stones v_flat v_leastThick v_sights v_padMany v_acts v_pulled v_skyPull v_skyWhose v_badAct v_badWhy v_keptAt v_isWriting rfl) hW hl 11 rfl rfl rfl rfl rfl ⟨rfl, rfl⟩ ⟨(Nat.le_of_ble_eq_true rfl), (Nat.le_of_ble_eq_true rfl)⟩ ⟨Nat.zero_le _, Nat.zero_le _⟩ rfl (Nat.le_of_ble_eq_true rfl) dX11_crack_2 (fun H locs hW => ?_)
  refine lv_if_ne (tgt := 12) hx hb dX11_crack_5 (by decide) (fun c_1 => ?_) (fun c_1 => ?_)
  · have h := in_h c_1 h
    refine lv_iload_n hx hb dX11_crack_12 rfl (lv_at hl 2 rfl) ?_
    refine lv_i2l hx hb dX11_crack_13 rfl ?_
    refine lv_lconst (v := (0 : Int64)) hx hb dX11_crack_14 (by decide) ?_
    refine lv_ldc2 (v := (150 : Int64)) hx hb C.2.2.2.2.2.1 (C.2.2.2.2.1 _ wd_1090) dX11_crack_15 ?_
    refine callSI0 C lk_RX11_95 (ctX11_in (Int32.toInt64 x2) (0 : Int64) (150 : Int64) rfl) hW hl rfl ⟨rfl, rfl⟩ ⟨(Nat.le_of_ble_eq_true rfl), (Nat.le_of_ble_eq_true rfl)⟩ ⟨Nat.zero_le _, Nat.zero_le _⟩ rfl (Nat.le_of_ble_eq_true rfl) dX11_crack_18 (fun H locs hW => ?_)
    refine lv_if_eq (tgt := 58) hx hb dX11_crack_21 (by decide) (fun c_2 => ?_) (fun c_2 => ?_)
    · have h := ip_h c_2 h
      refine lv_ldc2 (v := (-1000000000000000002 : Int64)) hx hb C.2.2.2.2.2.1 (C.2.2.2.2.1 _ wd_1091) dX11_crack_58 ?_
      obtain rfl := Option.some.inj h
      exact hQ _ _ _ _ dX11_crack_61 hW
    · have h := in_h c_2 h
      refine lv_iload_n hx hb dX11_crack_24 rfl (lv_at hl 3 rfl) ?_
      refine lv_i2l hx hb dX11_crack_25 rfl ?_
      refine lv_lconst (v := (0 : Int64)) hx hb dX11_crack_26 (by decide) ?_
      refine lv_ldc2 (v := (9 : Int64)) hx hb C.2.2.2.2.2.1 (C.2.2.2.2.1 _ wd_924) dX11_crack_27 ?_
      refine callSI0 C lk_RX11_95 (ctX11_in (Int32.toInt64 x3) (0 : Int64) (9 : Int64) rfl) hW hl rfl ⟨rfl, rfl⟩ ⟨(Nat.le_of_ble_eq_true rfl), (Nat.le_of_ble_eq_true rfl)⟩ ⟨Nat.zero_le _, Nat.zero_le _⟩ rfl (Nat.le_of_ble_eq_true rfl) dX11_crack_30 (fun H locs hW => ?_)
      refine lv_if_eq (tgt := 58) hx hb dX11_crack_33 (by decide) (fun c_3 => ?_) (fun c_3 => ?_)
      · have h := ip_h c_3 h
        refine lv_ldc2 (v := (-1000000000000000002 : Int64)) hx hb C.2.2.2.2.2.1 (C.2.2.2.2.1 _ wd_1091) dX11_crack_58 ?_
        obtain rfl := Option.some.inj h
        exact hQ _ _ _ _ dX11_crack_61 hW
      · have h := in_h c_3 h
        refine lv_iload hx hb dX11_crack_36 (lv_at hl 4 rfl) ?_
        refine lv_i2l hx hb dX11_crack_38 rfl ?_
        refine lv_lconst (v := (0 : Int64)) hx hb dX11_crack_39 (by decide) ?_
        refine lv_lconst (v := (1 : Int64)) hx hb dX11_crack_40 (by decide) ?_
        refine callSI0 C lk_RX11_95 (ctX11_in (Int32.toInt64 x4) (0 : Int64) (1 : Int64) rfl) hW hl rfl ⟨rfl, rfl⟩ ⟨(Nat.le_of_ble_eq_true rfl), (Nat.le_of_ble_eq_true rfl)⟩ ⟨Nat.zero_le _, Nat.zero_le _⟩ rfl (Nat.le_of_ble_eq_true rfl) dX11_crack_41 (fun H locs hW => ?_)
        refine lv_if_eq (tgt := 58) hx hb dX11_crack_44 (by decide) (fun c_4 => ?_) (fun c_4 => ?_)
        · have h := ip_h c_4 h
          refine lv_ldc2 (v := (-1000000000000000002 : Int64)) hx hb C.2.2.2.2.2.1 (C.2.2.2.2.1 _ wd_1091) dX11_crack_58 ?_
          obtain rfl := Option.some.inj h
          exact hQ _ _ _ _ dX11_crack_61 hW
        · have h := in_h c_4 h
          refine lv_iload hx hb dX11_crack_47 (lv_at hl 5 rfl) ?_
          refine lv_i2l hx hb dX11_crack_49 rfl ?_
          refine lv_lconst (v := (0 : Int64)) hx hb dX11_crack_50 (by decide) ?_
          refine lv_lconst (v := (1 : Int64)) hx hb dX11_crack_51 (by decide) ?_
          refine callSI0 C lk_RX11_95 (ctX11_in (Int32.toInt64 x5) (0 : Int64) (1 : Int64) rfl) hW hl rfl ⟨rfl, rfl⟩ ⟨(Nat.le_of_ble_eq_true rfl), (Nat.le_of_ble_eq_true rfl)⟩ ⟨Nat.zero_le _, Nat.zero_le _⟩ rfl (Nat.le_of_ble_eq_true rfl) dX11_crack_52 (fun H locs hW => ?_)
          refine lv_if_ne (tgt := 62) hx hb dX11_crack_55 (by decide) (fun c_5 => ?_) (fun c_5 => ?_)
          · have h := in_h c_5 h
            refine lv_iload_n hx hb dX11_crack_62 rfl (lv_at hl 2 rfl) ?_
            refine lv_aload_n hx hb dX11_crack_63 rfl (lv_at hl 0 rfl) ?_
            refine getW C fl_RX11_7 hW 0 rfl rfl dX11_crack_64 ?_
            refine lv_iload_n hx hb dX11_crack_67 rfl (lv_at hl 1 rfl) ?_
            obtain ⟨g_6, h⟩ := gd_h h
            refine ialdW C hW 1 rfl g_6 dX11_crack_68 ?_
            refine lv_bipush (v := (100 : Int32)) hx hb dX11_crack_69 (by decide) ?_
            refine lv_idiv hx hb dX11_crack_71 (by decide) ?_
            refine lv_isub hx hb dX11_crack_72 ?_
            refine callSI0 C lk_RX11_169 (ctX11_notBelow0 (x2 - ((v_thick (Int32.toNatClampNeg x1)) / (100 : Int32))) rfl) hW hl rfl ⟨rfl, rfl⟩ ⟨(Nat.le_of_ble_eq_true rfl), (Nat.le_of_ble_eq_true rfl)⟩ ⟨Nat.zero_le _, Nat.zero_le _⟩ rfl (Nat.le_of_ble_eq_true rfl) dX11_crack_73 (fun H locs hW => ?_)
            refine lv_topi (fun v_7 ev_7 => ?_)
            have h := lt_h ev_7 h
            refine lv_istore (lv' := [(6, .int v_7), (0, .ref a_this), (1, .int x1), (2, .int x2), (3, .int x3), (4, .int x4), (5, .int x5)]) hx hb dX11_crack_76 hl (Nat.le_of_ble_eq_true rfl) rfl (fun ls hl => ?_)
            refine lv_iload hx hb dX11_crack_78 (lv_at hl 0 rfl) ?_
            refine lv_bipush (v := (10 : Int32)) hx hb dX11_crack_80 (by decide) ?_
            refine lv_icmp_le (tgt := 90) hx hb dX11_crack_82 (by decide) (fun c_8 => ?_) (fun c_8 => ?_)
            · have h := ip_h c_8 h
              refine lv_iload hx hb dX11_crack_90 (lv_at hl 0 rfl) ?_
              refine lv_istore (lv' := [(7, .int v_7), (6, .int v_7), (0, .ref a_this), (1, .int x1), (2, .int x2), (3, .int x3), (4, .int x4), (5, .int x5)]) hx hb dX11_crack_92 hl (Nat.le_of_ble_eq_true rfl) rfl (fun ls hl => ?_)
              refine lv_lconst (v := (1 : Int64)) hx hb dX11_crack_94 (by decide) ?_
              refine lv_lstore (lv' := [(8, .long (1 : Int64)), (7, .int v_7), (6, .int v_7), (0, .ref a_this), (1, .int x1), (2, .int x2), (3, .int x3), (4, .int x4), (5, .int x5)]) hx hb dX11_crack_95 hl (Nat.le_of_ble_eq_true rfl) rfl (fun ls hl => ?_)
              refine lv_lconst (v := (1 : Int64)) hx hb dX11_crack_97 (by decide) ?_
              refine lv_lstore (lv' := [(10, .long (1 : Int64)), (8, .long (1 : Int64)), (7, .int v_7), (6, .int v_7), (0, .ref a_this), (1, .int x1), (2, .int x2), (3, .int x3), (4, .int x4), (5, .int x5)]) hx hb dX11_crack_98 hl (Nat.le_of_ble_eq_true rfl) rfl (fun ls hl => ?_)
              refine lv_lconst (v := (0 : Int64)) hx hb dX11_crack_100 (by decide) ?_
              refine lv_lstore (lv' := [(12, .long (0 : Int64)), (10, .long (1 : Int64)), (8, .long (1 : Int64)), (7, .int v_7), (6, .int v_7), (0, .ref a_this), (1, .int x1), (2, .int x2), (3, .int x3), (4, .int x4), (5, .int x5)]) hx hb dX11_crack_101 hl (Nat.le_of_ble_eq_true rfl) rfl (fun ls hl => ?_)
              refine lv_iconst (v := (1 : Int32)) hx hb dX11_crack_103 (by decide) ?_
              refine lv_istore (lv' := [(14, .int (1 : Int32)), (12, .long (0 : Int64)), (10, .long (1 : Int64)), (8, .long (1 : Int64)), (7, .int v_7), (6, .int v_7), (0, .ref a_this), (1, .int x1), (2, .int x2), (3, .int x3), (4, .int x4), (5, .int x5)]) hx hb dX11_crack_104 hl (Nat.le_of_ble_eq_true rfl) rfl (fun ls hl => ?_)
              exact wX11_crack_106_ x3 x4 x5 v_7 v_stones v_flat v_leastThick v_sights v_padMany v_acts v_pulled v_skyPull v_skyWhose v_badAct v_badWhy v_keptAt v_isWriting v_thick C hQ 2000 (1 : Int64) (1 : Int64) (0 : Int64) (1 : Int32) h _ _ hW _ (lv_sub hl [9, 10, 11, 4, 3, 2, 1, 0] rfl)
            · have h := in_h c_8 h
              refine lv_bipush (v := (10 : Int32)) hx hb dX11_crack_85 (by decide) ?_
              refine lv_goto (tgt := 92) hx hb dX11_crack_87 (by decide) ?_
              refine lv_istore (lv' := [(7, .int (10 : Int32)), (6, .int v_7), (0, .ref a_this), (1, .int x1), (2, .int x2), (3, .int x3), (4, .int x4), (5, .int x5)]) hx hb dX11_crack_92 hl (Nat.le_of_ble_eq_true rfl) rfl (fun ls hl => ?_)
              refine lv_lconst (v := (1 : Int64)) hx hb dX11_crack_94 (by decide) ?_
              refine lv_lstore (lv' := [(8, .long (1 : Int64)), (7, .int (10 : Int32)), (6, .int v_7), (0, .ref a_this), (1, .int x1), (2, .int x2), (3, .int x3), (4, .int x4), (5, .int x5)]) hx hb dX11_crack_95 hl (Nat.le_of_ble_eq_true rfl) rfl (fun ls hl => ?_)
              refine lv_lconst (v := (1 : Int64)) hx hb dX11_crack_97 (by decide) ?_
              refine lv_lstore (lv' := [(10, .long (1 : Int64)), (8, .long (1 : Int64)), (7, .int (10 : Int32)), (6, .int v_7), (0, .ref a_this), (1, .int x1), (2, .int x2), (3, .int x3), (4, .int x4), (5, .int x5)]) hx hb dX11_crack_98 hl (Nat.le_of_ble_eq_true rfl) rfl (fun ls hl => ?_)
              refine lv_lconst (v := (0 : Int64)) hx hb dX11_crack_100 (by decide) ?_
              refine lv_lstore (lv' := [(12, .long (0 : Int64)), (10, .long (1 : Int64)), (8, .long (1 : Int64)), (7, .int (10 : Int32)), (6, .int v_7), (0, .ref a_this), (1, .int x1), (2, .int x2), (3, .int x3), (4, .int x4), (5, .int x5)]) hx hb dX11_crack_101 hl (Nat.le_of_ble_eq_true rfl) rfl (fun ls hl => ?_)
              refine lv_iconst (v := (1 : Int32)) hx hb dX11_crack_103 (by decide) ?_
              refine lv_istore (lv' := [(14, .int (1 : Int32)), (12, .long (0 : Int64)), (10, .long (1 : Int64)), (8, .long (1 : Int64)), (7, .int (10 : Int32)), (6, .int v_7), (0, .ref a_this), (1, .int x1), (2, .int x2), (3, .int x3), (4, .int x4), (5, .int x5)]) hx hb dX11_crack_104 hl (Nat.le_of_ble_eq_true rfl) rfl (fun ls hl => ?_)
              exact wX11_crack_106_ x3 x4 x5 (10 : Int32) v_stones v_flat v_leastThick v_sights v_padMany v_acts v_pulled v_skyPull v_skyWhose v_badAct v_badWhy v_keptAt v_isWriting v_thick C hQ 2000 (1 : Int64) (1 : Int64) (0 : Int64) (1 : Int32) h _ _ hW _ (lv_sub hl [9, 10, 11, 4, 3, 2, 1, 0] rfl)
          · have h := ip_h c_5 h
            refine lv_ldc2 (v := (-1000000000000000002 : Int64)) hx hb C.2.2.2.2.2.1 (C.2.2.2.2.1 _ wd_1091) dX11_crack_58 ?_
            obtain rfl := Option.some.inj h
            exact hQ _ _ _ _ dX11_crack_61 hW
  · have h := ip_h c_1 h
    refine lv_ldc2 (v := (-1000000000000000001 : Int64)) hx hb C.2.2.2.2.2.1 (C.2.2.2.2.1 _ wd_1089) dX11_crack_8 ?_
    obtain rfl := Option.some.inj h
    exact hQ _ _ _ _ dX11_crack_11 hW
theorem ctX11_crack {l : Launch} {G : va_G} {cI cZ cO : ClassId} (a_this a_thick a_hollow a_damp a_fresh a_pulls a_fats a_deep a_fine a_pay a_hair a_sightPicture a_sightPull a_sightShows a_pad a_act a_where a_much a_kindMany a_had a_leaves a_mostPay a_canLast a_leastMissed a_kept a_isKept : Nat) (x1 : Int32) (x2 : Int32) (x3 : Int32) (x4 : Int32) (x5 : Int32) (v_stones : Int32) (v_flat : Int32) (v_leastThick : Int32) (v_sights : Int32) (v_padMany : Int32) (v_acts : Int32) (v_pulled : Int32) (v_skyPull : Int32) (v_skyWhose : Int32) (v_badAct : Int32) (v_badWhy : Int32) (v_keptAt : Int32) (v_isWriting : Int32) (v_thick : Nat → Int32) {res : Int64} (h : fX11_crack x1 x2 x3 x4 x5 v_stones v_thick = some res) : ML l G cI cZ cO yX11_crack cX11_crack 15 .long rX11_crack [.ref a_this, .int x1, .int x2, .int x3, .int x4, .int x5] (wX11_crack cI cZ a_this a_thick a_hollow a_damp a_fresh a_pulls a_fats a_deep a_fine a_pay a_hair a_sightPicture a_sightPull a_sightShows a_pad a_act a_where a_much a_kindMany a_had a_leaves a_mostPay a_canLast a_leastMissed a_kept a_isKept v_stones v_flat v_leastThick v_sights v_padMany v_acts v_pulled v_skyPull v_skyWhose v_badAct v_badWhy v_keptAt v_isWriting v_thick) (res) (wX11_crack cI cZ a_this a_thick a_hollow a_damp a_fresh a_pulls a_fats a_deep a_fine a_pay a_hair a_sightPicture a_sightPull a_sightShows a_pad a_act a_where a_much a_kindMany a_had a_leaves a_mostPay a_canLast a_leastMissed a_kept a_isKept v_stones v_flat v_leastThick v_sights v_padMany v_acts v_pulled v_skyPull v_skyWhose v_badAct v_badWhy v_keptAt v_isWriting v_thick) := by
  refine ML.of (by decide) (Nat.le_of_ble_eq_true rfl) ?_
  intro p e s m below meth c A Q C hW hQ ls hl
  exact uX11_crack_0 x1 x2 x3 x4 x5 v_stones v_flat v_leastThick v_sights v_padMany v_acts v_pulled v_skyPull v_skyWhose v_badAct v_badWhy v_keptAt v_isWriting v_thick C hQ h _ _ hW _ hl
abbrev wX11_seen (cI cZ : ClassId) (a_this a_thick a_hollow a_damp a_fresh a_pulls a_fats a_deep a_fine a_pay a_hair a_sightPicture a_sightPull a_sightShows a_pad a_act a_where a_much a_kindMany a_had a_leaves a_mostPay a_canLast a_leastMissed a_kept a_isKept : Nat) (v_stones : Int32) (v_flat : Int32) (v_leastThick : Int32) (v_sights : Int32) (v_padMany : Int32) (v_acts : Int32) (v_pulled : Int32) (v_skyPull : Int32) (v_skyWhose : Int32) (v_badAct : Int32) (v_badWhy : Int32) (v_keptAt : Int32) (v_isWriting : Int32) (v_sightPicture : Nat → Int32) (v_sightPull : Nat → Int32) (v_sightShows : Nat → Int32) : va_W := [(a_this, .inr (11, [.int v_stones, .int v_flat, .int v_leastThick, .ref a_thick, .ref a_hollow, .ref a_damp, .ref a_fresh, .ref a_pulls, .ref a_fats, .ref a_deep, .ref a_fine, .ref a_pay, .ref a_hair, .ref a_sightPicture, .ref a_sightPull, .ref a_sightShows, .int v_sights, .ref a_pad, .int v_padMany, .ref a_act, .ref a_where, .ref a_much, .int v_acts, .int v_pulled, .ref a_kindMany, .int v_skyPull, .int v_skyWhose, .ref a_had, .ref a_leaves, .int v_badAct, .int v_badWhy, .ref a_mostPay, .ref a_canLast, .ref a_leastMissed, .ref a_kept, .ref a_isKept, .int v_keptAt, .int v_isWriting])), (a_sightPicture, .inl (cI, 8, .inl v_sightPicture)), (a_sightPull, .inl (cI, 8, .inl v_sightPull)), (a_sightShows, .inl (cI, 8, .inl v_sightShows))]
abbrev rX11_seen : Room := { frames := 2, cells := 0, slots := 0, locals := 45 }
set_option maxRecDepth 20000 in
theorem uX11_seen_0 {a_this a_thick a_hollow a_damp a_fresh a_pulls a_fats a_deep a_fine a_pay a_hair a_sightPicture a_sightPull a_sightShows a_pad a_act a_where a_much a_kindMany a_had a_leaves a_mostPay a_canLast a_leastMissed a_kept a_isKept : Nat} (x1 : Int32) (x2 : Int32) (x3 : Int32) (v_stones : Int32) (v_flat : Int32) (v_leastThick : Int32) (v_sights : Int32) (v_padMany : Int32) (v_acts : Int32) (v_pulled : Int32) (v_skyPull : Int32) (v_skyWhose : Int32) (v_badAct : Int32) (v_badWhy : Int32) (v_keptAt : Int32) (v_isWriting : Int32) (v_sightPicture : Nat → Int32) (v_sightPull : Nat → Int32) (v_sightShows : Nat → Int32) {res : Int32 × Int32 × (Nat → Int32) × (Nat → Int32) × (Nat → Int32)} (C : Cx p s m av meth c RX11 cX11_seen 4 (some .int) G cI cZ cO A) (hQ : RI p l e rX11_seen s m av below meth c G A cX11_seen .int Q (res.1) (wX11_seen cI cZ a_this a_thick a_hollow a_damp a_fresh a_pulls a_fats a_deep a_fine a_pay a_hair a_sightPicture a_sightPull a_sightShows a_pad a_act a_where a_much a_kindMany a_had a_leaves a_mostPay a_canLast a_leastMissed a_kept a_isKept v_stones v_flat v_leastThick res.2.1 v_padMany v_acts v_pulled v_skyPull v_skyWhose v_badAct v_badWhy v_keptAt v_isWriting res.2.2.1 res.2.2.2.1 res.2.2.2.2)) (h : fX11_seen x1 x2 x3 v_sights v_sightPicture v_sightPull v_sightShows = some res) (H : Heap) (locs : List Loc) (hW : HW G A s (wX11_seen cI cZ a_this a_thick a_hollow a_damp a_fresh a_pulls a_fats a_deep a_fine a_pay a_hair a_sightPicture a_sightPull a_sightShows a_pad a_act a_where a_much a_kindMany a_had a_leaves a_mostPay a_canLast a_leastMissed a_kept a_isKept v_stones v_flat v_leastThick v_sights v_padMany v_acts v_pulled v_skyPull v_skyWhose v_badAct v_badWhy v_keptAt v_isWriting v_sightPicture v_sightPull v_sightShows) H locs) (ls : Array Slot) (hl : lv_has ls 4 [(0, .ref a_this), (1, .int x1), (2, .int x2), (3, .int x3)]) : W p l e rX11_seen s m av below meth c H locs 0 0 Q (F0 m 0 ls []) := by
  have hx := C.1
  have hb := C.2.1
  unfold fX11_seen at h
  refine lv_iload_n hx hb dX11_seen_0 rfl (lv_at hl 1 rfl) ?_
  refine callSI0 C lk_RX11_122 (ctX11_isPicture x1 rfl) hW hl rfl ⟨rfl, rfl⟩ ⟨(Nat.le_of_ble_eq_true rfl), (Nat.le_of_ble_eq_true rfl)⟩ ⟨Nat.zero_le _, Nat.zero_le _⟩ rfl (Nat.le_of_ble_eq_true rfl) dX11_seen_1 (fun H locs hW => ?_)
  refine lv_if_ne (tgt := 9) hx hb dX11_seen_4 (by decide) (fun c_1 => ?_) (fun c_1 => ?_)
  · have h := in_h c_1 h
    refine lv_iload_n hx hb dX11_seen_9 rfl (lv_at hl 2 rfl) ?_
    refine lv_i2l hx hb dX11_seen_10 rfl ?_
    refine lv_lconst (v := (0 : Int64)) hx hb dX11_seen_11 (by decide) ?_
    refine lv_ldc2 (v := (999 : Int64)) hx hb C.2.2.2.2.2.1 (C.2.2.2.2.1 _ wd_925) dX11_seen_12 ?_
    refine callSI0 C lk_RX11_95 (ctX11_in (Int32.toInt64 x2) (0 : Int64) (999 : Int64) rfl) hW hl rfl ⟨rfl, rfl⟩ ⟨(Nat.le_of_ble_eq_true rfl), (Nat.le_of_ble_eq_true rfl)⟩ ⟨Nat.zero_le _, Nat.zero_le _⟩ rfl (Nat.le_of_ble_eq_true rfl) dX11_seen_15 (fun H locs hW => ?_)
    refine lv_if_ne (tgt := 24) hx hb dX11_seen_18 (by decide) (fun c_2 => ?_) (fun c_2 => ?_)
    · have h := in_h c_2 h
      refine lv_aload_n hx hb dX11_seen_24 rfl (lv_at hl 0 rfl) ?_
      refine getW C fl_RX11_263 hW 0 rfl rfl dX11_seen_25 ?_
      refine lv_bipush (v := (8 : Int32)) hx hb dX11_seen_28 (by decide) ?_
      refine lv_icmp_ne (tgt := 36) hx hb dX11_seen_30 (by decide) (fun c_3 => ?_) (fun c_3 => ?_)
      · have h := in_h c_3 h
        refine lv_aload_n hx hb dX11_seen_36 rfl (lv_at hl 0 rfl) ?_
        refine getW C fl_RX11_40 hW 0 rfl rfl dX11_seen_37 ?_
        refine lv_aload_n hx hb dX11_seen_40 rfl (lv_at hl 0 rfl) ?_
        refine getW C fl_RX11_263 hW 0 rfl rfl dX11_seen_41 ?_
        refine lv_iload_n hx hb dX11_seen_44 rfl (lv_at hl 1 rfl) ?_
        obtain ⟨g_4, h⟩ := gd_h h
        refine iastW C hW 1 rfl g_4 dX11_seen_45 (fun H locs hW => ?_)
        have hW : HW G A s (wX11_seen cI cZ a_this a_thick a_hollow a_damp a_fresh a_pulls a_fats a_deep a_fine a_pay a_hair a_sightPicture a_sightPull a_sightShows a_pad a_act a_where a_much a_kindMany a_had a_leaves a_mostPay a_canLast a_leastMissed a_kept a_isKept v_stones v_flat v_leastThick v_sights v_padMany v_acts v_pulled v_skyPull v_skyWhose v_badAct v_badWhy v_keptAt v_isWriting (upd v_sightPicture (Int32.toNatClampNeg v_sights) x1) v_sightPull v_sightShows) H locs := hW
        refine lv_aload_n hx hb dX11_seen_46 rfl (lv_at hl 0 rfl) ?_
        refine getW C fl_RX11_43 hW 0 rfl rfl dX11_seen_47 ?_
        refine lv_aload_n hx hb dX11_seen_50 rfl (lv_at hl 0 rfl) ?_
        refine getW C fl_RX11_263 hW 0 rfl rfl dX11_seen_51 ?_
        refine lv_iload_n hx hb dX11_seen_54 rfl (lv_at hl 2 rfl) ?_
        refine iastW C hW 2 rfl g_4 dX11_seen_55 (fun H locs hW => ?_)
        have hW : HW G A s (wX11_seen cI cZ a_this a_thick a_hollow a_damp a_fresh a_pulls a_fats a_deep a_fine a_pay a_hair a_sightPicture a_sightPull a_sightShows a_pad a_act a_where a_much a_kindMany a_had a_leaves a_mostPay a_canLast a_leastMissed a_kept a_isKept v_stones v_flat v_leastThick v_sights v_padMany v_acts v_pulled v_skyPull v_skyWhose v_badAct v_badWhy v_keptAt v_isWriting (upd v_sightPicture (Int32.toNatClampNeg v_sights) x1) (upd v_sightPull (Int32.toNatClampNeg v_sights) x2) v_sightShows) H locs := hW
        refine lv_aload_n hx hb dX11_seen_56 rfl (lv_at hl 0 rfl) ?_
        refine getW C fl_RX11_46 hW 0 rfl rfl dX11_seen_57 ?_
        refine lv_aload_n hx hb dX11_seen_60 rfl (lv_at hl 0 rfl) ?_
        refine getW C fl_RX11_263 hW 0 rfl rfl dX11_seen_61 ?_
        refine lv_iload_n hx hb dX11_seen_64 rfl (lv_at hl 3 rfl) ?_
        refine lv_if_eq (tgt := 72) hx hb dX11_seen_65 (by decide) (fun c_5 => ?_) (fun c_5 => ?_)
        · have h := ip_h c_5 h
          refine lv_iconst (v := (0 : Int32)) hx hb dX11_seen_72 (by decide) ?_
          refine iastW C hW 3 rfl g_4 dX11_seen_73 (fun H locs hW => ?_)
          have hW : HW G A s (wX11_seen cI cZ a_this a_thick a_hollow a_damp a_fresh a_pulls a_fats a_deep a_fine a_pay a_hair a_sightPicture a_sightPull a_sightShows a_pad a_act a_where a_much a_kindMany a_had a_leaves a_mostPay a_canLast a_leastMissed a_kept a_isKept v_stones v_flat v_leastThick v_sights v_padMany v_acts v_pulled v_skyPull v_skyWhose v_badAct v_badWhy v_keptAt v_isWriting (upd v_sightPicture (Int32.toNatClampNeg v_sights) x1) (upd v_sightPull (Int32.toNatClampNeg v_sights) x2) (upd v_sightShows (Int32.toNatClampNeg v_sights) (0 : Int32))) H locs := hW
          refine lv_aload_n hx hb dX11_seen_74 rfl (lv_at hl 0 rfl) ?_
          refine lv_dup hx hb dX11_seen_75 rfl ?_
          refine getW C fl_RX11_263 hW 0 rfl rfl dX11_seen_76 ?_
          refine lv_iconst (v := (1 : Int32)) hx hb dX11_seen_79 (by decide) ?_
          refine lv_iadd hx hb dX11_seen_80 ?_
          refine lv_topi (fun v_6 ev_6 => ?_)
          have h := lt_h ev_6 h
          refine putW C fp_RX11_263 hW 0 rfl rfl rfl (Nat.le_of_ble_eq_true rfl) dX11_seen_81 (fun H locs hW => ?_)
          have hW : HW G A s (wX11_seen cI cZ a_this a_thick a_hollow a_damp a_fresh a_pulls a_fats a_deep a_fine a_pay a_hair a_sightPicture a_sightPull a_sightShows a_pad a_act a_where a_much a_kindMany a_had a_leaves a_mostPay a_canLast a_leastMissed a_kept a_isKept v_stones v_flat v_leastThick v_6 v_padMany v_acts v_pulled v_skyPull v_skyWhose v_badAct v_badWhy v_keptAt v_isWriting (upd v_sightPicture (Int32.toNatClampNeg v_sights) x1) (upd v_sightPull (Int32.toNatClampNeg v_sights) x2) (upd v_sightShows (Int32.toNatClampNeg v_sights) (0 : Int32))) H locs := hW
          refine lv_aload_n hx hb dX11_seen_84 rfl (lv_at hl 0 rfl) ?_
          refine getW C fl_RX11_263 hW 0 rfl rfl dX11_seen_85 ?_
          obtain rfl := Option.some.inj h
          exact hQ rfl _ _ _ _ dX11_seen_88 hW
        · have h := in_h c_5 h
          refine lv_iconst (v := (1 : Int32)) hx hb dX11_seen_68 (by decide) ?_
          refine lv_goto (tgt := 73) hx hb dX11_seen_69 (by decide) ?_
          refine iastW C hW 3 rfl g_4 dX11_seen_73 (fun H locs hW => ?_)
          have hW : HW G A s (wX11_seen cI cZ a_this a_thick a_hollow a_damp a_fresh a_pulls a_fats a_deep a_fine a_pay a_hair a_sightPicture a_sightPull a_sightShows a_pad a_act a_where a_much a_kindMany a_had a_leaves a_mostPay a_canLast a_leastMissed a_kept a_isKept v_stones v_flat v_leastThick v_sights v_padMany v_acts v_pulled v_skyPull v_skyWhose v_badAct v_badWhy v_keptAt v_isWriting (upd v_sightPicture (Int32.toNatClampNeg v_sights) x1) (upd v_sightPull (Int32.toNatClampNeg v_sights) x2) (upd v_sightShows (Int32.toNatClampNeg v_sights) (1 : Int32))) H locs := hW
          refine lv_aload_n hx hb dX11_seen_74 rfl (lv_at hl 0 rfl) ?_
          refine lv_dup hx hb dX11_seen_75 rfl ?_
          refine getW C fl_RX11_263 hW 0 rfl rfl dX11_seen_76 ?_
          refine lv_iconst (v := (1 : Int32)) hx hb dX11_seen_79 (by decide) ?_
          refine lv_iadd hx hb dX11_seen_80 ?_
          refine lv_topi (fun v_7 ev_7 => ?_)
          have h := lt_h ev_7 h
          refine putW C fp_RX11_263 hW 0 rfl rfl rfl (Nat.le_of_ble_eq_true rfl) dX11_seen_81 (fun H locs hW => ?_)
          have hW : HW G A s (wX11_seen cI cZ a_this a_thick a_hollow a_damp a_fresh a_pulls a_fats a_deep a_fine a_pay a_hair a_sightPicture a_sightPull a_sightShows a_pad a_act a_where a_much a_kindMany a_had a_leaves a_mostPay a_canLast a_leastMissed a_kept a_isKept v_stones v_flat v_leastThick v_7 v_padMany v_acts v_pulled v_skyPull v_skyWhose v_badAct v_badWhy v_keptAt v_isWriting (upd v_sightPicture (Int32.toNatClampNeg v_sights) x1) (upd v_sightPull (Int32.toNatClampNeg v_sights) x2) (upd v_sightShows (Int32.toNatClampNeg v_sights) (1 : Int32))) H locs := hW
          refine lv_aload_n hx hb dX11_seen_84 rfl (lv_at hl 0 rfl) ?_
          refine getW C fl_RX11_263 hW 0 rfl rfl dX11_seen_85 ?_
          obtain rfl := Option.some.inj h
          exact hQ rfl _ _ _ _ dX11_seen_88 hW
      · have h := ip_h c_3 h
        refine lv_bipush (v := (-4 : Int32)) hx hb dX11_seen_33 (by decide) ?_
        obtain rfl := Option.some.inj h
        exact hQ rfl _ _ _ _ dX11_seen_35 hW
    · have h := ip_h c_2 h
      refine lv_bipush (v := (-2 : Int32)) hx hb dX11_seen_21 (by decide) ?_
      obtain rfl := Option.some.inj h
      exact hQ rfl _ _ _ _ dX11_seen_23 hW
  · have h := ip_h c_1 h
    refine lv_iconst (v := (-1 : Int32)) hx hb dX11_seen_7 (by decide) ?_
    obtain rfl := Option.some.inj h
    exact hQ rfl _ _ _ _ dX11_seen_8 hW
theorem ctX11_seen {l : Launch} {G : va_G} {cI cZ cO : ClassId} (a_this a_thick a_hollow a_damp a_fresh a_pulls a_fats a_deep a_fine a_pay a_hair a_sightPicture a_sightPull a_sightShows a_pad a_act a_where a_much a_kindMany a_had a_leaves a_mostPay a_canLast a_leastMissed a_kept a_isKept : Nat) (x1 : Int32) (x2 : Int32) (x3 : Int32) (v_stones : Int32) (v_flat : Int32) (v_leastThick : Int32) (v_sights : Int32) (v_padMany : Int32) (v_acts : Int32) (v_pulled : Int32) (v_skyPull : Int32) (v_skyWhose : Int32) (v_badAct : Int32) (v_badWhy : Int32) (v_keptAt : Int32) (v_isWriting : Int32) (v_sightPicture : Nat → Int32) (v_sightPull : Nat → Int32) (v_sightShows : Nat → Int32) {res : Int32 × Int32 × (Nat → Int32) × (Nat → Int32) × (Nat → Int32)} (h : fX11_seen x1 x2 x3 v_sights v_sightPicture v_sightPull v_sightShows = some res) : MI l G cI cZ cO yX11_seen cX11_seen 4 .int rX11_seen [.ref a_this, .int x1, .int x2, .int x3] (wX11_seen cI cZ a_this a_thick a_hollow a_damp a_fresh a_pulls a_fats a_deep a_fine a_pay a_hair a_sightPicture a_sightPull a_sightShows a_pad a_act a_where a_much a_kindMany a_had a_leaves a_mostPay a_canLast a_leastMissed a_kept a_isKept v_stones v_flat v_leastThick v_sights v_padMany v_acts v_pulled v_skyPull v_skyWhose v_badAct v_badWhy v_keptAt v_isWriting v_sightPicture v_sightPull v_sightShows) (res.1) (wX11_seen cI cZ a_this a_thick a_hollow a_damp a_fresh a_pulls a_fats a_deep a_fine a_pay a_hair a_sightPicture a_sightPull a_sightShows a_pad a_act a_where a_much a_kindMany a_had a_leaves a_mostPay a_canLast a_leastMissed a_kept a_isKept v_stones v_flat v_leastThick res.2.1 v_padMany v_acts v_pulled v_skyPull v_skyWhose v_badAct v_badWhy v_keptAt v_isWriting res.2.2.1 res.2.2.2.1 res.2.2.2.2) := by
  refine MI.of (by decide) (Nat.le_of_ble_eq_true rfl) ?_
  intro p e s m below meth c A Q C hW hQ ls hl
  exact uX11_seen_0 x1 x2 x3 v_stones v_flat v_leastThick v_sights v_padMany v_acts v_pulled v_skyPull v_skyWhose v_badAct v_badWhy v_keptAt v_isWriting v_sightPicture v_sightPull v_sightShows C hQ h _ _ hW _ hl
abbrev wX11_forget (cI cZ : ClassId) (a_this a_thick a_hollow a_damp a_fresh a_pulls a_fats a_deep a_fine a_pay a_hair a_sightPicture a_sightPull a_sightShows a_pad a_act a_where a_much a_kindMany a_had a_leaves a_mostPay a_canLast a_leastMissed a_kept a_isKept : Nat) (v_stones : Int32) (v_flat : Int32) (v_leastThick : Int32) (v_sights : Int32) (v_padMany : Int32) (v_acts : Int32) (v_pulled : Int32) (v_skyPull : Int32) (v_skyWhose : Int32) (v_badAct : Int32) (v_badWhy : Int32) (v_keptAt : Int32) (v_isWriting : Int32) : va_W := [(a_this, .inr (11, [.int v_stones, .int v_flat, .int v_leastThick, .ref a_thick, .ref a_hollow, .ref a_damp, .ref a_fresh, .ref a_pulls, .ref a_fats, .ref a_deep, .ref a_fine, .ref a_pay, .ref a_hair, .ref a_sightPicture, .ref a_sightPull, .ref a_sightShows, .int v_sights, .ref a_pad, .int v_padMany, .ref a_act, .ref a_where, .ref a_much, .int v_acts, .int v_pulled, .ref a_kindMany, .int v_skyPull, .int v_skyWhose, .ref a_had, .ref a_leaves, .int v_badAct, .int v_badWhy, .ref a_mostPay, .ref a_canLast, .ref a_leastMissed, .ref a_kept, .ref a_isKept, .int v_keptAt, .int v_isWriting]))]
abbrev rX11_forget : Room := { frames := 0, cells := 0, slots := 0, locals := 0 }
set_option maxRecDepth 20000 in
theorem uX11_forget_0 {a_this a_thick a_hollow a_damp a_fresh a_pulls a_fats a_deep a_fine a_pay a_hair a_sightPicture a_sightPull a_sightShows a_pad a_act a_where a_much a_kindMany a_had a_leaves a_mostPay a_canLast a_leastMissed a_kept a_isKept : Nat} (v_stones : Int32) (v_flat : Int32) (v_leastThick : Int32) (v_sights : Int32) (v_padMany : Int32) (v_acts : Int32) (v_pulled : Int32) (v_skyPull : Int32) (v_skyWhose : Int32) (v_badAct : Int32) (v_badWhy : Int32) (v_keptAt : Int32) (v_isWriting : Int32) {res : Int32 × Int32} (C : Cx p s m av meth c RX11 cX11_forget 2 (some .int) G cI cZ cO A) (hQ : RI p l e rX11_forget s m av below meth c G A cX11_forget .int Q (res.1) (wX11_forget cI cZ a_this a_thick a_hollow a_damp a_fresh a_pulls a_fats a_deep a_fine a_pay a_hair a_sightPicture a_sightPull a_sightShows a_pad a_act a_where a_much a_kindMany a_had a_leaves a_mostPay a_canLast a_leastMissed a_kept a_isKept v_stones v_flat v_leastThick res.2 v_padMany v_acts v_pulled v_skyPull v_skyWhose v_badAct v_badWhy v_keptAt v_isWriting)) (h : fX11_forget v_sights = res) (H : Heap) (locs : List Loc) (hW : HW G A s (wX11_forget cI cZ a_this a_thick a_hollow a_damp a_fresh a_pulls a_fats a_deep a_fine a_pay a_hair a_sightPicture a_sightPull a_sightShows a_pad a_act a_where a_much a_kindMany a_had a_leaves a_mostPay a_canLast a_leastMissed a_kept a_isKept v_stones v_flat v_leastThick v_sights v_padMany v_acts v_pulled v_skyPull v_skyWhose v_badAct v_badWhy v_keptAt v_isWriting) H locs) (ls : Array Slot) (hl : lv_has ls 2 [(0, .ref a_this)]) : W p l e rX11_forget s m av below meth c H locs 0 0 Q (F0 m 0 ls []) := by
  have hx := C.1
  have hb := C.2.1
  unfold fX11_forget at h
  refine lv_aload_n hx hb dX11_forget_0 rfl (lv_at hl 0 rfl) ?_
  refine getW C fl_RX11_263 hW 0 rfl rfl dX11_forget_1 ?_
  refine lv_istore_n (lv' := [(1, .int v_sights), (0, .ref a_this)]) hx hb dX11_forget_4 rfl hl (Nat.le_of_ble_eq_true rfl) rfl (fun ls hl => ?_)
  refine lv_aload_n hx hb dX11_forget_5 rfl (lv_at hl 1 rfl) ?_
  refine lv_iconst (v := (0 : Int32)) hx hb dX11_forget_6 (by decide) ?_
  refine putW C fp_RX11_263 hW 0 rfl rfl rfl (Nat.le_of_ble_eq_true rfl) dX11_forget_7 (fun H locs hW => ?_)
  have hW : HW G A s (wX11_forget cI cZ a_this a_thick a_hollow a_damp a_fresh a_pulls a_fats a_deep a_fine a_pay a_hair a_sightPicture a_sightPull a_sightShows a_pad a_act a_where a_much a_kindMany a_had a_leaves a_mostPay a_canLast a_leastMissed a_kept a_isKept v_stones v_flat v_leastThick (0 : Int32) v_padMany v_acts v_pulled v_skyPull v_skyWhose v_badAct v_badWhy v_keptAt v_isWriting) H locs := hW
  refine lv_iload_n hx hb dX11_forget_10 rfl (lv_at hl 0 rfl) ?_
  subst h
  exact hQ rfl _ _ _ _ dX11_forget_11 hW
theorem ctX11_forget {l : Launch} {G : va_G} {cI cZ cO : ClassId} (a_this a_thick a_hollow a_damp a_fresh a_pulls a_fats a_deep a_fine a_pay a_hair a_sightPicture a_sightPull a_sightShows a_pad a_act a_where a_much a_kindMany a_had a_leaves a_mostPay a_canLast a_leastMissed a_kept a_isKept : Nat) (v_stones : Int32) (v_flat : Int32) (v_leastThick : Int32) (v_sights : Int32) (v_padMany : Int32) (v_acts : Int32) (v_pulled : Int32) (v_skyPull : Int32) (v_skyWhose : Int32) (v_badAct : Int32) (v_badWhy : Int32) (v_keptAt : Int32) (v_isWriting : Int32) {res : Int32 × Int32} (h : fX11_forget v_sights = res) : MI l G cI cZ cO yX11_forget cX11_forget 2 .int rX11_forget [.ref a_this] (wX11_forget cI cZ a_this a_thick a_hollow a_damp a_fresh a_pulls a_fats a_deep a_fine a_pay a_hair a_sightPicture a_sightPull a_sightShows a_pad a_act a_where a_much a_kindMany a_had a_leaves a_mostPay a_canLast a_leastMissed a_kept a_isKept v_stones v_flat v_leastThick v_sights v_padMany v_acts v_pulled v_skyPull v_skyWhose v_badAct v_badWhy v_keptAt v_isWriting) (res.1) (wX11_forget cI cZ a_this a_thick a_hollow a_damp a_fresh a_pulls a_fats a_deep a_fine a_pay a_hair a_sightPicture a_sightPull a_sightShows a_pad a_act a_where a_much a_kindMany a_had a_leaves a_mostPay a_canLast a_leastMissed a_kept a_isKept v_stones v_flat v_leastThick res.2 v_padMany v_acts v_pulled v_skyPull v_skyWhose v_badAct v_badWhy v_keptAt v_isWriting) := by
  refine MI.of (by decide) (Nat.le_of_ble_eq_true rfl) ?_
  intro p e s m below meth c A Q C hW hQ ls hl
  exact uX11_forget_0 v_stones v_flat v_leastThick v_sights v_padMany v_acts v_pulled v_skyPull v_skyWhose v_badAct v_badWhy v_keptAt v_isWriting C hQ h _ _ hW _ hl
abbrev wX11_shows (cI cZ : ClassId) (a_this a_thick a_hollow a_damp a_fresh a_pulls a_fats a_deep a_fine a_pay a_hair a_sightPicture a_sightPull a_sightShows a_pad a_act a_where a_much a_kindMany a_had a_leaves a_mostPay a_canLast a_leastMissed a_kept a_isKept : Nat) (v_stones : Int32) (v_flat : Int32) (v_leastThick : Int32) (v_sights : Int32) (v_padMany : Int32) (v_acts : Int32) (v_pulled : Int32) (v_skyPull : Int32) (v_skyWhose : Int32) (v_badAct : Int32) (v_badWhy : Int32) (v_keptAt : Int32) (v_isWriting : Int32) (v_deep : Nat → Int32) (v_fine : Nat → Int32) : va_W := [(a_this, .inr (11, [.int v_stones, .int v_flat, .int v_leastThick, .ref a_thick, .ref a_hollow, .ref a_damp, .ref a_fresh, .ref a_pulls, .ref a_fats, .ref a_deep, .ref a_fine, .ref a_pay, .ref a_hair, .ref a_sightPicture, .ref a_sightPull, .ref a_sightShows, .int v_sights, .ref a_pad, .int v_padMany, .ref a_act, .ref a_where, .ref a_much, .int v_acts, .int v_pulled, .ref a_kindMany, .int v_skyPull, .int v_skyWhose, .ref a_had, .ref a_leaves, .int v_badAct, .int v_badWhy, .ref a_mostPay, .ref a_canLast, .ref a_leastMissed, .ref a_kept, .ref a_isKept, .int v_keptAt, .int v_isWriting])), (a_deep, .inl (cI, 8, .inl v_deep)), (a_fine, .inl (cI, 8, .inl v_fine))]
abbrev rX11_shows : Room := { frames := 1, cells := 0, slots := 0, locals := 21 }
set_option maxRecDepth 20000 in
theorem uX11_shows_0 {a_this a_thick a_hollow a_damp a_fresh a_pulls a_fats a_deep a_fine a_pay a_hair a_sightPicture a_sightPull a_sightShows a_pad a_act a_where a_much a_kindMany a_had a_leaves a_mostPay a_canLast a_leastMissed a_kept a_isKept : Nat} (x1 : Int32) (x2 : Int32) (x3 : Int32) (x4 : Int32) (v_stones : Int32) (v_flat : Int32) (v_leastThick : Int32) (v_sights : Int32) (v_padMany : Int32) (v_acts : Int32) (v_pulled : Int32) (v_skyPull : Int32) (v_skyWhose : Int32) (v_badAct : Int32) (v_badWhy : Int32) (v_keptAt : Int32) (v_isWriting : Int32) (v_deep : Nat → Int32) (v_fine : Nat → Int32) {res : Int32} (C : Cx p s m av meth c RX11 cX11_shows 7 (some .boolean) G cI cZ cO A) (hQ : RI p l e rX11_shows s m av below meth c G A cX11_shows .boolean Q (res) (wX11_shows cI cZ a_this a_thick a_hollow a_damp a_fresh a_pulls a_fats a_deep a_fine a_pay a_hair a_sightPicture a_sightPull a_sightShows a_pad a_act a_where a_much a_kindMany a_had a_leaves a_mostPay a_canLast a_leastMissed a_kept a_isKept v_stones v_flat v_leastThick v_sights v_padMany v_acts v_pulled v_skyPull v_skyWhose v_badAct v_badWhy v_keptAt v_isWriting v_deep v_fine)) (h : fX11_shows x1 x2 x3 x4 v_deep v_fine = some res) (H : Heap) (locs : List Loc) (hW : HW G A s (wX11_shows cI cZ a_this a_thick a_hollow a_damp a_fresh a_pulls a_fats a_deep a_fine a_pay a_hair a_sightPicture a_sightPull a_sightShows a_pad a_act a_where a_much a_kindMany a_had a_leaves a_mostPay a_canLast a_leastMissed a_kept a_isKept v_stones v_flat v_leastThick v_sights v_padMany v_acts v_pulled v_skyPull v_skyWhose v_badAct v_badWhy v_keptAt v_isWriting v_deep v_fine) H locs) (ls : Array Slot) (hl : lv_has ls 7 [(0, .ref a_this), (1, .int x1), (2, .int x2), (3, .int x3), (4, .int x4)]) : W p l e rX11_shows s m av below meth c H locs 0 0 Q (F0 m 0 ls []) := by
  have hx := C.1
  have hb := C.2.1
  unfold fX11_shows at h
  refine lv_aload_n hx hb dX11_shows_0 rfl (lv_at hl 0 rfl) ?_
  refine getW C fl_RX11_28 hW 0 rfl rfl dX11_shows_1 ?_
  refine lv_iload_n hx hb dX11_shows_4 rfl (lv_at hl 1 rfl) ?_
  obtain ⟨g_1, h⟩ := gd_h h
  refine ialdW C hW 1 rfl g_1 dX11_shows_5 ?_
  refine lv_iconst (v := (3 : Int32)) hx hb dX11_shows_6 (by decide) ?_
  refine lv_iload_n hx hb dX11_shows_7 rfl (lv_at hl 2 rfl) ?_
  refine lv_imul hx hb dX11_shows_8 ?_
  refine lv_isub hx hb dX11_shows_9 ?_
  refine callSI0 C lk_RX11_169 (ctX11_notBelow0 ((v_deep (Int32.toNatClampNeg x1)) - ((3 : Int32) * x2)) rfl) hW hl rfl ⟨rfl, rfl⟩ ⟨(Nat.le_of_ble_eq_true rfl), (Nat.le_of_ble_eq_true rfl)⟩ ⟨Nat.zero_le _, Nat.zero_le _⟩ rfl (Nat.le_of_ble_eq_true rfl) dX11_shows_10 (fun H locs hW => ?_)
  refine lv_topi (fun v_2 ev_2 => ?_)
  have h := lt_h ev_2 h
  refine lv_istore (lv' := [(5, .int v_2), (0, .ref a_this), (1, .int x1), (2, .int x2), (3, .int x3), (4, .int x4)]) hx hb dX11_shows_13 hl (Nat.le_of_ble_eq_true rfl) rfl (fun ls hl => ?_)
  refine lv_aload_n hx hb dX11_shows_15 rfl (lv_at hl 1 rfl) ?_
  refine getW C fl_RX11_28 hW 0 rfl rfl dX11_shows_16 ?_
  refine lv_iload_n hx hb dX11_shows_19 rfl (lv_at hl 4 rfl) ?_
  obtain ⟨g_3, h⟩ := gd_h h
  refine ialdW C hW 1 rfl g_3 dX11_shows_20 ?_
  refine lv_aload_n hx hb dX11_shows_21 rfl (lv_at hl 1 rfl) ?_
  refine lv_iload_n hx hb dX11_shows_22 rfl (lv_at hl 4 rfl) ?_
  obtain ⟨v_4, hv_4, h⟩ := bd_h h
  refine callVIr [0, 2] C lk_RX11_172 (ctX11_wearOf a_this a_thick a_hollow a_damp a_fresh a_pulls a_fats a_deep a_fine a_pay a_hair a_sightPicture a_sightPull a_sightShows a_pad a_act a_where a_much a_kindMany a_had a_leaves a_mostPay a_canLast a_leastMissed a_kept a_isKept x3 v_stones v_flat v_leastThick v_sights v_padMany v_acts v_pulled v_skyPull v_skyWhose v_badAct v_badWhy v_keptAt v_isWriting v_fine hv_4) hW hl 11 rfl rfl rfl rfl rfl ⟨rfl, rfl⟩ ⟨(Nat.le_of_ble_eq_true rfl), (Nat.le_of_ble_eq_true rfl)⟩ ⟨Nat.zero_le _, Nat.zero_le _⟩ rfl (Nat.le_of_ble_eq_true rfl) dX11_shows_23 (fun H locs hW => ?_)
  refine lv_iload hx hb dX11_shows_26 (lv_at hl 5 rfl) ?_
  refine lv_bipush (v := (10 : Int32)) hx hb dX11_shows_28 (by decide) ?_
  refine lv_idiv hx hb dX11_shows_30 (by decide) ?_
  refine lv_imul hx hb dX11_shows_31 ?_
  refine lv_isub hx hb dX11_shows_32 ?_
  refine callSI0 C lk_RX11_169 (ctX11_notBelow0 ((v_deep (Int32.toNatClampNeg x3)) - (v_4 * (x4 / (10 : Int32)))) rfl) hW hl rfl ⟨rfl, rfl⟩ ⟨(Nat.le_of_ble_eq_true rfl), (Nat.le_of_ble_eq_true rfl)⟩ ⟨Nat.zero_le _, Nat.zero_le _⟩ rfl (Nat.le_of_ble_eq_true rfl) dX11_shows_33 (fun H locs hW => ?_)
  refine lv_topi (fun v_5 ev_5 => ?_)
  have h := lt_h ev_5 h
  refine lv_istore (lv' := [(6, .int v_5), (5, .int v_2), (0, .ref a_this), (1, .int x1), (2, .int x2), (3, .int x3), (4, .int x4)]) hx hb dX11_shows_36 hl (Nat.le_of_ble_eq_true rfl) rfl (fun ls hl => ?_)
  refine lv_iload_n hx hb dX11_shows_38 rfl (lv_at hl 3 rfl) ?_
  refine lv_iload_n hx hb dX11_shows_39 rfl (lv_at hl 5 rfl) ?_
  refine lv_icmp_eq (tgt := 54) hx hb dX11_shows_40 (by decide) (fun c_6 => ?_) (fun c_6 => ?_)
  · have h := ip_h c_6 h
    refine lv_iconst (v := (0 : Int32)) hx hb dX11_shows_54 (by decide) ?_
    obtain rfl := Option.some.inj h
    exact hQ nb_0 _ _ _ _ dX11_shows_55 hW
  · have h := in_h c_6 h
    refine lv_iload hx hb dX11_shows_43 (lv_at hl 1 rfl) ?_
    refine lv_iload hx hb dX11_shows_45 (lv_at hl 0 rfl) ?_
    refine lv_icmp_le (tgt := 54) hx hb dX11_shows_47 (by decide) (fun c_7 => ?_) (fun c_7 => ?_)
    · have h := ip_h c_7 h
      refine lv_iconst (v := (0 : Int32)) hx hb dX11_shows_54 (by decide) ?_
      obtain rfl := Option.some.inj h
      exact hQ nb_0 _ _ _ _ dX11_shows_55 hW
    · have h := in_h c_7 h
      refine lv_iconst (v := (1 : Int32)) hx hb dX11_shows_50 (by decide) ?_
      refine lv_goto (tgt := 55) hx hb dX11_shows_51 (by decide) ?_
      obtain rfl := Option.some.inj h
      exact hQ nb_1 _ _ _ _ dX11_shows_55 hW
theorem ctX11_shows {l : Launch} {G : va_G} {cI cZ cO : ClassId} (a_this a_thick a_hollow a_damp a_fresh a_pulls a_fats a_deep a_fine a_pay a_hair a_sightPicture a_sightPull a_sightShows a_pad a_act a_where a_much a_kindMany a_had a_leaves a_mostPay a_canLast a_leastMissed a_kept a_isKept : Nat) (x1 : Int32) (x2 : Int32) (x3 : Int32) (x4 : Int32) (v_stones : Int32) (v_flat : Int32) (v_leastThick : Int32) (v_sights : Int32) (v_padMany : Int32) (v_acts : Int32) (v_pulled : Int32) (v_skyPull : Int32) (v_skyWhose : Int32) (v_badAct : Int32) (v_badWhy : Int32) (v_keptAt : Int32) (v_isWriting : Int32) (v_deep : Nat → Int32) (v_fine : Nat → Int32) {res : Int32} (h : fX11_shows x1 x2 x3 x4 v_deep v_fine = some res) : MI l G cI cZ cO yX11_shows cX11_shows 7 .boolean rX11_shows [.ref a_this, .int x1, .int x2, .int x3, .int x4] (wX11_shows cI cZ a_this a_thick a_hollow a_damp a_fresh a_pulls a_fats a_deep a_fine a_pay a_hair a_sightPicture a_sightPull a_sightShows a_pad a_act a_where a_much a_kindMany a_had a_leaves a_mostPay a_canLast a_leastMissed a_kept a_isKept v_stones v_flat v_leastThick v_sights v_padMany v_acts v_pulled v_skyPull v_skyWhose v_badAct v_badWhy v_keptAt v_isWriting v_deep v_fine) (res) (wX11_shows cI cZ a_this a_thick a_hollow a_damp a_fresh a_pulls a_fats a_deep a_fine a_pay a_hair a_sightPicture a_sightPull a_sightShows a_pad a_act a_where a_much a_kindMany a_had a_leaves a_mostPay a_canLast a_leastMissed a_kept a_isKept v_stones v_flat v_leastThick v_sights v_padMany v_acts v_pulled v_skyPull v_skyWhose v_badAct v_badWhy v_keptAt v_isWriting v_deep v_fine) := by
  refine MI.of (by decide) (Nat.le_of_ble_eq_true rfl) ?_
  intro p e s m below meth c A Q C hW hQ ls hl
  exact uX11_shows_0 x1 x2 x3 x4 v_stones v_flat v_leastThick v_sights v_padMany v_acts v_pulled v_skyPull v_skyWhose v_badAct v_badWhy v_keptAt v_isWriting v_deep v_fine C hQ h _ _ hW _ hl
abbrev wX11_fits (cI cZ : ClassId) (a_this a_thick a_hollow a_damp a_fresh a_pulls a_fats a_deep a_fine a_pay a_hair a_sightPicture a_sightPull a_sightShows a_pad a_act a_where a_much a_kindMany a_had a_leaves a_mostPay a_canLast a_leastMissed a_kept a_isKept : Nat) (v_stones : Int32) (v_flat : Int32) (v_leastThick : Int32) (v_sights : Int32) (v_padMany : Int32) (v_acts : Int32) (v_pulled : Int32) (v_skyPull : Int32) (v_skyWhose : Int32) (v_badAct : Int32) (v_badWhy : Int32) (v_keptAt : Int32) (v_isWriting : Int32) (v_sightPicture : Nat → Int32) (v_sightPull : Nat → Int32) (v_deep : Nat → Int32) (v_fine : Nat → Int32) (v_sightShows : Nat → Int32) : va_W := [(a_this, .inr (11, [.int v_stones, .int v_flat, .int v_leastThick, .ref a_thick, .ref a_hollow, .ref a_damp, .ref a_fresh, .ref a_pulls, .ref a_fats, .ref a_deep, .ref a_fine, .ref a_pay, .ref a_hair, .ref a_sightPicture, .ref a_sightPull, .ref a_sightShows, .int v_sights, .ref a_pad, .int v_padMany, .ref a_act, .ref a_where, .ref a_much, .int v_acts, .int v_pulled, .ref a_kindMany, .int v_skyPull, .int v_skyWhose, .ref a_had, .ref a_leaves, .int v_badAct, .int v_badWhy, .ref a_mostPay, .ref a_canLast, .ref a_leastMissed, .ref a_kept, .ref a_isKept, .int v_keptAt, .int v_isWriting])), (a_sightPicture, .inl (cI, 8, .inl v_sightPicture)), (a_sightPull, .inl (cI, 8, .inl v_sightPull)), (a_deep, .inl (cI, 8, .inl v_deep)), (a_fine, .inl (cI, 8, .inl v_fine)), (a_sightShows, .inl (cI, 8, .inl v_sightShows))]
abbrev rX11_fits : Room := { frames := 2, cells := 0, slots := 0, locals := 47 }
set_option maxRecDepth 20000 in
theorem uX11_fits_5 {a_this a_thick a_hollow a_damp a_fresh a_pulls a_fats a_deep a_fine a_pay a_hair a_sightPicture a_sightPull a_sightShows a_pad a_act a_where a_much a_kindMany a_had a_leaves a_mostPay a_canLast a_leastMissed a_kept a_isKept : Nat} (x1 : Int32) (x2 : Int32) (x3 : Int32) (x4 : Int32) (v_stones : Int32) (v_flat : Int32) (v_leastThick : Int32) (v_sights : Int32) (v_padMany : Int32) (v_acts : Int32) (v_pulled : Int32) (v_skyPull : Int32) (v_skyWhose : Int32) (v_badAct : Int32) (v_badWhy : Int32) (v_keptAt : Int32) (v_isWriting : Int32) (v_sightPicture : Nat → Int32) (v_sightPull : Nat → Int32) (v_deep : Nat → Int32) (v_fine : Nat → Int32) (v_sightShows : Nat → Int32) {res : Int32} (C : Cx p s m av meth c RX11 cX11_fits 5 (some .boolean) G cI cZ cO A) (hQ : RI p l e rX11_fits s m av below meth c G A cX11_fits .boolean Q (res) (wX11_fits cI cZ a_this a_thick a_hollow a_damp a_fresh a_pulls a_fats a_deep a_fine a_pay a_hair a_sightPicture a_sightPull a_sightShows a_pad a_act a_where a_much a_kindMany a_had a_leaves a_mostPay a_canLast a_leastMissed a_kept a_isKept v_stones v_flat v_leastThick v_sights v_padMany v_acts v_pulled v_skyPull v_skyWhose v_badAct v_badWhy v_keptAt v_isWriting v_sightPicture v_sightPull v_deep v_fine v_sightShows)) {k5 : (Int32) → (Int32) → Option (Int32)} (hk5 : ∀ (x3 : Int32) (x4 : Int32), k5 x3 x4 = some res → ∀ (H : Heap) (locs : List Loc), HW G A s (wX11_fits cI cZ a_this a_thick a_hollow a_damp a_fresh a_pulls a_fats a_deep a_fine a_pay a_hair a_sightPicture a_sightPull a_sightShows a_pad a_act a_where a_much a_kindMany a_had a_leaves a_mostPay a_canLast a_leastMissed a_kept a_isKept v_stones v_flat v_leastThick v_sights v_padMany v_acts v_pulled v_skyPull v_skyWhose v_badAct v_badWhy v_keptAt v_isWriting v_sightPicture v_sightPull v_deep v_fine v_sightShows) H locs → ∀ ls : Array Slot, lv_has ls 5 [(0, .ref a_this), (1, .int x1), (2, .int x2), (3, .int x3), (4, .int x4)] → W p l e rX11_fits s m av below meth c H locs 0 0 Q (F0 m 5 ls [])) (h : FX11_fits_5 x1 x2 v_sights v_sightPicture v_sightPull v_deep v_fine v_sightShows k5 x3 x4 = some res) (H : Heap) (locs : List Loc) (hW : HW G A s (wX11_fits cI cZ a_this a_thick a_hollow a_damp a_fresh a_pulls a_fats a_deep a_fine a_pay a_hair a_sightPicture a_sightPull a_sightShows a_pad a_act a_where a_much a_kindMany a_had a_leaves a_mostPay a_canLast a_leastMissed a_kept a_isKept v_stones v_flat v_leastThick v_sights v_padMany v_acts v_pulled v_skyPull v_skyWhose v_badAct v_badWhy v_keptAt v_isWriting v_sightPicture v_sightPull v_deep v_fine v_sightShows) H locs) (ls : Array Slot) (hl : lv_has ls 5 [(0, .ref a_this), (1, .int x1), (2, .int x2), (3, .int x3), (4, .int x4)]) : W p l e rX11_fits s m av below meth c H locs 0 0 Q (F0 m 5 ls []) := by
  have hx := C.1
  have hb := C.2.1
  unfold FX11_fits_5 at h
  refine lv_iload hx hb dX11_fits_5 (lv_at hl 4 rfl) ?_
  refine lv_aload_n hx hb dX11_fits_7 rfl (lv_at hl 0 rfl) ?_
  refine getW C fl_RX11_263 hW 0 rfl rfl dX11_fits_8 ?_
  refine lv_icmp_ge (tgt := 69) hx hb dX11_fits_11 (by decide) (fun c_1 => ?_) (fun c_1 => ?_)
  · have h := ip_h c_1 h
    refine lv_iload_n hx hb dX11_fits_69 rfl (lv_at hl 3 rfl) ?_
    obtain ⟨g_2, h⟩ := gd_h h
    obtain rfl := Option.some.inj h
    exact hQ (nb_h g_2) _ _ _ _ dX11_fits_70 hW
  · have h := in_h c_1 h
    refine lv_iload_n hx hb dX11_fits_14 rfl (lv_at hl 3 rfl) ?_
    refine lv_if_eq (tgt := 61) hx hb dX11_fits_15 (by decide) (fun c_3 => ?_) (fun c_3 => ?_)
    · have h := ip_h c_3 h
      refine lv_iconst (v := (0 : Int32)) hx hb dX11_fits_61 (by decide) ?_
      refine lv_istore_n (lv' := [(3, .int (0 : Int32)), (0, .ref a_this), (1, .int x1), (2, .int x2), (4, .int x4)]) hx hb dX11_fits_62 rfl hl (Nat.le_of_ble_eq_true rfl) rfl (fun ls hl => ?_)
      obtain ⟨v_4, ev_4⟩ : ∃ y : Int32, y = x4 + (1 : Int32) := ⟨_, rfl⟩
      have h := lt_h ev_4 h
      refine lv_iinc (v := v_4) (lv' := [(4, .int v_4), (3, .int (0 : Int32)), (0, .ref a_this), (1, .int x1), (2, .int x2)]) hx hb dX11_fits_63 hl (k := 4) rfl (by rw [ev_4]; rfl) (Nat.le_of_ble_eq_true rfl) rfl (fun ls hl => ?_)
      refine lv_goto (tgt := 5) hx hb dX11_fits_66 (by decide) ?_
      exact hk5 (0 : Int32) v_4 h _ _ hW _ (lv_sub hl [2, 3, 4, 1, 0] rfl)
    · have h := in_h c_3 h
      refine lv_aload_n hx hb dX11_fits_18 rfl (lv_at hl 0 rfl) ?_
      refine lv_iload_n hx hb dX11_fits_19 rfl (lv_at hl 1 rfl) ?_
      refine lv_iload_n hx hb dX11_fits_20 rfl (lv_at hl 2 rfl) ?_
      refine lv_aload_n hx hb dX11_fits_21 rfl (lv_at hl 0 rfl) ?_
      refine getW C fl_RX11_40 hW 0 rfl rfl dX11_fits_22 ?_
      refine lv_iload hx hb dX11_fits_25 (lv_at hl 4 rfl) ?_
      obtain ⟨g_5, h⟩ := gd_h h
      refine ialdW C hW 1 rfl g_5 dX11_fits_27 ?_
      refine lv_aload_n hx hb dX11_fits_28 rfl (lv_at hl 0 rfl) ?_
      refine getW C fl_RX11_43 hW 0 rfl rfl dX11_fits_29 ?_
      refine lv_iload hx hb dX11_fits_32 (lv_at hl 4 rfl) ?_
      refine ialdW C hW 2 rfl g_5 dX11_fits_34 ?_
      obtain ⟨v_6, hv_6, h⟩ := bd_h h
      refine callVIr [0, 3, 4] C lk_RX11_266 (ctX11_shows a_this a_thick a_hollow a_damp a_fresh a_pulls a_fats a_deep a_fine a_pay a_hair a_sightPicture a_sightPull a_sightShows a_pad a_act a_where a_much a_kindMany a_had a_leaves a_mostPay a_canLast a_leastMissed a_kept a_isKept x1 x2 (v_sightPicture (Int32.toNatClampNeg x4)) (v_sightPull (Int32.toNatClampNeg x4)) v_stones v_flat v_leastThick v_sights v_padMany v_acts v_pulled v_skyPull v_skyWhose v_badAct v_badWhy v_keptAt v_isWriting v_deep v_fine hv_6) hW hl 11 rfl rfl rfl rfl rfl ⟨rfl, rfl⟩ ⟨(Nat.le_of_ble_eq_true rfl), (Nat.le_of_ble_eq_true rfl)⟩ ⟨Nat.zero_le _, Nat.zero_le _⟩ rfl (Nat.le_of_ble_eq_true rfl) dX11_fits_35 (fun H locs hW => ?_)
      refine lv_aload_n hx hb dX11_fits_38 rfl (lv_at hl 0 rfl) ?_
      refine getW C fl_RX11_46 hW 0 rfl rfl dX11_fits_39 ?_
      refine lv_iload hx hb dX11_fits_42 (lv_at hl 4 rfl) ?_
      refine ialdW C hW 5 rfl g_5 dX11_fits_44 ?_
      refine lv_iconst (v := (1 : Int32)) hx hb dX11_fits_45 (by decide) ?_
      refine lv_icmp_ne (tgt := 53) hx hb dX11_fits_46 (by decide) (fun c_7 => ?_) (fun c_7 => ?_)
      · have h := in_h c_7 h
        refine lv_iconst (v := (0 : Int32)) hx hb dX11_fits_53 (by decide) ?_
        refine lv_icmp_ne (tgt := 61) hx hb dX11_fits_54 (by decide) (fun c_8 => ?_) (fun c_8 => ?_)
        · have h := in_h c_8 h
          refine lv_iconst (v := (0 : Int32)) hx hb dX11_fits_61 (by decide) ?_
          refine lv_istore_n (lv' := [(3, .int (0 : Int32)), (0, .ref a_this), (1, .int x1), (2, .int x2), (4, .int x4)]) hx hb dX11_fits_62 rfl hl (Nat.le_of_ble_eq_true rfl) rfl (fun ls hl => ?_)
          obtain ⟨v_9, ev_9⟩ : ∃ y : Int32, y = x4 + (1 : Int32) := ⟨_, rfl⟩
          have h := lt_h ev_9 h
          refine lv_iinc (v := v_9) (lv' := [(4, .int v_9), (3, .int (0 : Int32)), (0, .ref a_this), (1, .int x1), (2, .int x2)]) hx hb dX11_fits_63 hl (k := 4) rfl (by rw [ev_9]; rfl) (Nat.le_of_ble_eq_true rfl) rfl (fun ls hl => ?_)
          refine lv_goto (tgt := 5) hx hb dX11_fits_66 (by decide) ?_
          exact hk5 (0 : Int32) v_9 h _ _ hW _ (lv_sub hl [2, 3, 4, 1, 0] rfl)
        · have h := ip_h c_8 h
          refine lv_iconst (v := (1 : Int32)) hx hb dX11_fits_57 (by decide) ?_
          refine lv_goto (tgt := 62) hx hb dX11_fits_58 (by decide) ?_
          refine lv_istore_n (lv' := [(3, .int (1 : Int32)), (0, .ref a_this), (1, .int x1), (2, .int x2), (4, .int x4)]) hx hb dX11_fits_62 rfl hl (Nat.le_of_ble_eq_true rfl) rfl (fun ls hl => ?_)
          obtain ⟨v_10, ev_10⟩ : ∃ y : Int32, y = x4 + (1 : Int32) := ⟨_, rfl⟩
          have h := lt_h ev_10 h
          refine lv_iinc (v := v_10) (lv' := [(4, .int v_10), (3, .int (1 : Int32)), (0, .ref a_this), (1, .int x1), (2, .int x2)]) hx hb dX11_fits_63 hl (k := 4) rfl (by rw [ev_10]; rfl) (Nat.le_of_ble_eq_true rfl) rfl (fun ls hl => ?_)
          refine lv_goto (tgt := 5) hx hb dX11_fits_66 (by decide) ?_
          exact hk5 (1 : Int32) v_10 h _ _ hW _ (lv_sub hl [2, 3, 4, 1, 0] rfl)
      · have h := ip_h c_7 h
        refine lv_iconst (v := (1 : Int32)) hx hb dX11_fits_49 (by decide) ?_
        refine lv_goto (tgt := 54) hx hb dX11_fits_50 (by decide) ?_
        refine lv_icmp_ne (tgt := 61) hx hb dX11_fits_54 (by decide) (fun c_11 => ?_) (fun c_11 => ?_)
        · have h := in_h c_11 h
          refine lv_iconst (v := (0 : Int32)) hx hb dX11_fits_61 (by decide) ?_
          refine lv_istore_n (lv' := [(3, .int (0 : Int32)), (0, .ref a_this), (1, .int x1), (2, .int x2), (4, .int x4)]) hx hb dX11_fits_62 rfl hl (Nat.le_of_ble_eq_true rfl) rfl (fun ls hl => ?_)
          obtain ⟨v_12, ev_12⟩ : ∃ y : Int32, y = x4 + (1 : Int32) := ⟨_, rfl⟩
          have h := lt_h ev_12 h
          refine lv_iinc (v := v_12) (lv' := [(4, .int v_12), (3, .int (0 : Int32)), (0, .ref a_this), (1, .int x1), (2, .int x2)]) hx hb dX11_fits_63 hl (k := 4) rfl (by rw [ev_12]; rfl) (Nat.le_of_ble_eq_true rfl) rfl (fun ls hl => ?_)
          refine lv_goto (tgt := 5) hx hb dX11_fits_66 (by decide) ?_
          exact hk5 (0 : Int32) v_12 h _ _ hW _ (lv_sub hl [2, 3, 4, 1, 0] rfl)
        · have h := ip_h c_11 h
          refine lv_iconst (v := (1 : Int32)) hx hb dX11_fits_57 (by decide) ?_
          refine lv_goto (tgt := 62) hx hb dX11_fits_58 (by decide) ?_
          refine lv_istore_n (lv' := [(3, .int (1 : Int32)), (0, .ref a_this), (1, .int x1), (2, .int x2), (4, .int x4)]) hx hb dX11_fits_62 rfl hl (Nat.le_of_ble_eq_true rfl) rfl (fun ls hl => ?_)
          obtain ⟨v_13, ev_13⟩ : ∃ y : Int32, y = x4 + (1 : Int32) := ⟨_, rfl⟩
          have h := lt_h ev_13 h
          refine lv_iinc (v := v_13) (lv' := [(4, .int v_13), (3, .int (1 : Int32)), (0, .ref a_this), (1, .int x1), (2, .int x2)]) hx hb dX11_fits_63 hl (k := 4) rfl (by rw [ev_13]; rfl) (Nat.le_of_ble_eq_true rfl) rfl (fun ls hl => ?_)
          refine lv_goto (tgt := 5) hx hb dX11_fits_66 (by decide) ?_
          exact hk5 (1 : Int32) v_13 h _ _ hW _ (lv_sub hl [2, 3, 4, 1, 0] rfl)
theorem wX11_fits_5_ {a_this a_thick a_hollow a_damp a_fresh a_pulls a_fats a_deep a_fine a_pay a_hair a_sightPicture a_sightPull a_sightShows a_pad a_act a_where a_much a_kindMany a_had a_leaves a_mostPay a_canLast a_leastMissed a_kept a_isKept : Nat} (x1 : Int32) (x2 : Int32) (v_stones : Int32) (v_flat : Int32) (v_leastThick : Int32) (v_sights : Int32) (v_padMany : Int32) (v_acts : Int32) (v_pulled : Int32) (v_skyPull : Int32) (v_skyWhose : Int32) (v_badAct : Int32) (v_badWhy : Int32) (v_keptAt : Int32) (v_isWriting : Int32) (v_sightPicture : Nat → Int32) (v_sightPull : Nat → Int32) (v_deep : Nat → Int32) (v_fine : Nat → Int32) (v_sightShows : Nat → Int32) {res : Int32} (C : Cx p s m av meth c RX11 cX11_fits 5 (some .boolean) G cI cZ cO A) (hQ : RI p l e rX11_fits s m av below meth c G A cX11_fits .boolean Q (res) (wX11_fits cI cZ a_this a_thick a_hollow a_damp a_fresh a_pulls a_fats a_deep a_fine a_pay a_hair a_sightPicture a_sightPull a_sightShows a_pad a_act a_where a_much a_kindMany a_had a_leaves a_mostPay a_canLast a_leastMissed a_kept a_isKept v_stones v_flat v_leastThick v_sights v_padMany v_acts v_pulled v_skyPull v_skyWhose v_badAct v_badWhy v_keptAt v_isWriting v_sightPicture v_sightPull v_deep v_fine v_sightShows)) : ∀ (n : Nat) (x3 : Int32) (x4 : Int32), LX11_fits_5 x1 x2 v_sights v_sightPicture v_sightPull v_deep v_fine v_sightShows n x3 x4 = some res → ∀ (H : Heap) (locs : List Loc), HW G A s (wX11_fits cI cZ a_this a_thick a_hollow a_damp a_fresh a_pulls a_fats a_deep a_fine a_pay a_hair a_sightPicture a_sightPull a_sightShows a_pad a_act a_where a_much a_kindMany a_had a_leaves a_mostPay a_canLast a_leastMissed a_kept a_isKept v_stones v_flat v_leastThick v_sights v_padMany v_acts v_pulled v_skyPull v_skyWhose v_badAct v_badWhy v_keptAt v_isWriting v_sightPicture v_sightPull v_deep v_fine v_sightShows) H locs → ∀ ls : Array Slot, lv_has ls 5 [(0, .ref a_this), (1, .int x1), (2, .int x2), (3, .int x3), (4, .int x4)] → W p l e rX11_fits s m av below meth c H locs 0 0 Q (F0 m 5 ls []) := by
  intro n
  induction n with
  | zero => intro x3 x4 h; cases h
  | succ n ih =>
    intro x3 x4 h H locs hW ls hl
    exact uX11_fits_5 x1 x2 x3 x4 v_stones v_flat v_leastThick v_sights v_padMany v_acts v_pulled v_skyPull v_skyWhose v_badAct v_badWhy v_keptAt v_isWriting v_sightPicture v_sightPull v_deep v_fine v_sightShows C hQ (k5 := LX11_fits_5 x1 x2 v_sights v_sightPicture v_sightPull v_deep v_fine v_sightShows n) ih h H locs hW ls hl
set_option maxRecDepth 20000 in
theorem uX11_fits_0 {a_this a_thick a_hollow a_damp a_fresh a_pulls a_fats a_deep a_fine a_pay a_hair a_sightPicture a_sightPull a_sightShows a_pad a_act a_where a_much a_kindMany a_had a_leaves a_mostPay a_canLast a_leastMissed a_kept a_isKept : Nat} (x1 : Int32) (x2 : Int32) (v_stones : Int32) (v_flat : Int32) (v_leastThick : Int32) (v_sights : Int32) (v_padMany : Int32) (v_acts : Int32) (v_pulled : Int32) (v_skyPull : Int32) (v_skyWhose : Int32) (v_badAct : Int32) (v_badWhy : Int32) (v_keptAt : Int32) (v_isWriting : Int32) (v_sightPicture : Nat → Int32) (v_sightPull : Nat → Int32) (v_deep : Nat → Int32) (v_fine : Nat → Int32) (v_sightShows : Nat → Int32) {res : Int32} (C : Cx p s m av meth c RX11 cX11_fits 5 (some .boolean) G cI cZ cO A) (hQ : RI p l e rX11_fits s m av below meth c G A cX11_fits .boolean Q (res) (wX11_fits cI cZ a_this a_thick a_hollow a_damp a_fresh a_pulls a_fats a_deep a_fine a_pay a_hair a_sightPicture a_sightPull a_sightShows a_pad a_act a_where a_much a_kindMany a_had a_leaves a_mostPay a_canLast a_leastMissed a_kept a_isKept v_stones v_flat v_leastThick v_sights v_padMany v_acts v_pulled v_skyPull v_skyWhose v_badAct v_badWhy v_keptAt v_isWriting v_sightPicture v_sightPull v_deep v_fine v_sightShows)) (h : fX11_fits x1 x2 v_sights v_sightPicture v_sightPull v_deep v_fine v_sightShows = some res) (H : Heap) (locs : List Loc) (hW : HW G A s (wX11_fits cI cZ a_this a_thick a_hollow a_damp a_fresh a_pulls a_fats a_deep a_fine a_pay a_hair a_sightPicture a_sightPull a_sightShows a_pad a_act a_where a_much a_kindMany a_had a_leaves a_mostPay a_canLast a_leastMissed a_kept a_isKept v_stones v_flat v_leastThick v_sights v_padMany v_acts v_pulled v_skyPull v_skyWhose v_badAct v_badWhy v_keptAt v_isWriting v_sightPicture v_sightPull v_deep v_fine v_sightShows) H locs) (ls : Array Slot) (hl : lv_has ls 5 [(0, .ref a_this), (1, .int x1), (2, .int x2)]) : W p l e rX11_fits s m av below meth c H locs 0 0 Q (F0 m 0 ls []) := by
  have hx := C.1
  have hb := C.2.1
  unfold fX11_fits at h
  refine lv_iconst (v := (1 : Int32)) hx hb dX11_fits_0 (by decide) ?_
  refine lv_istore_n (lv' := [(3, .int (1 : Int32)), (0, .ref a_this), (1, .int x1), (2, .int x2)]) hx hb dX11_fits_1 rfl hl (Nat.le_of_ble_eq_true rfl) rfl (fun ls hl => ?_)
  refine lv_iconst (v := (0 : Int32)) hx hb dX11_fits_2 (by decide) ?_
  refine lv_istore (lv' := [(4, .int (0 : Int32)), (3, .int (1 : Int32)), (0, .ref a_this), (1, .int x1), (2, .int x2)]) hx hb dX11_fits_3 hl (Nat.le_of_ble_eq_true rfl) rfl (fun ls hl => ?_)
  exact wX11_fits_5_ x1 x2 v_stones v_flat v_leastThick v_sights v_padMany v_acts v_pulled v_skyPull v_skyWhose v_badAct v_badWhy v_keptAt v_isWriting v_sightPicture v_sightPull v_deep v_fine v_sightShows C hQ 2000 (1 : Int32) (0 : Int32) h _ _ hW _ (lv_sub hl [2, 3, 4, 1, 0] rfl)
theorem ctX11_fits {l : Launch} {G : va_G} {cI cZ cO : ClassId} (a_this a_thick a_hollow a_damp a_fresh a_pulls a_fats a_deep a_fine a_pay a_hair a_sightPicture a_sightPull a_sightShows a_pad a_act a_where a_much a_kindMany a_had a_leaves a_mostPay a_canLast a_leastMissed a_kept a_isKept : Nat) (x1 : Int32) (x2 : Int32) (v_stones : Int32) (v_flat : Int32) (v_leastThick : Int32) (v_sights : Int32) (v_padMany : Int32) (v_acts : Int32) (v_pulled : Int32) (v_skyPull : Int32) (v_skyWhose : Int32) (v_badAct : Int32) (v_badWhy : Int32) (v_keptAt : Int32) (v_isWriting : Int32) (v_sightPicture : Nat → Int32) (v_sightPull : Nat → Int32) (v_deep : Nat → Int32) (v_fine : Nat → Int32) (v_sightShows : Nat → Int32) {res : Int32} (h : fX11_fits x1 x2 v_sights v_sightPicture v_sightPull v_deep v_fine v_sightShows = some res) : MI l G cI cZ cO yX11_fits cX11_fits 5 .boolean rX11_fits [.ref a_this, .int x1, .int x2] (wX11_fits cI cZ a_this a_thick a_hollow a_damp a_fresh a_pulls a_fats a_deep a_fine a_pay a_hair a_sightPicture a_sightPull a_sightShows a_pad a_act a_where a_much a_kindMany a_had a_leaves a_mostPay a_canLast a_leastMissed a_kept a_isKept v_stones v_flat v_leastThick v_sights v_padMany v_acts v_pulled v_skyPull v_skyWhose v_badAct v_badWhy v_keptAt v_isWriting v_sightPicture v_sightPull v_deep v_fine v_sightShows) (res) (wX11_fits cI cZ a_this a_thick a_hollow a_damp a_fresh a_pulls a_fats a_deep a_fine a_pay a_hair a_sightPicture a_sightPull a_sightShows a_pad a_act a_where a_much a_kindMany a_had a_leaves a_mostPay a_canLast a_leastMissed a_kept a_isKept v_stones v_flat v_leastThick v_sights v_padMany v_acts v_pulled v_skyPull v_skyWhose v_badAct v_badWhy v_keptAt v_isWriting v_sightPicture v_sightPull v_deep v_fine v_sightShows) := by
  refine MI.of (by decide) (Nat.le_of_ble_eq_true rfl) ?_
  intro p e s m below meth c A Q C hW hQ ls hl
  exact uX11_fits_0 x1 x2 v_stones v_flat v_leastThick v_sights v_padMany v_acts v_pulled v_skyPull v_skyWhose v_badAct v_badWhy v_keptAt v_isWriting v_sightPicture v_sightPull v_deep v_fine v_sightShows C hQ h _ _ hW _ hl
abbrev wX11_whose (cI cZ : ClassId) (a_this a_thick a_hollow a_damp a_fresh a_pulls a_fats a_deep a_fine a_pay a_hair a_sightPicture a_sightPull a_sightShows a_pad a_act a_where a_much a_kindMany a_had a_leaves a_mostPay a_canLast a_leastMissed a_kept a_isKept : Nat) (v_stones : Int32) (v_flat : Int32) (v_leastThick : Int32) (v_sights : Int32) (v_padMany : Int32) (v_acts : Int32) (v_pulled : Int32) (v_skyPull : Int32) (v_skyWhose : Int32) (v_badAct : Int32) (v_badWhy : Int32) (v_keptAt : Int32) (v_isWriting : Int32) (v_sightPicture : Nat → Int32) (v_sightPull : Nat → Int32) (v_deep : Nat → Int32) (v_fine : Nat → Int32) (v_sightShows : Nat → Int32) : va_W := [(a_this, .inr (11, [.int v_stones, .int v_flat, .int v_leastThick, .ref a_thick, .ref a_hollow, .ref a_damp, .ref a_fresh, .ref a_pulls, .ref a_fats, .ref a_deep, .ref a_fine, .ref a_pay, .ref a_hair, .ref a_sightPicture, .ref a_sightPull, .ref a_sightShows, .int v_sights, .ref a_pad, .int v_padMany, .ref a_act, .ref a_where, .ref a_much, .int v_acts, .int v_pulled, .ref a_kindMany, .int v_skyPull, .int v_skyWhose, .ref a_had, .ref a_leaves, .int v_badAct, .int v_badWhy, .ref a_mostPay, .ref a_canLast, .ref a_leastMissed, .ref a_kept, .ref a_isKept, .int v_keptAt, .int v_isWriting])), (a_sightPicture, .inl (cI, 8, .inl v_sightPicture)), (a_sightPull, .inl (cI, 8, .inl v_sightPull)), (a_deep, .inl (cI, 8, .inl v_deep)), (a_fine, .inl (cI, 8, .inl v_fine)), (a_sightShows, .inl (cI, 8, .inl v_sightShows))]
abbrev rX11_whose : Room := { frames := 3, cells := 0, slots := 0, locals := 71 }
set_option maxRecDepth 20000 in
theorem uX11_whose_4 {a_this a_thick a_hollow a_damp a_fresh a_pulls a_fats a_deep a_fine a_pay a_hair a_sightPicture a_sightPull a_sightShows a_pad a_act a_where a_much a_kindMany a_had a_leaves a_mostPay a_canLast a_leastMissed a_kept a_isKept : Nat} (x1 : Int32) (x2 : Int32) (x3 : Int32) (v_stones : Int32) (v_flat : Int32) (v_leastThick : Int32) (v_sights : Int32) (v_padMany : Int32) (v_acts : Int32) (v_pulled : Int32) (v_skyPull : Int32) (v_skyWhose : Int32) (v_badAct : Int32) (v_badWhy : Int32) (v_keptAt : Int32) (v_isWriting : Int32) (v_sightPicture : Nat → Int32) (v_sightPull : Nat → Int32) (v_deep : Nat → Int32) (v_fine : Nat → Int32) (v_sightShows : Nat → Int32) {res : Int32} (C : Cx p s m av meth c RX11 cX11_whose 5 (some .int) G cI cZ cO A) (hQ : RI p l e rX11_whose s m av below meth c G A cX11_whose .int Q (res) (wX11_whose cI cZ a_this a_thick a_hollow a_damp a_fresh a_pulls a_fats a_deep a_fine a_pay a_hair a_sightPicture a_sightPull a_sightShows a_pad a_act a_where a_much a_kindMany a_had a_leaves a_mostPay a_canLast a_leastMissed a_kept a_isKept v_stones v_flat v_leastThick v_sights v_padMany v_acts v_pulled v_skyPull v_skyWhose v_badAct v_badWhy v_keptAt v_isWriting v_sightPicture v_sightPull v_deep v_fine v_sightShows)) {k4 : (Int32) → (Int32) → Option (Int32)} (hk4 : ∀ (x2 : Int32) (x3 : Int32), k4 x2 x3 = some res → ∀ (H : Heap) (locs : List Loc), HW G A s (wX11_whose cI cZ a_this a_thick a_hollow a_damp a_fresh a_pulls a_fats a_deep a_fine a_pay a_hair a_sightPicture a_sightPull a_sightShows a_pad a_act a_where a_much a_kindMany a_had a_leaves a_mostPay a_canLast a_leastMissed a_kept a_isKept v_stones v_flat v_leastThick v_sights v_padMany v_acts v_pulled v_skyPull v_skyWhose v_badAct v_badWhy v_keptAt v_isWriting v_sightPicture v_sightPull v_deep v_fine v_sightShows) H locs → ∀ ls : Array Slot, lv_has ls 5 [(0, .ref a_this), (1, .int x1), (2, .int x2), (3, .int x3)] → W p l e rX11_whose s m av below meth c H locs 0 0 Q (F0 m 4 ls [])) (h : FX11_whose_4 x1 v_sights v_sightPicture v_sightPull v_deep v_fine v_sightShows k4 x2 x3 = some res) (H : Heap) (locs : List Loc) (hW : HW G A s (wX11_whose cI cZ a_this a_thick a_hollow a_damp a_fresh a_pulls a_fats a_deep a_fine a_pay a_hair a_sightPicture a_sightPull a_sightShows a_pad a_act a_where a_much a_kindMany a_had a_leaves a_mostPay a_canLast a_leastMissed a_kept a_isKept v_stones v_flat v_leastThick v_sights v_padMany v_acts v_pulled v_skyPull v_skyWhose v_badAct v_badWhy v_keptAt v_isWriting v_sightPicture v_sightPull v_deep v_fine v_sightShows) H locs) (ls : Array Slot) (hl : lv_has ls 5 [(0, .ref a_this), (1, .int x1), (2, .int x2), (3, .int x3)]) : W p l e rX11_whose s m av below meth c H locs 0 0 Q (F0 m 4 ls []) := by
  have hx := C.1
  have hb := C.2.1
  unfold FX11_whose_4 at h
  refine lv_iload_n hx hb dX11_whose_4 rfl (lv_at hl 3 rfl) ?_
  refine lv_sipush (v := (160 : Int32)) hx hb dX11_whose_5 (by decide) ?_
  refine lv_icmp_ge (tgt := 57) hx hb dX11_whose_8 (by decide) (fun c_1 => ?_) (fun c_1 => ?_)
  · have h := ip_h c_1 h
    refine lv_iload_n hx hb dX11_whose_57 rfl (lv_at hl 1 rfl) ?_
    refine lv_iconst (v := (-1 : Int32)) hx hb dX11_whose_58 (by decide) ?_
    refine lv_icmp_ne (tgt := 66) hx hb dX11_whose_59 (by decide) (fun c_2 => ?_) (fun c_2 => ?_)
    · have h := in_h c_2 h
      refine lv_bipush (v := (-6 : Int32)) hx hb dX11_whose_66 (by decide) ?_
      obtain rfl := Option.some.inj h
      exact hQ rfl _ _ _ _ dX11_whose_68 hW
    · have h := ip_h c_2 h
      refine lv_iload_n hx hb dX11_whose_62 rfl (lv_at hl 2 rfl) ?_
      refine lv_goto (tgt := 68) hx hb dX11_whose_63 (by decide) ?_
      obtain rfl := Option.some.inj h
      exact hQ rfl _ _ _ _ dX11_whose_68 hW
  · have h := in_h c_1 h
    refine lv_iconst (v := (1 : Int32)) hx hb dX11_whose_11 (by decide) ?_
    refine lv_iload_n hx hb dX11_whose_12 rfl (lv_at hl 3 rfl) ?_
    refine lv_bipush (v := (20 : Int32)) hx hb dX11_whose_13 (by decide) ?_
    refine lv_irem hx hb dX11_whose_15 (by decide) ?_
    refine lv_iadd hx hb dX11_whose_16 ?_
    refine lv_topi (fun v_3 ev_3 => ?_)
    have h := lt_h ev_3 h
    refine lv_istore (lv' := [(4, .int v_3), (0, .ref a_this), (1, .int x1), (2, .int x2), (3, .int x3)]) hx hb dX11_whose_17 hl (Nat.le_of_ble_eq_true rfl) rfl (fun ls hl => ?_)
    refine lv_aload_n hx hb dX11_whose_19 rfl (lv_at hl 1 rfl) ?_
    refine lv_iload_n hx hb dX11_whose_20 rfl (lv_at hl 4 rfl) ?_
    refine lv_bipush (v := (20 : Int32)) hx hb dX11_whose_21 (by decide) ?_
    refine lv_idiv hx hb dX11_whose_23 (by decide) ?_
    refine lv_iload hx hb dX11_whose_24 (lv_at hl 0 rfl) ?_
    obtain ⟨v_4, hv_4, h⟩ := bd_h h
    refine callVIr [0, 1, 2, 3, 4, 5] C lk_RX11_270 (ctX11_fits a_this a_thick a_hollow a_damp a_fresh a_pulls a_fats a_deep a_fine a_pay a_hair a_sightPicture a_sightPull a_sightShows a_pad a_act a_where a_much a_kindMany a_had a_leaves a_mostPay a_canLast a_leastMissed a_kept a_isKept (x3 / (20 : Int32)) v_3 v_stones v_flat v_leastThick v_sights v_padMany v_acts v_pulled v_skyPull v_skyWhose v_badAct v_badWhy v_keptAt v_isWriting v_sightPicture v_sightPull v_deep v_fine v_sightShows hv_4) hW hl 11 rfl rfl rfl rfl rfl ⟨rfl, rfl⟩ ⟨(Nat.le_of_ble_eq_true rfl), (Nat.le_of_ble_eq_true rfl)⟩ ⟨Nat.zero_le _, Nat.zero_le _⟩ rfl (Nat.le_of_ble_eq_true rfl) dX11_whose_26 (fun H locs hW => ?_)
    refine lv_if_eq (tgt := 51) hx hb dX11_whose_29 (by decide) (fun c_5 => ?_) (fun c_5 => ?_)
    · have h := ip_h c_5 h
      obtain ⟨v_6, ev_6⟩ : ∃ y : Int32, y = x3 + (1 : Int32) := ⟨_, rfl⟩
      have h := lt_h ev_6 h
      refine lv_iinc (v := v_6) (lv' := [(3, .int v_6), (4, .int v_3), (0, .ref a_this), (1, .int x1), (2, .int x2)]) hx hb dX11_whose_51 hl (k := 4) rfl (by rw [ev_6]; rfl) (Nat.le_of_ble_eq_true rfl) rfl (fun ls hl => ?_)
      refine lv_goto (tgt := 4) hx hb dX11_whose_54 (by decide) ?_
      exact hk4 x2 v_6 h _ _ hW _ (lv_sub hl [2, 3, 4, 0] rfl)
    · have h := in_h c_5 h
      refine lv_iload_n hx hb dX11_whose_32 rfl (lv_at hl 3 rfl) ?_
      refine lv_iload_n hx hb dX11_whose_33 rfl (lv_at hl 2 rfl) ?_
      refine lv_icmp_ne (tgt := 48) hx hb dX11_whose_34 (by decide) (fun c_7 => ?_) (fun c_7 => ?_)
      · have h := in_h c_7 h
        obtain ⟨v_8, ev_8⟩ : ∃ y : Int32, y = x2 + (1 : Int32) := ⟨_, rfl⟩
        have h := lt_h ev_8 h
        refine lv_iinc (v := v_8) (lv' := [(2, .int v_8), (4, .int v_3), (0, .ref a_this), (1, .int x1), (3, .int x3)]) hx hb dX11_whose_48 hl (k := 3) rfl (by rw [ev_8]; rfl) (Nat.le_of_ble_eq_true rfl) rfl (fun ls hl => ?_)
        obtain ⟨v_9, ev_9⟩ : ∃ y : Int32, y = x3 + (1 : Int32) := ⟨_, rfl⟩
        have h := lt_h ev_9 h
        refine lv_iinc (v := v_9) (lv' := [(3, .int v_9), (2, .int v_8), (4, .int v_3), (0, .ref a_this), (1, .int x1)]) hx hb dX11_whose_51 hl (k := 4) rfl (by rw [ev_9]; rfl) (Nat.le_of_ble_eq_true rfl) rfl (fun ls hl => ?_)
        refine lv_goto (tgt := 4) hx hb dX11_whose_54 (by decide) ?_
        exact hk4 v_8 v_9 h _ _ hW _ (lv_sub hl [3, 4, 1, 0] rfl)
      · have h := ip_h c_7 h
        refine lv_bipush (v := (100 : Int32)) hx hb dX11_whose_37 (by decide) ?_
        refine lv_iload_n hx hb dX11_whose_39 rfl (lv_at hl 4 rfl) ?_
        refine lv_bipush (v := (20 : Int32)) hx hb dX11_whose_40 (by decide) ?_
        refine lv_idiv hx hb dX11_whose_42 (by decide) ?_
        refine lv_imul hx hb dX11_whose_43 ?_
        refine lv_iload hx hb dX11_whose_44 (lv_at hl 0 rfl) ?_
        refine lv_iadd hx hb dX11_whose_46 ?_
        obtain rfl := Option.some.inj h
        exact hQ rfl _ _ _ _ dX11_whose_47 hW
theorem wX11_whose_4_ {a_this a_thick a_hollow a_damp a_fresh a_pulls a_fats a_deep a_fine a_pay a_hair a_sightPicture a_sightPull a_sightShows a_pad a_act a_where a_much a_kindMany a_had a_leaves a_mostPay a_canLast a_leastMissed a_kept a_isKept : Nat} (x1 : Int32) (v_stones : Int32) (v_flat : Int32) (v_leastThick : Int32) (v_sights : Int32) (v_padMany : Int32) (v_acts : Int32) (v_pulled : Int32) (v_skyPull : Int32) (v_skyWhose : Int32) (v_badAct : Int32) (v_badWhy : Int32) (v_keptAt : Int32) (v_isWriting : Int32) (v_sightPicture : Nat → Int32) (v_sightPull : Nat → Int32) (v_deep : Nat → Int32) (v_fine : Nat → Int32) (v_sightShows : Nat → Int32) {res : Int32} (C : Cx p s m av meth c RX11 cX11_whose 5 (some .int) G cI cZ cO A) (hQ : RI p l e rX11_whose s m av below meth c G A cX11_whose .int Q (res) (wX11_whose cI cZ a_this a_thick a_hollow a_damp a_fresh a_pulls a_fats a_deep a_fine a_pay a_hair a_sightPicture a_sightPull a_sightShows a_pad a_act a_where a_much a_kindMany a_had a_leaves a_mostPay a_canLast a_leastMissed a_kept a_isKept v_stones v_flat v_leastThick v_sights v_padMany v_acts v_pulled v_skyPull v_skyWhose v_badAct v_badWhy v_keptAt v_isWriting v_sightPicture v_sightPull v_deep v_fine v_sightShows)) : ∀ (n : Nat) (x2 : Int32) (x3 : Int32), LX11_whose_4 x1 v_sights v_sightPicture v_sightPull v_deep v_fine v_sightShows n x2 x3 = some res → ∀ (H : Heap) (locs : List Loc), HW G A s (wX11_whose cI cZ a_this a_thick a_hollow a_damp a_fresh a_pulls a_fats a_deep a_fine a_pay a_hair a_sightPicture a_sightPull a_sightShows a_pad a_act a_where a_much a_kindMany a_had a_leaves a_mostPay a_canLast a_leastMissed a_kept a_isKept v_stones v_flat v_leastThick v_sights v_padMany v_acts v_pulled v_skyPull v_skyWhose v_badAct v_badWhy v_keptAt v_isWriting v_sightPicture v_sightPull v_deep v_fine v_sightShows) H locs → ∀ ls : Array Slot, lv_has ls 5 [(0, .ref a_this), (1, .int x1), (2, .int x2), (3, .int x3)] → W p l e rX11_whose s m av below meth c H locs 0 0 Q (F0 m 4 ls []) := by
  intro n
  induction n with
  | zero => intro x2 x3 h; cases h
  | succ n ih =>
    intro x2 x3 h H locs hW ls hl
    exact uX11_whose_4 x1 x2 x3 v_stones v_flat v_leastThick v_sights v_padMany v_acts v_pulled v_skyPull v_skyWhose v_badAct v_badWhy v_keptAt v_isWriting v_sightPicture v_sightPull v_deep v_fine v_sightShows C hQ (k4 := LX11_whose_4 x1 v_sights v_sightPicture v_sightPull v_deep v_fine v_sightShows n) ih h H locs hW ls hl
set_option maxRecDepth 20000 in
theorem uX11_whose_0 {a_this a_thick a_hollow a_damp a_fresh a_pulls a_fats a_deep a_fine a_pay a_hair a_sightPicture a_sightPull a_sightShows a_pad a_act a_where a_much a_kindMany a_had a_leaves a_mostPay a_canLast a_leastMissed a_kept a_isKept : Nat} (x1 : Int32) (v_stones : Int32) (v_flat : Int32) (v_leastThick : Int32) (v_sights : Int32) (v_padMany : Int32) (v_acts : Int32) (v_pulled : Int32) (v_skyPull : Int32) (v_skyWhose : Int32) (v_badAct : Int32) (v_badWhy : Int32) (v_keptAt : Int32) (v_isWriting : Int32) (v_sightPicture : Nat → Int32) (v_sightPull : Nat → Int32) (v_deep : Nat → Int32) (v_fine : Nat → Int32) (v_sightShows : Nat → Int32) {res : Int32} (C : Cx p s m av meth c RX11 cX11_whose 5 (some .int) G cI cZ cO A) (hQ : RI p l e rX11_whose s m av below meth c G A cX11_whose .int Q (res) (wX11_whose cI cZ a_this a_thick a_hollow a_damp a_fresh a_pulls a_fats a_deep a_fine a_pay a_hair a_sightPicture a_sightPull a_sightShows a_pad a_act a_where a_much a_kindMany a_had a_leaves a_mostPay a_canLast a_leastMissed a_kept a_isKept v_stones v_flat v_leastThick v_sights v_padMany v_acts v_pulled v_skyPull v_skyWhose v_badAct v_badWhy v_keptAt v_isWriting v_sightPicture v_sightPull v_deep v_fine v_sightShows)) (h : fX11_whose x1 v_sights v_sightPicture v_sightPull v_deep v_fine v_sightShows = some res) (H : Heap) (locs : List Loc) (hW : HW G A s (wX11_whose cI cZ a_this a_thick a_hollow a_damp a_fresh a_pulls a_fats a_deep a_fine a_pay a_hair a_sightPicture a_sightPull a_sightShows a_pad a_act a_where a_much a_kindMany a_had a_leaves a_mostPay a_canLast a_leastMissed a_kept a_isKept v_stones v_flat v_leastThick v_sights v_padMany v_acts v_pulled v_skyPull v_skyWhose v_badAct v_badWhy v_keptAt v_isWriting v_sightPicture v_sightPull v_deep v_fine v_sightShows) H locs) (ls : Array Slot) (hl : lv_has ls 5 [(0, .ref a_this), (1, .int x1)]) : W p l e rX11_whose s m av below meth c H locs 0 0 Q (F0 m 0 ls []) := by
  have hx := C.1
  have hb := C.2.1
  unfold fX11_whose at h
  refine lv_iconst (v := (0 : Int32)) hx hb dX11_whose_0 (by decide) ?_
  refine lv_istore_n (lv' := [(2, .int (0 : Int32)), (0, .ref a_this), (1, .int x1)]) hx hb dX11_whose_1 rfl hl (Nat.le_of_ble_eq_true rfl) rfl (fun ls hl => ?_)
  refine lv_iconst (v := (0 : Int32)) hx hb dX11_whose_2 (by decide) ?_
  refine lv_istore_n (lv' := [(3, .int (0 : Int32)), (2, .int (0 : Int32)), (0, .ref a_this), (1, .int x1)]) hx hb dX11_whose_3 rfl hl (Nat.le_of_ble_eq_true rfl) rfl (fun ls hl => ?_)
  exact wX11_whose_4_ x1 v_stones v_flat v_leastThick v_sights v_padMany v_acts v_pulled v_skyPull v_skyWhose v_badAct v_badWhy v_keptAt v_isWriting v_sightPicture v_sightPull v_deep v_fine v_sightShows C hQ 2000 (0 : Int32) (0 : Int32) h _ _ hW _ (lv_sub hl [2, 3, 1, 0] rfl)
theorem ctX11_whose {l : Launch} {G : va_G} {cI cZ cO : ClassId} (a_this a_thick a_hollow a_damp a_fresh a_pulls a_fats a_deep a_fine a_pay a_hair a_sightPicture a_sightPull a_sightShows a_pad a_act a_where a_much a_kindMany a_had a_leaves a_mostPay a_canLast a_leastMissed a_kept a_isKept : Nat) (x1 : Int32) (v_stones : Int32) (v_flat : Int32) (v_leastThick : Int32) (v_sights : Int32) (v_padMany : Int32) (v_acts : Int32) (v_pulled : Int32) (v_skyPull : Int32) (v_skyWhose : Int32) (v_badAct : Int32) (v_badWhy : Int32) (v_keptAt : Int32) (v_isWriting : Int32) (v_sightPicture : Nat → Int32) (v_sightPull : Nat → Int32) (v_deep : Nat → Int32) (v_fine : Nat → Int32) (v_sightShows : Nat → Int32) {res : Int32} (h : fX11_whose x1 v_sights v_sightPicture v_sightPull v_deep v_fine v_sightShows = some res) : MI l G cI cZ cO yX11_whose cX11_whose 5 .int rX11_whose [.ref a_this, .int x1] (wX11_whose cI cZ a_this a_thick a_hollow a_damp a_fresh a_pulls a_fats a_deep a_fine a_pay a_hair a_sightPicture a_sightPull a_sightShows a_pad a_act a_where a_much a_kindMany a_had a_leaves a_mostPay a_canLast a_leastMissed a_kept a_isKept v_stones v_flat v_leastThick v_sights v_padMany v_acts v_pulled v_skyPull v_skyWhose v_badAct v_badWhy v_keptAt v_isWriting v_sightPicture v_sightPull v_deep v_fine v_sightShows) (res) (wX11_whose cI cZ a_this a_thick a_hollow a_damp a_fresh a_pulls a_fats a_deep a_fine a_pay a_hair a_sightPicture a_sightPull a_sightShows a_pad a_act a_where a_much a_kindMany a_had a_leaves a_mostPay a_canLast a_leastMissed a_kept a_isKept v_stones v_flat v_leastThick v_sights v_padMany v_acts v_pulled v_skyPull v_skyWhose v_badAct v_badWhy v_keptAt v_isWriting v_sightPicture v_sightPull v_deep v_fine v_sightShows) := by
  refine MI.of (by decide) (Nat.le_of_ble_eq_true rfl) ?_
  intro p e s m below meth c A Q C hW hQ ls hl
  exact uX11_whose_0 x1 v_stones v_flat v_leastThick v_sights v_padMany v_acts v_pulled v_skyPull v_skyWhose v_badAct v_badWhy v_keptAt v_isWriting v_sightPicture v_sightPull v_deep v_fine v_sightShows C hQ h _ _ hW _ hl
abbrev wX11_suspects (cI cZ : ClassId) (a_this a_thick a_hollow a_damp a_fresh a_pulls a_fats a_deep a_fine a_pay a_hair a_sightPicture a_sightPull a_sightShows a_pad a_act a_where a_much a_kindMany a_had a_leaves a_mostPay a_canLast a_leastMissed a_kept a_isKept : Nat) (v_stones : Int32) (v_flat : Int32) (v_leastThick : Int32) (v_sights : Int32) (v_padMany : Int32) (v_acts : Int32) (v_pulled : Int32) (v_skyPull : Int32) (v_skyWhose : Int32) (v_badAct : Int32) (v_badWhy : Int32) (v_keptAt : Int32) (v_isWriting : Int32) (v_sightPicture : Nat → Int32) (v_sightPull : Nat → Int32) (v_deep : Nat → Int32) (v_fine : Nat → Int32) (v_sightShows : Nat → Int32) : va_W := [(a_this, .inr (11, [.int v_stones, .int v_flat, .int v_leastThick, .ref a_thick, .ref a_hollow, .ref a_damp, .ref a_fresh, .ref a_pulls, .ref a_fats, .ref a_deep, .ref a_fine, .ref a_pay, .ref a_hair, .ref a_sightPicture, .ref a_sightPull, .ref a_sightShows, .int v_sights, .ref a_pad, .int v_padMany, .ref a_act, .ref a_where, .ref a_much, .int v_acts, .int v_pulled, .ref a_kindMany, .int v_skyPull, .int v_skyWhose, .ref a_had, .ref a_leaves, .int v_badAct, .int v_badWhy, .ref a_mostPay, .ref a_canLast, .ref a_leastMissed, .ref a_kept, .ref a_isKept, .int v_keptAt, .int v_isWriting])), (a_sightPicture, .inl (cI, 8, .inl v_sightPicture)), (a_sightPull, .inl (cI, 8, .inl v_sightPull)), (a_deep, .inl (cI, 8, .inl v_deep)), (a_fine, .inl (cI, 8, .inl v_fine)), (a_sightShows, .inl (cI, 8, .inl v_sightShows))]
abbrev rX11_suspects : Room := { frames := 3, cells := 0, slots := 0, locals := 71 }
set_option maxRecDepth 20000 in
theorem uX11_suspects_4 {a_this a_thick a_hollow a_damp a_fresh a_pulls a_fats a_deep a_fine a_pay a_hair a_sightPicture a_sightPull a_sightShows a_pad a_act a_where a_much a_kindMany a_had a_leaves a_mostPay a_canLast a_leastMissed a_kept a_isKept : Nat} (x1 : Int32) (x2 : Int32) (v_stones : Int32) (v_flat : Int32) (v_leastThick : Int32) (v_sights : Int32) (v_padMany : Int32) (v_acts : Int32) (v_pulled : Int32) (v_skyPull : Int32) (v_skyWhose : Int32) (v_badAct : Int32) (v_badWhy : Int32) (v_keptAt : Int32) (v_isWriting : Int32) (v_sightPicture : Nat → Int32) (v_sightPull : Nat → Int32) (v_deep : Nat → Int32) (v_fine : Nat → Int32) (v_sightShows : Nat → Int32) {res : Int32} (C : Cx p s m av meth c RX11 cX11_suspects 3 (some .int) G cI cZ cO A) (hQ : RI p l e rX11_suspects s m av below meth c G A cX11_suspects .int Q (res) (wX11_suspects cI cZ a_this a_thick a_hollow a_damp a_fresh a_pulls a_fats a_deep a_fine a_pay a_hair a_sightPicture a_sightPull a_sightShows a_pad a_act a_where a_much a_kindMany a_had a_leaves a_mostPay a_canLast a_leastMissed a_kept a_isKept v_stones v_flat v_leastThick v_sights v_padMany v_acts v_pulled v_skyPull v_skyWhose v_badAct v_badWhy v_keptAt v_isWriting v_sightPicture v_sightPull v_deep v_fine v_sightShows)) {k4 : (Int32) → (Int32) → Option (Int32)} (hk4 : ∀ (x1 : Int32) (x2 : Int32), k4 x1 x2 = some res → ∀ (H : Heap) (locs : List Loc), HW G A s (wX11_suspects cI cZ a_this a_thick a_hollow a_damp a_fresh a_pulls a_fats a_deep a_fine a_pay a_hair a_sightPicture a_sightPull a_sightShows a_pad a_act a_where a_much a_kindMany a_had a_leaves a_mostPay a_canLast a_leastMissed a_kept a_isKept v_stones v_flat v_leastThick v_sights v_padMany v_acts v_pulled v_skyPull v_skyWhose v_badAct v_badWhy v_keptAt v_isWriting v_sightPicture v_sightPull v_deep v_fine v_sightShows) H locs → ∀ ls : Array Slot, lv_has ls 3 [(0, .ref a_this), (1, .int x1), (2, .int x2)] → W p l e rX11_suspects s m av below meth c H locs 0 0 Q (F0 m 4 ls [])) (h : FX11_suspects_4 v_sights v_sightPicture v_sightPull v_deep v_fine v_sightShows k4 x1 x2 = some res) (H : Heap) (locs : List Loc) (hW : HW G A s (wX11_suspects cI cZ a_this a_thick a_hollow a_damp a_fresh a_pulls a_fats a_deep a_fine a_pay a_hair a_sightPicture a_sightPull a_sightShows a_pad a_act a_where a_much a_kindMany a_had a_leaves a_mostPay a_canLast a_leastMissed a_kept a_isKept v_stones v_flat v_leastThick v_sights v_padMany v_acts v_pulled v_skyPull v_skyWhose v_badAct v_badWhy v_keptAt v_isWriting v_sightPicture v_sightPull v_deep v_fine v_sightShows) H locs) (ls : Array Slot) (hl : lv_has ls 3 [(0, .ref a_this), (1, .int x1), (2, .int x2)]) : W p l e rX11_suspects s m av below meth c H locs 0 0 Q (F0 m 4 ls []) := by
  have hx := C.1
  have hb := C.2.1
  unfold FX11_suspects_4 at h
  refine lv_iload_n hx hb dX11_suspects_4 rfl (lv_at hl 2 rfl) ?_
  refine lv_sipush (v := (160 : Int32)) hx hb dX11_suspects_5 (by decide) ?_
  refine lv_icmp_ge (tgt := 47) hx hb dX11_suspects_8 (by decide) (fun c_1 => ?_) (fun c_1 => ?_)
  · have h := ip_h c_1 h
    refine lv_iload_n hx hb dX11_suspects_47 rfl (lv_at hl 1 rfl) ?_
    obtain rfl := Option.some.inj h
    exact hQ rfl _ _ _ _ dX11_suspects_48 hW
  · have h := in_h c_1 h
    refine lv_iload_n hx hb dX11_suspects_11 rfl (lv_at hl 1 rfl) ?_
    refine lv_aload_n hx hb dX11_suspects_12 rfl (lv_at hl 0 rfl) ?_
    refine lv_iload_n hx hb dX11_suspects_13 rfl (lv_at hl 2 rfl) ?_
    refine lv_bipush (v := (20 : Int32)) hx hb dX11_suspects_14 (by decide) ?_
    refine lv_idiv hx hb dX11_suspects_16 (by decide) ?_
    refine lv_iconst (v := (1 : Int32)) hx hb dX11_suspects_17 (by decide) ?_
    refine lv_iload_n hx hb dX11_suspects_18 rfl (lv_at hl 2 rfl) ?_
    refine lv_bipush (v := (20 : Int32)) hx hb dX11_suspects_19 (by decide) ?_
    refine lv_irem hx hb dX11_suspects_21 (by decide) ?_
    refine lv_iadd hx hb dX11_suspects_22 ?_
    obtain ⟨v_2, hv_2, h⟩ := bd_h h
    refine callVIr [0, 1, 2, 3, 4, 5] C lk_RX11_270 (ctX11_fits a_this a_thick a_hollow a_damp a_fresh a_pulls a_fats a_deep a_fine a_pay a_hair a_sightPicture a_sightPull a_sightShows a_pad a_act a_where a_much a_kindMany a_had a_leaves a_mostPay a_canLast a_leastMissed a_kept a_isKept (x2 / (20 : Int32)) ((1 : Int32) + (x2 - x2 / (20 : Int32) * (20 : Int32))) v_stones v_flat v_leastThick v_sights v_padMany v_acts v_pulled v_skyPull v_skyWhose v_badAct v_badWhy v_keptAt v_isWriting v_sightPicture v_sightPull v_deep v_fine v_sightShows hv_2) hW hl 11 rfl rfl rfl rfl rfl ⟨rfl, rfl⟩ ⟨(Nat.le_of_ble_eq_true rfl), (Nat.le_of_ble_eq_true rfl)⟩ ⟨Nat.zero_le _, Nat.zero_le _⟩ rfl (Nat.le_of_ble_eq_true rfl) dX11_suspects_23 (fun H locs hW => ?_)
    refine lv_if_eq (tgt := 38) hx hb dX11_suspects_26 (by decide) (fun c_3 => ?_) (fun c_3 => ?_)
    · have h := ip_h c_3 h
      refine lv_iconst (v := (0 : Int32)) hx hb dX11_suspects_38 (by decide) ?_
      refine lv_ior hx hb dX11_suspects_39 ?_
      refine lv_topi (fun v_4 ev_4 => ?_)
      have h := lt_h ev_4 h
      refine lv_istore_n (lv' := [(1, .int v_4), (0, .ref a_this), (2, .int x2)]) hx hb dX11_suspects_40 rfl hl (Nat.le_of_ble_eq_true rfl) rfl (fun ls hl => ?_)
      obtain ⟨v_5, ev_5⟩ : ∃ y : Int32, y = x2 + (1 : Int32) := ⟨_, rfl⟩
      have h := lt_h ev_5 h
      refine lv_iinc (v := v_5) (lv' := [(2, .int v_5), (1, .int v_4), (0, .ref a_this)]) hx hb dX11_suspects_41 hl (k := 2) rfl (by rw [ev_5]; rfl) (Nat.le_of_ble_eq_true rfl) rfl (fun ls hl => ?_)
      refine lv_goto (tgt := 4) hx hb dX11_suspects_44 (by decide) ?_
      exact hk4 v_4 v_5 h _ _ hW _ (lv_sub hl [2, 1, 0] rfl)
    · have h := in_h c_3 h
      refine lv_iconst (v := (1 : Int32)) hx hb dX11_suspects_29 (by decide) ?_
      refine lv_iload_n hx hb dX11_suspects_30 rfl (lv_at hl 2 rfl) ?_
      refine lv_bipush (v := (20 : Int32)) hx hb dX11_suspects_31 (by decide) ?_
      refine lv_idiv hx hb dX11_suspects_33 (by decide) ?_
      refine lv_ishl hx hb dX11_suspects_34 ?_
      refine lv_goto (tgt := 39) hx hb dX11_suspects_35 (by decide) ?_
      refine lv_ior hx hb dX11_suspects_39 ?_
      refine lv_topi (fun v_6 ev_6 => ?_)
      have h := lt_h ev_6 h
      refine lv_istore_n (lv' := [(1, .int v_6), (0, .ref a_this), (2, .int x2)]) hx hb dX11_suspects_40 rfl hl (Nat.le_of_ble_eq_true rfl) rfl (fun ls hl => ?_)
      obtain ⟨v_7, ev_7⟩ : ∃ y : Int32, y = x2 + (1 : Int32) := ⟨_, rfl⟩
      have h := lt_h ev_7 h
      refine lv_iinc (v := v_7) (lv' := [(2, .int v_7), (1, .int v_6), (0, .ref a_this)]) hx hb dX11_suspects_41 hl (k := 2) rfl (by rw [ev_7]; rfl) (Nat.le_of_ble_eq_true rfl) rfl (fun ls hl => ?_)
      refine lv_goto (tgt := 4) hx hb dX11_suspects_44 (by decide) ?_
      exact hk4 v_6 v_7 h _ _ hW _ (lv_sub hl [2, 1, 0] rfl)
theorem wX11_suspects_4_ {a_this a_thick a_hollow a_damp a_fresh a_pulls a_fats a_deep a_fine a_pay a_hair a_sightPicture a_sightPull a_sightShows a_pad a_act a_where a_much a_kindMany a_had a_leaves a_mostPay a_canLast a_leastMissed a_kept a_isKept : Nat} (v_stones : Int32) (v_flat : Int32) (v_leastThick : Int32) (v_sights : Int32) (v_padMany : Int32) (v_acts : Int32) (v_pulled : Int32) (v_skyPull : Int32) (v_skyWhose : Int32) (v_badAct : Int32) (v_badWhy : Int32) (v_keptAt : Int32) (v_isWriting : Int32) (v_sightPicture : Nat → Int32) (v_sightPull : Nat → Int32) (v_deep : Nat → Int32) (v_fine : Nat → Int32) (v_sightShows : Nat → Int32) {res : Int32} (C : Cx p s m av meth c RX11 cX11_suspects 3 (some .int) G cI cZ cO A) (hQ : RI p l e rX11_suspects s m av below meth c G A cX11_suspects .int Q (res) (wX11_suspects cI cZ a_this a_thick a_hollow a_damp a_fresh a_pulls a_fats a_deep a_fine a_pay a_hair a_sightPicture a_sightPull a_sightShows a_pad a_act a_where a_much a_kindMany a_had a_leaves a_mostPay a_canLast a_leastMissed a_kept a_isKept v_stones v_flat v_leastThick v_sights v_padMany v_acts v_pulled v_skyPull v_skyWhose v_badAct v_badWhy v_keptAt v_isWriting v_sightPicture v_sightPull v_deep v_fine v_sightShows)) : ∀ (n : Nat) (x1 : Int32) (x2 : Int32), LX11_suspects_4 v_sights v_sightPicture v_sightPull v_deep v_fine v_sightShows n x1 x2 = some res → ∀ (H : Heap) (locs : List Loc), HW G A s (wX11_suspects cI cZ a_this a_thick a_hollow a_damp a_fresh a_pulls a_fats a_deep a_fine a_pay a_hair a_sightPicture a_sightPull a_sightShows a_pad a_act a_where a_much a_kindMany a_had a_leaves a_mostPay a_canLast a_leastMissed a_kept a_isKept v_stones v_flat v_leastThick v_sights v_padMany v_acts v_pulled v_skyPull v_skyWhose v_badAct v_badWhy v_keptAt v_isWriting v_sightPicture v_sightPull v_deep v_fine v_sightShows) H locs → ∀ ls : Array Slot, lv_has ls 3 [(0, .ref a_this), (1, .int x1), (2, .int x2)] → W p l e rX11_suspects s m av below meth c H locs 0 0 Q (F0 m 4 ls []) := by
  intro n
  induction n with
  | zero => intro x1 x2 h; cases h
  | succ n ih =>
    intro x1 x2 h H locs hW ls hl
    exact uX11_suspects_4 x1 x2 v_stones v_flat v_leastThick v_sights v_padMany v_acts v_pulled v_skyPull v_skyWhose v_badAct v_badWhy v_keptAt v_isWriting v_sightPicture v_sightPull v_deep v_fine v_sightShows C hQ (k4 := LX11_suspects_4 v_sights v_sightPicture v_sightPull v_deep v_fine v_sightShows n) ih h H locs hW ls hl
set_option maxRecDepth 20000 in
theorem uX11_suspects_0 {a_this a_thick a_hollow a_damp a_fresh a_pulls a_fats a_deep a_fine a_pay a_hair a_sightPicture a_sightPull a_sightShows a_pad a_act a_where a_much a_kindMany a_had a_leaves a_mostPay a_canLast a_leastMissed a_kept a_isKept : Nat} (v_stones : Int32) (v_flat : Int32) (v_leastThick : Int32) (v_sights : Int32) (v_padMany : Int32) (v_acts : Int32) (v_pulled : Int32) (v_skyPull : Int32) (v_skyWhose : Int32) (v_badAct : Int32) (v_badWhy : Int32) (v_keptAt : Int32) (v_isWriting : Int32) (v_sightPicture : Nat → Int32) (v_sightPull : Nat → Int32) (v_deep : Nat → Int32) (v_fine : Nat → Int32) (v_sightShows : Nat → Int32) {res : Int32} (C : Cx p s m av meth c RX11 cX11_suspects 3 (some .int) G cI cZ cO A) (hQ : RI p l e rX11_suspects s m av below meth c G A cX11_suspects .int Q (res) (wX11_suspects cI cZ a_this a_thick a_hollow a_damp a_fresh a_pulls a_fats a_deep a_fine a_pay a_hair a_sightPicture a_sightPull a_sightShows a_pad a_act a_where a_much a_kindMany a_had a_leaves a_mostPay a_canLast a_leastMissed a_kept a_isKept v_stones v_flat v_leastThick v_sights v_padMany v_acts v_pulled v_skyPull v_skyWhose v_badAct v_badWhy v_keptAt v_isWriting v_sightPicture v_sightPull v_deep v_fine v_sightShows)) (h : fX11_suspects v_sights v_sightPicture v_sightPull v_deep v_fine v_sightShows = some res) (H : Heap) (locs : List Loc) (hW : HW G A s (wX11_suspects cI cZ a_this a_thick a_hollow a_damp a_fresh a_pulls a_fats a_deep a_fine a_pay a_hair a_sightPicture a_sightPull a_sightShows a_pad a_act a_where a_much a_kindMany a_had a_leaves a_mostPay a_canLast a_leastMissed a_kept a_isKept v_stones v_flat v_leastThick v_sights v_padMany v_acts v_pulled v_skyPull v_skyWhose v_badAct v_badWhy v_keptAt v_isWriting v_sightPicture v_sightPull v_deep v_fine v_sightShows) H locs) (ls : Array Slot) (hl : lv_has ls 3 [(0, .ref a_this)]) : W p l e rX11_suspects s m av below meth c H locs 0 0 Q (F0 m 0 ls []) := by
  have hx := C.1
  have hb := C.2.1
  unfold fX11_suspects at h
  refine lv_iconst (v := (0 : Int32)) hx hb dX11_suspects_0 (by decide) ?_
  refine lv_istore_n (lv' := [(1, .int (0 : Int32)), (0, .ref a_this)]) hx hb dX11_suspects_1 rfl hl (Nat.le_of_ble_eq_true rfl) rfl (fun ls hl => ?_)
  refine lv_iconst (v := (0 : Int32)) hx hb dX11_suspects_2 (by decide) ?_
  refine lv_istore_n (lv' := [(2, .int (0 : Int32)), (1, .int (0 : Int32)), (0, .ref a_this)]) hx hb dX11_suspects_3 rfl hl (Nat.le_of_ble_eq_true rfl) rfl (fun ls hl => ?_)
  exact wX11_suspects_4_ v_stones v_flat v_leastThick v_sights v_padMany v_acts v_pulled v_skyPull v_skyWhose v_badAct v_badWhy v_keptAt v_isWriting v_sightPicture v_sightPull v_deep v_fine v_sightShows C hQ 2000 (0 : Int32) (0 : Int32) h _ _ hW _ (lv_sub hl [2, 1, 0] rfl)
theorem ctX11_suspects {l : Launch} {G : va_G} {cI cZ cO : ClassId} (a_this a_thick a_hollow a_damp a_fresh a_pulls a_fats a_deep a_fine a_pay a_hair a_sightPicture a_sightPull a_sightShows a_pad a_act a_where a_much a_kindMany a_had a_leaves a_mostPay a_canLast a_leastMissed a_kept a_isKept : Nat) (v_stones : Int32) (v_flat : Int32) (v_leastThick : Int32) (v_sights : Int32) (v_padMany : Int32) (v_acts : Int32) (v_pulled : Int32) (v_skyPull : Int32) (v_skyWhose : Int32) (v_badAct : Int32) (v_badWhy : Int32) (v_keptAt : Int32) (v_isWriting : Int32) (v_sightPicture : Nat → Int32) (v_sightPull : Nat → Int32) (v_deep : Nat → Int32) (v_fine : Nat → Int32) (v_sightShows : Nat → Int32) {res : Int32} (h : fX11_suspects v_sights v_sightPicture v_sightPull v_deep v_fine v_sightShows = some res) : MI l G cI cZ cO yX11_suspects cX11_suspects 3 .int rX11_suspects [.ref a_this] (wX11_suspects cI cZ a_this a_thick a_hollow a_damp a_fresh a_pulls a_fats a_deep a_fine a_pay a_hair a_sightPicture a_sightPull a_sightShows a_pad a_act a_where a_much a_kindMany a_had a_leaves a_mostPay a_canLast a_leastMissed a_kept a_isKept v_stones v_flat v_leastThick v_sights v_padMany v_acts v_pulled v_skyPull v_skyWhose v_badAct v_badWhy v_keptAt v_isWriting v_sightPicture v_sightPull v_deep v_fine v_sightShows) (res) (wX11_suspects cI cZ a_this a_thick a_hollow a_damp a_fresh a_pulls a_fats a_deep a_fine a_pay a_hair a_sightPicture a_sightPull a_sightShows a_pad a_act a_where a_much a_kindMany a_had a_leaves a_mostPay a_canLast a_leastMissed a_kept a_isKept v_stones v_flat v_leastThick v_sights v_padMany v_acts v_pulled v_skyPull v_skyWhose v_badAct v_badWhy v_keptAt v_isWriting v_sightPicture v_sightPull v_deep v_fine v_sightShows) := by
  refine MI.of (by decide) (Nat.le_of_ble_eq_true rfl) ?_
  intro p e s m below meth c A Q C hW hQ ls hl
  exact uX11_suspects_0 v_stones v_flat v_leastThick v_sights v_padMany v_acts v_pulled v_skyPull v_skyWhose v_badAct v_badWhy v_keptAt v_isWriting v_sightPicture v_sightPull v_deep v_fine v_sightShows C hQ h _ _ hW _ hl
abbrev wX11_mostLeft (cI cZ : ClassId) (a_this a_thick a_hollow a_damp a_fresh a_pulls a_fats a_deep a_fine a_pay a_hair a_sightPicture a_sightPull a_sightShows a_pad a_act a_where a_much a_kindMany a_had a_leaves a_mostPay a_canLast a_leastMissed a_kept a_isKept : Nat) (v_stones : Int32) (v_flat : Int32) (v_leastThick : Int32) (v_sights : Int32) (v_padMany : Int32) (v_acts : Int32) (v_pulled : Int32) (v_skyPull : Int32) (v_skyWhose : Int32) (v_badAct : Int32) (v_badWhy : Int32) (v_keptAt : Int32) (v_isWriting : Int32) (v_sightPicture : Nat → Int32) (v_sightPull : Nat → Int32) (v_deep : Nat → Int32) (v_fine : Nat → Int32) (v_sightShows : Nat → Int32) : va_W := [(a_this, .inr (11, [.int v_stones, .int v_flat, .int v_leastThick, .ref a_thick, .ref a_hollow, .ref a_damp, .ref a_fresh, .ref a_pulls, .ref a_fats, .ref a_deep, .ref a_fine, .ref a_pay, .ref a_hair, .ref a_sightPicture, .ref a_sightPull, .ref a_sightShows, .int v_sights, .ref a_pad, .int v_padMany, .ref a_act, .ref a_where, .ref a_much, .int v_acts, .int v_pulled, .ref a_kindMany, .int v_skyPull, .int v_skyWhose, .ref a_had, .ref a_leaves, .int v_badAct, .int v_badWhy, .ref a_mostPay, .ref a_canLast, .ref a_leastMissed, .ref a_kept, .ref a_isKept, .int v_keptAt, .int v_isWriting])), (a_sightPicture, .inl (cI, 8, .inl v_sightPicture)), (a_sightPull, .inl (cI, 8, .inl v_sightPull)), (a_deep, .inl (cI, 8, .inl v_deep)), (a_fine, .inl (cI, 8, .inl v_fine)), (a_sightShows, .inl (cI, 8, .inl v_sightShows))]
abbrev rX11_mostLeft : Room := { frames := 3, cells := 0, slots := 0, locals := 71 }
set_option maxRecDepth 20000 in
theorem uX11_mostLeft_8 {a_this a_thick a_hollow a_damp a_fresh a_pulls a_fats a_deep a_fine a_pay a_hair a_sightPicture a_sightPull a_sightShows a_pad a_act a_where a_much a_kindMany a_had a_leaves a_mostPay a_canLast a_leastMissed a_kept a_isKept : Nat} (x1 : Int32) (x2 : Int32) (x3 : Int32) (x4 : Int32) (x5 : Int32) (v_stones : Int32) (v_flat : Int32) (v_leastThick : Int32) (v_sights : Int32) (v_padMany : Int32) (v_acts : Int32) (v_pulled : Int32) (v_skyPull : Int32) (v_skyWhose : Int32) (v_badAct : Int32) (v_badWhy : Int32) (v_keptAt : Int32) (v_isWriting : Int32) (v_sightPicture : Nat → Int32) (v_sightPull : Nat → Int32) (v_deep : Nat → Int32) (v_fine : Nat → Int32) (v_sightShows : Nat → Int32) {res : Int32} (C : Cx p s m av meth c RX11 cX11_mostLeft 8 (some .int) G cI cZ cO A) (hQ : RI p l e rX11_mostLeft s m av below meth c G A cX11_mostLeft .int Q (res) (wX11_mostLeft cI cZ a_this a_thick a_hollow a_damp a_fresh a_pulls a_fats a_deep a_fine a_pay a_hair a_sightPicture a_sightPull a_sightShows a_pad a_act a_where a_much a_kindMany a_had a_leaves a_mostPay a_canLast a_leastMissed a_kept a_isKept v_stones v_flat v_leastThick v_sights v_padMany v_acts v_pulled v_skyPull v_skyWhose v_badAct v_badWhy v_keptAt v_isWriting v_sightPicture v_sightPull v_deep v_fine v_sightShows)) {k8 : (Int32) → (Int32) → (Int32) → Option (Int32)} (hk8 : ∀ (x3 : Int32) (x4 : Int32) (x5 : Int32), k8 x3 x4 x5 = some res → ∀ (H : Heap) (locs : List Loc), HW G A s (wX11_mostLeft cI cZ a_this a_thick a_hollow a_damp a_fresh a_pulls a_fats a_deep a_fine a_pay a_hair a_sightPicture a_sightPull a_sightShows a_pad a_act a_where a_much a_kindMany a_had a_leaves a_mostPay a_canLast a_leastMissed a_kept a_isKept v_stones v_flat v_leastThick v_sights v_padMany v_acts v_pulled v_skyPull v_skyWhose v_badAct v_badWhy v_keptAt v_isWriting v_sightPicture v_sightPull v_deep v_fine v_sightShows) H locs → ∀ ls : Array Slot, lv_has ls 8 [(0, .ref a_this), (1, .int x1), (2, .int x2), (3, .int x3), (4, .int x4), (5, .int x5)] → W p l e rX11_mostLeft s m av below meth c H locs 0 0 Q (F0 m 8 ls [])) (h : FX11_mostLeft_8 x1 x2 v_sights v_sightPicture v_sightPull v_deep v_fine v_sightShows k8 x3 x4 x5 = some res) (H : Heap) (locs : List Loc) (hW : HW G A s (wX11_mostLeft cI cZ a_this a_thick a_hollow a_damp a_fresh a_pulls a_fats a_deep a_fine a_pay a_hair a_sightPicture a_sightPull a_sightShows a_pad a_act a_where a_much a_kindMany a_had a_leaves a_mostPay a_canLast a_leastMissed a_kept a_isKept v_stones v_flat v_leastThick v_sights v_padMany v_acts v_pulled v_skyPull v_skyWhose v_badAct v_badWhy v_keptAt v_isWriting v_sightPicture v_sightPull v_deep v_fine v_sightShows) H locs) (ls : Array Slot) (hl : lv_has ls 8 [(0, .ref a_this), (1, .int x1), (2, .int x2), (3, .int x3), (4, .int x4), (5, .int x5)]) : W p l e rX11_mostLeft s m av below meth c H locs 0 0 Q (F0 m 8 ls []) := by
  have hx := C.1
  have hb := C.2.1
  unfold FX11_mostLeft_8 at h
  refine lv_iload hx hb dX11_mostLeft_8 (lv_at hl 5 rfl) ?_
  refine lv_sipush (v := (160 : Int32)) hx hb dX11_mostLeft_10 (by decide) ?_
  refine lv_icmp_ge (tgt := 88) hx hb dX11_mostLeft_13 (by decide) (fun c_1 => ?_) (fun c_1 => ?_)
  · have h := ip_h c_1 h
    refine lv_iload_n hx hb dX11_mostLeft_88 rfl (lv_at hl 3 rfl) ?_
    refine lv_iload hx hb dX11_mostLeft_89 (lv_at hl 4 rfl) ?_
    refine lv_icmp_le (tgt := 98) hx hb dX11_mostLeft_91 (by decide) (fun c_2 => ?_) (fun c_2 => ?_)
    · have h := ip_h c_2 h
      refine lv_iload hx hb dX11_mostLeft_98 (lv_at hl 4 rfl) ?_
      obtain rfl := Option.some.inj h
      exact hQ rfl _ _ _ _ dX11_mostLeft_100 hW
    · have h := in_h c_2 h
      refine lv_iload_n hx hb dX11_mostLeft_94 rfl (lv_at hl 3 rfl) ?_
      refine lv_goto (tgt := 100) hx hb dX11_mostLeft_95 (by decide) ?_
      obtain rfl := Option.some.inj h
      exact hQ rfl _ _ _ _ dX11_mostLeft_100 hW
  · have h := in_h c_1 h
    refine lv_iconst (v := (1 : Int32)) hx hb dX11_mostLeft_16 (by decide) ?_
    refine lv_iload hx hb dX11_mostLeft_17 (lv_at hl 5 rfl) ?_
    refine lv_bipush (v := (20 : Int32)) hx hb dX11_mostLeft_19 (by decide) ?_
    refine lv_irem hx hb dX11_mostLeft_21 (by decide) ?_
    refine lv_iadd hx hb dX11_mostLeft_22 ?_
    refine lv_topi (fun v_3 ev_3 => ?_)
    have h := lt_h ev_3 h
    refine lv_istore (lv' := [(6, .int v_3), (0, .ref a_this), (1, .int x1), (2, .int x2), (3, .int x3), (4, .int x4), (5, .int x5)]) hx hb dX11_mostLeft_23 hl (Nat.le_of_ble_eq_true rfl) rfl (fun ls hl => ?_)
    refine lv_aload_n hx hb dX11_mostLeft_25 rfl (lv_at hl 1 rfl) ?_
    refine lv_iload hx hb dX11_mostLeft_26 (lv_at hl 6 rfl) ?_
    refine lv_bipush (v := (20 : Int32)) hx hb dX11_mostLeft_28 (by decide) ?_
    refine lv_idiv hx hb dX11_mostLeft_30 (by decide) ?_
    refine lv_iload hx hb dX11_mostLeft_31 (lv_at hl 0 rfl) ?_
    obtain ⟨v_4, hv_4, h⟩ := bd_h h
    refine callVIr [0, 1, 2, 3, 4, 5] C lk_RX11_270 (ctX11_fits a_this a_thick a_hollow a_damp a_fresh a_pulls a_fats a_deep a_fine a_pay a_hair a_sightPicture a_sightPull a_sightShows a_pad a_act a_where a_much a_kindMany a_had a_leaves a_mostPay a_canLast a_leastMissed a_kept a_isKept (x5 / (20 : Int32)) v_3 v_stones v_flat v_leastThick v_sights v_padMany v_acts v_pulled v_skyPull v_skyWhose v_badAct v_badWhy v_keptAt v_isWriting v_sightPicture v_sightPull v_deep v_fine v_sightShows hv_4) hW hl 11 rfl rfl rfl rfl rfl ⟨rfl, rfl⟩ ⟨(Nat.le_of_ble_eq_true rfl), (Nat.le_of_ble_eq_true rfl)⟩ ⟨Nat.zero_le _, Nat.zero_le _⟩ rfl (Nat.le_of_ble_eq_true rfl) dX11_mostLeft_33 (fun H locs hW => ?_)
    refine lv_if_eq (tgt := 82) hx hb dX11_mostLeft_36 (by decide) (fun c_5 => ?_) (fun c_5 => ?_)
    · have h := ip_h c_5 h
      obtain ⟨v_6, ev_6⟩ : ∃ y : Int32, y = x5 + (1 : Int32) := ⟨_, rfl⟩
      have h := lt_h ev_6 h
      refine lv_iinc (v := v_6) (lv' := [(5, .int v_6), (6, .int v_3), (0, .ref a_this), (1, .int x1), (2, .int x2), (3, .int x3), (4, .int x4)]) hx hb dX11_mostLeft_82 hl (k := 6) rfl (by rw [ev_6]; rfl) (Nat.le_of_ble_eq_true rfl) rfl (fun ls hl => ?_)
      refine lv_goto (tgt := 8) hx hb dX11_mostLeft_85 (by decide) ?_
      exact hk8 x3 x4 v_6 h _ _ hW _ (lv_sub hl [2, 3, 4, 5, 6, 0] rfl)
    · have h := in_h c_5 h
      refine lv_aload_n hx hb dX11_mostLeft_39 rfl (lv_at hl 1 rfl) ?_
      refine lv_iload hx hb dX11_mostLeft_40 (lv_at hl 6 rfl) ?_
      refine lv_bipush (v := (20 : Int32)) hx hb dX11_mostLeft_42 (by decide) ?_
      refine lv_idiv hx hb dX11_mostLeft_44 (by decide) ?_
      refine lv_iload hx hb dX11_mostLeft_45 (lv_at hl 0 rfl) ?_
      refine lv_iload_n hx hb dX11_mostLeft_47 rfl (lv_at hl 2 rfl) ?_
      refine lv_iload_n hx hb dX11_mostLeft_48 rfl (lv_at hl 3 rfl) ?_
      obtain ⟨v_7, hv_7, h⟩ := bd_h h
      refine callVIr [0, 3, 4] C lk_RX11_266 (ctX11_shows a_this a_thick a_hollow a_damp a_fresh a_pulls a_fats a_deep a_fine a_pay a_hair a_sightPicture a_sightPull a_sightShows a_pad a_act a_where a_much a_kindMany a_had a_leaves a_mostPay a_canLast a_leastMissed a_kept a_isKept (x5 / (20 : Int32)) v_3 x1 x2 v_stones v_flat v_leastThick v_sights v_padMany v_acts v_pulled v_skyPull v_skyWhose v_badAct v_badWhy v_keptAt v_isWriting v_deep v_fine hv_7) hW hl 11 rfl rfl rfl rfl rfl ⟨rfl, rfl⟩ ⟨(Nat.le_of_ble_eq_true rfl), (Nat.le_of_ble_eq_true rfl)⟩ ⟨Nat.zero_le _, Nat.zero_le _⟩ rfl (Nat.le_of_ble_eq_true rfl) dX11_mostLeft_49 (fun H locs hW => ?_)
      refine lv_istore (lv' := [(7, .int v_7), (6, .int v_3), (0, .ref a_this), (1, .int x1), (2, .int x2), (3, .int x3), (4, .int x4), (5, .int x5)]) hx hb dX11_mostLeft_52 hl (Nat.le_of_ble_eq_true rfl) rfl (fun ls hl => ?_)
      refine lv_iload_n hx hb dX11_mostLeft_54 rfl (lv_at hl 5 rfl) ?_
      refine lv_iload hx hb dX11_mostLeft_55 (lv_at hl 0 rfl) ?_
      refine lv_if_eq (tgt := 64) hx hb dX11_mostLeft_57 (by decide) (fun c_8 => ?_) (fun c_8 => ?_)
      · have h := ip_h c_8 h
        refine lv_iconst (v := (0 : Int32)) hx hb dX11_mostLeft_64 (by decide) ?_
        refine lv_iadd hx hb dX11_mostLeft_65 ?_
        refine lv_topi (fun v_9 ev_9 => ?_)
        have h := lt_h ev_9 h
        refine lv_istore_n (lv' := [(3, .int v_9), (7, .int v_7), (6, .int v_3), (0, .ref a_this), (1, .int x1), (2, .int x2), (4, .int x4), (5, .int x5)]) hx hb dX11_mostLeft_66 rfl hl (Nat.le_of_ble_eq_true rfl) rfl (fun ls hl => ?_)
        refine lv_iload hx hb dX11_mostLeft_67 (lv_at hl 6 rfl) ?_
        refine lv_iload hx hb dX11_mostLeft_69 (lv_at hl 1 rfl) ?_
        refine lv_if_eq (tgt := 78) hx hb dX11_mostLeft_71 (by decide) (fun c_10 => ?_) (fun c_10 => ?_)
        · have h := ip_h c_10 h
          refine lv_iconst (v := (1 : Int32)) hx hb dX11_mostLeft_78 (by decide) ?_
          refine lv_iadd hx hb dX11_mostLeft_79 ?_
          refine lv_topi (fun v_11 ev_11 => ?_)
          have h := lt_h ev_11 h
          refine lv_istore (lv' := [(4, .int v_11), (3, .int v_9), (7, .int v_7), (6, .int v_3), (0, .ref a_this), (1, .int x1), (2, .int x2), (5, .int x5)]) hx hb dX11_mostLeft_80 hl (Nat.le_of_ble_eq_true rfl) rfl (fun ls hl => ?_)
          obtain ⟨v_12, ev_12⟩ : ∃ y : Int32, y = x5 + (1 : Int32) := ⟨_, rfl⟩
          have h := lt_h ev_12 h
          refine lv_iinc (v := v_12) (lv' := [(5, .int v_12), (4, .int v_11), (3, .int v_9), (7, .int v_7), (6, .int v_3), (0, .ref a_this), (1, .int x1), (2, .int x2)]) hx hb dX11_mostLeft_82 hl (k := 7) rfl (by rw [ev_12]; rfl) (Nat.le_of_ble_eq_true rfl) rfl (fun ls hl => ?_)
          refine lv_goto (tgt := 8) hx hb dX11_mostLeft_85 (by decide) ?_
          exact hk8 v_9 v_11 v_12 h _ _ hW _ (lv_sub hl [5, 6, 7, 2, 1, 0] rfl)
        · have h := in_h c_10 h
          refine lv_iconst (v := (0 : Int32)) hx hb dX11_mostLeft_74 (by decide) ?_
          refine lv_goto (tgt := 79) hx hb dX11_mostLeft_75 (by decide) ?_
          refine lv_iadd hx hb dX11_mostLeft_79 ?_
          refine lv_topi (fun v_13 ev_13 => ?_)
          have h := lt_h ev_13 h
          refine lv_istore (lv' := [(4, .int v_13), (3, .int v_9), (7, .int v_7), (6, .int v_3), (0, .ref a_this), (1, .int x1), (2, .int x2), (5, .int x5)]) hx hb dX11_mostLeft_80 hl (Nat.le_of_ble_eq_true rfl) rfl (fun ls hl => ?_)
          obtain ⟨v_14, ev_14⟩ : ∃ y : Int32, y = x5 + (1 : Int32) := ⟨_, rfl⟩
          have h := lt_h ev_14 h
          refine lv_iinc (v := v_14) (lv' := [(5, .int v_14), (4, .int v_13), (3, .int v_9), (7, .int v_7), (6, .int v_3), (0, .ref a_this), (1, .int x1), (2, .int x2)]) hx hb dX11_mostLeft_82 hl (k := 7) rfl (by rw [ev_14]; rfl) (Nat.le_of_ble_eq_true rfl) rfl (fun ls hl => ?_)
          refine lv_goto (tgt := 8) hx hb dX11_mostLeft_85 (by decide) ?_
          exact hk8 v_9 v_13 v_14 h _ _ hW _ (lv_sub hl [5, 6, 7, 2, 1, 0] rfl)
      · have h := in_h c_8 h
        refine lv_iconst (v := (1 : Int32)) hx hb dX11_mostLeft_60 (by decide) ?_
        refine lv_goto (tgt := 65) hx hb dX11_mostLeft_61 (by decide) ?_
        refine lv_iadd hx hb dX11_mostLeft_65 ?_
        refine lv_topi (fun v_15 ev_15 => ?_)
        have h := lt_h ev_15 h
        refine lv_istore_n (lv' := [(3, .int v_15), (7, .int v_7), (6, .int v_3), (0, .ref a_this), (1, .int x1), (2, .int x2), (4, .int x4), (5, .int x5)]) hx hb dX11_mostLeft_66 rfl hl (Nat.le_of_ble_eq_true rfl) rfl (fun ls hl => ?_)
        refine lv_iload hx hb dX11_mostLeft_67 (lv_at hl 6 rfl) ?_
        refine lv_iload hx hb dX11_mostLeft_69 (lv_at hl 1 rfl) ?_
        refine lv_if_eq (tgt := 78) hx hb dX11_mostLeft_71 (by decide) (fun c_16 => ?_) (fun c_16 => ?_)
        · have h := ip_h c_16 h
          refine lv_iconst (v := (1 : Int32)) hx hb dX11_mostLeft_78 (by decide) ?_
          refine lv_iadd hx hb dX11_mostLeft_79 ?_
          refine lv_topi (fun v_17 ev_17 => ?_)
          have h := lt_h ev_17 h
          refine lv_istore (lv' := [(4, .int v_17), (3, .int v_15), (7, .int v_7), (6, .int v_3), (0, .ref a_this), (1, .int x1), (2, .int x2), (5, .int x5)]) hx hb dX11_mostLeft_80 hl (Nat.le_of_ble_eq_true rfl) rfl (fun ls hl => ?_)
          obtain ⟨v_18, ev_18⟩ : ∃ y : Int32, y = x5 + (1 : Int32) := ⟨_, rfl⟩
          have h := lt_h ev_18 h
          refine lv_iinc (v := v_18) (lv' := [(5, .int v_18), (4, .int v_17), (3, .int v_15), (7, .int v_7), (6, .int v_3), (0, .ref a_this), (1, .int x1), (2, .int x2)]) hx hb dX11_mostLeft_82 hl (k := 7) rfl (by rw [ev_18]; rfl) (Nat.le_of_ble_eq_true rfl) rfl (fun ls hl => ?_)
          refine lv_goto (tgt := 8) hx hb dX11_mostLeft_85 (by decide) ?_
          exact hk8 v_15 v_17 v_18 h _ _ hW _ (lv_sub hl [5, 6, 7, 2, 1, 0] rfl)
        · have h := in_h c_16 h
          refine lv_iconst (v := (0 : Int32)) hx hb dX11_mostLeft_74 (by decide) ?_
          refine lv_goto (tgt := 79) hx hb dX11_mostLeft_75 (by decide) ?_
          refine lv_iadd hx hb dX11_mostLeft_79 ?_
          refine lv_topi (fun v_19 ev_19 => ?_)
          have h := lt_h ev_19 h
          refine lv_istore (lv' := [(4, .int v_19), (3, .int v_15), (7, .int v_7), (6, .int v_3), (0, .ref a_this), (1, .int x1), (2, .int x2), (5, .int x5)]) hx hb dX11_mostLeft_80 hl (Nat.le_of_ble_eq_true rfl) rfl (fun ls hl => ?_)
          obtain ⟨v_20, ev_20⟩ : ∃ y : Int32, y = x5 + (1 : Int32) := ⟨_, rfl⟩
          have h := lt_h ev_20 h
          refine lv_iinc (v := v_20) (lv' := [(5, .int v_20), (4, .int v_19), (3, .int v_15), (7, .int v_7), (6, .int v_3), (0, .ref a_this), (1, .int x1), (2, .int x2)]) hx hb dX11_mostLeft_82 hl (k := 7) rfl (by rw [ev_20]; rfl) (Nat.le_of_ble_eq_true rfl) rfl (fun ls hl => ?_)
          refine lv_goto (tgt := 8) hx hb dX11_mostLeft_85 (by decide) ?_
          exact hk8 v_15 v_19 v_20 h _ _ hW _ (lv_sub hl [5, 6, 7, 2, 1, 0] rfl)
theorem wX11_mostLeft_8_ {a_this a_thick a_hollow a_damp a_fresh a_pulls a_fats a_deep a_fine a_pay a_hair a_sightPicture a_sightPull a_sightShows a_pad a_act a_where a_much a_kindMany a_had a_leaves a_mostPay a_canLast a_leastMissed a_kept a_isKept : Nat} (x1 : Int32) (x2 : Int32) (v_stones : Int32) (v_flat : Int32) (v_leastThick : Int32) (v_sights : Int32) (v_padMany : Int32) (v_acts : Int32) (v_pulled : Int32) (v_skyPull : Int32) (v_skyWhose : Int32) (v_badAct : Int32) (v_badWhy : Int32) (v_keptAt : Int32) (v_isWriting : Int32) (v_sightPicture : Nat → Int32) (v_sightPull : Nat → Int32) (v_deep : Nat → Int32) (v_fine : Nat → Int32) (v_sightShows : Nat → Int32) {res : Int32} (C : Cx p s m av meth c RX11 cX11_mostLeft 8 (some .int) G cI cZ cO A) (hQ : RI p l e rX11_mostLeft s m av below meth c G A cX11_mostLeft .int Q (res) (wX11_mostLeft cI cZ a_this a_thick a_hollow a_damp a_fresh a_pulls a_fats a_deep a_fine a_pay a_hair a_sightPicture a_sightPull a_sightShows a_pad a_act a_where a_much a_kindMany a_had a_leaves a_mostPay a_canLast a_leastMissed a_kept a_isKept v_stones v_flat v_leastThick v_sights v_padMany v_acts v_pulled v_skyPull v_skyWhose v_badAct v_badWhy v_keptAt v_isWriting v_sightPicture v_sightPull v_deep v_fine v_sightShows)) : ∀ (n : Nat) (x3 : Int32) (x4 : Int32) (x5 : Int32), LX11_mostLeft_8 x1 x2 v_sights v_sightPicture v_sightPull v_deep v_fine v_sightShows n x3 x4 x5 = some res → ∀ (H : Heap) (locs : List Loc), HW G A s (wX11_mostLeft cI cZ a_this a_thick a_hollow a_damp a_fresh a_pulls a_fats a_deep a_fine a_pay a_hair a_sightPicture a_sightPull a_sightShows a_pad a_act a_where a_much a_kindMany a_had a_leaves a_mostPay a_canLast a_leastMissed a_kept a_isKept v_stones v_flat v_leastThick v_sights v_padMany v_acts v_pulled v_skyPull v_skyWhose v_badAct v_badWhy v_keptAt v_isWriting v_sightPicture v_sightPull v_deep v_fine v_sightShows) H locs → ∀ ls : Array Slot, lv_has ls 8 [(0, .ref a_this), (1, .int x1), (2, .int x2), (3, .int x3), (4, .int x4), (5, .int x5)] → W p l e rX11_mostLeft s m av below meth c H locs 0 0 Q (F0 m 8 ls []) := by
  intro n
  induction n with
  | zero => intro x3 x4 x5 h; cases h
  | succ n ih =>
    intro x3 x4 x5 h H locs hW ls hl
    exact uX11_mostLeft_8 x1 x2 x3 x4 x5 v_stones v_flat v_leastThick v_sights v_padMany v_acts v_pulled v_skyPull v_skyWhose v_badAct v_badWhy v_keptAt v_isWriting v_sightPicture v_sightPull v_deep v_fine v_sightShows C hQ (k8 := LX11_mostLeft_8 x1 x2 v_sights v_sightPicture v_sightPull v_deep v_fine v_sightShows n) ih h H locs hW ls hl
set_option maxRecDepth 20000 in
theorem uX11_mostLeft_0 {a_this a_thick a_hollow a_damp a_fresh a_pulls a_fats a_deep a_fine a_pay a_hair a_sightPicture a_sightPull a_sightShows a_pad a_act a_where a_much a_kindMany a_had a_leaves a_mostPay a_canLast a_leastMissed a_kept a_isKept : Nat} (x1 : Int32) (x2 : Int32) (v_stones : Int32) (v_flat : Int32) (v_leastThick : Int32) (v_sights : Int32) (v_padMany : Int32) (v_acts : Int32) (v_pulled : Int32) (v_skyPull : Int32) (v_skyWhose : Int32) (v_badAct : Int32) (v_badWhy : Int32) (v_keptAt : Int32) (v_isWriting : Int32) (v_sightPicture : Nat → Int32) (v_sightPull : Nat → Int32) (v_deep : Nat → Int32) (v_fine : Nat → Int32) (v_sightShows : Nat → Int32) {res : Int32} (C : Cx p s m av meth c RX11 cX11_mostLeft 8 (some .int) G cI cZ cO A) (hQ : RI p l e rX11_mostLeft s m av below meth c G A cX11_mostLeft .int Q (res) (wX11_mostLeft cI cZ a_this a_thick a_hollow a_damp a_fresh a_pulls a_fats a_deep a_fine a_pay a_hair a_sightPicture a_sightPull a_sightShows a_pad a_act a_where a_much a_kindMany a_had a_leaves a_mostPay a_canLast a_leastMissed a_kept a_isKept v_stones v_flat v_leastThick v_sights v_padMany v_acts v_pulled v_skyPull v_skyWhose v_badAct v_badWhy v_keptAt v_isWriting v_sightPicture v_sightPull v_deep v_fine v_sightShows)) (h : fX11_mostLeft x1 x2 v_sights v_sightPicture v_sightPull v_deep v_fine v_sightShows = some res) (H : Heap) (locs : List Loc) (hW : HW G A s (wX11_mostLeft cI cZ a_this a_thick a_hollow a_damp a_fresh a_pulls a_fats a_deep a_fine a_pay a_hair a_sightPicture a_sightPull a_sightShows a_pad a_act a_where a_much a_kindMany a_had a_leaves a_mostPay a_canLast a_leastMissed a_kept a_isKept v_stones v_flat v_leastThick v_sights v_padMany v_acts v_pulled v_skyPull v_skyWhose v_badAct v_badWhy v_keptAt v_isWriting v_sightPicture v_sightPull v_deep v_fine v_sightShows) H locs) (ls : Array Slot) (hl : lv_has ls 8 [(0, .ref a_this), (1, .int x1), (2, .int x2)]) : W p l e rX11_mostLeft s m av below meth c H locs 0 0 Q (F0 m 0 ls []) := by
  have hx := C.1
  have hb := C.2.1
  unfold fX11_mostLeft at h
  refine lv_iconst (v := (0 : Int32)) hx hb dX11_mostLeft_0 (by decide) ?_
  refine lv_istore_n (lv' := [(3, .int (0 : Int32)), (0, .ref a_this), (1, .int x1), (2, .int x2)]) hx hb dX11_mostLeft_1 rfl hl (Nat.le_of_ble_eq_true rfl) rfl (fun ls hl => ?_)
  refine lv_iconst (v := (0 : Int32)) hx hb dX11_mostLeft_2 (by decide) ?_
  refine lv_istore (lv' := [(4, .int (0 : Int32)), (3, .int (0 : Int32)), (0, .ref a_this), (1, .int x1), (2, .int x2)]) hx hb dX11_mostLeft_3 hl (Nat.le_of_ble_eq_true rfl) rfl (fun ls hl => ?_)
  refine lv_iconst (v := (0 : Int32)) hx hb dX11_mostLeft_5 (by decide) ?_
  refine lv_istore (lv' := [(5, .int (0 : Int32)), (4, .int (0 : Int32)), (3, .int (0 : Int32)), (0, .ref a_this), (1, .int x1), (2, .int x2)]) hx hb dX11_mostLeft_6 hl (Nat.le_of_ble_eq_true rfl) rfl (fun ls hl => ?_)
  exact wX11_mostLeft_8_ x1 x2 v_stones v_flat v_leastThick v_sights v_padMany v_acts v_pulled v_skyPull v_skyWhose v_badAct v_badWhy v_keptAt v_isWriting v_sightPicture v_sightPull v_deep v_fine v_sightShows C hQ 2000 (0 : Int32) (0 : Int32) (0 : Int32) h _ _ hW _ (lv_sub hl [3, 4, 5, 2, 1, 0] rfl)
theorem ctX11_mostLeft {l : Launch} {G : va_G} {cI cZ cO : ClassId} (a_this a_thick a_hollow a_damp a_fresh a_pulls a_fats a_deep a_fine a_pay a_hair a_sightPicture a_sightPull a_sightShows a_pad a_act a_where a_much a_kindMany a_had a_leaves a_mostPay a_canLast a_leastMissed a_kept a_isKept : Nat) (x1 : Int32) (x2 : Int32) (v_stones : Int32) (v_flat : Int32) (v_leastThick : Int32) (v_sights : Int32) (v_padMany : Int32) (v_acts : Int32) (v_pulled : Int32) (v_skyPull : Int32) (v_skyWhose : Int32) (v_badAct : Int32) (v_badWhy : Int32) (v_keptAt : Int32) (v_isWriting : Int32) (v_sightPicture : Nat → Int32) (v_sightPull : Nat → Int32) (v_deep : Nat → Int32) (v_fine : Nat → Int32) (v_sightShows : Nat → Int32) {res : Int32} (h : fX11_mostLeft x1 x2 v_sights v_sightPicture v_sightPull v_deep v_fine v_sightShows = some res) : MI l G cI cZ cO yX11_mostLeft cX11_mostLeft 8 .int rX11_mostLeft [.ref a_this, .int x1, .int x2] (wX11_mostLeft cI cZ a_this a_thick a_hollow a_damp a_fresh a_pulls a_fats a_deep a_fine a_pay a_hair a_sightPicture a_sightPull a_sightShows a_pad a_act a_where a_much a_kindMany a_had a_leaves a_mostPay a_canLast a_leastMissed a_kept a_isKept v_stones v_flat v_leastThick v_sights v_padMany v_acts v_pulled v_skyPull v_skyWhose v_badAct v_badWhy v_keptAt v_isWriting v_sightPicture v_sightPull v_deep v_fine v_sightShows) (res) (wX11_mostLeft cI cZ a_this a_thick a_hollow a_damp a_fresh a_pulls a_fats a_deep a_fine a_pay a_hair a_sightPicture a_sightPull a_sightShows a_pad a_act a_where a_much a_kindMany a_had a_leaves a_mostPay a_canLast a_leastMissed a_kept a_isKept v_stones v_flat v_leastThick v_sights v_padMany v_acts v_pulled v_skyPull v_skyWhose v_badAct v_badWhy v_keptAt v_isWriting v_sightPicture v_sightPull v_deep v_fine v_sightShows) := by
  refine MI.of (by decide) (Nat.le_of_ble_eq_true rfl) ?_
  intro p e s m below meth c A Q C hW hQ ls hl
  exact uX11_mostLeft_0 x1 x2 v_stones v_flat v_leastThick v_sights v_padMany v_acts v_pulled v_skyPull v_skyWhose v_badAct v_badWhy v_keptAt v_isWriting v_sightPicture v_sightPull v_deep v_fine v_sightShows C hQ h _ _ hW _ hl
abbrev wX11_next (cI cZ : ClassId) (a_this a_thick a_hollow a_damp a_fresh a_pulls a_fats a_deep a_fine a_pay a_hair a_sightPicture a_sightPull a_sightShows a_pad a_act a_where a_much a_kindMany a_had a_leaves a_mostPay a_canLast a_leastMissed a_kept a_isKept : Nat) (v_stones : Int32) (v_flat : Int32) (v_leastThick : Int32) (v_sights : Int32) (v_padMany : Int32) (v_acts : Int32) (v_pulled : Int32) (v_skyPull : Int32) (v_skyWhose : Int32) (v_badAct : Int32) (v_badWhy : Int32) (v_keptAt : Int32) (v_isWriting : Int32) (v_sightPicture : Nat → Int32) (v_sightPull : Nat → Int32) (v_deep : Nat → Int32) (v_fine : Nat → Int32) (v_sightShows : Nat → Int32) : va_W := [(a_this, .inr (11, [.int v_stones, .int v_flat, .int v_leastThick, .ref a_thick, .ref a_hollow, .ref a_damp, .ref a_fresh, .ref a_pulls, .ref a_fats, .ref a_deep, .ref a_fine, .ref a_pay, .ref a_hair, .ref a_sightPicture, .ref a_sightPull, .ref a_sightShows, .int v_sights, .ref a_pad, .int v_padMany, .ref a_act, .ref a_where, .ref a_much, .int v_acts, .int v_pulled, .ref a_kindMany, .int v_skyPull, .int v_skyWhose, .ref a_had, .ref a_leaves, .int v_badAct, .int v_badWhy, .ref a_mostPay, .ref a_canLast, .ref a_leastMissed, .ref a_kept, .ref a_isKept, .int v_keptAt, .int v_isWriting])), (a_sightPicture, .inl (cI, 8, .inl v_sightPicture)), (a_sightPull, .inl (cI, 8, .inl v_sightPull)), (a_deep, .inl (cI, 8, .inl v_deep)), (a_fine, .inl (cI, 8, .inl v_fine)), (a_sightShows, .inl (cI, 8, .inl v_sightShows))]
abbrev rX11_next : Room := { frames := 4, cells := 0, slots := 0, locals := 98 }
set_option maxRecDepth 20000 in
theorem uX11_next_40 {a_this a_thick a_hollow a_damp a_fresh a_pulls a_fats a_deep a_fine a_pay a_hair a_sightPicture a_sightPull a_sightShows a_pad a_act a_where a_much a_kindMany a_had a_leaves a_mostPay a_canLast a_leastMissed a_kept a_isKept : Nat} (x1 : Int32) (x2 : Int32) (x3 : Int32) (x4 : Int32) (v_stones : Int32) (v_flat : Int32) (v_leastThick : Int32) (v_sights : Int32) (v_padMany : Int32) (v_acts : Int32) (v_pulled : Int32) (v_skyPull : Int32) (v_skyWhose : Int32) (v_badAct : Int32) (v_badWhy : Int32) (v_keptAt : Int32) (v_isWriting : Int32) (v_sightPicture : Nat → Int32) (v_sightPull : Nat → Int32) (v_deep : Nat → Int32) (v_fine : Nat → Int32) (v_sightShows : Nat → Int32) {res : Int32} (C : Cx p s m av meth c RX11 cX11_next 5 (some .int) G cI cZ cO A) (hQ : RI p l e rX11_next s m av below meth c G A cX11_next .int Q (res) (wX11_next cI cZ a_this a_thick a_hollow a_damp a_fresh a_pulls a_fats a_deep a_fine a_pay a_hair a_sightPicture a_sightPull a_sightShows a_pad a_act a_where a_much a_kindMany a_had a_leaves a_mostPay a_canLast a_leastMissed a_kept a_isKept v_stones v_flat v_leastThick v_sights v_padMany v_acts v_pulled v_skyPull v_skyWhose v_badAct v_badWhy v_keptAt v_isWriting v_sightPicture v_sightPull v_deep v_fine v_sightShows)) {k40 : (Int32) → (Int32) → Option (Int32)} (hk40 : ∀ (x3 : Int32) (x4 : Int32), k40 x3 x4 = some res → ∀ (H : Heap) (locs : List Loc), HW G A s (wX11_next cI cZ a_this a_thick a_hollow a_damp a_fresh a_pulls a_fats a_deep a_fine a_pay a_hair a_sightPicture a_sightPull a_sightShows a_pad a_act a_where a_much a_kindMany a_had a_leaves a_mostPay a_canLast a_leastMissed a_kept a_isKept v_stones v_flat v_leastThick v_sights v_padMany v_acts v_pulled v_skyPull v_skyWhose v_badAct v_badWhy v_keptAt v_isWriting v_sightPicture v_sightPull v_deep v_fine v_sightShows) H locs → ∀ ls : Array Slot, lv_has ls 5 [(0, .ref a_this), (1, .int x1), (2, .int x2), (3, .int x3), (4, .int x4)] → W p l e rX11_next s m av below meth c H locs 0 0 Q (F0 m 40 ls [])) (h : FX11_next_40 x1 x2 v_sights v_sightPicture v_sightPull v_deep v_fine v_sightShows k40 x3 x4 = some res) (H : Heap) (locs : List Loc) (hW : HW G A s (wX11_next cI cZ a_this a_thick a_hollow a_damp a_fresh a_pulls a_fats a_deep a_fine a_pay a_hair a_sightPicture a_sightPull a_sightShows a_pad a_act a_where a_much a_kindMany a_had a_leaves a_mostPay a_canLast a_leastMissed a_kept a_isKept v_stones v_flat v_leastThick v_sights v_padMany v_acts v_pulled v_skyPull v_skyWhose v_badAct v_badWhy v_keptAt v_isWriting v_sightPicture v_sightPull v_deep v_fine v_sightShows) H locs) (ls : Array Slot) (hl : lv_has ls 5 [(0, .ref a_this), (1, .int x1), (2, .int x2), (3, .int x3), (4, .int x4)]) : W p l e rX11_next s m av below meth c H locs 0 0 Q (F0 m 40 ls []) := by
  have hx := C.1
  have hb := C.2.1
  unfold FX11_next_40 at h
  refine lv_iload hx hb dX11_next_40 (lv_at hl 4 rfl) ?_
  refine lv_bipush (v := (8 : Int32)) hx hb dX11_next_42 (by decide) ?_
  refine lv_icmp_ge (tgt := 76) hx hb dX11_next_44 (by decide) (fun c_5 => ?_) (fun c_5 => ?_)
  · have h := ip_h c_5 h
    refine lv_iload_n hx hb dX11_next_76 rfl (lv_at hl 2 rfl) ?_
    refine lv_if_ne (tgt := 84) hx hb dX11_next_77 (by decide) (fun c_6 => ?_) (fun c_6 => ?_)
    · have h := in_h c_6 h
      refine lv_aload_n hx hb dX11_next_84 rfl (lv_at hl 0 rfl) ?_
      refine lv_iload_n hx hb dX11_next_85 rfl (lv_at hl 3 rfl) ?_
      refine lv_iload_n hx hb dX11_next_86 rfl (lv_at hl 1 rfl) ?_
      obtain ⟨v_7, hv_7, h⟩ := bd_h h
      refine callVIr [0, 1, 2, 3, 4, 5] C lk_RX11_277 (ctX11_mostLeft a_this a_thick a_hollow a_damp a_fresh a_pulls a_fats a_deep a_fine a_pay a_hair a_sightPicture a_sightPull a_sightShows a_pad a_act a_where a_much a_kindMany a_had a_leaves a_mostPay a_canLast a_leastMissed a_kept a_isKept x3 x1 v_stones v_flat v_leastThick v_sights v_padMany v_acts v_pulled v_skyPull v_skyWhose v_badAct v_badWhy v_keptAt v_isWriting v_sightPicture v_sightPull v_deep v_fine v_sightShows hv_7) hW hl 11 rfl rfl rfl rfl rfl ⟨rfl, rfl⟩ ⟨(Nat.le_of_ble_eq_true rfl), (Nat.le_of_ble_eq_true rfl)⟩ ⟨Nat.zero_le _, Nat.zero_le _⟩ rfl (Nat.le_of_ble_eq_true rfl) dX11_next_87 (fun H locs hW => ?_)
      obtain rfl := Option.some.inj h
      exact hQ rfl _ _ _ _ dX11_next_90 hW
    · have h := ip_h c_6 h
      refine lv_iload_n hx hb dX11_next_80 rfl (lv_at hl 3 rfl) ?_
      refine lv_goto (tgt := 90) hx hb dX11_next_81 (by decide) ?_
      obtain rfl := Option.some.inj h
      exact hQ rfl _ _ _ _ dX11_next_90 hW
  · have h := in_h c_5 h
    refine lv_aload_n hx hb dX11_next_47 rfl (lv_at hl 0 rfl) ?_
    refine lv_iload hx hb dX11_next_48 (lv_at hl 4 rfl) ?_
    refine lv_iload_n hx hb dX11_next_50 rfl (lv_at hl 1 rfl) ?_
    obtain ⟨v_8, hv_8, h⟩ := bd_h h
    refine callVIr [0, 1, 2, 3, 4, 5] C lk_RX11_277 (ctX11_mostLeft a_this a_thick a_hollow a_damp a_fresh a_pulls a_fats a_deep a_fine a_pay a_hair a_sightPicture a_sightPull a_sightShows a_pad a_act a_where a_much a_kindMany a_had a_leaves a_mostPay a_canLast a_leastMissed a_kept a_isKept x4 x1 v_stones v_flat v_leastThick v_sights v_padMany v_acts v_pulled v_skyPull v_skyWhose v_badAct v_badWhy v_keptAt v_isWriting v_sightPicture v_sightPull v_deep v_fine v_sightShows hv_8) hW hl 11 rfl rfl rfl rfl rfl ⟨rfl, rfl⟩ ⟨(Nat.le_of_ble_eq_true rfl), (Nat.le_of_ble_eq_true rfl)⟩ ⟨Nat.zero_le _, Nat.zero_le _⟩ rfl (Nat.le_of_ble_eq_true rfl) dX11_next_51 (fun H locs hW => ?_)
    refine lv_aload_n hx hb dX11_next_54 rfl (lv_at hl 0 rfl) ?_
    refine lv_iload_n hx hb dX11_next_55 rfl (lv_at hl 3 rfl) ?_
    refine lv_iload_n hx hb dX11_next_56 rfl (lv_at hl 1 rfl) ?_
    obtain ⟨v_9, hv_9, h⟩ := bd_h h
    refine callVIr [0, 1, 2, 3, 4, 5] C lk_RX11_277 (ctX11_mostLeft a_this a_thick a_hollow a_damp a_fresh a_pulls a_fats a_deep a_fine a_pay a_hair a_sightPicture a_sightPull a_sightShows a_pad a_act a_where a_much a_kindMany a_had a_leaves a_mostPay a_canLast a_leastMissed a_kept a_isKept x3 x1 v_stones v_flat v_leastThick v_sights v_padMany v_acts v_pulled v_skyPull v_skyWhose v_badAct v_badWhy v_keptAt v_isWriting v_sightPicture v_sightPull v_deep v_fine v_sightShows hv_9) hW hl 11 rfl rfl rfl rfl rfl ⟨rfl, rfl⟩ ⟨(Nat.le_of_ble_eq_true rfl), (Nat.le_of_ble_eq_true rfl)⟩ ⟨Nat.zero_le _, Nat.zero_le _⟩ rfl (Nat.le_of_ble_eq_true rfl) dX11_next_57 (fun H locs hW => ?_)
    refine lv_icmp_ge (tgt := 68) hx hb dX11_next_60 (by decide) (fun c_10 => ?_) (fun c_10 => ?_)
    · have h := ip_h c_10 h
      refine lv_iload_n hx hb dX11_next_68 rfl (lv_at hl 3 rfl) ?_
      refine lv_istore_n (lv' := [(3, .int x3), (0, .ref a_this), (1, .int x1), (2, .int x2), (4, .int x4)]) hx hb dX11_next_69 rfl hl (Nat.le_of_ble_eq_true rfl) rfl (fun ls hl => ?_)
      obtain ⟨v_11, ev_11⟩ : ∃ y : Int32, y = x4 + (1 : Int32) := ⟨_, rfl⟩
      have h := lt_h ev_11 h
      refine lv_iinc (v := v_11) (lv' := [(4, .int v_11), (3, .int x3), (0, .ref a_this), (1, .int x1), (2, .int x2)]) hx hb dX11_next_70 hl (k := 4) rfl (by rw [ev_11]; rfl) (Nat.le_of_ble_eq_true rfl) rfl (fun ls hl => ?_)
      refine lv_goto (tgt := 40) hx hb dX11_next_73 (by decide) ?_
      exact hk40 x3 v_11 h _ _ hW _ (lv_sub hl [2, 3, 4, 1, 0] rfl)
    · have h := in_h c_10 h
      refine lv_iload hx hb dX11_next_63 (lv_at hl 4 rfl) ?_
      refine lv_goto (tgt := 69) hx hb dX11_next_65 (by decide) ?_
      refine lv_istore_n (lv' := [(3, .int x4), (0, .ref a_this), (1, .int x1), (2, .int x2), (4, .int x4)]) hx hb dX11_next_69 rfl hl (Nat.le_of_ble_eq_true rfl) rfl (fun ls hl => ?_)
      obtain ⟨v_12, ev_12⟩ : ∃ y : Int32, y = x4 + (1 : Int32) := ⟨_, rfl⟩
      have h := lt_h ev_12 h
      refine lv_iinc (v := v_12) (lv' := [(4, .int v_12), (3, .int x4), (0, .ref a_this), (1, .int x1), (2, .int x2)]) hx hb dX11_next_70 hl (k := 4) rfl (by rw [ev_12]; rfl) (Nat.le_of_ble_eq_true rfl) rfl (fun ls hl => ?_)
      refine lv_goto (tgt := 40) hx hb dX11_next_73 (by decide) ?_
      exact hk40 x4 v_12 h _ _ hW _ (lv_sub hl [2, 3, 4, 1, 0] rfl)
theorem wX11_next_40_ {a_this a_thick a_hollow a_damp a_fresh a_pulls a_fats a_deep a_fine a_pay a_hair a_sightPicture a_sightPull a_sightShows a_pad a_act a_where a_much a_kindMany a_had a_leaves a_mostPay a_canLast a_leastMissed a_kept a_isKept : Nat} (x1 : Int32) (x2 : Int32) (v_stones : Int32) (v_flat : Int32) (v_leastThick : Int32) (v_sights : Int32) (v_padMany : Int32) (v_acts : Int32) (v_pulled : Int32) (v_skyPull : Int32) (v_skyWhose : Int32) (v_badAct : Int32) (v_badWhy : Int32) (v_keptAt : Int32) (v_isWriting : Int32) (v_sightPicture : Nat → Int32) (v_sightPull : Nat → Int32) (v_deep : Nat → Int32) (v_fine : Nat → Int32) (v_sightShows : Nat → Int32) {res : Int32} (C : Cx p s m av meth c RX11 cX11_next 5 (some .int) G cI cZ cO A) (hQ : RI p l e rX11_next s m av below meth c G A cX11_next .int Q (res) (wX11_next cI cZ a_this a_thick a_hollow a_damp a_fresh a_pulls a_fats a_deep a_fine a_pay a_hair a_sightPicture a_sightPull a_sightShows a_pad a_act a_where a_much a_kindMany a_had a_leaves a_mostPay a_canLast a_leastMissed a_kept a_isKept v_stones v_flat v_leastThick v_sights v_padMany v_acts v_pulled v_skyPull v_skyWhose v_badAct v_badWhy v_keptAt v_isWriting v_sightPicture v_sightPull v_deep v_fine v_sightShows)) : ∀ (n : Nat) (x3 : Int32) (x4 : Int32), LX11_next_40 x1 x2 v_sights v_sightPicture v_sightPull v_deep v_fine v_sightShows n x3 x4 = some res → ∀ (H : Heap) (locs : List Loc), HW G A s (wX11_next cI cZ a_this a_thick a_hollow a_damp a_fresh a_pulls a_fats a_deep a_fine a_pay a_hair a_sightPicture a_sightPull a_sightShows a_pad a_act a_where a_much a_kindMany a_had a_leaves a_mostPay a_canLast a_leastMissed a_kept a_isKept v_stones v_flat v_leastThick v_sights v_padMany v_acts v_pulled v_skyPull v_skyWhose v_badAct v_badWhy v_keptAt v_isWriting v_sightPicture v_sightPull v_deep v_fine v_sightShows) H locs → ∀ ls : Array Slot, lv_has ls 5 [(0, .ref a_this), (1, .int x1), (2, .int x2), (3, .int x3), (4, .int x4)] → W p l e rX11_next s m av below meth c H locs 0 0 Q (F0 m 40 ls []) := by
  intro n
  induction n with
  | zero => intro x3 x4 h; cases h
  | succ n ih =>
    intro x3 x4 h H locs hW ls hl
    exact uX11_next_40 x1 x2 x3 x4 v_stones v_flat v_leastThick v_sights v_padMany v_acts v_pulled v_skyPull v_skyWhose v_badAct v_badWhy v_keptAt v_isWriting v_sightPicture v_sightPull v_deep v_fine v_sightShows C hQ (k40 := LX11_next_40 x1 x2 v_sights v_sightPicture v_sightPull v_deep v_fine v_sightShows n) ih h H locs hW ls hl
set_option maxRecDepth 20000 in
theorem uX11_next_0 {a_this a_thick a_hollow a_damp a_fresh a_pulls a_fats a_deep a_fine a_pay a_hair a_sightPicture a_sightPull a_sightShows a_pad a_act a_where a_much a_kindMany a_had a_leaves a_mostPay a_canLast a_leastMissed a_kept a_isKept : Nat} (x1 : Int32) (x2 : Int32) (v_stones : Int32) (v_flat : Int32) (v_leastThick : Int32) (v_sights : Int32) (v_padMany : Int32) (v_acts : Int32) (v_pulled : Int32) (v_skyPull : Int32) (v_skyWhose : Int32) (v_badAct : Int32) (v_badWhy : Int32) (v_keptAt : Int32) (v_isWriting : Int32) (v_sightPicture : Nat → Int32) (v_sightPull : Nat → Int32) (v_deep : Nat → Int32) (v_fine : Nat → Int32) (v_sightShows : Nat → Int32) {res : Int32} (C : Cx p s m av meth c RX11 cX11_next 5 (some .int) G cI cZ cO A) (hQ : RI p l e rX11_next s m av below meth c G A cX11_next .int Q (res) (wX11_next cI cZ a_this a_thick a_hollow a_damp a_fresh a_pulls a_fats a_deep a_fine a_pay a_hair a_sightPicture a_sightPull a_sightShows a_pad a_act a_where a_much a_kindMany a_had a_leaves a_mostPay a_canLast a_leastMissed a_kept a_isKept v_stones v_flat v_leastThick v_sights v_padMany v_acts v_pulled v_skyPull v_skyWhose v_badAct v_badWhy v_keptAt v_isWriting v_sightPicture v_sightPull v_deep v_fine v_sightShows)) (h : fX11_next x1 x2 v_sights v_sightPicture v_sightPull v_deep v_fine v_sightShows = some res) (H : Heap) (locs : List Loc) (hW : HW G A s (wX11_next cI cZ a_this a_thick a_hollow a_damp a_fresh a_pulls a_fats a_deep a_fine a_pay a_hair a_sightPicture a_sightPull a_sightShows a_pad a_act a_where a_much a_kindMany a_had a_leaves a_mostPay a_canLast a_leastMissed a_kept a_isKept v_stones v_flat v_leastThick v_sights v_padMany v_acts v_pulled v_skyPull v_skyWhose v_badAct v_badWhy v_keptAt v_isWriting v_sightPicture v_sightPull v_deep v_fine v_sightShows) H locs) (ls : Array Slot) (hl : lv_has ls 5 [(0, .ref a_this), (1, .int x1), (2, .int x2)]) : W p l e rX11_next s m av below meth c H locs 0 0 Q (F0 m 0 ls []) := by
  have hx := C.1
  have hb := C.2.1
  unfold fX11_next at h
  refine lv_iload_n hx hb dX11_next_0 rfl (lv_at hl 1 rfl) ?_
  refine lv_i2l hx hb dX11_next_1 rfl ?_
  refine lv_lconst (v := (0 : Int64)) hx hb dX11_next_2 (by decide) ?_
  refine lv_ldc2 (v := (999 : Int64)) hx hb C.2.2.2.2.2.1 (C.2.2.2.2.1 _ wd_925) dX11_next_3 ?_
  refine callSI0 C lk_RX11_95 (ctX11_in (Int32.toInt64 x1) (0 : Int64) (999 : Int64) rfl) hW hl rfl ⟨rfl, rfl⟩ ⟨(Nat.le_of_ble_eq_true rfl), (Nat.le_of_ble_eq_true rfl)⟩ ⟨Nat.zero_le _, Nat.zero_le _⟩ rfl (Nat.le_of_ble_eq_true rfl) dX11_next_6 (fun H locs hW => ?_)
  refine lv_if_eq (tgt := 22) hx hb dX11_next_9 (by decide) (fun c_1 => ?_) (fun c_1 => ?_)
  · have h := ip_h c_1 h
    refine lv_bipush (v := (-2 : Int32)) hx hb dX11_next_22 (by decide) ?_
    obtain rfl := Option.some.inj h
    exact hQ rfl _ _ _ _ dX11_next_24 hW
  · have h := in_h c_1 h
    refine lv_iload_n hx hb dX11_next_12 rfl (lv_at hl 2 rfl) ?_
    refine lv_i2l hx hb dX11_next_13 rfl ?_
    refine lv_lconst (v := (0 : Int64)) hx hb dX11_next_14 (by decide) ?_
    refine lv_lconst (v := (1 : Int64)) hx hb dX11_next_15 (by decide) ?_
    refine callSI0 C lk_RX11_95 (ctX11_in (Int32.toInt64 x2) (0 : Int64) (1 : Int64) rfl) hW hl rfl ⟨rfl, rfl⟩ ⟨(Nat.le_of_ble_eq_true rfl), (Nat.le_of_ble_eq_true rfl)⟩ ⟨Nat.zero_le _, Nat.zero_le _⟩ rfl (Nat.le_of_ble_eq_true rfl) dX11_next_16 (fun H locs hW => ?_)
    refine lv_if_ne (tgt := 25) hx hb dX11_next_19 (by decide) (fun c_2 => ?_) (fun c_2 => ?_)
    · have h := in_h c_2 h
      refine lv_aload_n hx hb dX11_next_25 rfl (lv_at hl 0 rfl) ?_
      obtain ⟨v_3, hv_3, h⟩ := bd_h h
      refine callVIr [0, 1, 2, 3, 4, 5] C lk_RX11_274 (ctX11_suspects a_this a_thick a_hollow a_damp a_fresh a_pulls a_fats a_deep a_fine a_pay a_hair a_sightPicture a_sightPull a_sightShows a_pad a_act a_where a_much a_kindMany a_had a_leaves a_mostPay a_canLast a_leastMissed a_kept a_isKept v_stones v_flat v_leastThick v_sights v_padMany v_acts v_pulled v_skyPull v_skyWhose v_badAct v_badWhy v_keptAt v_isWriting v_sightPicture v_sightPull v_deep v_fine v_sightShows hv_3) hW hl 11 rfl rfl rfl rfl rfl ⟨rfl, rfl⟩ ⟨(Nat.le_of_ble_eq_true rfl), (Nat.le_of_ble_eq_true rfl)⟩ ⟨Nat.zero_le _, Nat.zero_le _⟩ rfl (Nat.le_of_ble_eq_true rfl) dX11_next_26 (fun H locs hW => ?_)
      refine lv_if_ne (tgt := 35) hx hb dX11_next_29 (by decide) (fun c_4 => ?_) (fun c_4 => ?_)
      · have h := in_h c_4 h
        refine lv_iconst (v := (0 : Int32)) hx hb dX11_next_35 (by decide) ?_
        refine lv_istore_n (lv' := [(3, .int (0 : Int32)), (0, .ref a_this), (1, .int x1), (2, .int x2)]) hx hb dX11_next_36 rfl hl (Nat.le_of_ble_eq_true rfl) rfl (fun ls hl => ?_)
        refine lv_iconst (v := (1 : Int32)) hx hb dX11_next_37 (by decide) ?_
        refine lv_istore (lv' := [(4, .int (1 : Int32)), (3, .int (0 : Int32)), (0, .ref a_this), (1, .int x1), (2, .int x2)]) hx hb dX11_next_38 hl (Nat.le_of_ble_eq_true rfl) rfl (fun ls hl => ?_)
        exact wX11_next_40_ x1 x2 v_stones v_flat v_leastThick v_sights v_padMany v_acts v_pulled v_skyPull v_skyWhose v_badAct v_badWhy v_keptAt v_isWriting v_sightPicture v_sightPull v_deep v_fine v_sightShows C hQ 2000 (0 : Int32) (1 : Int32) h _ _ hW _ (lv_sub hl [2, 3, 4, 1, 0] rfl)
      · have h := ip_h c_4 h
        refine lv_bipush (v := (-6 : Int32)) hx hb dX11_next_32 (by decide) ?_
        obtain rfl := Option.some.inj h
        exact hQ rfl _ _ _ _ dX11_next_34 hW
    · have h := ip_h c_2 h
      refine lv_bipush (v := (-2 : Int32)) hx hb dX11_next_22 (by decide) ?_
      obtain rfl := Option.some.inj h
      exact hQ rfl _ _ _ _ dX11_next_24 hW
theorem ctX11_next {l : Launch} {G : va_G} {cI cZ cO : ClassId} (a_this a_thick a_hollow a_damp a_fresh a_pulls a_fats a_deep a_fine a_pay a_hair a_sightPicture a_sightPull a_sightShows a_pad a_act a_where a_much a_kindMany a_had a_leaves a_mostPay a_canLast a_leastMissed a_kept a_isKept : Nat) (x1 : Int32) (x2 : Int32) (v_stones : Int32) (v_flat : Int32) (v_leastThick : Int32) (v_sights : Int32) (v_padMany : Int32) (v_acts : Int32) (v_pulled : Int32) (v_skyPull : Int32) (v_skyWhose : Int32) (v_badAct : Int32) (v_badWhy : Int32) (v_keptAt : Int32) (v_isWriting : Int32) (v_sightPicture : Nat → Int32) (v_sightPull : Nat → Int32) (v_deep : Nat → Int32) (v_fine : Nat → Int32) (v_sightShows : Nat → Int32) {res : Int32} (h : fX11_next x1 x2 v_sights v_sightPicture v_sightPull v_deep v_fine v_sightShows = some res) : MI l G cI cZ cO yX11_next cX11_next 5 .int rX11_next [.ref a_this, .int x1, .int x2] (wX11_next cI cZ a_this a_thick a_hollow a_damp a_fresh a_pulls a_fats a_deep a_fine a_pay a_hair a_sightPicture a_sightPull a_sightShows a_pad a_act a_where a_much a_kindMany a_had a_leaves a_mostPay a_canLast a_leastMissed a_kept a_isKept v_stones v_flat v_leastThick v_sights v_padMany v_acts v_pulled v_skyPull v_skyWhose v_badAct v_badWhy v_keptAt v_isWriting v_sightPicture v_sightPull v_deep v_fine v_sightShows) (res) (wX11_next cI cZ a_this a_thick a_hollow a_damp a_fresh a_pulls a_fats a_deep a_fine a_pay a_hair a_sightPicture a_sightPull a_sightShows a_pad a_act a_where a_much a_kindMany a_had a_leaves a_mostPay a_canLast a_leastMissed a_kept a_isKept v_stones v_flat v_leastThick v_sights v_padMany v_acts v_pulled v_skyPull v_skyWhose v_badAct v_badWhy v_keptAt v_isWriting v_sightPicture v_sightPull v_deep v_fine v_sightShows) := by
  refine MI.of (by decide) (Nat.le_of_ble_eq_true rfl) ?_
  intro p e s m below meth c A Q C hW hQ ls hl
  exact uX11_next_0 x1 x2 v_stones v_flat v_leastThick v_sights v_padMany v_acts v_pulled v_skyPull v_skyWhose v_badAct v_badWhy v_keptAt v_isWriting v_sightPicture v_sightPull v_deep v_fine v_sightShows C hQ h _ _ hW _ hl
