variable {p : Program} {l : Launch} {e : Env} {s : State} {m : MethodId} {av : Array Value} {below : List Frame} {meth : Method} {c : Code} {Q : State → Prop} {G : va_G} {cI cZ cO : ClassId} {A : Nat → Prop}
abbrev wX0_become (cI cZ : ClassId) (a_this : Nat) (v_stone : Int32) (v_kind : Int32) (v_amount : Int32) : va_W := [(a_this, .inr (0, [.int v_stone, .int v_kind, .int v_amount]))]
abbrev rX0_become : Room := { frames := 0, cells := 0, slots := 0, locals := 0 }
set_option maxRecDepth 20000 in
theorem uX0_become_0 {a_this : Nat} (x1 : Int32) (x2 : Int32) (x3 : Int32) (v_stone : Int32) (v_kind : Int32) (v_amount : Int32) {res : Int32 × Int32 × Int32} (C : Cx p s m av meth c RX0 cX0_become 4 none G cI cZ cO A) (hQ : RV p l e rX0_become s m av below meth c G A cX0_become Q (wX0_become cI cZ a_this res.2.2 res.2.1 res.1)) (h : fX0_become x1 x2 x3 = res) (H : Heap) (locs : List Loc) (hW : HW G A s (wX0_become cI cZ a_this v_stone v_kind v_amount) H locs) (ls : Array Slot) (hl : lv_has ls 4 [(0, .ref a_this), (1, .int x1), (2, .int x2), (3, .int x3)]) : W p l e rX0_become s m av below meth c H locs 0 0 Q (F0 m 0 ls []) := by
  have hx := C.1
  have hb := C.2.1
  unfold fX0_become at h
  refine lv_aload_n hx hb dX0_become_0 rfl (lv_at hl 0 rfl) ?_
  refine lv_iload_n hx hb dX0_become_1 rfl (lv_at hl 1 rfl) ?_
  refine putW C fp_RX0_7 hW 0 rfl rfl rfl (Nat.le_of_ble_eq_true rfl) dX0_become_2 (fun H locs hW => ?_)
  have hW : HW G A s (wX0_become cI cZ a_this x1 v_kind v_amount) H locs := hW
  refine lv_aload_n hx hb dX0_become_5 rfl (lv_at hl 0 rfl) ?_
  refine lv_iload_n hx hb dX0_become_6 rfl (lv_at hl 2 rfl) ?_
  refine putW C fp_RX0_13 hW 0 rfl rfl rfl (Nat.le_of_ble_eq_true rfl) dX0_become_7 (fun H locs hW => ?_)
  have hW : HW G A s (wX0_become cI cZ a_this x1 x2 v_amount) H locs := hW
  refine lv_aload_n hx hb dX0_become_10 rfl (lv_at hl 0 rfl) ?_
  refine lv_iload_n hx hb dX0_become_11 rfl (lv_at hl 3 rfl) ?_
  refine putW C fp_RX0_16 hW 0 rfl rfl rfl (Nat.le_of_ble_eq_true rfl) dX0_become_12 (fun H locs hW => ?_)
  have hW : HW G A s (wX0_become cI cZ a_this x1 x2 x3) H locs := hW
  subst h
  exact hQ _ _ _ _ dX0_become_15 hW
theorem ctX0_become {l : Launch} {G : va_G} {cI cZ cO : ClassId} (a_this : Nat) (x1 : Int32) (x2 : Int32) (x3 : Int32) (v_stone : Int32) (v_kind : Int32) (v_amount : Int32) {res : Int32 × Int32 × Int32} (h : fX0_become x1 x2 x3 = res) : MV l G cI cZ cO yX0_become cX0_become 4 rX0_become [.ref a_this, .int x1, .int x2, .int x3] (wX0_become cI cZ a_this v_stone v_kind v_amount) (wX0_become cI cZ a_this res.2.2 res.2.1 res.1) := by
  refine MV.of (by decide) (Nat.le_of_ble_eq_true rfl) ?_
  intro p e s m below meth c A Q C hW hQ ls hl
  exact uX0_become_0 x1 x2 x3 v_stone v_kind v_amount C hQ h _ _ hW _ hl
abbrev wX10_hasBit (cI cZ : ClassId) : va_W := []
abbrev rX10_hasBit : Room := { frames := 0, cells := 0, slots := 0, locals := 0 }
set_option maxRecDepth 20000 in
theorem uX10_hasBit_0 (x0 : Int32) (x1 : Int32) {res : Int32} (C : Cx p s m av meth c RX10 cX10_hasBit 2 (some .boolean) G cI cZ cO A) (hQ : RI p l e rX10_hasBit s m av below meth c G A cX10_hasBit .boolean Q (res) (wX10_hasBit cI cZ)) (h : fX10_hasBit x0 x1 = res) (H : Heap) (locs : List Loc) (hW : HW G A s (wX10_hasBit cI cZ) H locs) (ls : Array Slot) (hl : lv_has ls 2 [(0, .int x0), (1, .int x1)]) : W p l e rX10_hasBit s m av below meth c H locs 0 0 Q (F0 m 0 ls []) := by
  have hx := C.1
  have hb := C.2.1
  unfold fX10_hasBit at h
  refine lv_iload_n hx hb dX10_hasBit_0 rfl (lv_at hl 0 rfl) ?_
  refine lv_iload_n hx hb dX10_hasBit_1 rfl (lv_at hl 1 rfl) ?_
  refine lv_ishr hx hb dX10_hasBit_2 ?_
  refine lv_iconst (v := (1 : Int32)) hx hb dX10_hasBit_3 (by decide) ?_
  refine lv_iand hx hb dX10_hasBit_4 ?_
  refine lv_iconst (v := (1 : Int32)) hx hb dX10_hasBit_5 (by decide) ?_
  refine lv_icmp_ne (tgt := 13) hx hb dX10_hasBit_6 (by decide) (fun c_1 => ?_) (fun c_1 => ?_)
  · have h := in_h c_1 h
    refine lv_iconst (v := (0 : Int32)) hx hb dX10_hasBit_13 (by decide) ?_
    subst h
    exact hQ nb_0 _ _ _ _ dX10_hasBit_14 hW
  · have h := ip_h c_1 h
    refine lv_iconst (v := (1 : Int32)) hx hb dX10_hasBit_9 (by decide) ?_
    refine lv_goto (tgt := 14) hx hb dX10_hasBit_10 (by decide) ?_
    subst h
    exact hQ nb_1 _ _ _ _ dX10_hasBit_14 hW
theorem ctX10_hasBit {l : Launch} {G : va_G} {cI cZ cO : ClassId} (x0 : Int32) (x1 : Int32) {res : Int32} (h : fX10_hasBit x0 x1 = res) : MI l G cI cZ cO yX10_hasBit cX10_hasBit 2 .boolean rX10_hasBit [.int x0, .int x1] (wX10_hasBit cI cZ) (res) (wX10_hasBit cI cZ) := by
  refine MI.of (by decide) (Nat.le_of_ble_eq_true rfl) ?_
  intro p e s m below meth c A Q C hW hQ ls hl
  exact uX10_hasBit_0 x0 x1 C hQ h _ _ hW _ hl
abbrev wJ6_bitCount_0f7a4 (cI cZ : ClassId) : va_W := []
abbrev rJ6_bitCount_0f7a4 : Room := { frames := 0, cells := 0, slots := 0, locals := 0 }
set_option maxRecDepth 20000 in
theorem uJ6_bitCount_0f7a4_0 (x0 : Int32) {res : Int32} (C : Cx p s m av meth c RJ6 cJ6_bitCount_0f7a4 1 (some .int) G cI cZ cO A) (hQ : RI p l e rJ6_bitCount_0f7a4 s m av below meth c G A cJ6_bitCount_0f7a4 .int Q (res) (wJ6_bitCount_0f7a4 cI cZ)) (h : fJ6_bitCount_0f7a4 x0 = res) (H : Heap) (locs : List Loc) (hW : HW G A s (wJ6_bitCount_0f7a4 cI cZ) H locs) (ls : Array Slot) (hl : lv_has ls 1 [(0, .int x0)]) : W p l e rJ6_bitCount_0f7a4 s m av below meth c H locs 0 0 Q (F0 m 0 ls []) := by
  have hx := C.1
  have hb := C.2.1
  unfold fJ6_bitCount_0f7a4 at h
  refine lv_iload_n hx hb dJ6_bitCount_0f7a4_0 rfl (lv_at hl 0 rfl) ?_
  refine lv_iload_n hx hb dJ6_bitCount_0f7a4_1 rfl (lv_at hl 0 rfl) ?_
  refine lv_iconst (v := (1 : Int32)) hx hb dJ6_bitCount_0f7a4_2 (by decide) ?_
  refine lv_iushr hx hb dJ6_bitCount_0f7a4_3 rfl ?_
  refine lv_ldcw (v := (1431655765 : Int32)) hx hb C.2.2.2.2.2.1 (C.2.2.2.2.1 _ wd_335) dJ6_bitCount_0f7a4_4 ?_
  refine lv_iand hx hb dJ6_bitCount_0f7a4_7 ?_
  refine lv_isub hx hb dJ6_bitCount_0f7a4_8 ?_
  refine lv_topi (fun v_1 ev_1 => ?_)
  have h := lt_h ev_1 h
  refine lv_istore_n (lv' := [(0, .int v_1)]) hx hb dJ6_bitCount_0f7a4_9 rfl hl (Nat.le_of_ble_eq_true rfl) rfl (fun ls hl => ?_)
  refine lv_iload_n hx hb dJ6_bitCount_0f7a4_10 rfl (lv_at hl 0 rfl) ?_
  refine lv_ldcw (v := (858993459 : Int32)) hx hb C.2.2.2.2.2.1 (C.2.2.2.2.1 _ wd_336) dJ6_bitCount_0f7a4_11 ?_
  refine lv_iand hx hb dJ6_bitCount_0f7a4_14 ?_
  refine lv_iload_n hx hb dJ6_bitCount_0f7a4_15 rfl (lv_at hl 0 rfl) ?_
  refine lv_iconst (v := (2 : Int32)) hx hb dJ6_bitCount_0f7a4_16 (by decide) ?_
  refine lv_iushr hx hb dJ6_bitCount_0f7a4_17 rfl ?_
  refine lv_ldcw (v := (858993459 : Int32)) hx hb C.2.2.2.2.2.1 (C.2.2.2.2.1 _ wd_336) dJ6_bitCount_0f7a4_18 ?_
  refine lv_iand hx hb dJ6_bitCount_0f7a4_21 ?_
  refine lv_iadd hx hb dJ6_bitCount_0f7a4_22 ?_
  refine lv_topi (fun v_2 ev_2 => ?_)
  have h := lt_h ev_2 h
  refine lv_istore_n (lv' := [(0, .int v_2)]) hx hb dJ6_bitCount_0f7a4_23 rfl hl (Nat.le_of_ble_eq_true rfl) rfl (fun ls hl => ?_)
  refine lv_iload_n hx hb dJ6_bitCount_0f7a4_24 rfl (lv_at hl 0 rfl) ?_
  refine lv_iload_n hx hb dJ6_bitCount_0f7a4_25 rfl (lv_at hl 0 rfl) ?_
  refine lv_iconst (v := (4 : Int32)) hx hb dJ6_bitCount_0f7a4_26 (by decide) ?_
  refine lv_iushr hx hb dJ6_bitCount_0f7a4_27 rfl ?_
  refine lv_iadd hx hb dJ6_bitCount_0f7a4_28 ?_
  refine lv_ldcw (v := (252645135 : Int32)) hx hb C.2.2.2.2.2.1 (C.2.2.2.2.1 _ wd_337) dJ6_bitCount_0f7a4_29 ?_
  refine lv_iand hx hb dJ6_bitCount_0f7a4_32 ?_
  refine lv_topi (fun v_3 ev_3 => ?_)
  have h := lt_h ev_3 h
  refine lv_istore_n (lv' := [(0, .int v_3)]) hx hb dJ6_bitCount_0f7a4_33 rfl hl (Nat.le_of_ble_eq_true rfl) rfl (fun ls hl => ?_)
  refine lv_iload_n hx hb dJ6_bitCount_0f7a4_34 rfl (lv_at hl 0 rfl) ?_
  refine lv_iload_n hx hb dJ6_bitCount_0f7a4_35 rfl (lv_at hl 0 rfl) ?_
  refine lv_bipush (v := (8 : Int32)) hx hb dJ6_bitCount_0f7a4_36 (by decide) ?_
  refine lv_iushr hx hb dJ6_bitCount_0f7a4_38 rfl ?_
  refine lv_iadd hx hb dJ6_bitCount_0f7a4_39 ?_
  refine lv_topi (fun v_4 ev_4 => ?_)
  have h := lt_h ev_4 h
  refine lv_istore_n (lv' := [(0, .int v_4)]) hx hb dJ6_bitCount_0f7a4_40 rfl hl (Nat.le_of_ble_eq_true rfl) rfl (fun ls hl => ?_)
  refine lv_iload_n hx hb dJ6_bitCount_0f7a4_41 rfl (lv_at hl 0 rfl) ?_
  refine lv_iload_n hx hb dJ6_bitCount_0f7a4_42 rfl (lv_at hl 0 rfl) ?_
  refine lv_bipush (v := (16 : Int32)) hx hb dJ6_bitCount_0f7a4_43 (by decide) ?_
  refine lv_iushr hx hb dJ6_bitCount_0f7a4_45 rfl ?_
  refine lv_iadd hx hb dJ6_bitCount_0f7a4_46 ?_
  refine lv_topi (fun v_5 ev_5 => ?_)
  have h := lt_h ev_5 h
  refine lv_istore_n (lv' := [(0, .int v_5)]) hx hb dJ6_bitCount_0f7a4_47 rfl hl (Nat.le_of_ble_eq_true rfl) rfl (fun ls hl => ?_)
  refine lv_iload_n hx hb dJ6_bitCount_0f7a4_48 rfl (lv_at hl 0 rfl) ?_
  refine lv_bipush (v := (63 : Int32)) hx hb dJ6_bitCount_0f7a4_49 (by decide) ?_
  refine lv_iand hx hb dJ6_bitCount_0f7a4_51 ?_
  subst h
  exact hQ rfl _ _ _ _ dJ6_bitCount_0f7a4_52 hW
theorem ctJ6_bitCount_0f7a4 {l : Launch} {G : va_G} {cI cZ cO : ClassId} (x0 : Int32) {res : Int32} (h : fJ6_bitCount_0f7a4 x0 = res) : MI l G cI cZ cO yJ6_bitCount_0f7a4 cJ6_bitCount_0f7a4 1 .int rJ6_bitCount_0f7a4 [.int x0] (wJ6_bitCount_0f7a4 cI cZ) (res) (wJ6_bitCount_0f7a4 cI cZ) := by
  refine MI.of (by decide) (Nat.le_of_ble_eq_true rfl) ?_
  intro p e s m below meth c A Q C hW hQ ls hl
  exact uJ6_bitCount_0f7a4_0 x0 C hQ h _ _ hW _ hl
abbrev wX1_missedWith (cI cZ : ClassId) (a_this a_least a_arg1 : Nat) (v_size : Int32) (v_least : Nat → Int32) (v_arg1 : Nat → Int32) : va_W := [(a_this, .inr (1, [.ref a_least, .int v_size])), (a_least, .inl (cI, 64, .inl v_least)), (a_arg1, .inl (cI, 6, .inl v_arg1))]
abbrev rX1_missedWith : Room := { frames := 1, cells := 0, slots := 0, locals := 23 }
set_option maxRecDepth 20000 in
theorem uX1_missedWith_0 {a_this a_least a_arg1 : Nat} (x2 : Int32) (x3 : Int32) (v_size : Int32) (v_least : Nat → Int32) (v_arg1 : Nat → Int32) {res : Int32} (C : Cx p s m av meth c RX1 cX1_missedWith 6 (some .int) G cI cZ cO A) (hQ : RI p l e rX1_missedWith s m av below meth c G A cX1_missedWith .int Q (res) (wX1_missedWith cI cZ a_this a_least a_arg1 v_size v_least v_arg1)) (h : fX1_missedWith x2 x3 v_least v_arg1 = some res) (H : Heap) (locs : List Loc) (hW : HW G A s (wX1_missedWith cI cZ a_this a_least a_arg1 v_size v_least v_arg1) H locs) (ls : Array Slot) (hl : lv_has ls 6 [(0, .ref a_this), (1, .ref a_arg1), (2, .int x2), (3, .int x3)]) : W p l e rX1_missedWith s m av below meth c H locs 0 0 Q (F0 m 0 ls []) := by
  have hx := C.1
  have hb := C.2.1
  unfold fX1_missedWith at h
  refine lv_iload_n hx hb dX1_missedWith_0 rfl (lv_at hl 3 rfl) ?_
  refine lv_if_lt (tgt := 10) hx hb dX1_missedWith_1 (by decide) (fun c_1 => ?_) (fun c_1 => ?_)
  · have h := ip_h c_1 h
    refine lv_iconst (v := (0 : Int32)) hx hb dX1_missedWith_10 (by decide) ?_
    obtain rfl := Option.some.inj h
    exact hQ rfl _ _ _ _ dX1_missedWith_11 hW
  · have h := in_h c_1 h
    refine lv_iload_n hx hb dX1_missedWith_4 rfl (lv_at hl 3 rfl) ?_
    refine lv_aload_n hx hb dX1_missedWith_5 rfl (lv_at hl 1 rfl) ?_
    refine alenW (v := (6 : Int32)) C hW 2 rfl (by decide) dX1_missedWith_6 ?_
    refine lv_icmp_lt (tgt := 12) hx hb dX1_missedWith_7 (by decide) (fun c_2 => ?_) (fun c_2 => ?_)
    · have h := ip_h c_2 h
      refine lv_iload_n hx hb dX1_missedWith_12 rfl (lv_at hl 2 rfl) ?_
      refine lv_iconst (v := (1 : Int32)) hx hb dX1_missedWith_13 (by decide) ?_
      refine lv_iload_n hx hb dX1_missedWith_14 rfl (lv_at hl 3 rfl) ?_
      refine lv_ishl hx hb dX1_missedWith_15 ?_
      refine lv_ior hx hb dX1_missedWith_16 ?_
      refine lv_topi (fun v_3 ev_3 => ?_)
      have h := lt_h ev_3 h
      refine lv_istore (lv' := [(4, .int v_3), (0, .ref a_this), (1, .ref a_arg1), (2, .int x2), (3, .int x3)]) hx hb dX1_missedWith_17 hl (Nat.le_of_ble_eq_true rfl) rfl (fun ls hl => ?_)
      refine lv_iload_n hx hb dX1_missedWith_19 rfl (lv_at hl 3 rfl) ?_
      refine callSI0 C lk_RX1_43 (ctJ6_bitCount_0f7a4 x2 rfl) hW hl rfl ⟨rfl, rfl⟩ ⟨(Nat.le_of_ble_eq_true rfl), (Nat.le_of_ble_eq_true rfl)⟩ ⟨Nat.zero_le _, Nat.zero_le _⟩ rfl (Nat.le_of_ble_eq_true rfl) dX1_missedWith_20 (fun H locs hW => ?_)
      refine lv_aload_n hx hb dX1_missedWith_23 rfl (lv_at hl 2 rfl) ?_
      refine lv_iload_n hx hb dX1_missedWith_24 rfl (lv_at hl 4 rfl) ?_
      obtain ⟨g_4, h⟩ := gd_h h
      refine ialdW C hW 2 rfl g_4 dX1_missedWith_25 ?_
      refine lv_isub hx hb dX1_missedWith_26 ?_
      refine absW C lk_RX1_47 hl (Nat.le_of_ble_eq_true rfl) (Nat.le_of_ble_eq_true rfl) ⟨Nat.zero_le _, Nat.zero_le _⟩ dX1_missedWith_27 ?_
      refine lv_topi (fun v_5 ev_5 => ?_)
      have h := lt_h ev_5 h
      refine lv_istore (lv' := [(5, .int v_5), (4, .int v_3), (0, .ref a_this), (1, .ref a_arg1), (2, .int x2), (3, .int x3)]) hx hb dX1_missedWith_30 hl (Nat.le_of_ble_eq_true rfl) rfl (fun ls hl => ?_)
      refine lv_iload hx hb dX1_missedWith_32 (lv_at hl 1 rfl) ?_
      refine lv_if_lt (tgt := 60) hx hb dX1_missedWith_34 (by decide) (fun c_6 => ?_) (fun c_6 => ?_)
      · have h := ip_h c_6 h
        refine lv_iload hx hb dX1_missedWith_60 (lv_at hl 0 rfl) ?_
        obtain rfl := Option.some.inj h
        exact hQ rfl _ _ _ _ dX1_missedWith_62 hW
      · have h := in_h c_6 h
        refine lv_iload hx hb dX1_missedWith_37 (lv_at hl 1 rfl) ?_
        refine lv_aload_n hx hb dX1_missedWith_39 rfl (lv_at hl 2 rfl) ?_
        refine getW C fl_RX1_9 hW 0 rfl rfl dX1_missedWith_40 ?_
        refine alenW (v := (64 : Int32)) C hW 1 rfl (by decide) dX1_missedWith_43 ?_
        refine lv_icmp_ge (tgt := 60) hx hb dX1_missedWith_44 (by decide) (fun c_7 => ?_) (fun c_7 => ?_)
        · have h := ip_h c_7 h
          refine lv_iload hx hb dX1_missedWith_60 (lv_at hl 0 rfl) ?_
          obtain rfl := Option.some.inj h
          exact hQ rfl _ _ _ _ dX1_missedWith_62 hW
        · have h := in_h c_7 h
          refine lv_iload hx hb dX1_missedWith_47 (lv_at hl 0 rfl) ?_
          refine lv_aload_n hx hb dX1_missedWith_49 rfl (lv_at hl 2 rfl) ?_
          refine getW C fl_RX1_9 hW 0 rfl rfl dX1_missedWith_50 ?_
          refine lv_iload hx hb dX1_missedWith_53 (lv_at hl 1 rfl) ?_
          obtain ⟨g_8, h⟩ := gd_h h
          refine ialdW C hW 1 rfl g_8 dX1_missedWith_55 ?_
          refine lv_iadd hx hb dX1_missedWith_56 ?_
          refine lv_goto (tgt := 62) hx hb dX1_missedWith_57 (by decide) ?_
          obtain rfl := Option.some.inj h
          exact hQ rfl _ _ _ _ dX1_missedWith_62 hW
    · have h := in_h c_2 h
      refine lv_iconst (v := (0 : Int32)) hx hb dX1_missedWith_10 (by decide) ?_
      obtain rfl := Option.some.inj h
      exact hQ rfl _ _ _ _ dX1_missedWith_11 hW
theorem ctX1_missedWith {l : Launch} {G : va_G} {cI cZ cO : ClassId} (a_this a_least a_arg1 : Nat) (x2 : Int32) (x3 : Int32) (v_size : Int32) (v_least : Nat → Int32) (v_arg1 : Nat → Int32) {res : Int32} (h : fX1_missedWith x2 x3 v_least v_arg1 = some res) : MI l G cI cZ cO yX1_missedWith cX1_missedWith 6 .int rX1_missedWith [.ref a_this, .ref a_arg1, .int x2, .int x3] (wX1_missedWith cI cZ a_this a_least a_arg1 v_size v_least v_arg1) (res) (wX1_missedWith cI cZ a_this a_least a_arg1 v_size v_least v_arg1) := by
  refine MI.of (by decide) (Nat.le_of_ble_eq_true rfl) ?_
  intro p e s m below meth c A Q C hW hQ ls hl
  exact uX1_missedWith_0 x2 x3 v_size v_least v_arg1 C hQ h _ _ hW _ hl
abbrev wX1_firstBest (cI cZ : ClassId) (a_this a_least a_arg1 : Nat) (v_size : Int32) (v_least : Nat → Int32) (v_arg1 : Nat → Int32) : va_W := [(a_this, .inr (1, [.ref a_least, .int v_size])), (a_least, .inl (cI, 64, .inl v_least)), (a_arg1, .inl (cI, 6, .inl v_arg1))]
abbrev rX1_firstBest : Room := { frames := 2, cells := 0, slots := 0, locals := 48 }
set_option maxRecDepth 20000 in
theorem uX1_firstBest_10 {a_this a_least a_arg1 : Nat} (x2 : Int32) (x3 : Int32) (x4 : Int32) (x5 : Int32) (v_size : Int32) (v_least : Nat → Int32) (v_arg1 : Nat → Int32) {res : Int32} (C : Cx p s m av meth c RX1 cX1_firstBest 7 (some .int) G cI cZ cO A) (hQ : RI p l e rX1_firstBest s m av below meth c G A cX1_firstBest .int Q (res) (wX1_firstBest cI cZ a_this a_least a_arg1 v_size v_least v_arg1)) {k10 : (Int32) → (Int32) → (Int32) → Option (Int32)} (hk10 : ∀ (x3 : Int32) (x4 : Int32) (x5 : Int32), k10 x3 x4 x5 = some res → ∀ (H : Heap) (locs : List Loc), HW G A s (wX1_firstBest cI cZ a_this a_least a_arg1 v_size v_least v_arg1) H locs → ∀ ls : Array Slot, lv_has ls 7 [(0, .ref a_this), (1, .ref a_arg1), (2, .int x2), (3, .int x3), (4, .int x4), (5, .int x5)] → W p l e rX1_firstBest s m av below meth c H locs 0 0 Q (F0 m 10 ls [])) (h : FX1_firstBest_10 x2 v_size v_least v_arg1 k10 x3 x4 x5 = some res) (H : Heap) (locs : List Loc) (hW : HW G A s (wX1_firstBest cI cZ a_this a_least a_arg1 v_size v_least v_arg1) H locs) (ls : Array Slot) (hl : lv_has ls 7 [(0, .ref a_this), (1, .ref a_arg1), (2, .int x2), (3, .int x3), (4, .int x4), (5, .int x5)]) : W p l e rX1_firstBest s m av below meth c H locs 0 0 Q (F0 m 10 ls []) := by
  have hx := C.1
  have hb := C.2.1
  unfold FX1_firstBest_10 at h
  refine lv_iload hx hb dX1_firstBest_10 (lv_at hl 5 rfl) ?_
  refine lv_aload_n hx hb dX1_firstBest_12 rfl (lv_at hl 0 rfl) ?_
  refine getW C fl_RX1_24 hW 0 rfl rfl dX1_firstBest_13 ?_
  refine lv_icmp_ge (tgt := 58) hx hb dX1_firstBest_16 (by decide) (fun c_1 => ?_) (fun c_1 => ?_)
  · have h := ip_h c_1 h
    refine lv_iload_n hx hb dX1_firstBest_58 rfl (lv_at hl 3 rfl) ?_
    obtain rfl := Option.some.inj h
    exact hQ rfl _ _ _ _ dX1_firstBest_59 hW
  · have h := in_h c_1 h
    refine lv_iload_n hx hb dX1_firstBest_19 rfl (lv_at hl 2 rfl) ?_
    refine lv_iload hx hb dX1_firstBest_20 (lv_at hl 5 rfl) ?_
    refine callNI0 C lk_RX1_39 (ctX10_hasBit x2 x5 rfl) hW hl rfl ⟨rfl, rfl⟩ ⟨(Nat.le_of_ble_eq_true rfl), (Nat.le_of_ble_eq_true rfl)⟩ ⟨Nat.zero_le _, Nat.zero_le _⟩ rfl (Nat.le_of_ble_eq_true rfl) dX1_firstBest_22 (fun H locs hW => ?_)
    refine lv_if_ne (tgt := 52) hx hb dX1_firstBest_25 (by decide) (fun c_2 => ?_) (fun c_2 => ?_)
    · have h := in_h c_2 h
      obtain ⟨v_3, ev_3⟩ : ∃ y : Int32, y = x5 + (1 : Int32) := ⟨_, rfl⟩
      have h := lt_h ev_3 h
      refine lv_iinc (v := v_3) (lv' := [(5, .int v_3), (0, .ref a_this), (1, .ref a_arg1), (2, .int x2), (3, .int x3), (4, .int x4)]) hx hb dX1_firstBest_52 hl (k := 5) rfl (by rw [ev_3]; rfl) (Nat.le_of_ble_eq_true rfl) rfl (fun ls hl => ?_)
      refine lv_goto (tgt := 10) hx hb dX1_firstBest_55 (by decide) ?_
      exact hk10 x3 x4 v_3 h _ _ hW _ (lv_sub hl [1, 2, 3, 4, 5, 0] rfl)
    · have h := ip_h c_2 h
      refine lv_aload_n hx hb dX1_firstBest_28 rfl (lv_at hl 0 rfl) ?_
      refine lv_aload_n hx hb dX1_firstBest_29 rfl (lv_at hl 1 rfl) ?_
      refine lv_iload_n hx hb dX1_firstBest_30 rfl (lv_at hl 2 rfl) ?_
      refine lv_iload hx hb dX1_firstBest_31 (lv_at hl 5 rfl) ?_
      obtain ⟨v_4, hv_4, h⟩ := bd_h h
      refine callVIr [0, 1, 2] C lk_RX1_32 (ctX1_missedWith a_this a_least a_arg1 x2 x5 v_size v_least v_arg1 hv_4) hW hl 1 rfl rfl rfl rfl rfl ⟨rfl, rfl⟩ ⟨(Nat.le_of_ble_eq_true rfl), (Nat.le_of_ble_eq_true rfl)⟩ ⟨Nat.zero_le _, Nat.zero_le _⟩ rfl (Nat.le_of_ble_eq_true rfl) dX1_firstBest_33 (fun H locs hW => ?_)
      refine lv_istore (lv' := [(6, .int v_4), (0, .ref a_this), (1, .ref a_arg1), (2, .int x2), (3, .int x3), (4, .int x4), (5, .int x5)]) hx hb dX1_firstBest_36 hl (Nat.le_of_ble_eq_true rfl) rfl (fun ls hl => ?_)
      refine lv_iload hx hb dX1_firstBest_38 (lv_at hl 0 rfl) ?_
      refine lv_iload hx hb dX1_firstBest_40 (lv_at hl 5 rfl) ?_
      refine lv_icmp_ge (tgt := 52) hx hb dX1_firstBest_42 (by decide) (fun c_5 => ?_) (fun c_5 => ?_)
      · have h := ip_h c_5 h
        obtain ⟨v_6, ev_6⟩ : ∃ y : Int32, y = x5 + (1 : Int32) := ⟨_, rfl⟩
        have h := lt_h ev_6 h
        refine lv_iinc (v := v_6) (lv' := [(5, .int v_6), (6, .int v_4), (0, .ref a_this), (1, .ref a_arg1), (2, .int x2), (3, .int x3), (4, .int x4)]) hx hb dX1_firstBest_52 hl (k := 6) rfl (by rw [ev_6]; rfl) (Nat.le_of_ble_eq_true rfl) rfl (fun ls hl => ?_)
        refine lv_goto (tgt := 10) hx hb dX1_firstBest_55 (by decide) ?_
        exact hk10 x3 x4 v_6 h _ _ hW _ (lv_sub hl [2, 3, 4, 5, 6, 0] rfl)
      · have h := in_h c_5 h
        refine lv_iload hx hb dX1_firstBest_45 (lv_at hl 0 rfl) ?_
        refine lv_istore (lv' := [(4, .int v_4), (6, .int v_4), (0, .ref a_this), (1, .ref a_arg1), (2, .int x2), (3, .int x3), (5, .int x5)]) hx hb dX1_firstBest_47 hl (Nat.le_of_ble_eq_true rfl) rfl (fun ls hl => ?_)
        refine lv_iload hx hb dX1_firstBest_49 (lv_at hl 6 rfl) ?_
        refine lv_istore_n (lv' := [(3, .int x5), (4, .int v_4), (6, .int v_4), (0, .ref a_this), (1, .ref a_arg1), (2, .int x2), (5, .int x5)]) hx hb dX1_firstBest_51 rfl hl (Nat.le_of_ble_eq_true rfl) rfl (fun ls hl => ?_)
        obtain ⟨v_7, ev_7⟩ : ∃ y : Int32, y = x5 + (1 : Int32) := ⟨_, rfl⟩
        have h := lt_h ev_7 h
        refine lv_iinc (v := v_7) (lv' := [(5, .int v_7), (3, .int x5), (4, .int v_4), (6, .int v_4), (0, .ref a_this), (1, .ref a_arg1), (2, .int x2)]) hx hb dX1_firstBest_52 hl (k := 6) rfl (by rw [ev_7]; rfl) (Nat.le_of_ble_eq_true rfl) rfl (fun ls hl => ?_)
        refine lv_goto (tgt := 10) hx hb dX1_firstBest_55 (by decide) ?_
        exact hk10 x5 v_4 v_7 h _ _ hW _ (lv_sub hl [4, 5, 6, 1, 2, 0] rfl)
theorem wX1_firstBest_10_ {a_this a_least a_arg1 : Nat} (x2 : Int32) (v_size : Int32) (v_least : Nat → Int32) (v_arg1 : Nat → Int32) {res : Int32} (C : Cx p s m av meth c RX1 cX1_firstBest 7 (some .int) G cI cZ cO A) (hQ : RI p l e rX1_firstBest s m av below meth c G A cX1_firstBest .int Q (res) (wX1_firstBest cI cZ a_this a_least a_arg1 v_size v_least v_arg1)) : ∀ (n : Nat) (x3 : Int32) (x4 : Int32) (x5 : Int32), LX1_firstBest_10 x2 v_size v_least v_arg1 n x3 x4 x5 = some res → ∀ (H : Heap) (locs : List Loc), HW G A s (wX1_firstBest cI cZ a_this a_least a_arg1 v_size v_least v_arg1) H locs → ∀ ls : Array Slot, lv_has ls 7 [(0, .ref a_this), (1, .ref a_arg1), (2, .int x2), (3, .int x3), (4, .int x4), (5, .int x5)] → W p l e rX1_firstBest s m av below meth c H locs 0 0 Q (F0 m 10 ls []) := by
  intro n
  induction n with
  | zero => intro x3 x4 x5 h; cases h
  | succ n ih =>
    intro x3 x4 x5 h H locs hW ls hl
    exact uX1_firstBest_10 x2 x3 x4 x5 v_size v_least v_arg1 C hQ (k10 := LX1_firstBest_10 x2 v_size v_least v_arg1 n) ih h H locs hW ls hl
set_option maxRecDepth 20000 in
theorem uX1_firstBest_0 {a_this a_least a_arg1 : Nat} (x2 : Int32) (v_size : Int32) (v_least : Nat → Int32) (v_arg1 : Nat → Int32) {res : Int32} (C : Cx p s m av meth c RX1 cX1_firstBest 7 (some .int) G cI cZ cO A) (hQ : RI p l e rX1_firstBest s m av below meth c G A cX1_firstBest .int Q (res) (wX1_firstBest cI cZ a_this a_least a_arg1 v_size v_least v_arg1)) (h : fX1_firstBest x2 v_size v_least v_arg1 = some res) (H : Heap) (locs : List Loc) (hW : HW G A s (wX1_firstBest cI cZ a_this a_least a_arg1 v_size v_least v_arg1) H locs) (ls : Array Slot) (hl : lv_has ls 7 [(0, .ref a_this), (1, .ref a_arg1), (2, .int x2)]) : W p l e rX1_firstBest s m av below meth c H locs 0 0 Q (F0 m 0 ls []) := by
  have hx := C.1
  have hb := C.2.1
  unfold fX1_firstBest at h
  refine lv_bipush (v := (-6 : Int32)) hx hb dX1_firstBest_0 (by decide) ?_
  refine lv_istore_n (lv' := [(3, .int (-6 : Int32)), (0, .ref a_this), (1, .ref a_arg1), (2, .int x2)]) hx hb dX1_firstBest_2 rfl hl (Nat.le_of_ble_eq_true rfl) rfl (fun ls hl => ?_)
  refine lv_ldc (v := (2147483647 : Int32)) hx hb C.2.2.2.2.2.1 (C.2.2.2.2.1 _ wd_641) dX1_firstBest_3 ?_
  refine lv_istore (lv' := [(4, .int (2147483647 : Int32)), (3, .int (-6 : Int32)), (0, .ref a_this), (1, .ref a_arg1), (2, .int x2)]) hx hb dX1_firstBest_5 hl (Nat.le_of_ble_eq_true rfl) rfl (fun ls hl => ?_)
  refine lv_iconst (v := (0 : Int32)) hx hb dX1_firstBest_7 (by decide) ?_
  refine lv_istore (lv' := [(5, .int (0 : Int32)), (4, .int (2147483647 : Int32)), (3, .int (-6 : Int32)), (0, .ref a_this), (1, .ref a_arg1), (2, .int x2)]) hx hb dX1_firstBest_8 hl (Nat.le_of_ble_eq_true rfl) rfl (fun ls hl => ?_)
  exact wX1_firstBest_10_ x2 v_size v_least v_arg1 C hQ 2000 (-6 : Int32) (2147483647 : Int32) (0 : Int32) h _ _ hW _ (lv_sub hl [3, 4, 5, 2, 1, 0] rfl)
theorem ctX1_firstBest {l : Launch} {G : va_G} {cI cZ cO : ClassId} (a_this a_least a_arg1 : Nat) (x2 : Int32) (v_size : Int32) (v_least : Nat → Int32) (v_arg1 : Nat → Int32) {res : Int32} (h : fX1_firstBest x2 v_size v_least v_arg1 = some res) : MI l G cI cZ cO yX1_firstBest cX1_firstBest 7 .int rX1_firstBest [.ref a_this, .ref a_arg1, .int x2] (wX1_firstBest cI cZ a_this a_least a_arg1 v_size v_least v_arg1) (res) (wX1_firstBest cI cZ a_this a_least a_arg1 v_size v_least v_arg1) := by
  refine MI.of (by decide) (Nat.le_of_ble_eq_true rfl) ?_
  intro p e s m below meth c A Q C hW hQ ls hl
  exact uX1_firstBest_0 x2 v_size v_least v_arg1 C hQ h _ _ hW _ hl
abbrev wX1_fill (cI cZ : ClassId) (a_this a_least a_arg1 : Nat) (v_size : Int32) (v_least : Nat → Int32) (v_arg1 : Nat → Int32) : va_W := [(a_this, .inr (1, [.ref a_least, .int v_size])), (a_least, .inl (cI, 64, .inl v_least)), (a_arg1, .inl (cI, 6, .inl v_arg1))]
abbrev rX1_fill : Room := { frames := 3, cells := 0, slots := 0, locals := 74 }
set_option maxRecDepth 20000 in
theorem uX1_fill_35 {a_this a_least a_arg1 : Nat} (x4 : Int32) (v_size : Int32) (v_least : Nat → Int32) (v_arg1 : Nat → Int32) {res : Int32 × (Nat → Int32)} (C : Cx p s m av meth c RX1 cX1_fill 5 none G cI cZ cO A) (hQ : RV p l e rX1_fill s m av below meth c G A cX1_fill Q (wX1_fill cI cZ a_this a_least a_arg1 res.1 res.2 v_arg1)) {k35 : (Int32) → (Nat → Int32) → Option (Int32 × (Nat → Int32))} (hk35 : ∀ (x4 : Int32) (v_least : Nat → Int32), k35 x4 v_least = some res → ∀ (H : Heap) (locs : List Loc), HW G A s (wX1_fill cI cZ a_this a_least a_arg1 v_size v_least v_arg1) H locs → ∀ ls : Array Slot, lv_has ls 5 [(0, .ref a_this), (1, .ref a_arg1), (4, .int x4)] → W p l e rX1_fill s m av below meth c H locs 0 0 Q (F0 m 35 ls [])) (h : FX1_fill_35 v_size v_arg1 k35 x4 v_least = some res) (H : Heap) (locs : List Loc) (hW : HW G A s (wX1_fill cI cZ a_this a_least a_arg1 v_size v_least v_arg1) H locs) (ls : Array Slot) (hl : lv_has ls 5 [(0, .ref a_this), (1, .ref a_arg1), (4, .int x4)]) : W p l e rX1_fill s m av below meth c H locs 0 0 Q (F0 m 35 ls []) := by
  have hx := C.1
  have hb := C.2.1
  unfold FX1_fill_35 at h
  refine lv_iload hx hb dX1_fill_35 (lv_at hl 2 rfl) ?_
  refine lv_if_lt (tgt := 67) hx hb dX1_fill_37 (by decide) (fun c_5 => ?_) (fun c_5 => ?_)
  · have h := ip_h c_5 h
    obtain rfl := Option.some.inj h
    exact hQ _ _ _ _ dX1_fill_67 hW
  · have h := in_h c_5 h
    refine lv_aload_n hx hb dX1_fill_40 rfl (lv_at hl 0 rfl) ?_
    refine getW C fl_RX1_9 hW 0 rfl rfl dX1_fill_41 ?_
    refine lv_iload hx hb dX1_fill_44 (lv_at hl 2 rfl) ?_
    refine lv_aload_n hx hb dX1_fill_46 rfl (lv_at hl 0 rfl) ?_
    refine lv_aload_n hx hb dX1_fill_47 rfl (lv_at hl 1 rfl) ?_
    refine lv_iload hx hb dX1_fill_48 (lv_at hl 2 rfl) ?_
    refine lv_aload_n hx hb dX1_fill_50 rfl (lv_at hl 0 rfl) ?_
    refine lv_aload_n hx hb dX1_fill_51 rfl (lv_at hl 1 rfl) ?_
    refine lv_iload hx hb dX1_fill_52 (lv_at hl 2 rfl) ?_
    obtain ⟨v_6, hv_6, h⟩ := bd_h h
    refine callVIr [0, 1, 2] C lk_RX1_28 (ctX1_firstBest a_this a_least a_arg1 x4 v_size v_least v_arg1 hv_6) hW hl 1 rfl rfl rfl rfl rfl ⟨rfl, rfl⟩ ⟨(Nat.le_of_ble_eq_true rfl), (Nat.le_of_ble_eq_true rfl)⟩ ⟨Nat.zero_le _, Nat.zero_le _⟩ rfl (Nat.le_of_ble_eq_true rfl) dX1_fill_54 (fun H locs hW => ?_)
    obtain ⟨v_7, hv_7, h⟩ := bd_h h
    refine callVIr [0, 1, 2] C lk_RX1_32 (ctX1_missedWith a_this a_least a_arg1 x4 v_6 v_size v_least v_arg1 hv_7) hW hl 1 rfl rfl rfl rfl rfl ⟨rfl, rfl⟩ ⟨(Nat.le_of_ble_eq_true rfl), (Nat.le_of_ble_eq_true rfl)⟩ ⟨Nat.zero_le _, Nat.zero_le _⟩ rfl (Nat.le_of_ble_eq_true rfl) dX1_fill_57 (fun H locs hW => ?_)
    obtain ⟨g_8, h⟩ := gd_h h
    refine iastW C hW 1 rfl g_8 dX1_fill_60 (fun H locs hW => ?_)
    have hW : HW G A s (wX1_fill cI cZ a_this a_least a_arg1 v_size (upd v_least (Int32.toNatClampNeg x4) v_7) v_arg1) H locs := hW
    obtain ⟨v_9, ev_9⟩ : ∃ y : Int32, y = x4 + (-1 : Int32) := ⟨_, rfl⟩
    have h := lt_h ev_9 h
    refine lv_iinc (v := v_9) (lv' := [(4, .int v_9), (0, .ref a_this), (1, .ref a_arg1)]) hx hb dX1_fill_61 hl (k := 2) rfl (by rw [ev_9]; rfl) (Nat.le_of_ble_eq_true rfl) rfl (fun ls hl => ?_)
    refine lv_goto (tgt := 35) hx hb dX1_fill_64 (by decide) ?_
    exact hk35 v_9 (upd v_least (Int32.toNatClampNeg x4) v_7) h _ _ hW _ (lv_sub hl [1, 2, 0] rfl)
theorem wX1_fill_35_ {a_this a_least a_arg1 : Nat} (v_size : Int32) (v_arg1 : Nat → Int32) {res : Int32 × (Nat → Int32)} (C : Cx p s m av meth c RX1 cX1_fill 5 none G cI cZ cO A) (hQ : RV p l e rX1_fill s m av below meth c G A cX1_fill Q (wX1_fill cI cZ a_this a_least a_arg1 res.1 res.2 v_arg1)) : ∀ (n : Nat) (x4 : Int32) (v_least : Nat → Int32), LX1_fill_35 v_size v_arg1 n x4 v_least = some res → ∀ (H : Heap) (locs : List Loc), HW G A s (wX1_fill cI cZ a_this a_least a_arg1 v_size v_least v_arg1) H locs → ∀ ls : Array Slot, lv_has ls 5 [(0, .ref a_this), (1, .ref a_arg1), (4, .int x4)] → W p l e rX1_fill s m av below meth c H locs 0 0 Q (F0 m 35 ls []) := by
  intro n
  induction n with
  | zero => intro x4 v_least h; cases h
  | succ n ih =>
    intro x4 v_least h H locs hW ls hl
    exact uX1_fill_35 x4 v_size v_least v_arg1 C hQ (k35 := LX1_fill_35 v_size v_arg1 n) ih h H locs hW ls hl
set_option maxRecDepth 20000 in
theorem uX1_fill_0 {a_this a_least a_arg1 : Nat} (x2 : Int32) (v_size : Int32) (v_least : Nat → Int32) (v_arg1 : Nat → Int32) {res : Int32 × (Nat → Int32)} (C : Cx p s m av meth c RX1 cX1_fill 5 none G cI cZ cO A) (hQ : RV p l e rX1_fill s m av below meth c G A cX1_fill Q (wX1_fill cI cZ a_this a_least a_arg1 res.1 res.2 v_arg1)) (h : fX1_fill x2 v_least v_arg1 = some res) (H : Heap) (locs : List Loc) (hW : HW G A s (wX1_fill cI cZ a_this a_least a_arg1 v_size v_least v_arg1) H locs) (ls : Array Slot) (hl : lv_has ls 5 [(0, .ref a_this), (1, .ref a_arg1), (2, .int x2)]) : W p l e rX1_fill s m av below meth c H locs 0 0 Q (F0 m 0 ls []) := by
  have hx := C.1
  have hb := C.2.1
  unfold fX1_fill at h
  refine lv_aload_n hx hb dX1_fill_0 rfl (lv_at hl 0 rfl) ?_
  refine lv_iconst (v := (0 : Int32)) hx hb dX1_fill_1 (by decide) ?_
  refine lv_bipush (v := (6 : Int32)) hx hb dX1_fill_2 (by decide) ?_
  refine lv_iload_n hx hb dX1_fill_4 rfl (lv_at hl 2 rfl) ?_
  refine minW C lk_RX1_15 hl (Nat.le_of_ble_eq_true rfl) (Nat.le_of_ble_eq_true rfl) ⟨Nat.zero_le _, Nat.zero_le _⟩ dX1_fill_5 ?_
  refine maxW C lk_RX1_21 hl (Nat.le_of_ble_eq_true rfl) (Nat.le_of_ble_eq_true rfl) ⟨Nat.zero_le _, Nat.zero_le _⟩ dX1_fill_8 ?_
  refine lv_topi (fun v_1 ev_1 => ?_)
  have h := lt_h ev_1 h
  refine putW C fp_RX1_24 hW 0 rfl rfl rfl (Nat.le_of_ble_eq_true rfl) dX1_fill_11 (fun H locs hW => ?_)
  have hW : HW G A s (wX1_fill cI cZ a_this a_least a_arg1 v_1 v_least v_arg1) H locs := hW
  refine lv_iconst (v := (1 : Int32)) hx hb dX1_fill_14 (by decide) ?_
  refine lv_aload_n hx hb dX1_fill_15 rfl (lv_at hl 0 rfl) ?_
  refine getW C fl_RX1_24 hW 0 rfl rfl dX1_fill_16 ?_
  refine lv_ishl hx hb dX1_fill_19 ?_
  refine lv_iconst (v := (1 : Int32)) hx hb dX1_fill_20 (by decide) ?_
  refine lv_isub hx hb dX1_fill_21 ?_
  refine lv_topi (fun v_2 ev_2 => ?_)
  have h := lt_h ev_2 h
  refine lv_istore_n (lv' := [(3, .int v_2), (0, .ref a_this), (1, .ref a_arg1), (2, .int x2)]) hx hb dX1_fill_22 rfl hl (Nat.le_of_ble_eq_true rfl) rfl (fun ls hl => ?_)
  refine lv_aload_n hx hb dX1_fill_23 rfl (lv_at hl 1 rfl) ?_
  refine getW C fl_RX1_9 hW 0 rfl rfl dX1_fill_24 ?_
  refine lv_iload_n hx hb dX1_fill_27 rfl (lv_at hl 0 rfl) ?_
  refine lv_iconst (v := (0 : Int32)) hx hb dX1_fill_28 (by decide) ?_
  obtain ⟨g_3, h⟩ := gd_h h
  refine iastW C hW 1 rfl g_3 dX1_fill_29 (fun H locs hW => ?_)
  have hW : HW G A s (wX1_fill cI cZ a_this a_least a_arg1 v_1 (upd v_least (Int32.toNatClampNeg v_2) (0 : Int32)) v_arg1) H locs := hW
  refine lv_iload_n hx hb dX1_fill_30 rfl (lv_at hl 0 rfl) ?_
  refine lv_iconst (v := (1 : Int32)) hx hb dX1_fill_31 (by decide) ?_
  refine lv_isub hx hb dX1_fill_32 ?_
  refine lv_topi (fun v_4 ev_4 => ?_)
  have h := lt_h ev_4 h
  refine lv_istore (lv' := [(4, .int v_4), (3, .int v_2), (0, .ref a_this), (1, .ref a_arg1), (2, .int x2)]) hx hb dX1_fill_33 hl (Nat.le_of_ble_eq_true rfl) rfl (fun ls hl => ?_)
  exact wX1_fill_35_ v_1 v_arg1 C hQ 2000 v_4 (upd v_least (Int32.toNatClampNeg v_2) (0 : Int32)) h _ _ hW _ (lv_sub hl [2, 3, 0] rfl)
theorem ctX1_fill {l : Launch} {G : va_G} {cI cZ cO : ClassId} (a_this a_least a_arg1 : Nat) (x2 : Int32) (v_size : Int32) (v_least : Nat → Int32) (v_arg1 : Nat → Int32) {res : Int32 × (Nat → Int32)} (h : fX1_fill x2 v_least v_arg1 = some res) : MV l G cI cZ cO yX1_fill cX1_fill 5 rX1_fill [.ref a_this, .ref a_arg1, .int x2] (wX1_fill cI cZ a_this a_least a_arg1 v_size v_least v_arg1) (wX1_fill cI cZ a_this a_least a_arg1 res.1 res.2 v_arg1) := by
  refine MV.of (by decide) (Nat.le_of_ble_eq_true rfl) ?_
  intro p e s m below meth c A Q C hW hQ ls hl
  exact uX1_fill_0 x2 v_size v_least v_arg1 C hQ h _ _ hW _ hl
abbrev wX2_payBehind (cI cZ : ClassId) (a_this a_best a_allowed a_pay : Nat) (v_best : Nat → Int32) : va_W := [(a_this, .inr (2, [.ref a_best, .ref a_allowed, .ref a_pay])), (a_best, .inl (cI, 288, .inl v_best))]
abbrev rX2_payBehind : Room := { frames := 0, cells := 0, slots := 0, locals := 0 }
set_option maxRecDepth 20000 in
theorem uX2_payBehind_0 {a_this a_best a_allowed a_pay : Nat} (x1 : Int32) (x2 : Int32) (v_best : Nat → Int32) {res : Int32} (C : Cx p s m av meth c RX2 cX2_payBehind 4 (some .int) G cI cZ cO A) (hQ : RI p l e rX2_payBehind s m av below meth c G A cX2_payBehind .int Q (res) (wX2_payBehind cI cZ a_this a_best a_allowed a_pay v_best)) (h : fX2_payBehind x1 x2 v_best = some res) (H : Heap) (locs : List Loc) (hW : HW G A s (wX2_payBehind cI cZ a_this a_best a_allowed a_pay v_best) H locs) (ls : Array Slot) (hl : lv_has ls 4 [(0, .ref a_this), (1, .int x1), (2, .int x2)]) : W p l e rX2_payBehind s m av below meth c H locs 0 0 Q (F0 m 0 ls []) := by
  have hx := C.1
  have hb := C.2.1
  unfold fX2_payBehind at h
  refine lv_iload_n hx hb dX2_payBehind_0 rfl (lv_at hl 1 rfl) ?_
  refine lv_iconst (v := (1 : Int32)) hx hb dX2_payBehind_1 (by decide) ?_
  refine lv_iadd hx hb dX2_payBehind_2 ?_
  refine lv_bipush (v := (32 : Int32)) hx hb dX2_payBehind_3 (by decide) ?_
  refine lv_imul hx hb dX2_payBehind_5 ?_
  refine lv_iload_n hx hb dX2_payBehind_6 rfl (lv_at hl 2 rfl) ?_
  refine lv_iadd hx hb dX2_payBehind_7 ?_
  refine lv_topi (fun v_1 ev_1 => ?_)
  have h := lt_h ev_1 h
  refine lv_istore_n (lv' := [(3, .int v_1), (0, .ref a_this), (1, .int x1), (2, .int x2)]) hx hb dX2_payBehind_8 rfl hl (Nat.le_of_ble_eq_true rfl) rfl (fun ls hl => ?_)
  refine lv_iload_n hx hb dX2_payBehind_9 rfl (lv_at hl 0 rfl) ?_
  refine lv_if_lt (tgt := 31) hx hb dX2_payBehind_10 (by decide) (fun c_2 => ?_) (fun c_2 => ?_)
  · have h := ip_h c_2 h
    refine lv_iconst (v := (0 : Int32)) hx hb dX2_payBehind_31 (by decide) ?_
    obtain rfl := Option.some.inj h
    exact hQ rfl _ _ _ _ dX2_payBehind_32 hW
  · have h := in_h c_2 h
    refine lv_iload_n hx hb dX2_payBehind_13 rfl (lv_at hl 0 rfl) ?_
    refine lv_aload_n hx hb dX2_payBehind_14 rfl (lv_at hl 1 rfl) ?_
    refine getW C fl_RX2_9 hW 0 rfl rfl dX2_payBehind_15 ?_
    refine alenW (v := (288 : Int32)) C hW 1 rfl (by decide) dX2_payBehind_18 ?_
    refine lv_icmp_ge (tgt := 31) hx hb dX2_payBehind_19 (by decide) (fun c_3 => ?_) (fun c_3 => ?_)
    · have h := ip_h c_3 h
      refine lv_iconst (v := (0 : Int32)) hx hb dX2_payBehind_31 (by decide) ?_
      obtain rfl := Option.some.inj h
      exact hQ rfl _ _ _ _ dX2_payBehind_32 hW
    · have h := in_h c_3 h
      refine lv_aload_n hx hb dX2_payBehind_22 rfl (lv_at hl 1 rfl) ?_
      refine getW C fl_RX2_9 hW 0 rfl rfl dX2_payBehind_23 ?_
      refine lv_iload_n hx hb dX2_payBehind_26 rfl (lv_at hl 0 rfl) ?_
      obtain ⟨g_4, h⟩ := gd_h h
      refine ialdW C hW 1 rfl g_4 dX2_payBehind_27 ?_
      refine lv_goto (tgt := 32) hx hb dX2_payBehind_28 (by decide) ?_
      obtain rfl := Option.some.inj h
      exact hQ rfl _ _ _ _ dX2_payBehind_32 hW
theorem ctX2_payBehind {l : Launch} {G : va_G} {cI cZ cO : ClassId} (a_this a_best a_allowed a_pay : Nat) (x1 : Int32) (x2 : Int32) (v_best : Nat → Int32) {res : Int32} (h : fX2_payBehind x1 x2 v_best = some res) : MI l G cI cZ cO yX2_payBehind cX2_payBehind 4 .int rX2_payBehind [.ref a_this, .int x1, .int x2] (wX2_payBehind cI cZ a_this a_best a_allowed a_pay v_best) (res) (wX2_payBehind cI cZ a_this a_best a_allowed a_pay v_best) := by
  refine MI.of (by decide) (Nat.le_of_ble_eq_true rfl) ?_
  intro p e s m below meth c A Q C hW hQ ls hl
  exact uX2_payBehind_0 x1 x2 v_best C hQ h _ _ hW _ hl
abbrev wX10_inside (cI cZ : ClassId) : va_W := []
abbrev rX10_inside : Room := { frames := 0, cells := 0, slots := 0, locals := 0 }
set_option maxRecDepth 20000 in
theorem uX10_inside_0 (x0 : Int32) (x1 : Int32) (x2 : Int32) {res : Int32} (C : Cx p s m av meth c RX10 cX10_inside 3 (some .boolean) G cI cZ cO A) (hQ : RI p l e rX10_inside s m av below meth c G A cX10_inside .boolean Q (res) (wX10_inside cI cZ)) (h : fX10_inside x0 x1 x2 = res) (H : Heap) (locs : List Loc) (hW : HW G A s (wX10_inside cI cZ) H locs) (ls : Array Slot) (hl : lv_has ls 3 [(0, .int x0), (1, .int x1), (2, .int x2)]) : W p l e rX10_inside s m av below meth c H locs 0 0 Q (F0 m 0 ls []) := by
  have hx := C.1
  have hb := C.2.1
  unfold fX10_inside at h
  refine lv_iload_n hx hb dX10_inside_0 rfl (lv_at hl 0 rfl) ?_
  refine lv_iload_n hx hb dX10_inside_1 rfl (lv_at hl 1 rfl) ?_
  refine lv_icmp_lt (tgt := 14) hx hb dX10_inside_2 (by decide) (fun c_1 => ?_) (fun c_1 => ?_)
  · have h := ip_h c_1 h
    refine lv_iconst (v := (0 : Int32)) hx hb dX10_inside_14 (by decide) ?_
    subst h
    exact hQ nb_0 _ _ _ _ dX10_inside_15 hW
  · have h := in_h c_1 h
    refine lv_iload_n hx hb dX10_inside_5 rfl (lv_at hl 0 rfl) ?_
    refine lv_iload_n hx hb dX10_inside_6 rfl (lv_at hl 2 rfl) ?_
    refine lv_icmp_gt (tgt := 14) hx hb dX10_inside_7 (by decide) (fun c_2 => ?_) (fun c_2 => ?_)
    · have h := ip_h c_2 h
      refine lv_iconst (v := (0 : Int32)) hx hb dX10_inside_14 (by decide) ?_
      subst h
      exact hQ nb_0 _ _ _ _ dX10_inside_15 hW
    · have h := in_h c_2 h
      refine lv_iconst (v := (1 : Int32)) hx hb dX10_inside_10 (by decide) ?_
      refine lv_goto (tgt := 15) hx hb dX10_inside_11 (by decide) ?_
      subst h
      exact hQ nb_1 _ _ _ _ dX10_inside_15 hW
theorem ctX10_inside {l : Launch} {G : va_G} {cI cZ cO : ClassId} (x0 : Int32) (x1 : Int32) (x2 : Int32) {res : Int32} (h : fX10_inside x0 x1 x2 = res) : MI l G cI cZ cO yX10_inside cX10_inside 3 .boolean rX10_inside [.int x0, .int x1, .int x2] (wX10_inside cI cZ) (res) (wX10_inside cI cZ) := by
  refine MI.of (by decide) (Nat.le_of_ble_eq_true rfl) ?_
  intro p e s m below meth c A Q C hW hQ ls hl
  exact uX10_inside_0 x0 x1 x2 C hQ h _ _ hW _ hl
abbrev wX2_isFree (cI cZ : ClassId) (a_this a_best a_allowed a_pay : Nat) (v_allowed : Nat → Int32) : va_W := [(a_this, .inr (2, [.ref a_best, .ref a_allowed, .ref a_pay])), (a_allowed, .inl (cI, 8, .inl v_allowed))]
abbrev rX2_isFree : Room := { frames := 1, cells := 0, slots := 0, locals := 22 }
set_option maxRecDepth 20000 in
theorem uX2_isFree_0 {a_this a_best a_allowed a_pay : Nat} (x1 : Int32) (x2 : Int32) (x3 : Int32) (v_allowed : Nat → Int32) {res : Int32} (C : Cx p s m av meth c RX2 cX2_isFree 4 (some .boolean) G cI cZ cO A) (hQ : RI p l e rX2_isFree s m av below meth c G A cX2_isFree .boolean Q (res) (wX2_isFree cI cZ a_this a_best a_allowed a_pay v_allowed)) (h : fX2_isFree x1 x2 x3 v_allowed = some res) (H : Heap) (locs : List Loc) (hW : HW G A s (wX2_isFree cI cZ a_this a_best a_allowed a_pay v_allowed) H locs) (ls : Array Slot) (hl : lv_has ls 4 [(0, .ref a_this), (1, .int x1), (2, .int x2), (3, .int x3)]) : W p l e rX2_isFree s m av below meth c H locs 0 0 Q (F0 m 0 ls []) := by
  have hx := C.1
  have hb := C.2.1
  unfold fX2_isFree at h
  refine lv_iload_n hx hb dX2_isFree_0 rfl (lv_at hl 1 rfl) ?_
  refine lv_iconst (v := (0 : Int32)) hx hb dX2_isFree_1 (by decide) ?_
  refine lv_bipush (v := (7 : Int32)) hx hb dX2_isFree_2 (by decide) ?_
  refine callNI0 C lk_RX2_69 (ctX10_inside x1 (0 : Int32) (7 : Int32) rfl) hW hl rfl ⟨rfl, rfl⟩ ⟨(Nat.le_of_ble_eq_true rfl), (Nat.le_of_ble_eq_true rfl)⟩ ⟨Nat.zero_le _, Nat.zero_le _⟩ rfl (Nat.le_of_ble_eq_true rfl) dX2_isFree_4 (fun H locs hW => ?_)
  refine lv_if_eq (tgt := 31) hx hb dX2_isFree_7 (by decide) (fun c_1 => ?_) (fun c_1 => ?_)
  · have h := ip_h c_1 h
    refine lv_iconst (v := (0 : Int32)) hx hb dX2_isFree_31 (by decide) ?_
    obtain rfl := Option.some.inj h
    exact hQ nb_0 _ _ _ _ dX2_isFree_32 hW
  · have h := in_h c_1 h
    refine lv_aload_n hx hb dX2_isFree_10 rfl (lv_at hl 0 rfl) ?_
    refine getW C fl_RX2_15 hW 0 rfl rfl dX2_isFree_11 ?_
    refine lv_iload_n hx hb dX2_isFree_14 rfl (lv_at hl 1 rfl) ?_
    obtain ⟨g_2, h⟩ := gd_h h
    refine ialdW C hW 1 rfl g_2 dX2_isFree_15 ?_
    refine lv_iload_n hx hb dX2_isFree_16 rfl (lv_at hl 3 rfl) ?_
    refine lv_iconst (v := (-1 : Int32)) hx hb dX2_isFree_17 (by decide) ?_
    refine lv_ixor hx hb dX2_isFree_18 ?_
    refine lv_iand hx hb dX2_isFree_19 ?_
    refine lv_iload_n hx hb dX2_isFree_20 rfl (lv_at hl 2 rfl) ?_
    refine callNI0 C lk_RX2_33 (ctX10_hasBit ((v_allowed (Int32.toNatClampNeg x1)) &&& (x3 ^^^ (-1 : Int32))) x2 rfl) hW hl rfl ⟨rfl, rfl⟩ ⟨(Nat.le_of_ble_eq_true rfl), (Nat.le_of_ble_eq_true rfl)⟩ ⟨Nat.zero_le _, Nat.zero_le _⟩ rfl (Nat.le_of_ble_eq_true rfl) dX2_isFree_21 (fun H locs hW => ?_)
    refine lv_if_eq (tgt := 31) hx hb dX2_isFree_24 (by decide) (fun c_3 => ?_) (fun c_3 => ?_)
    · have h := ip_h c_3 h
      refine lv_iconst (v := (0 : Int32)) hx hb dX2_isFree_31 (by decide) ?_
      obtain rfl := Option.some.inj h
      exact hQ nb_0 _ _ _ _ dX2_isFree_32 hW
    · have h := in_h c_3 h
      refine lv_iconst (v := (1 : Int32)) hx hb dX2_isFree_27 (by decide) ?_
      refine lv_goto (tgt := 32) hx hb dX2_isFree_28 (by decide) ?_
      obtain rfl := Option.some.inj h
      exact hQ nb_1 _ _ _ _ dX2_isFree_32 hW
theorem ctX2_isFree {l : Launch} {G : va_G} {cI cZ cO : ClassId} (a_this a_best a_allowed a_pay : Nat) (x1 : Int32) (x2 : Int32) (x3 : Int32) (v_allowed : Nat → Int32) {res : Int32} (h : fX2_isFree x1 x2 x3 v_allowed = some res) : MI l G cI cZ cO yX2_isFree cX2_isFree 4 .boolean rX2_isFree [.ref a_this, .int x1, .int x2, .int x3] (wX2_isFree cI cZ a_this a_best a_allowed a_pay v_allowed) (res) (wX2_isFree cI cZ a_this a_best a_allowed a_pay v_allowed) := by
  refine MI.of (by decide) (Nat.le_of_ble_eq_true rfl) ?_
  intro p e s m below meth c A Q C hW hQ ls hl
  exact uX2_isFree_0 x1 x2 x3 v_allowed C hQ h _ _ hW _ hl
abbrev wX2_payWith (cI cZ : ClassId) (a_this a_best a_allowed a_pay : Nat) (v_pay : Nat → Int32) (v_best : Nat → Int32) : va_W := [(a_this, .inr (2, [.ref a_best, .ref a_allowed, .ref a_pay])), (a_pay, .inl (cI, 8, .inl v_pay)), (a_best, .inl (cI, 288, .inl v_best))]
abbrev rX2_payWith : Room := { frames := 1, cells := 0, slots := 0, locals := 23 }
set_option maxRecDepth 20000 in
theorem uX2_payWith_0 {a_this a_best a_allowed a_pay : Nat} (x1 : Int32) (x2 : Int32) (x3 : Int32) (v_pay : Nat → Int32) (v_best : Nat → Int32) {res : Int32} (C : Cx p s m av meth c RX2 cX2_payWith 4 (some .int) G cI cZ cO A) (hQ : RI p l e rX2_payWith s m av below meth c G A cX2_payWith .int Q (res) (wX2_payWith cI cZ a_this a_best a_allowed a_pay v_pay v_best)) (h : fX2_payWith x1 x2 x3 v_pay v_best = some res) (H : Heap) (locs : List Loc) (hW : HW G A s (wX2_payWith cI cZ a_this a_best a_allowed a_pay v_pay v_best) H locs) (ls : Array Slot) (hl : lv_has ls 4 [(0, .ref a_this), (1, .int x1), (2, .int x2), (3, .int x3)]) : W p l e rX2_payWith s m av below meth c H locs 0 0 Q (F0 m 0 ls []) := by
  have hx := C.1
  have hb := C.2.1
  unfold fX2_payWith at h
  refine lv_iload_n hx hb dX2_payWith_0 rfl (lv_at hl 1 rfl) ?_
  refine lv_iconst (v := (0 : Int32)) hx hb dX2_payWith_1 (by decide) ?_
  refine lv_bipush (v := (7 : Int32)) hx hb dX2_payWith_2 (by decide) ?_
  refine callNI0 C lk_RX2_69 (ctX10_inside x1 (0 : Int32) (7 : Int32) rfl) hW hl rfl ⟨rfl, rfl⟩ ⟨(Nat.le_of_ble_eq_true rfl), (Nat.le_of_ble_eq_true rfl)⟩ ⟨Nat.zero_le _, Nat.zero_le _⟩ rfl (Nat.le_of_ble_eq_true rfl) dX2_payWith_4 (fun H locs hW => ?_)
  refine lv_if_ne (tgt := 12) hx hb dX2_payWith_7 (by decide) (fun c_1 => ?_) (fun c_1 => ?_)
  · have h := in_h c_1 h
    refine lv_aload_n hx hb dX2_payWith_12 rfl (lv_at hl 0 rfl) ?_
    refine getW C fl_RX2_18 hW 0 rfl rfl dX2_payWith_13 ?_
    refine lv_iload_n hx hb dX2_payWith_16 rfl (lv_at hl 1 rfl) ?_
    obtain ⟨g_2, h⟩ := gd_h h
    refine ialdW C hW 1 rfl g_2 dX2_payWith_17 ?_
    refine lv_aload_n hx hb dX2_payWith_18 rfl (lv_at hl 0 rfl) ?_
    refine lv_iload_n hx hb dX2_payWith_19 rfl (lv_at hl 1 rfl) ?_
    refine lv_iload_n hx hb dX2_payWith_20 rfl (lv_at hl 3 rfl) ?_
    refine lv_iconst (v := (1 : Int32)) hx hb dX2_payWith_21 (by decide) ?_
    refine lv_iload_n hx hb dX2_payWith_22 rfl (lv_at hl 2 rfl) ?_
    refine lv_ishl hx hb dX2_payWith_23 ?_
    refine lv_ior hx hb dX2_payWith_24 ?_
    obtain ⟨v_3, hv_3, h⟩ := bd_h h
    refine callVIr [0, 2] C lk_RX2_53 (ctX2_payBehind a_this a_best a_allowed a_pay x1 (x3 ||| ((1 : Int32) <<< (x2 &&& 31))) v_best hv_3) hW hl 2 rfl rfl rfl rfl rfl ⟨rfl, rfl⟩ ⟨(Nat.le_of_ble_eq_true rfl), (Nat.le_of_ble_eq_true rfl)⟩ ⟨Nat.zero_le _, Nat.zero_le _⟩ rfl (Nat.le_of_ble_eq_true rfl) dX2_payWith_25 (fun H locs hW => ?_)
    refine lv_iadd hx hb dX2_payWith_28 ?_
    obtain rfl := Option.some.inj h
    exact hQ rfl _ _ _ _ dX2_payWith_29 hW
  · have h := ip_h c_1 h
    refine lv_iconst (v := (0 : Int32)) hx hb dX2_payWith_10 (by decide) ?_
    obtain rfl := Option.some.inj h
    exact hQ rfl _ _ _ _ dX2_payWith_11 hW
theorem ctX2_payWith {l : Launch} {G : va_G} {cI cZ cO : ClassId} (a_this a_best a_allowed a_pay : Nat) (x1 : Int32) (x2 : Int32) (x3 : Int32) (v_pay : Nat → Int32) (v_best : Nat → Int32) {res : Int32} (h : fX2_payWith x1 x2 x3 v_pay v_best = some res) : MI l G cI cZ cO yX2_payWith cX2_payWith 4 .int rX2_payWith [.ref a_this, .int x1, .int x2, .int x3] (wX2_payWith cI cZ a_this a_best a_allowed a_pay v_pay v_best) (res) (wX2_payWith cI cZ a_this a_best a_allowed a_pay v_pay v_best) := by
  refine MI.of (by decide) (Nat.le_of_ble_eq_true rfl) ?_
  intro p e s m below meth c A Q C hW hQ ls hl
  exact uX2_payWith_0 x1 x2 x3 v_pay v_best C hQ h _ _ hW _ hl
abbrev wX2_bestFrom (cI cZ : ClassId) (a_this a_best a_allowed a_pay : Nat) (v_best : Nat → Int32) (v_allowed : Nat → Int32) (v_pay : Nat → Int32) : va_W := [(a_this, .inr (2, [.ref a_best, .ref a_allowed, .ref a_pay])), (a_best, .inl (cI, 288, .inl v_best)), (a_allowed, .inl (cI, 8, .inl v_allowed)), (a_pay, .inl (cI, 8, .inl v_pay))]
abbrev rX2_bestFrom : Room := { frames := 2, cells := 0, slots := 0, locals := 46 }
set_option maxRecDepth 20000 in
theorem uX2_bestFrom_10 {a_this a_best a_allowed a_pay : Nat} (x1 : Int32) (x2 : Int32) (x3 : Int32) (x4 : Int32) (v_best : Nat → Int32) (v_allowed : Nat → Int32) (v_pay : Nat → Int32) {res : Int32} (C : Cx p s m av meth c RX2 cX2_bestFrom 5 (some .int) G cI cZ cO A) (hQ : RI p l e rX2_bestFrom s m av below meth c G A cX2_bestFrom .int Q (res) (wX2_bestFrom cI cZ a_this a_best a_allowed a_pay v_best v_allowed v_pay)) {k10 : (Int32) → (Int32) → Option (Int32)} (hk10 : ∀ (x3 : Int32) (x4 : Int32), k10 x3 x4 = some res → ∀ (H : Heap) (locs : List Loc), HW G A s (wX2_bestFrom cI cZ a_this a_best a_allowed a_pay v_best v_allowed v_pay) H locs → ∀ ls : Array Slot, lv_has ls 5 [(0, .ref a_this), (1, .int x1), (2, .int x2), (3, .int x3), (4, .int x4)] → W p l e rX2_bestFrom s m av below meth c H locs 0 0 Q (F0 m 10 ls [])) (h : FX2_bestFrom_10 x1 x2 v_best v_allowed v_pay k10 x3 x4 = some res) (H : Heap) (locs : List Loc) (hW : HW G A s (wX2_bestFrom cI cZ a_this a_best a_allowed a_pay v_best v_allowed v_pay) H locs) (ls : Array Slot) (hl : lv_has ls 5 [(0, .ref a_this), (1, .int x1), (2, .int x2), (3, .int x3), (4, .int x4)]) : W p l e rX2_bestFrom s m av below meth c H locs 0 0 Q (F0 m 10 ls []) := by
  have hx := C.1
  have hb := C.2.1
  unfold FX2_bestFrom_10 at h
  refine lv_iload hx hb dX2_bestFrom_10 (lv_at hl 4 rfl) ?_
  refine lv_iconst (v := (5 : Int32)) hx hb dX2_bestFrom_12 (by decide) ?_
  refine lv_icmp_ge (tgt := 46) hx hb dX2_bestFrom_13 (by decide) (fun c_2 => ?_) (fun c_2 => ?_)
  · have h := ip_h c_2 h
    refine lv_iload_n hx hb dX2_bestFrom_46 rfl (lv_at hl 3 rfl) ?_
    obtain rfl := Option.some.inj h
    exact hQ rfl _ _ _ _ dX2_bestFrom_47 hW
  · have h := in_h c_2 h
    refine lv_aload_n hx hb dX2_bestFrom_16 rfl (lv_at hl 0 rfl) ?_
    refine lv_iload_n hx hb dX2_bestFrom_17 rfl (lv_at hl 1 rfl) ?_
    refine lv_iload hx hb dX2_bestFrom_18 (lv_at hl 4 rfl) ?_
    refine lv_iload_n hx hb dX2_bestFrom_20 rfl (lv_at hl 2 rfl) ?_
    obtain ⟨v_3, hv_3, h⟩ := bd_h h
    refine callVIr [0, 2] C lk_RX2_56 (ctX2_isFree a_this a_best a_allowed a_pay x1 x4 x2 v_allowed hv_3) hW hl 2 rfl rfl rfl rfl rfl ⟨rfl, rfl⟩ ⟨(Nat.le_of_ble_eq_true rfl), (Nat.le_of_ble_eq_true rfl)⟩ ⟨Nat.zero_le _, Nat.zero_le _⟩ rfl (Nat.le_of_ble_eq_true rfl) dX2_bestFrom_21 (fun H locs hW => ?_)
    refine lv_if_eq (tgt := 40) hx hb dX2_bestFrom_24 (by decide) (fun c_4 => ?_) (fun c_4 => ?_)
    · have h := ip_h c_4 h
      obtain ⟨v_5, ev_5⟩ : ∃ y : Int32, y = x4 + (1 : Int32) := ⟨_, rfl⟩
      have h := lt_h ev_5 h
      refine lv_iinc (v := v_5) (lv' := [(4, .int v_5), (0, .ref a_this), (1, .int x1), (2, .int x2), (3, .int x3)]) hx hb dX2_bestFrom_40 hl (k := 4) rfl (by rw [ev_5]; rfl) (Nat.le_of_ble_eq_true rfl) rfl (fun ls hl => ?_)
      refine lv_goto (tgt := 10) hx hb dX2_bestFrom_43 (by decide) ?_
      exact hk10 x3 v_5 h _ _ hW _ (lv_sub hl [1, 2, 3, 4, 0] rfl)
    · have h := in_h c_4 h
      refine lv_iload_n hx hb dX2_bestFrom_27 rfl (lv_at hl 3 rfl) ?_
      refine lv_aload_n hx hb dX2_bestFrom_28 rfl (lv_at hl 0 rfl) ?_
      refine lv_iload_n hx hb dX2_bestFrom_29 rfl (lv_at hl 1 rfl) ?_
      refine lv_iload hx hb dX2_bestFrom_30 (lv_at hl 4 rfl) ?_
      refine lv_iload_n hx hb dX2_bestFrom_32 rfl (lv_at hl 2 rfl) ?_
      obtain ⟨v_6, hv_6, h⟩ := bd_h h
      refine callVIr [0, 3, 1] C lk_RX2_60 (ctX2_payWith a_this a_best a_allowed a_pay x1 x4 x2 v_pay v_best hv_6) hW hl 2 rfl rfl rfl rfl rfl ⟨rfl, rfl⟩ ⟨(Nat.le_of_ble_eq_true rfl), (Nat.le_of_ble_eq_true rfl)⟩ ⟨Nat.zero_le _, Nat.zero_le _⟩ rfl (Nat.le_of_ble_eq_true rfl) dX2_bestFrom_33 (fun H locs hW => ?_)
      refine maxW C lk_RX2_64 hl (Nat.le_of_ble_eq_true rfl) (Nat.le_of_ble_eq_true rfl) ⟨Nat.zero_le _, Nat.zero_le _⟩ dX2_bestFrom_36 ?_
      refine lv_topi (fun v_7 ev_7 => ?_)
      have h := lt_h ev_7 h
      refine lv_istore_n (lv' := [(3, .int v_7), (0, .ref a_this), (1, .int x1), (2, .int x2), (4, .int x4)]) hx hb dX2_bestFrom_39 rfl hl (Nat.le_of_ble_eq_true rfl) rfl (fun ls hl => ?_)
      obtain ⟨v_8, ev_8⟩ : ∃ y : Int32, y = x4 + (1 : Int32) := ⟨_, rfl⟩
      have h := lt_h ev_8 h
      refine lv_iinc (v := v_8) (lv' := [(4, .int v_8), (3, .int v_7), (0, .ref a_this), (1, .int x1), (2, .int x2)]) hx hb dX2_bestFrom_40 hl (k := 4) rfl (by rw [ev_8]; rfl) (Nat.le_of_ble_eq_true rfl) rfl (fun ls hl => ?_)
      refine lv_goto (tgt := 10) hx hb dX2_bestFrom_43 (by decide) ?_
      exact hk10 v_7 v_8 h _ _ hW _ (lv_sub hl [2, 3, 4, 1, 0] rfl)
theorem wX2_bestFrom_10_ {a_this a_best a_allowed a_pay : Nat} (x1 : Int32) (x2 : Int32) (v_best : Nat → Int32) (v_allowed : Nat → Int32) (v_pay : Nat → Int32) {res : Int32} (C : Cx p s m av meth c RX2 cX2_bestFrom 5 (some .int) G cI cZ cO A) (hQ : RI p l e rX2_bestFrom s m av below meth c G A cX2_bestFrom .int Q (res) (wX2_bestFrom cI cZ a_this a_best a_allowed a_pay v_best v_allowed v_pay)) : ∀ (n : Nat) (x3 : Int32) (x4 : Int32), LX2_bestFrom_10 x1 x2 v_best v_allowed v_pay n x3 x4 = some res → ∀ (H : Heap) (locs : List Loc), HW G A s (wX2_bestFrom cI cZ a_this a_best a_allowed a_pay v_best v_allowed v_pay) H locs → ∀ ls : Array Slot, lv_has ls 5 [(0, .ref a_this), (1, .int x1), (2, .int x2), (3, .int x3), (4, .int x4)] → W p l e rX2_bestFrom s m av below meth c H locs 0 0 Q (F0 m 10 ls []) := by
  intro n
  induction n with
  | zero => intro x3 x4 h; cases h
  | succ n ih =>
    intro x3 x4 h H locs hW ls hl
    exact uX2_bestFrom_10 x1 x2 x3 x4 v_best v_allowed v_pay C hQ (k10 := LX2_bestFrom_10 x1 x2 v_best v_allowed v_pay n) ih h H locs hW ls hl
set_option maxRecDepth 20000 in
theorem uX2_bestFrom_0 {a_this a_best a_allowed a_pay : Nat} (x1 : Int32) (x2 : Int32) (v_best : Nat → Int32) (v_allowed : Nat → Int32) (v_pay : Nat → Int32) {res : Int32} (C : Cx p s m av meth c RX2 cX2_bestFrom 5 (some .int) G cI cZ cO A) (hQ : RI p l e rX2_bestFrom s m av below meth c G A cX2_bestFrom .int Q (res) (wX2_bestFrom cI cZ a_this a_best a_allowed a_pay v_best v_allowed v_pay)) (h : fX2_bestFrom x1 x2 v_best v_allowed v_pay = some res) (H : Heap) (locs : List Loc) (hW : HW G A s (wX2_bestFrom cI cZ a_this a_best a_allowed a_pay v_best v_allowed v_pay) H locs) (ls : Array Slot) (hl : lv_has ls 5 [(0, .ref a_this), (1, .int x1), (2, .int x2)]) : W p l e rX2_bestFrom s m av below meth c H locs 0 0 Q (F0 m 0 ls []) := by
  have hx := C.1
  have hb := C.2.1
  unfold fX2_bestFrom at h
  refine lv_aload_n hx hb dX2_bestFrom_0 rfl (lv_at hl 0 rfl) ?_
  refine lv_iload_n hx hb dX2_bestFrom_1 rfl (lv_at hl 1 rfl) ?_
  refine lv_iload_n hx hb dX2_bestFrom_2 rfl (lv_at hl 2 rfl) ?_
  obtain ⟨v_1, hv_1, h⟩ := bd_h h
  refine callVIr [0, 1] C lk_RX2_53 (ctX2_payBehind a_this a_best a_allowed a_pay x1 x2 v_best hv_1) hW hl 2 rfl rfl rfl rfl rfl ⟨rfl, rfl⟩ ⟨(Nat.le_of_ble_eq_true rfl), (Nat.le_of_ble_eq_true rfl)⟩ ⟨Nat.zero_le _, Nat.zero_le _⟩ rfl (Nat.le_of_ble_eq_true rfl) dX2_bestFrom_3 (fun H locs hW => ?_)
  refine lv_istore_n (lv' := [(3, .int v_1), (0, .ref a_this), (1, .int x1), (2, .int x2)]) hx hb dX2_bestFrom_6 rfl hl (Nat.le_of_ble_eq_true rfl) rfl (fun ls hl => ?_)
  refine lv_iconst (v := (0 : Int32)) hx hb dX2_bestFrom_7 (by decide) ?_
  refine lv_istore (lv' := [(4, .int (0 : Int32)), (3, .int v_1), (0, .ref a_this), (1, .int x1), (2, .int x2)]) hx hb dX2_bestFrom_8 hl (Nat.le_of_ble_eq_true rfl) rfl (fun ls hl => ?_)
  exact wX2_bestFrom_10_ x1 x2 v_best v_allowed v_pay C hQ 2000 v_1 (0 : Int32) h _ _ hW _ (lv_sub hl [2, 3, 4, 1, 0] rfl)
theorem ctX2_bestFrom {l : Launch} {G : va_G} {cI cZ cO : ClassId} (a_this a_best a_allowed a_pay : Nat) (x1 : Int32) (x2 : Int32) (v_best : Nat → Int32) (v_allowed : Nat → Int32) (v_pay : Nat → Int32) {res : Int32} (h : fX2_bestFrom x1 x2 v_best v_allowed v_pay = some res) : MI l G cI cZ cO yX2_bestFrom cX2_bestFrom 5 .int rX2_bestFrom [.ref a_this, .int x1, .int x2] (wX2_bestFrom cI cZ a_this a_best a_allowed a_pay v_best v_allowed v_pay) (res) (wX2_bestFrom cI cZ a_this a_best a_allowed a_pay v_best v_allowed v_pay) := by
  refine MI.of (by decide) (Nat.le_of_ble_eq_true rfl) ?_
  intro p e s m below meth c A Q C hW hQ ls hl
  exact uX2_bestFrom_0 x1 x2 v_best v_allowed v_pay C hQ h _ _ hW _ hl
abbrev wX5_payOf (cI cZ : ClassId) (a_this a_deep a_fine a_pay a_hair : Nat) (v_flat : Int32) (v_least : Int32) (v_pay : Nat → Int32) : va_W := [(a_this, .inr (5, [.int v_flat, .int v_least, .ref a_deep, .ref a_fine, .ref a_pay, .ref a_hair])), (a_pay, .inl (cI, 8, .inl v_pay))]
abbrev rX5_payOf : Room := { frames := 1, cells := 0, slots := 0, locals := 22 }
set_option maxRecDepth 20000 in
theorem uX5_payOf_0 {a_this a_deep a_fine a_pay a_hair : Nat} (x1 : Int32) (v_flat : Int32) (v_least : Int32) (v_pay : Nat → Int32) {res : Int32} (C : Cx p s m av meth c RX5 cX5_payOf 2 (some .int) G cI cZ cO A) (hQ : RI p l e rX5_payOf s m av below meth c G A cX5_payOf .int Q (res) (wX5_payOf cI cZ a_this a_deep a_fine a_pay a_hair v_flat v_least v_pay)) (h : fX5_payOf x1 v_pay = some res) (H : Heap) (locs : List Loc) (hW : HW G A s (wX5_payOf cI cZ a_this a_deep a_fine a_pay a_hair v_flat v_least v_pay) H locs) (ls : Array Slot) (hl : lv_has ls 2 [(0, .ref a_this), (1, .int x1)]) : W p l e rX5_payOf s m av below meth c H locs 0 0 Q (F0 m 0 ls []) := by
  have hx := C.1
  have hb := C.2.1
  unfold fX5_payOf at h
  refine lv_iload_n hx hb dX5_payOf_0 rfl (lv_at hl 1 rfl) ?_
  refine lv_iconst (v := (0 : Int32)) hx hb dX5_payOf_1 (by decide) ?_
  refine lv_bipush (v := (7 : Int32)) hx hb dX5_payOf_2 (by decide) ?_
  refine callNI0 C lk_RX5_37 (ctX10_inside x1 (0 : Int32) (7 : Int32) rfl) hW hl rfl ⟨rfl, rfl⟩ ⟨(Nat.le_of_ble_eq_true rfl), (Nat.le_of_ble_eq_true rfl)⟩ ⟨Nat.zero_le _, Nat.zero_le _⟩ rfl (Nat.le_of_ble_eq_true rfl) dX5_payOf_4 (fun H locs hW => ?_)
  refine lv_if_eq (tgt := 19) hx hb dX5_payOf_7 (by decide) (fun c_1 => ?_) (fun c_1 => ?_)
  · have h := ip_h c_1 h
    refine lv_iconst (v := (0 : Int32)) hx hb dX5_payOf_19 (by decide) ?_
    obtain rfl := Option.some.inj h
    exact hQ rfl _ _ _ _ dX5_payOf_20 hW
  · have h := in_h c_1 h
    refine lv_aload_n hx hb dX5_payOf_10 rfl (lv_at hl 0 rfl) ?_
    refine getW C fl_RX5_25 hW 0 rfl rfl dX5_payOf_11 ?_
    refine lv_iload_n hx hb dX5_payOf_14 rfl (lv_at hl 1 rfl) ?_
    obtain ⟨g_2, h⟩ := gd_h h
    refine ialdW C hW 1 rfl g_2 dX5_payOf_15 ?_
    refine lv_goto (tgt := 20) hx hb dX5_payOf_16 (by decide) ?_
    obtain rfl := Option.some.inj h
    exact hQ rfl _ _ _ _ dX5_payOf_20 hW
theorem ctX5_payOf {l : Launch} {G : va_G} {cI cZ cO : ClassId} (a_this a_deep a_fine a_pay a_hair : Nat) (x1 : Int32) (v_flat : Int32) (v_least : Int32) (v_pay : Nat → Int32) {res : Int32} (h : fX5_payOf x1 v_pay = some res) : MI l G cI cZ cO yX5_payOf cX5_payOf 2 .int rX5_payOf [.ref a_this, .int x1] (wX5_payOf cI cZ a_this a_deep a_fine a_pay a_hair v_flat v_least v_pay) (res) (wX5_payOf cI cZ a_this a_deep a_fine a_pay a_hair v_flat v_least v_pay) := by
  refine MI.of (by decide) (Nat.le_of_ble_eq_true rfl) ?_
  intro p e s m below meth c A Q C hW hQ ls hl
  exact uX5_payOf_0 x1 v_flat v_least v_pay C hQ h _ _ hW _ hl
abbrev wX6_has (cI cZ : ClassId) (a_this a_thick a_hollow a_damp a_fresh a_pulls a_fats : Nat) (v_there : Int32) : va_W := [(a_this, .inr (6, [.int v_there, .ref a_thick, .ref a_hollow, .ref a_damp, .ref a_fresh, .ref a_pulls, .ref a_fats]))]
abbrev rX6_has : Room := { frames := 0, cells := 0, slots := 0, locals := 0 }
set_option maxRecDepth 20000 in
theorem uX6_has_0 {a_this a_thick a_hollow a_damp a_fresh a_pulls a_fats : Nat} (x1 : Int32) (v_there : Int32) {res : Int32} (C : Cx p s m av meth c RX6 cX6_has 2 (some .boolean) G cI cZ cO A) (hQ : RI p l e rX6_has s m av below meth c G A cX6_has .boolean Q (res) (wX6_has cI cZ a_this a_thick a_hollow a_damp a_fresh a_pulls a_fats v_there)) (h : fX6_has x1 v_there = res) (H : Heap) (locs : List Loc) (hW : HW G A s (wX6_has cI cZ a_this a_thick a_hollow a_damp a_fresh a_pulls a_fats v_there) H locs) (ls : Array Slot) (hl : lv_has ls 2 [(0, .ref a_this), (1, .int x1)]) : W p l e rX6_has s m av below meth c H locs 0 0 Q (F0 m 0 ls []) := by
  have hx := C.1
  have hb := C.2.1
  unfold fX6_has at h
  refine lv_iload_n hx hb dX6_has_0 rfl (lv_at hl 1 rfl) ?_
  refine lv_if_lt (tgt := 25) hx hb dX6_has_1 (by decide) (fun c_1 => ?_) (fun c_1 => ?_)
  · have h := ip_h c_1 h
    refine lv_iconst (v := (0 : Int32)) hx hb dX6_has_25 (by decide) ?_
    subst h
    exact hQ nb_0 _ _ _ _ dX6_has_26 hW
  · have h := in_h c_1 h
    refine lv_iload_n hx hb dX6_has_4 rfl (lv_at hl 1 rfl) ?_
    refine lv_iconst (v := (5 : Int32)) hx hb dX6_has_5 (by decide) ?_
    refine lv_icmp_ge (tgt := 25) hx hb dX6_has_6 (by decide) (fun c_2 => ?_) (fun c_2 => ?_)
    · have h := ip_h c_2 h
      refine lv_iconst (v := (0 : Int32)) hx hb dX6_has_25 (by decide) ?_
      subst h
      exact hQ nb_0 _ _ _ _ dX6_has_26 hW
    · have h := in_h c_2 h
      refine lv_aload_n hx hb dX6_has_9 rfl (lv_at hl 0 rfl) ?_
      refine getW C fl_RX6_30 hW 0 rfl rfl dX6_has_10 ?_
      refine lv_iload_n hx hb dX6_has_13 rfl (lv_at hl 1 rfl) ?_
      refine lv_ishr hx hb dX6_has_14 ?_
      refine lv_iconst (v := (1 : Int32)) hx hb dX6_has_15 (by decide) ?_
      refine lv_iand hx hb dX6_has_16 ?_
      refine lv_iconst (v := (1 : Int32)) hx hb dX6_has_17 (by decide) ?_
      refine lv_icmp_ne (tgt := 25) hx hb dX6_has_18 (by decide) (fun c_3 => ?_) (fun c_3 => ?_)
      · have h := in_h c_3 h
        refine lv_iconst (v := (0 : Int32)) hx hb dX6_has_25 (by decide) ?_
        subst h
        exact hQ nb_0 _ _ _ _ dX6_has_26 hW
      · have h := ip_h c_3 h
        refine lv_iconst (v := (1 : Int32)) hx hb dX6_has_21 (by decide) ?_
        refine lv_goto (tgt := 26) hx hb dX6_has_22 (by decide) ?_
        subst h
        exact hQ nb_1 _ _ _ _ dX6_has_26 hW
theorem ctX6_has {l : Launch} {G : va_G} {cI cZ cO : ClassId} (a_this a_thick a_hollow a_damp a_fresh a_pulls a_fats : Nat) (x1 : Int32) (v_there : Int32) {res : Int32} (h : fX6_has x1 v_there = res) : MI l G cI cZ cO yX6_has cX6_has 2 .boolean rX6_has [.ref a_this, .int x1] (wX6_has cI cZ a_this a_thick a_hollow a_damp a_fresh a_pulls a_fats v_there) (res) (wX6_has cI cZ a_this a_thick a_hollow a_damp a_fresh a_pulls a_fats v_there) := by
  refine MI.of (by decide) (Nat.le_of_ble_eq_true rfl) ?_
  intro p e s m below meth c A Q C hW hQ ls hl
  exact uX6_has_0 x1 v_there C hQ h _ _ hW _ hl
abbrev wX4_takesOrders (cI cZ : ClassId) (a_this a_shelf a_rules a_sights a_shelf_thick a_shelf_hollow a_shelf_damp a_shelf_fresh a_shelf_pulls a_shelf_fats a_rules_deep a_rules_fine a_rules_pay a_rules_hair : Nat) (v_shelf_there : Int32) (v_rules_flat : Int32) (v_rules_least : Int32) (v_shelf_hollow : Nat → Int32) (v_shelf_thick : Nat → Int32) : va_W := [(a_this, .inr (4, [.ref a_shelf, .ref a_rules, .ref a_sights])), (a_shelf, .inr (6, [.int v_shelf_there, .ref a_shelf_thick, .ref a_shelf_hollow, .ref a_shelf_damp, .ref a_shelf_fresh, .ref a_shelf_pulls, .ref a_shelf_fats])), (a_rules, .inr (5, [.int v_rules_flat, .int v_rules_least, .ref a_rules_deep, .ref a_rules_fine, .ref a_rules_pay, .ref a_rules_hair])), (a_shelf_hollow, .inl (cI, 5, .inl v_shelf_hollow)), (a_shelf_thick, .inl (cI, 5, .inl v_shelf_thick))]
abbrev rX4_takesOrders : Room := { frames := 1, cells := 0, slots := 0, locals := 21 }
set_option maxRecDepth 20000 in
theorem uX4_takesOrders_0 {a_this a_shelf a_rules a_sights a_shelf_thick a_shelf_hollow a_shelf_damp a_shelf_fresh a_shelf_pulls a_shelf_fats a_rules_deep a_rules_fine a_rules_pay a_rules_hair : Nat} (x1 : Int32) (v_shelf_there : Int32) (v_rules_flat : Int32) (v_rules_least : Int32) (v_shelf_hollow : Nat → Int32) (v_shelf_thick : Nat → Int32) {res : Int32} (C : Cx p s m av meth c RX4 cX4_takesOrders 2 (some .boolean) G cI cZ cO A) (hQ : RI p l e rX4_takesOrders s m av below meth c G A cX4_takesOrders .boolean Q (res) (wX4_takesOrders cI cZ a_this a_shelf a_rules a_sights a_shelf_thick a_shelf_hollow a_shelf_damp a_shelf_fresh a_shelf_pulls a_shelf_fats a_rules_deep a_rules_fine a_rules_pay a_rules_hair v_shelf_there v_rules_flat v_rules_least v_shelf_hollow v_shelf_thick)) (h : fX4_takesOrders x1 v_shelf_there v_rules_flat v_rules_least v_shelf_hollow v_shelf_thick = some res) (H : Heap) (locs : List Loc) (hW : HW G A s (wX4_takesOrders cI cZ a_this a_shelf a_rules a_sights a_shelf_thick a_shelf_hollow a_shelf_damp a_shelf_fresh a_shelf_pulls a_shelf_fats a_rules_deep a_rules_fine a_rules_pay a_rules_hair v_shelf_there v_rules_flat v_rules_least v_shelf_hollow v_shelf_thick) H locs) (ls : Array Slot) (hl : lv_has ls 2 [(0, .ref a_this), (1, .int x1)]) : W p l e rX4_takesOrders s m av below meth c H locs 0 0 Q (F0 m 0 ls []) := by
  have hx := C.1
  have hb := C.2.1
  unfold fX4_takesOrders at h
  refine lv_aload_n hx hb dX4_takesOrders_0 rfl (lv_at hl 0 rfl) ?_
  refine getW C fl_RX4_12 hW 0 rfl rfl dX4_takesOrders_1 ?_
  refine lv_iload_n hx hb dX4_takesOrders_4 rfl (lv_at hl 1 rfl) ?_
  refine callVIr [1] C lk_RX4_62 (ctX6_has a_shelf a_shelf_thick a_shelf_hollow a_shelf_damp a_shelf_fresh a_shelf_pulls a_shelf_fats x1 v_shelf_there rfl) hW hl 6 rfl rfl rfl rfl rfl ⟨rfl, rfl⟩ ⟨(Nat.le_of_ble_eq_true rfl), (Nat.le_of_ble_eq_true rfl)⟩ ⟨Nat.zero_le _, Nat.zero_le _⟩ rfl (Nat.le_of_ble_eq_true rfl) dX4_takesOrders_5 (fun H locs hW => ?_)
  refine lv_if_eq (tgt := 53) hx hb dX4_takesOrders_8 (by decide) (fun c_1 => ?_) (fun c_1 => ?_)
  · have h := ip_h c_1 h
    refine lv_iconst (v := (0 : Int32)) hx hb dX4_takesOrders_53 (by decide) ?_
    obtain rfl := Option.some.inj h
    exact hQ nb_0 _ _ _ _ dX4_takesOrders_54 hW
  · have h := in_h c_1 h
    refine lv_aload_n hx hb dX4_takesOrders_11 rfl (lv_at hl 0 rfl) ?_
    refine getW C fl_RX4_12 hW 0 rfl rfl dX4_takesOrders_12 ?_
    refine getW C fl_RX4_66 hW 1 rfl rfl dX4_takesOrders_15 ?_
    refine lv_iload_n hx hb dX4_takesOrders_18 rfl (lv_at hl 1 rfl) ?_
    obtain ⟨g_2, h⟩ := gd_h h
    refine ialdW C hW 3 rfl g_2 dX4_takesOrders_19 ?_
    refine lv_aload_n hx hb dX4_takesOrders_20 rfl (lv_at hl 0 rfl) ?_
    refine getW C fl_RX4_21 hW 0 rfl rfl dX4_takesOrders_21 ?_
    refine getW C fl_RX4_70 hW 2 rfl rfl dX4_takesOrders_24 ?_
    refine lv_icmp_gt (tgt := 53) hx hb dX4_takesOrders_27 (by decide) (fun c_3 => ?_) (fun c_3 => ?_)
    · have h := ip_h c_3 h
      refine lv_iconst (v := (0 : Int32)) hx hb dX4_takesOrders_53 (by decide) ?_
      obtain rfl := Option.some.inj h
      exact hQ nb_0 _ _ _ _ dX4_takesOrders_54 hW
    · have h := in_h c_3 h
      refine lv_aload_n hx hb dX4_takesOrders_30 rfl (lv_at hl 0 rfl) ?_
      refine getW C fl_RX4_12 hW 0 rfl rfl dX4_takesOrders_31 ?_
      refine getW C fl_RX4_74 hW 1 rfl rfl dX4_takesOrders_34 ?_
      refine lv_iload_n hx hb dX4_takesOrders_37 rfl (lv_at hl 1 rfl) ?_
      refine ialdW C hW 4 rfl g_2 dX4_takesOrders_38 ?_
      refine lv_aload_n hx hb dX4_takesOrders_39 rfl (lv_at hl 0 rfl) ?_
      refine getW C fl_RX4_21 hW 0 rfl rfl dX4_takesOrders_40 ?_
      refine getW C fl_RX4_77 hW 2 rfl rfl dX4_takesOrders_43 ?_
      refine lv_icmp_lt (tgt := 53) hx hb dX4_takesOrders_46 (by decide) (fun c_4 => ?_) (fun c_4 => ?_)
      · have h := ip_h c_4 h
        refine lv_iconst (v := (0 : Int32)) hx hb dX4_takesOrders_53 (by decide) ?_
        obtain rfl := Option.some.inj h
        exact hQ nb_0 _ _ _ _ dX4_takesOrders_54 hW
      · have h := in_h c_4 h
        refine lv_iconst (v := (1 : Int32)) hx hb dX4_takesOrders_49 (by decide) ?_
        refine lv_goto (tgt := 54) hx hb dX4_takesOrders_50 (by decide) ?_
        obtain rfl := Option.some.inj h
        exact hQ nb_1 _ _ _ _ dX4_takesOrders_54 hW
theorem ctX4_takesOrders {l : Launch} {G : va_G} {cI cZ cO : ClassId} (a_this a_shelf a_rules a_sights a_shelf_thick a_shelf_hollow a_shelf_damp a_shelf_fresh a_shelf_pulls a_shelf_fats a_rules_deep a_rules_fine a_rules_pay a_rules_hair : Nat) (x1 : Int32) (v_shelf_there : Int32) (v_rules_flat : Int32) (v_rules_least : Int32) (v_shelf_hollow : Nat → Int32) (v_shelf_thick : Nat → Int32) {res : Int32} (h : fX4_takesOrders x1 v_shelf_there v_rules_flat v_rules_least v_shelf_hollow v_shelf_thick = some res) : MI l G cI cZ cO yX4_takesOrders cX4_takesOrders 2 .boolean rX4_takesOrders [.ref a_this, .int x1] (wX4_takesOrders cI cZ a_this a_shelf a_rules a_sights a_shelf_thick a_shelf_hollow a_shelf_damp a_shelf_fresh a_shelf_pulls a_shelf_fats a_rules_deep a_rules_fine a_rules_pay a_rules_hair v_shelf_there v_rules_flat v_rules_least v_shelf_hollow v_shelf_thick) (res) (wX4_takesOrders cI cZ a_this a_shelf a_rules a_sights a_shelf_thick a_shelf_hollow a_shelf_damp a_shelf_fresh a_shelf_pulls a_shelf_fats a_rules_deep a_rules_fine a_rules_pay a_rules_hair v_shelf_there v_rules_flat v_rules_least v_shelf_hollow v_shelf_thick) := by
  refine MI.of (by decide) (Nat.le_of_ble_eq_true rfl) ?_
  intro p e s m below meth c A Q C hW hQ ls hl
  exact uX4_takesOrders_0 x1 v_shelf_there v_rules_flat v_rules_least v_shelf_hollow v_shelf_thick C hQ h _ _ hW _ hl
abbrev wX6_ghostFat (cI cZ : ClassId) (a_this a_thick a_hollow a_damp a_fresh a_pulls a_fats : Nat) (v_there : Int32) (v_fats : Nat → Int32) : va_W := [(a_this, .inr (6, [.int v_there, .ref a_thick, .ref a_hollow, .ref a_damp, .ref a_fresh, .ref a_pulls, .ref a_fats])), (a_fats, .inl (cI, 40, .inl v_fats))]
abbrev rX6_ghostFat : Room := { frames := 0, cells := 0, slots := 0, locals := 0 }
set_option maxRecDepth 20000 in
theorem uX6_ghostFat_16 {a_this a_thick a_hollow a_damp a_fresh a_pulls a_fats : Nat} (x1 : Int32) (x2 : Int32) (x3 : Int32) (x4 : Int32) (v_there : Int32) (v_fats : Nat → Int32) {res : Int32} (C : Cx p s m av meth c RX6 cX6_ghostFat 6 (some .int) G cI cZ cO A) (hQ : RI p l e rX6_ghostFat s m av below meth c G A cX6_ghostFat .int Q (res) (wX6_ghostFat cI cZ a_this a_thick a_hollow a_damp a_fresh a_pulls a_fats v_there v_fats)) {k16 : (Int32) → (Int32) → Option (Int32)} (hk16 : ∀ (x3 : Int32) (x4 : Int32), k16 x3 x4 = some res → ∀ (H : Heap) (locs : List Loc), HW G A s (wX6_ghostFat cI cZ a_this a_thick a_hollow a_damp a_fresh a_pulls a_fats v_there v_fats) H locs → ∀ ls : Array Slot, lv_has ls 6 [(0, .ref a_this), (1, .int x1), (2, .int x2), (3, .int x3), (4, .int x4)] → W p l e rX6_ghostFat s m av below meth c H locs 0 0 Q (F0 m 16 ls [])) (h : FX6_ghostFat_16 x1 x2 v_fats k16 x3 x4 = some res) (H : Heap) (locs : List Loc) (hW : HW G A s (wX6_ghostFat cI cZ a_this a_thick a_hollow a_damp a_fresh a_pulls a_fats v_there v_fats) H locs) (ls : Array Slot) (hl : lv_has ls 6 [(0, .ref a_this), (1, .int x1), (2, .int x2), (3, .int x3), (4, .int x4)]) : W p l e rX6_ghostFat s m av below meth c H locs 0 0 Q (F0 m 16 ls []) := by
  have hx := C.1
  have hb := C.2.1
  unfold FX6_ghostFat_16 at h
  refine lv_iload hx hb dX6_ghostFat_16 (lv_at hl 4 rfl) ?_
  refine lv_bipush (v := (8 : Int32)) hx hb dX6_ghostFat_18 (by decide) ?_
  refine lv_icmp_ge (tgt := 58) hx hb dX6_ghostFat_20 (by decide) (fun c_3 => ?_) (fun c_3 => ?_)
  · have h := ip_h c_3 h
    refine lv_iload_n hx hb dX6_ghostFat_58 rfl (lv_at hl 3 rfl) ?_
    obtain rfl := Option.some.inj h
    exact hQ rfl _ _ _ _ dX6_ghostFat_59 hW
  · have h := in_h c_3 h
    refine lv_aload_n hx hb dX6_ghostFat_23 rfl (lv_at hl 0 rfl) ?_
    refine getW C fl_RX6_27 hW 0 rfl rfl dX6_ghostFat_24 ?_
    refine lv_iload_n hx hb dX6_ghostFat_27 rfl (lv_at hl 1 rfl) ?_
    refine lv_bipush (v := (8 : Int32)) hx hb dX6_ghostFat_28 (by decide) ?_
    refine lv_imul hx hb dX6_ghostFat_30 ?_
    refine lv_iload hx hb dX6_ghostFat_31 (lv_at hl 4 rfl) ?_
    refine lv_iadd hx hb dX6_ghostFat_33 ?_
    obtain ⟨g_4, h⟩ := gd_h h
    refine ialdW C hW 1 rfl g_4 dX6_ghostFat_34 ?_
    refine lv_topi (fun v_5 ev_5 => ?_)
    have h := lt_h ev_5 h
    refine lv_istore (lv' := [(5, .int v_5), (0, .ref a_this), (1, .int x1), (2, .int x2), (3, .int x3), (4, .int x4)]) hx hb dX6_ghostFat_35 hl (Nat.le_of_ble_eq_true rfl) rfl (fun ls hl => ?_)
    refine lv_iload hx hb dX6_ghostFat_37 (lv_at hl 5 rfl) ?_
    refine lv_iload_n hx hb dX6_ghostFat_39 rfl (lv_at hl 3 rfl) ?_
    refine lv_icmp_eq (tgt := 52) hx hb dX6_ghostFat_40 (by decide) (fun c_6 => ?_) (fun c_6 => ?_)
    · have h := ip_h c_6 h
      obtain ⟨v_7, ev_7⟩ : ∃ y : Int32, y = x4 + (1 : Int32) := ⟨_, rfl⟩
      have h := lt_h ev_7 h
      refine lv_iinc (v := v_7) (lv' := [(4, .int v_7), (5, .int v_5), (0, .ref a_this), (1, .int x1), (2, .int x2), (3, .int x3)]) hx hb dX6_ghostFat_52 hl (k := 5) rfl (by rw [ev_7]; rfl) (Nat.le_of_ble_eq_true rfl) rfl (fun ls hl => ?_)
      refine lv_goto (tgt := 16) hx hb dX6_ghostFat_55 (by decide) ?_
      exact hk16 x3 v_7 h _ _ hW _ (lv_sub hl [2, 3, 4, 5, 0] rfl)
    · have h := in_h c_6 h
      refine lv_iload hx hb dX6_ghostFat_43 (lv_at hl 0 rfl) ?_
      refine lv_iload_n hx hb dX6_ghostFat_45 rfl (lv_at hl 4 rfl) ?_
      refine lv_icmp_le (tgt := 52) hx hb dX6_ghostFat_46 (by decide) (fun c_8 => ?_) (fun c_8 => ?_)
      · have h := ip_h c_8 h
        obtain ⟨v_9, ev_9⟩ : ∃ y : Int32, y = x4 + (1 : Int32) := ⟨_, rfl⟩
        have h := lt_h ev_9 h
        refine lv_iinc (v := v_9) (lv' := [(4, .int v_9), (5, .int v_5), (0, .ref a_this), (1, .int x1), (2, .int x2), (3, .int x3)]) hx hb dX6_ghostFat_52 hl (k := 5) rfl (by rw [ev_9]; rfl) (Nat.le_of_ble_eq_true rfl) rfl (fun ls hl => ?_)
        refine lv_goto (tgt := 16) hx hb dX6_ghostFat_55 (by decide) ?_
        exact hk16 x3 v_9 h _ _ hW _ (lv_sub hl [2, 3, 4, 5, 0] rfl)
      · have h := in_h c_8 h
        refine lv_iload hx hb dX6_ghostFat_49 (lv_at hl 0 rfl) ?_
        refine lv_istore_n (lv' := [(3, .int v_5), (5, .int v_5), (0, .ref a_this), (1, .int x1), (2, .int x2), (4, .int x4)]) hx hb dX6_ghostFat_51 rfl hl (Nat.le_of_ble_eq_true rfl) rfl (fun ls hl => ?_)
        obtain ⟨v_10, ev_10⟩ : ∃ y : Int32, y = x4 + (1 : Int32) := ⟨_, rfl⟩
        have h := lt_h ev_10 h
        refine lv_iinc (v := v_10) (lv' := [(4, .int v_10), (3, .int v_5), (5, .int v_5), (0, .ref a_this), (1, .int x1), (2, .int x2)]) hx hb dX6_ghostFat_52 hl (k := 5) rfl (by rw [ev_10]; rfl) (Nat.le_of_ble_eq_true rfl) rfl (fun ls hl => ?_)
        refine lv_goto (tgt := 16) hx hb dX6_ghostFat_55 (by decide) ?_
        exact hk16 v_5 v_10 h _ _ hW _ (lv_sub hl [3, 4, 5, 1, 0] rfl)
theorem wX6_ghostFat_16_ {a_this a_thick a_hollow a_damp a_fresh a_pulls a_fats : Nat} (x1 : Int32) (x2 : Int32) (v_there : Int32) (v_fats : Nat → Int32) {res : Int32} (C : Cx p s m av meth c RX6 cX6_ghostFat 6 (some .int) G cI cZ cO A) (hQ : RI p l e rX6_ghostFat s m av below meth c G A cX6_ghostFat .int Q (res) (wX6_ghostFat cI cZ a_this a_thick a_hollow a_damp a_fresh a_pulls a_fats v_there v_fats)) : ∀ (n : Nat) (x3 : Int32) (x4 : Int32), LX6_ghostFat_16 x1 x2 v_fats n x3 x4 = some res → ∀ (H : Heap) (locs : List Loc), HW G A s (wX6_ghostFat cI cZ a_this a_thick a_hollow a_damp a_fresh a_pulls a_fats v_there v_fats) H locs → ∀ ls : Array Slot, lv_has ls 6 [(0, .ref a_this), (1, .int x1), (2, .int x2), (3, .int x3), (4, .int x4)] → W p l e rX6_ghostFat s m av below meth c H locs 0 0 Q (F0 m 16 ls []) := by
  intro n
  induction n with
  | zero => intro x3 x4 h; cases h
  | succ n ih =>
    intro x3 x4 h H locs hW ls hl
    exact uX6_ghostFat_16 x1 x2 x3 x4 v_there v_fats C hQ (k16 := LX6_ghostFat_16 x1 x2 v_fats n) ih h H locs hW ls hl
set_option maxRecDepth 20000 in
theorem uX6_ghostFat_0 {a_this a_thick a_hollow a_damp a_fresh a_pulls a_fats : Nat} (x1 : Int32) (x2 : Int32) (v_there : Int32) (v_fats : Nat → Int32) {res : Int32} (C : Cx p s m av meth c RX6 cX6_ghostFat 6 (some .int) G cI cZ cO A) (hQ : RI p l e rX6_ghostFat s m av below meth c G A cX6_ghostFat .int Q (res) (wX6_ghostFat cI cZ a_this a_thick a_hollow a_damp a_fresh a_pulls a_fats v_there v_fats)) (h : fX6_ghostFat x1 x2 v_fats = some res) (H : Heap) (locs : List Loc) (hW : HW G A s (wX6_ghostFat cI cZ a_this a_thick a_hollow a_damp a_fresh a_pulls a_fats v_there v_fats) H locs) (ls : Array Slot) (hl : lv_has ls 6 [(0, .ref a_this), (1, .int x1), (2, .int x2)]) : W p l e rX6_ghostFat s m av below meth c H locs 0 0 Q (F0 m 0 ls []) := by
  have hx := C.1
  have hb := C.2.1
  unfold fX6_ghostFat at h
  refine lv_iload_n hx hb dX6_ghostFat_0 rfl (lv_at hl 1 rfl) ?_
  refine lv_if_lt (tgt := 9) hx hb dX6_ghostFat_1 (by decide) (fun c_1 => ?_) (fun c_1 => ?_)
  · have h := ip_h c_1 h
    refine lv_iconst (v := (0 : Int32)) hx hb dX6_ghostFat_9 (by decide) ?_
    obtain rfl := Option.some.inj h
    exact hQ rfl _ _ _ _ dX6_ghostFat_10 hW
  · have h := in_h c_1 h
    refine lv_iload_n hx hb dX6_ghostFat_4 rfl (lv_at hl 1 rfl) ?_
    refine lv_iconst (v := (5 : Int32)) hx hb dX6_ghostFat_5 (by decide) ?_
    refine lv_icmp_lt (tgt := 11) hx hb dX6_ghostFat_6 (by decide) (fun c_2 => ?_) (fun c_2 => ?_)
    · have h := ip_h c_2 h
      refine lv_iconst (v := (0 : Int32)) hx hb dX6_ghostFat_11 (by decide) ?_
      refine lv_istore_n (lv' := [(3, .int (0 : Int32)), (0, .ref a_this), (1, .int x1), (2, .int x2)]) hx hb dX6_ghostFat_12 rfl hl (Nat.le_of_ble_eq_true rfl) rfl (fun ls hl => ?_)
      refine lv_iconst (v := (0 : Int32)) hx hb dX6_ghostFat_13 (by decide) ?_
      refine lv_istore (lv' := [(4, .int (0 : Int32)), (3, .int (0 : Int32)), (0, .ref a_this), (1, .int x1), (2, .int x2)]) hx hb dX6_ghostFat_14 hl (Nat.le_of_ble_eq_true rfl) rfl (fun ls hl => ?_)
      exact wX6_ghostFat_16_ x1 x2 v_there v_fats C hQ 2000 (0 : Int32) (0 : Int32) h _ _ hW _ (lv_sub hl [2, 3, 4, 1, 0] rfl)
    · have h := in_h c_2 h
      refine lv_iconst (v := (0 : Int32)) hx hb dX6_ghostFat_9 (by decide) ?_
      obtain rfl := Option.some.inj h
      exact hQ rfl _ _ _ _ dX6_ghostFat_10 hW
theorem ctX6_ghostFat {l : Launch} {G : va_G} {cI cZ cO : ClassId} (a_this a_thick a_hollow a_damp a_fresh a_pulls a_fats : Nat) (x1 : Int32) (x2 : Int32) (v_there : Int32) (v_fats : Nat → Int32) {res : Int32} (h : fX6_ghostFat x1 x2 v_fats = some res) : MI l G cI cZ cO yX6_ghostFat cX6_ghostFat 6 .int rX6_ghostFat [.ref a_this, .int x1, .int x2] (wX6_ghostFat cI cZ a_this a_thick a_hollow a_damp a_fresh a_pulls a_fats v_there v_fats) (res) (wX6_ghostFat cI cZ a_this a_thick a_hollow a_damp a_fresh a_pulls a_fats v_there v_fats) := by
  refine MI.of (by decide) (Nat.le_of_ble_eq_true rfl) ?_
  intro p e s m below meth c A Q C hW hQ ls hl
  exact uX6_ghostFat_0 x1 x2 v_there v_fats C hQ h _ _ hW _ hl
abbrev wX5_deepOf (cI cZ : ClassId) (a_this a_deep a_fine a_pay a_hair : Nat) (v_flat : Int32) (v_least : Int32) (v_deep : Nat → Int32) : va_W := [(a_this, .inr (5, [.int v_flat, .int v_least, .ref a_deep, .ref a_fine, .ref a_pay, .ref a_hair])), (a_deep, .inl (cI, 8, .inl v_deep))]
abbrev rX5_deepOf : Room := { frames := 1, cells := 0, slots := 0, locals := 22 }
set_option maxRecDepth 20000 in
theorem uX5_deepOf_0 {a_this a_deep a_fine a_pay a_hair : Nat} (x1 : Int32) (v_flat : Int32) (v_least : Int32) (v_deep : Nat → Int32) {res : Int32} (C : Cx p s m av meth c RX5 cX5_deepOf 2 (some .int) G cI cZ cO A) (hQ : RI p l e rX5_deepOf s m av below meth c G A cX5_deepOf .int Q (res) (wX5_deepOf cI cZ a_this a_deep a_fine a_pay a_hair v_flat v_least v_deep)) (h : fX5_deepOf x1 v_deep = some res) (H : Heap) (locs : List Loc) (hW : HW G A s (wX5_deepOf cI cZ a_this a_deep a_fine a_pay a_hair v_flat v_least v_deep) H locs) (ls : Array Slot) (hl : lv_has ls 2 [(0, .ref a_this), (1, .int x1)]) : W p l e rX5_deepOf s m av below meth c H locs 0 0 Q (F0 m 0 ls []) := by
  have hx := C.1
  have hb := C.2.1
  unfold fX5_deepOf at h
  refine lv_iload_n hx hb dX5_deepOf_0 rfl (lv_at hl 1 rfl) ?_
  refine lv_iconst (v := (0 : Int32)) hx hb dX5_deepOf_1 (by decide) ?_
  refine lv_bipush (v := (7 : Int32)) hx hb dX5_deepOf_2 (by decide) ?_
  refine callNI0 C lk_RX5_37 (ctX10_inside x1 (0 : Int32) (7 : Int32) rfl) hW hl rfl ⟨rfl, rfl⟩ ⟨(Nat.le_of_ble_eq_true rfl), (Nat.le_of_ble_eq_true rfl)⟩ ⟨Nat.zero_le _, Nat.zero_le _⟩ rfl (Nat.le_of_ble_eq_true rfl) dX5_deepOf_4 (fun H locs hW => ?_)
  refine lv_if_eq (tgt := 19) hx hb dX5_deepOf_7 (by decide) (fun c_1 => ?_) (fun c_1 => ?_)
  · have h := ip_h c_1 h
    refine lv_iconst (v := (0 : Int32)) hx hb dX5_deepOf_19 (by decide) ?_
    obtain rfl := Option.some.inj h
    exact hQ rfl _ _ _ _ dX5_deepOf_20 hW
  · have h := in_h c_1 h
    refine lv_aload_n hx hb dX5_deepOf_10 rfl (lv_at hl 0 rfl) ?_
    refine getW C fl_RX5_18 hW 0 rfl rfl dX5_deepOf_11 ?_
    refine lv_iload_n hx hb dX5_deepOf_14 rfl (lv_at hl 1 rfl) ?_
    obtain ⟨g_2, h⟩ := gd_h h
    refine ialdW C hW 1 rfl g_2 dX5_deepOf_15 ?_
    refine lv_goto (tgt := 20) hx hb dX5_deepOf_16 (by decide) ?_
    obtain rfl := Option.some.inj h
    exact hQ rfl _ _ _ _ dX5_deepOf_20 hW
theorem ctX5_deepOf {l : Launch} {G : va_G} {cI cZ cO : ClassId} (a_this a_deep a_fine a_pay a_hair : Nat) (x1 : Int32) (v_flat : Int32) (v_least : Int32) (v_deep : Nat → Int32) {res : Int32} (h : fX5_deepOf x1 v_deep = some res) : MI l G cI cZ cO yX5_deepOf cX5_deepOf 2 .int rX5_deepOf [.ref a_this, .int x1] (wX5_deepOf cI cZ a_this a_deep a_fine a_pay a_hair v_flat v_least v_deep) (res) (wX5_deepOf cI cZ a_this a_deep a_fine a_pay a_hair v_flat v_least v_deep) := by
  refine MI.of (by decide) (Nat.le_of_ble_eq_true rfl) ?_
  intro p e s m below meth c A Q C hW hQ ls hl
  exact uX5_deepOf_0 x1 v_flat v_least v_deep C hQ h _ _ hW _ hl
abbrev wX5_wear (cI cZ : ClassId) (a_this a_deep a_fine a_pay a_hair : Nat) (v_flat : Int32) (v_least : Int32) (v_fine : Nat → Int32) : va_W := [(a_this, .inr (5, [.int v_flat, .int v_least, .ref a_deep, .ref a_fine, .ref a_pay, .ref a_hair])), (a_fine, .inl (cI, 8, .inl v_fine))]
abbrev rX5_wear : Room := { frames := 1, cells := 0, slots := 0, locals := 22 }
set_option maxRecDepth 20000 in
theorem uX5_wear_0 {a_this a_deep a_fine a_pay a_hair : Nat} (x1 : Int32) (v_flat : Int32) (v_least : Int32) (v_fine : Nat → Int32) {res : Int32} (C : Cx p s m av meth c RX5 cX5_wear 2 (some .int) G cI cZ cO A) (hQ : RI p l e rX5_wear s m av below meth c G A cX5_wear .int Q (res) (wX5_wear cI cZ a_this a_deep a_fine a_pay a_hair v_flat v_least v_fine)) (h : fX5_wear x1 v_fine = some res) (H : Heap) (locs : List Loc) (hW : HW G A s (wX5_wear cI cZ a_this a_deep a_fine a_pay a_hair v_flat v_least v_fine) H locs) (ls : Array Slot) (hl : lv_has ls 2 [(0, .ref a_this), (1, .int x1)]) : W p l e rX5_wear s m av below meth c H locs 0 0 Q (F0 m 0 ls []) := by
  have hx := C.1
  have hb := C.2.1
  unfold fX5_wear at h
  refine lv_iload_n hx hb dX5_wear_0 rfl (lv_at hl 1 rfl) ?_
  refine lv_iconst (v := (0 : Int32)) hx hb dX5_wear_1 (by decide) ?_
  refine lv_bipush (v := (7 : Int32)) hx hb dX5_wear_2 (by decide) ?_
  refine callNI0 C lk_RX5_37 (ctX10_inside x1 (0 : Int32) (7 : Int32) rfl) hW hl rfl ⟨rfl, rfl⟩ ⟨(Nat.le_of_ble_eq_true rfl), (Nat.le_of_ble_eq_true rfl)⟩ ⟨Nat.zero_le _, Nat.zero_le _⟩ rfl (Nat.le_of_ble_eq_true rfl) dX5_wear_4 (fun H locs hW => ?_)
  refine lv_if_eq (tgt := 23) hx hb dX5_wear_7 (by decide) (fun c_1 => ?_) (fun c_1 => ?_)
  · have h := ip_h c_1 h
    refine lv_iconst (v := (1 : Int32)) hx hb dX5_wear_23 (by decide) ?_
    obtain rfl := Option.some.inj h
    exact hQ rfl _ _ _ _ dX5_wear_24 hW
  · have h := in_h c_1 h
    refine lv_aload_n hx hb dX5_wear_10 rfl (lv_at hl 0 rfl) ?_
    refine getW C fl_RX5_22 hW 0 rfl rfl dX5_wear_11 ?_
    refine lv_iload_n hx hb dX5_wear_14 rfl (lv_at hl 1 rfl) ?_
    obtain ⟨g_2, h⟩ := gd_h h
    refine ialdW C hW 1 rfl g_2 dX5_wear_15 ?_
    refine lv_iconst (v := (3 : Int32)) hx hb dX5_wear_16 (by decide) ?_
    refine lv_idiv hx hb dX5_wear_17 (by decide) ?_
    refine lv_iconst (v := (1 : Int32)) hx hb dX5_wear_18 (by decide) ?_
    refine lv_iadd hx hb dX5_wear_19 ?_
    refine lv_goto (tgt := 24) hx hb dX5_wear_20 (by decide) ?_
    obtain rfl := Option.some.inj h
    exact hQ rfl _ _ _ _ dX5_wear_24 hW
theorem ctX5_wear {l : Launch} {G : va_G} {cI cZ cO : ClassId} (a_this a_deep a_fine a_pay a_hair : Nat) (x1 : Int32) (v_flat : Int32) (v_least : Int32) (v_fine : Nat → Int32) {res : Int32} (h : fX5_wear x1 v_fine = some res) : MI l G cI cZ cO yX5_wear cX5_wear 2 .int rX5_wear [.ref a_this, .int x1] (wX5_wear cI cZ a_this a_deep a_fine a_pay a_hair v_flat v_least v_fine) (res) (wX5_wear cI cZ a_this a_deep a_fine a_pay a_hair v_flat v_least v_fine) := by
  refine MI.of (by decide) (Nat.le_of_ble_eq_true rfl) ?_
  intro p e s m below meth c A Q C hW hQ ls hl
  exact uX5_wear_0 x1 v_flat v_least v_fine C hQ h _ _ hW _ hl
abbrev wX10_pullsAhead (cI cZ : ClassId) : va_W := []
abbrev rX10_pullsAhead : Room := { frames := 1, cells := 0, slots := 0, locals := 23 }
set_option maxRecDepth 20000 in
theorem uX10_pullsAhead_0 (x0 : Int32) (x1 : Int32) (x2 : Int32) (x3 : Int32) {res : Int32} (C : Cx p s m av meth c RX10 cX10_pullsAhead 6 (some .int) G cI cZ cO A) (hQ : RI p l e rX10_pullsAhead s m av below meth c G A cX10_pullsAhead .int Q (res) (wX10_pullsAhead cI cZ)) (h : fX10_pullsAhead x0 x1 x2 x3 = some res) (H : Heap) (locs : List Loc) (hW : HW G A s (wX10_pullsAhead cI cZ) H locs) (ls : Array Slot) (hl : lv_has ls 6 [(0, .int x0), (1, .int x1), (2, .int x2), (3, .int x3)]) : W p l e rX10_pullsAhead s m av below meth c H locs 0 0 Q (F0 m 0 ls []) := by
  have hx := C.1
  have hb := C.2.1
  unfold fX10_pullsAhead at h
  refine lv_iconst (v := (1 : Int32)) hx hb dX10_pullsAhead_0 (by decide) ?_
  refine lv_iload_n hx hb dX10_pullsAhead_1 rfl (lv_at hl 1 rfl) ?_
  refine maxW C lk_RX10_215 hl (Nat.le_of_ble_eq_true rfl) (Nat.le_of_ble_eq_true rfl) ⟨Nat.zero_le _, Nat.zero_le _⟩ dX10_pullsAhead_2 ?_
  refine lv_topi (fun v_1 ev_1 => ?_)
  have h := lt_h ev_1 h
  refine lv_istore (lv' := [(4, .int v_1), (0, .int x0), (1, .int x1), (2, .int x2), (3, .int x3)]) hx hb dX10_pullsAhead_5 hl (Nat.le_of_ble_eq_true rfl) rfl (fun ls hl => ?_)
  refine lv_iload_n hx hb dX10_pullsAhead_7 rfl (lv_at hl 1 rfl) ?_
  refine lv_iload hx hb dX10_pullsAhead_8 (lv_at hl 0 rfl) ?_
  refine lv_icmp_ge (tgt := 15) hx hb dX10_pullsAhead_10 (by decide) (fun c_2 => ?_) (fun c_2 => ?_)
  · have h := ip_h c_2 h
    refine lv_iload_n hx hb dX10_pullsAhead_15 rfl (lv_at hl 1 rfl) ?_
    refine lv_iload hx hb dX10_pullsAhead_16 (lv_at hl 0 rfl) ?_
    refine lv_isub hx hb dX10_pullsAhead_18 ?_
    refine lv_iconst (v := (1 : Int32)) hx hb dX10_pullsAhead_19 (by decide) ?_
    refine lv_iload_n hx hb dX10_pullsAhead_20 rfl (lv_at hl 3 rfl) ?_
    refine maxW C lk_RX10_215 hl (Nat.le_of_ble_eq_true rfl) (Nat.le_of_ble_eq_true rfl) ⟨Nat.zero_le _, Nat.zero_le _⟩ dX10_pullsAhead_21 ?_
    obtain ⟨g_3, h⟩ := gd_h h
    refine lv_idiv hx hb dX10_pullsAhead_24 g_3 ?_
    refine lv_iconst (v := (1 : Int32)) hx hb dX10_pullsAhead_25 (by decide) ?_
    refine lv_iadd hx hb dX10_pullsAhead_26 ?_
    refine lv_topi (fun v_4 ev_4 => ?_)
    have h := lt_h ev_4 h
    refine lv_istore (lv' := [(5, .int v_4), (4, .int v_1), (0, .int x0), (1, .int x1), (2, .int x2), (3, .int x3)]) hx hb dX10_pullsAhead_27 hl (Nat.le_of_ble_eq_true rfl) rfl (fun ls hl => ?_)
    refine lv_iload_n hx hb dX10_pullsAhead_29 rfl (lv_at hl 5 rfl) ?_
    refine lv_bipush (v := (10 : Int32)) hx hb dX10_pullsAhead_30 (by decide) ?_
    refine lv_idiv hx hb dX10_pullsAhead_32 (by decide) ?_
    refine lv_iload hx hb dX10_pullsAhead_33 (lv_at hl 0 rfl) ?_
    refine lv_iadd hx hb dX10_pullsAhead_35 ?_
    refine lv_bipush (v := (10 : Int32)) hx hb dX10_pullsAhead_36 (by decide) ?_
    refine lv_imul hx hb dX10_pullsAhead_38 ?_
    refine lv_iload_n hx hb dX10_pullsAhead_39 rfl (lv_at hl 5 rfl) ?_
    refine lv_isub hx hb dX10_pullsAhead_40 ?_
    refine lv_iconst (v := (1 : Int32)) hx hb dX10_pullsAhead_41 (by decide) ?_
    refine lv_isub hx hb dX10_pullsAhead_42 ?_
    obtain rfl := Option.some.inj h
    exact hQ rfl _ _ _ _ dX10_pullsAhead_43 hW
  · have h := in_h c_2 h
    refine lv_iconst (v := (0 : Int32)) hx hb dX10_pullsAhead_13 (by decide) ?_
    obtain rfl := Option.some.inj h
    exact hQ rfl _ _ _ _ dX10_pullsAhead_14 hW
theorem ctX10_pullsAhead {l : Launch} {G : va_G} {cI cZ cO : ClassId} (x0 : Int32) (x1 : Int32) (x2 : Int32) (x3 : Int32) {res : Int32} (h : fX10_pullsAhead x0 x1 x2 x3 = some res) : MI l G cI cZ cO yX10_pullsAhead cX10_pullsAhead 6 .int rX10_pullsAhead [.int x0, .int x1, .int x2, .int x3] (wX10_pullsAhead cI cZ) (res) (wX10_pullsAhead cI cZ) := by
  refine MI.of (by decide) (Nat.le_of_ble_eq_true rfl) ?_
  intro p e s m below meth c A Q C hW hQ ls hl
  exact uX10_pullsAhead_0 x0 x1 x2 x3 C hQ h _ _ hW _ hl
abbrev wX4_wouldLast (cI cZ : ClassId) (a_this a_shelf a_rules a_sights a_shelf_thick a_shelf_hollow a_shelf_damp a_shelf_fresh a_shelf_pulls a_shelf_fats a_rules_deep a_rules_fine a_rules_pay a_rules_hair : Nat) (v_shelf_there : Int32) (v_rules_flat : Int32) (v_rules_least : Int32) (v_shelf_fats : Nat → Int32) (v_rules_deep : Nat → Int32) (v_rules_fine : Nat → Int32) : va_W := [(a_this, .inr (4, [.ref a_shelf, .ref a_rules, .ref a_sights])), (a_shelf, .inr (6, [.int v_shelf_there, .ref a_shelf_thick, .ref a_shelf_hollow, .ref a_shelf_damp, .ref a_shelf_fresh, .ref a_shelf_pulls, .ref a_shelf_fats])), (a_rules, .inr (5, [.int v_rules_flat, .int v_rules_least, .ref a_rules_deep, .ref a_rules_fine, .ref a_rules_pay, .ref a_rules_hair])), (a_shelf_fats, .inl (cI, 40, .inl v_shelf_fats)), (a_rules_deep, .inl (cI, 8, .inl v_rules_deep)), (a_rules_fine, .inl (cI, 8, .inl v_rules_fine))]
abbrev rX4_wouldLast : Room := { frames := 2, cells := 0, slots := 0, locals := 48 }
set_option maxRecDepth 20000 in
theorem uX4_wouldLast_0 {a_this a_shelf a_rules a_sights a_shelf_thick a_shelf_hollow a_shelf_damp a_shelf_fresh a_shelf_pulls a_shelf_fats a_rules_deep a_rules_fine a_rules_pay a_rules_hair : Nat} (x1 : Int32) (x2 : Int32) (x3 : Int32) (x4 : Int32) (v_shelf_there : Int32) (v_rules_flat : Int32) (v_rules_least : Int32) (v_shelf_fats : Nat → Int32) (v_rules_deep : Nat → Int32) (v_rules_fine : Nat → Int32) {res : Int32} (C : Cx p s m av meth c RX4 cX4_wouldLast 6 (some .boolean) G cI cZ cO A) (hQ : RI p l e rX4_wouldLast s m av below meth c G A cX4_wouldLast .boolean Q (res) (wX4_wouldLast cI cZ a_this a_shelf a_rules a_sights a_shelf_thick a_shelf_hollow a_shelf_damp a_shelf_fresh a_shelf_pulls a_shelf_fats a_rules_deep a_rules_fine a_rules_pay a_rules_hair v_shelf_there v_rules_flat v_rules_least v_shelf_fats v_rules_deep v_rules_fine)) (h : fX4_wouldLast x1 x2 x3 x4 v_shelf_fats v_rules_deep v_rules_fine = some res) (H : Heap) (locs : List Loc) (hW : HW G A s (wX4_wouldLast cI cZ a_this a_shelf a_rules a_sights a_shelf_thick a_shelf_hollow a_shelf_damp a_shelf_fresh a_shelf_pulls a_shelf_fats a_rules_deep a_rules_fine a_rules_pay a_rules_hair v_shelf_there v_rules_flat v_rules_least v_shelf_fats v_rules_deep v_rules_fine) H locs) (ls : Array Slot) (hl : lv_has ls 6 [(0, .ref a_this), (1, .int x1), (2, .int x2), (3, .int x3), (4, .int x4)]) : W p l e rX4_wouldLast s m av below meth c H locs 0 0 Q (F0 m 0 ls []) := by
  have hx := C.1
  have hb := C.2.1
  unfold fX4_wouldLast at h
  refine lv_iconst (v := (0 : Int32)) hx hb dX4_wouldLast_0 (by decide) ?_
  refine lv_aload_n hx hb dX4_wouldLast_1 rfl (lv_at hl 0 rfl) ?_
  refine getW C fl_RX4_12 hW 0 rfl rfl dX4_wouldLast_2 ?_
  refine lv_iload_n hx hb dX4_wouldLast_5 rfl (lv_at hl 1 rfl) ?_
  refine lv_iload_n hx hb dX4_wouldLast_6 rfl (lv_at hl 2 rfl) ?_
  obtain ⟨v_1, hv_1, h⟩ := bd_h h
  refine callVIr [1, 3] C lk_RX4_42 (ctX6_ghostFat a_shelf a_shelf_thick a_shelf_hollow a_shelf_damp a_shelf_fresh a_shelf_pulls a_shelf_fats x1 x2 v_shelf_there v_shelf_fats hv_1) hW hl 6 rfl rfl rfl rfl rfl ⟨rfl, rfl⟩ ⟨(Nat.le_of_ble_eq_true rfl), (Nat.le_of_ble_eq_true rfl)⟩ ⟨Nat.zero_le _, Nat.zero_le _⟩ rfl (Nat.le_of_ble_eq_true rfl) dX4_wouldLast_7 (fun H locs hW => ?_)
  refine lv_iconst (v := (3 : Int32)) hx hb dX4_wouldLast_10 (by decide) ?_
  refine lv_iload_n hx hb dX4_wouldLast_11 rfl (lv_at hl 3 rfl) ?_
  refine lv_imul hx hb dX4_wouldLast_12 ?_
  refine lv_isub hx hb dX4_wouldLast_13 ?_
  refine maxW C lk_RX4_46 hl (Nat.le_of_ble_eq_true rfl) (Nat.le_of_ble_eq_true rfl) ⟨Nat.zero_le _, Nat.zero_le _⟩ dX4_wouldLast_14 ?_
  refine lv_topi (fun v_2 ev_2 => ?_)
  have h := lt_h ev_2 h
  refine lv_istore (lv' := [(5, .int v_2), (0, .ref a_this), (1, .int x1), (2, .int x2), (3, .int x3), (4, .int x4)]) hx hb dX4_wouldLast_17 hl (Nat.le_of_ble_eq_true rfl) rfl (fun ls hl => ?_)
  refine lv_aload_n hx hb dX4_wouldLast_19 rfl (lv_at hl 1 rfl) ?_
  refine getW C fl_RX4_21 hW 0 rfl rfl dX4_wouldLast_20 ?_
  refine lv_iload_n hx hb dX4_wouldLast_23 rfl (lv_at hl 3 rfl) ?_
  obtain ⟨v_3, hv_3, h⟩ := bd_h h
  refine callVIr [2, 4] C lk_RX4_51 (ctX5_deepOf a_rules a_rules_deep a_rules_fine a_rules_pay a_rules_hair x2 v_rules_flat v_rules_least v_rules_deep hv_3) hW hl 5 rfl rfl rfl rfl rfl ⟨rfl, rfl⟩ ⟨(Nat.le_of_ble_eq_true rfl), (Nat.le_of_ble_eq_true rfl)⟩ ⟨Nat.zero_le _, Nat.zero_le _⟩ rfl (Nat.le_of_ble_eq_true rfl) dX4_wouldLast_24 (fun H locs hW => ?_)
  refine lv_iload hx hb dX4_wouldLast_27 (lv_at hl 0 rfl) ?_
  refine lv_aload_n hx hb dX4_wouldLast_29 rfl (lv_at hl 1 rfl) ?_
  refine getW C fl_RX4_21 hW 0 rfl rfl dX4_wouldLast_30 ?_
  refine lv_iload_n hx hb dX4_wouldLast_33 rfl (lv_at hl 3 rfl) ?_
  obtain ⟨v_4, hv_4, h⟩ := bd_h h
  refine callVIr [2, 5] C lk_RX4_55 (ctX5_wear a_rules a_rules_deep a_rules_fine a_rules_pay a_rules_hair x2 v_rules_flat v_rules_least v_rules_fine hv_4) hW hl 5 rfl rfl rfl rfl rfl ⟨rfl, rfl⟩ ⟨(Nat.le_of_ble_eq_true rfl), (Nat.le_of_ble_eq_true rfl)⟩ ⟨Nat.zero_le _, Nat.zero_le _⟩ rfl (Nat.le_of_ble_eq_true rfl) dX4_wouldLast_34 (fun H locs hW => ?_)
  refine lv_iconst (v := (0 : Int32)) hx hb dX4_wouldLast_37 (by decide) ?_
  obtain ⟨v_5, hv_5, h⟩ := bd_h h
  refine callNI0 C lk_RX4_58 (ctX10_pullsAhead v_3 v_2 v_4 (0 : Int32) hv_5) hW hl rfl ⟨rfl, rfl⟩ ⟨(Nat.le_of_ble_eq_true rfl), (Nat.le_of_ble_eq_true rfl)⟩ ⟨Nat.zero_le _, Nat.zero_le _⟩ rfl (Nat.le_of_ble_eq_true rfl) dX4_wouldLast_38 (fun H locs hW => ?_)
  refine lv_iload hx hb dX4_wouldLast_41 (lv_at hl 5 rfl) ?_
  refine lv_icmp_lt (tgt := 50) hx hb dX4_wouldLast_43 (by decide) (fun c_6 => ?_) (fun c_6 => ?_)
  · have h := ip_h c_6 h
    refine lv_iconst (v := (0 : Int32)) hx hb dX4_wouldLast_50 (by decide) ?_
    obtain rfl := Option.some.inj h
    exact hQ nb_0 _ _ _ _ dX4_wouldLast_51 hW
  · have h := in_h c_6 h
    refine lv_iconst (v := (1 : Int32)) hx hb dX4_wouldLast_46 (by decide) ?_
    refine lv_goto (tgt := 51) hx hb dX4_wouldLast_47 (by decide) ?_
    obtain rfl := Option.some.inj h
    exact hQ nb_1 _ _ _ _ dX4_wouldLast_51 hW
theorem ctX4_wouldLast {l : Launch} {G : va_G} {cI cZ cO : ClassId} (a_this a_shelf a_rules a_sights a_shelf_thick a_shelf_hollow a_shelf_damp a_shelf_fresh a_shelf_pulls a_shelf_fats a_rules_deep a_rules_fine a_rules_pay a_rules_hair : Nat) (x1 : Int32) (x2 : Int32) (x3 : Int32) (x4 : Int32) (v_shelf_there : Int32) (v_rules_flat : Int32) (v_rules_least : Int32) (v_shelf_fats : Nat → Int32) (v_rules_deep : Nat → Int32) (v_rules_fine : Nat → Int32) {res : Int32} (h : fX4_wouldLast x1 x2 x3 x4 v_shelf_fats v_rules_deep v_rules_fine = some res) : MI l G cI cZ cO yX4_wouldLast cX4_wouldLast 6 .boolean rX4_wouldLast [.ref a_this, .int x1, .int x2, .int x3, .int x4] (wX4_wouldLast cI cZ a_this a_shelf a_rules a_sights a_shelf_thick a_shelf_hollow a_shelf_damp a_shelf_fresh a_shelf_pulls a_shelf_fats a_rules_deep a_rules_fine a_rules_pay a_rules_hair v_shelf_there v_rules_flat v_rules_least v_shelf_fats v_rules_deep v_rules_fine) (res) (wX4_wouldLast cI cZ a_this a_shelf a_rules a_sights a_shelf_thick a_shelf_hollow a_shelf_damp a_shelf_fresh a_shelf_pulls a_shelf_fats a_rules_deep a_rules_fine a_rules_pay a_rules_hair v_shelf_there v_rules_flat v_rules_least v_shelf_fats v_rules_deep v_rules_fine) := by
  refine MI.of (by decide) (Nat.le_of_ble_eq_true rfl) ?_
  intro p e s m below meth c A Q C hW hQ ls hl
  exact uX4_wouldLast_0 x1 x2 x3 x4 v_shelf_there v_rules_flat v_rules_least v_shelf_fats v_rules_deep v_rules_fine C hQ h _ _ hW _ hl
abbrev wX2_stonesFor (cI cZ : ClassId) (a_this a_best a_allowed a_pay a_arg1 a_arg1_shelf a_arg1_rules a_arg1_sights a_arg1_shelf_thick a_arg1_shelf_hollow a_arg1_shelf_damp a_arg1_shelf_fresh a_arg1_shelf_pulls a_arg1_shelf_fats a_arg1_rules_deep a_arg1_rules_fine a_arg1_rules_pay a_arg1_rules_hair : Nat) (v_arg1_shelf_there : Int32) (v_arg1_rules_flat : Int32) (v_arg1_rules_least : Int32) (v_arg1_shelf_hollow : Nat → Int32) (v_arg1_shelf_thick : Nat → Int32) (v_arg1_shelf_fats : Nat → Int32) (v_arg1_rules_deep : Nat → Int32) (v_arg1_rules_fine : Nat → Int32) : va_W := [(a_this, .inr (2, [.ref a_best, .ref a_allowed, .ref a_pay])), (a_arg1, .inr (4, [.ref a_arg1_shelf, .ref a_arg1_rules, .ref a_arg1_sights])), (a_arg1_shelf, .inr (6, [.int v_arg1_shelf_there, .ref a_arg1_shelf_thick, .ref a_arg1_shelf_hollow, .ref a_arg1_shelf_damp, .ref a_arg1_shelf_fresh, .ref a_arg1_shelf_pulls, .ref a_arg1_shelf_fats])), (a_arg1_rules, .inr (5, [.int v_arg1_rules_flat, .int v_arg1_rules_least, .ref a_arg1_rules_deep, .ref a_arg1_rules_fine, .ref a_arg1_rules_pay, .ref a_arg1_rules_hair])), (a_arg1_shelf_hollow, .inl (cI, 5, .inl v_arg1_shelf_hollow)), (a_arg1_shelf_thick, .inl (cI, 5, .inl v_arg1_shelf_thick)), (a_arg1_shelf_fats, .inl (cI, 40, .inl v_arg1_shelf_fats)), (a_arg1_rules_deep, .inl (cI, 8, .inl v_arg1_rules_deep)), (a_arg1_rules_fine, .inl (cI, 8, .inl v_arg1_rules_fine))]
abbrev rX2_stonesFor : Room := { frames := 3, cells := 0, slots := 0, locals := 73 }
set_option maxRecDepth 20000 in
theorem uX2_stonesFor_6 {a_this a_best a_allowed a_pay a_arg1 a_arg1_shelf a_arg1_rules a_arg1_sights a_arg1_shelf_thick a_arg1_shelf_hollow a_arg1_shelf_damp a_arg1_shelf_fresh a_arg1_shelf_pulls a_arg1_shelf_fats a_arg1_rules_deep a_arg1_rules_fine a_arg1_rules_pay a_arg1_rules_hair : Nat} (x2 : Int32) (x3 : Int32) (x4 : Int32) (x5 : Int32) (v_arg1_shelf_there : Int32) (v_arg1_rules_flat : Int32) (v_arg1_rules_least : Int32) (v_arg1_shelf_hollow : Nat → Int32) (v_arg1_shelf_thick : Nat → Int32) (v_arg1_shelf_fats : Nat → Int32) (v_arg1_rules_deep : Nat → Int32) (v_arg1_rules_fine : Nat → Int32) {res : Int32} (C : Cx p s m av meth c RX2 cX2_stonesFor 6 (some .int) G cI cZ cO A) (hQ : RI p l e rX2_stonesFor s m av below meth c G A cX2_stonesFor .int Q (res) (wX2_stonesFor cI cZ a_this a_best a_allowed a_pay a_arg1 a_arg1_shelf a_arg1_rules a_arg1_sights a_arg1_shelf_thick a_arg1_shelf_hollow a_arg1_shelf_damp a_arg1_shelf_fresh a_arg1_shelf_pulls a_arg1_shelf_fats a_arg1_rules_deep a_arg1_rules_fine a_arg1_rules_pay a_arg1_rules_hair v_arg1_shelf_there v_arg1_rules_flat v_arg1_rules_least v_arg1_shelf_hollow v_arg1_shelf_thick v_arg1_shelf_fats v_arg1_rules_deep v_arg1_rules_fine)) {k6 : (Int32) → (Int32) → Option (Int32)} (hk6 : ∀ (x4 : Int32) (x5 : Int32), k6 x4 x5 = some res → ∀ (H : Heap) (locs : List Loc), HW G A s (wX2_stonesFor cI cZ a_this a_best a_allowed a_pay a_arg1 a_arg1_shelf a_arg1_rules a_arg1_sights a_arg1_shelf_thick a_arg1_shelf_hollow a_arg1_shelf_damp a_arg1_shelf_fresh a_arg1_shelf_pulls a_arg1_shelf_fats a_arg1_rules_deep a_arg1_rules_fine a_arg1_rules_pay a_arg1_rules_hair v_arg1_shelf_there v_arg1_rules_flat v_arg1_rules_least v_arg1_shelf_hollow v_arg1_shelf_thick v_arg1_shelf_fats v_arg1_rules_deep v_arg1_rules_fine) H locs → ∀ ls : Array Slot, lv_has ls 6 [(1, .ref a_arg1), (2, .int x2), (3, .int x3), (4, .int x4), (5, .int x5)] → W p l e rX2_stonesFor s m av below meth c H locs 0 0 Q (F0 m 6 ls [])) (h : FX2_stonesFor_6 x2 x3 v_arg1_shelf_there v_arg1_rules_flat v_arg1_rules_least v_arg1_shelf_hollow v_arg1_shelf_thick v_arg1_shelf_fats v_arg1_rules_deep v_arg1_rules_fine k6 x4 x5 = some res) (H : Heap) (locs : List Loc) (hW : HW G A s (wX2_stonesFor cI cZ a_this a_best a_allowed a_pay a_arg1 a_arg1_shelf a_arg1_rules a_arg1_sights a_arg1_shelf_thick a_arg1_shelf_hollow a_arg1_shelf_damp a_arg1_shelf_fresh a_arg1_shelf_pulls a_arg1_shelf_fats a_arg1_rules_deep a_arg1_rules_fine a_arg1_rules_pay a_arg1_rules_hair v_arg1_shelf_there v_arg1_rules_flat v_arg1_rules_least v_arg1_shelf_hollow v_arg1_shelf_thick v_arg1_shelf_fats v_arg1_rules_deep v_arg1_rules_fine) H locs) (ls : Array Slot) (hl : lv_has ls 6 [(1, .ref a_arg1), (2, .int x2), (3, .int x3), (4, .int x4), (5, .int x5)]) : W p l e rX2_stonesFor s m av below meth c H locs 0 0 Q (F0 m 6 ls []) := by
  have hx := C.1
  have hb := C.2.1
  unfold FX2_stonesFor_6 at h
  refine lv_iload hx hb dX2_stonesFor_6 (lv_at hl 4 rfl) ?_
  refine lv_iconst (v := (5 : Int32)) hx hb dX2_stonesFor_8 (by decide) ?_
  refine lv_icmp_ge (tgt := 48) hx hb dX2_stonesFor_9 (by decide) (fun c_1 => ?_) (fun c_1 => ?_)
  · have h := ip_h c_1 h
    refine lv_iload hx hb dX2_stonesFor_48 (lv_at hl 3 rfl) ?_
    obtain rfl := Option.some.inj h
    exact hQ rfl _ _ _ _ dX2_stonesFor_50 hW
  · have h := in_h c_1 h
    refine lv_aload_n hx hb dX2_stonesFor_12 rfl (lv_at hl 0 rfl) ?_
    refine lv_iload hx hb dX2_stonesFor_13 (lv_at hl 4 rfl) ?_
    obtain ⟨v_2, hv_2, h⟩ := bd_h h
    refine callVIr [1, 2, 3, 4, 5] C lk_RX2_45 (ctX4_takesOrders a_arg1 a_arg1_shelf a_arg1_rules a_arg1_sights a_arg1_shelf_thick a_arg1_shelf_hollow a_arg1_shelf_damp a_arg1_shelf_fresh a_arg1_shelf_pulls a_arg1_shelf_fats a_arg1_rules_deep a_arg1_rules_fine a_arg1_rules_pay a_arg1_rules_hair x5 v_arg1_shelf_there v_arg1_rules_flat v_arg1_rules_least v_arg1_shelf_hollow v_arg1_shelf_thick hv_2) hW hl 4 rfl rfl rfl rfl rfl ⟨rfl, rfl⟩ ⟨(Nat.le_of_ble_eq_true rfl), (Nat.le_of_ble_eq_true rfl)⟩ ⟨Nat.zero_le _, Nat.zero_le _⟩ rfl (Nat.le_of_ble_eq_true rfl) dX2_stonesFor_15 (fun H locs hW => ?_)
    refine lv_if_eq (tgt := 42) hx hb dX2_stonesFor_18 (by decide) (fun c_3 => ?_) (fun c_3 => ?_)
    · have h := ip_h c_3 h
      obtain ⟨v_4, ev_4⟩ : ∃ y : Int32, y = x5 + (1 : Int32) := ⟨_, rfl⟩
      have h := lt_h ev_4 h
      refine lv_iinc (v := v_4) (lv' := [(5, .int v_4), (1, .ref a_arg1), (2, .int x2), (3, .int x3), (4, .int x4)]) hx hb dX2_stonesFor_42 hl (k := 4) rfl (by rw [ev_4]; rfl) (Nat.le_of_ble_eq_true rfl) rfl (fun ls hl => ?_)
      refine lv_goto (tgt := 6) hx hb dX2_stonesFor_45 (by decide) ?_
      exact hk6 x4 v_4 h _ _ hW _ (lv_sub hl [1, 2, 3, 4, 0] rfl)
    · have h := in_h c_3 h
      refine lv_aload_n hx hb dX2_stonesFor_21 rfl (lv_at hl 0 rfl) ?_
      refine lv_iload hx hb dX2_stonesFor_22 (lv_at hl 4 rfl) ?_
      refine lv_iload_n hx hb dX2_stonesFor_24 rfl (lv_at hl 1 rfl) ?_
      refine lv_iconst (v := (0 : Int32)) hx hb dX2_stonesFor_25 (by decide) ?_
      refine lv_iload_n hx hb dX2_stonesFor_26 rfl (lv_at hl 2 rfl) ?_
      obtain ⟨v_5, hv_5, h⟩ := bd_h h
      refine callVIr [1, 2, 3, 6, 7, 8] C lk_RX2_49 (ctX4_wouldLast a_arg1 a_arg1_shelf a_arg1_rules a_arg1_sights a_arg1_shelf_thick a_arg1_shelf_hollow a_arg1_shelf_damp a_arg1_shelf_fresh a_arg1_shelf_pulls a_arg1_shelf_fats a_arg1_rules_deep a_arg1_rules_fine a_arg1_rules_pay a_arg1_rules_hair x5 x2 (0 : Int32) x3 v_arg1_shelf_there v_arg1_rules_flat v_arg1_rules_least v_arg1_shelf_fats v_arg1_rules_deep v_arg1_rules_fine hv_5) hW hl 4 rfl rfl rfl rfl rfl ⟨rfl, rfl⟩ ⟨(Nat.le_of_ble_eq_true rfl), (Nat.le_of_ble_eq_true rfl)⟩ ⟨Nat.zero_le _, Nat.zero_le _⟩ rfl (Nat.le_of_ble_eq_true rfl) dX2_stonesFor_27 (fun H locs hW => ?_)
      refine lv_if_eq (tgt := 42) hx hb dX2_stonesFor_30 (by decide) (fun c_6 => ?_) (fun c_6 => ?_)
      · have h := ip_h c_6 h
        obtain ⟨v_7, ev_7⟩ : ∃ y : Int32, y = x5 + (1 : Int32) := ⟨_, rfl⟩
        have h := lt_h ev_7 h
        refine lv_iinc (v := v_7) (lv' := [(5, .int v_7), (1, .ref a_arg1), (2, .int x2), (3, .int x3), (4, .int x4)]) hx hb dX2_stonesFor_42 hl (k := 4) rfl (by rw [ev_7]; rfl) (Nat.le_of_ble_eq_true rfl) rfl (fun ls hl => ?_)
        refine lv_goto (tgt := 6) hx hb dX2_stonesFor_45 (by decide) ?_
        exact hk6 x4 v_7 h _ _ hW _ (lv_sub hl [1, 2, 3, 4, 0] rfl)
      · have h := in_h c_6 h
        refine lv_iload hx hb dX2_stonesFor_33 (lv_at hl 3 rfl) ?_
        refine lv_iconst (v := (1 : Int32)) hx hb dX2_stonesFor_35 (by decide) ?_
        refine lv_iload hx hb dX2_stonesFor_36 (lv_at hl 4 rfl) ?_
        refine lv_ishl hx hb dX2_stonesFor_38 ?_
        refine lv_ior hx hb dX2_stonesFor_39 ?_
        refine lv_topi (fun v_8 ev_8 => ?_)
        have h := lt_h ev_8 h
        refine lv_istore (lv' := [(4, .int v_8), (1, .ref a_arg1), (2, .int x2), (3, .int x3), (5, .int x5)]) hx hb dX2_stonesFor_40 hl (Nat.le_of_ble_eq_true rfl) rfl (fun ls hl => ?_)
        obtain ⟨v_9, ev_9⟩ : ∃ y : Int32, y = x5 + (1 : Int32) := ⟨_, rfl⟩
        have h := lt_h ev_9 h
        refine lv_iinc (v := v_9) (lv' := [(5, .int v_9), (4, .int v_8), (1, .ref a_arg1), (2, .int x2), (3, .int x3)]) hx hb dX2_stonesFor_42 hl (k := 4) rfl (by rw [ev_9]; rfl) (Nat.le_of_ble_eq_true rfl) rfl (fun ls hl => ?_)
        refine lv_goto (tgt := 6) hx hb dX2_stonesFor_45 (by decide) ?_
        exact hk6 v_8 v_9 h _ _ hW _ (lv_sub hl [2, 3, 4, 1, 0] rfl)
theorem wX2_stonesFor_6_ {a_this a_best a_allowed a_pay a_arg1 a_arg1_shelf a_arg1_rules a_arg1_sights a_arg1_shelf_thick a_arg1_shelf_hollow a_arg1_shelf_damp a_arg1_shelf_fresh a_arg1_shelf_pulls a_arg1_shelf_fats a_arg1_rules_deep a_arg1_rules_fine a_arg1_rules_pay a_arg1_rules_hair : Nat} (x2 : Int32) (x3 : Int32) (v_arg1_shelf_there : Int32) (v_arg1_rules_flat : Int32) (v_arg1_rules_least : Int32) (v_arg1_shelf_hollow : Nat → Int32) (v_arg1_shelf_thick : Nat → Int32) (v_arg1_shelf_fats : Nat → Int32) (v_arg1_rules_deep : Nat → Int32) (v_arg1_rules_fine : Nat → Int32) {res : Int32} (C : Cx p s m av meth c RX2 cX2_stonesFor 6 (some .int) G cI cZ cO A) (hQ : RI p l e rX2_stonesFor s m av below meth c G A cX2_stonesFor .int Q (res) (wX2_stonesFor cI cZ a_this a_best a_allowed a_pay a_arg1 a_arg1_shelf a_arg1_rules a_arg1_sights a_arg1_shelf_thick a_arg1_shelf_hollow a_arg1_shelf_damp a_arg1_shelf_fresh a_arg1_shelf_pulls a_arg1_shelf_fats a_arg1_rules_deep a_arg1_rules_fine a_arg1_rules_pay a_arg1_rules_hair v_arg1_shelf_there v_arg1_rules_flat v_arg1_rules_least v_arg1_shelf_hollow v_arg1_shelf_thick v_arg1_shelf_fats v_arg1_rules_deep v_arg1_rules_fine)) : ∀ (n : Nat) (x4 : Int32) (x5 : Int32), LX2_stonesFor_6 x2 x3 v_arg1_shelf_there v_arg1_rules_flat v_arg1_rules_least v_arg1_shelf_hollow v_arg1_shelf_thick v_arg1_shelf_fats v_arg1_rules_deep v_arg1_rules_fine n x4 x5 = some res → ∀ (H : Heap) (locs : List Loc), HW G A s (wX2_stonesFor cI cZ a_this a_best a_allowed a_pay a_arg1 a_arg1_shelf a_arg1_rules a_arg1_sights a_arg1_shelf_thick a_arg1_shelf_hollow a_arg1_shelf_damp a_arg1_shelf_fresh a_arg1_shelf_pulls a_arg1_shelf_fats a_arg1_rules_deep a_arg1_rules_fine a_arg1_rules_pay a_arg1_rules_hair v_arg1_shelf_there v_arg1_rules_flat v_arg1_rules_least v_arg1_shelf_hollow v_arg1_shelf_thick v_arg1_shelf_fats v_arg1_rules_deep v_arg1_rules_fine) H locs → ∀ ls : Array Slot, lv_has ls 6 [(1, .ref a_arg1), (2, .int x2), (3, .int x3), (4, .int x4), (5, .int x5)] → W p l e rX2_stonesFor s m av below meth c H locs 0 0 Q (F0 m 6 ls []) := by
  intro n
  induction n with
  | zero => intro x4 x5 h; cases h
  | succ n ih =>
    intro x4 x5 h H locs hW ls hl
    exact uX2_stonesFor_6 x2 x3 x4 x5 v_arg1_shelf_there v_arg1_rules_flat v_arg1_rules_least v_arg1_shelf_hollow v_arg1_shelf_thick v_arg1_shelf_fats v_arg1_rules_deep v_arg1_rules_fine C hQ (k6 := LX2_stonesFor_6 x2 x3 v_arg1_shelf_there v_arg1_rules_flat v_arg1_rules_least v_arg1_shelf_hollow v_arg1_shelf_thick v_arg1_shelf_fats v_arg1_rules_deep v_arg1_rules_fine n) ih h H locs hW ls hl
set_option maxRecDepth 20000 in
theorem uX2_stonesFor_0 {a_this a_best a_allowed a_pay a_arg1 a_arg1_shelf a_arg1_rules a_arg1_sights a_arg1_shelf_thick a_arg1_shelf_hollow a_arg1_shelf_damp a_arg1_shelf_fresh a_arg1_shelf_pulls a_arg1_shelf_fats a_arg1_rules_deep a_arg1_rules_fine a_arg1_rules_pay a_arg1_rules_hair : Nat} (x2 : Int32) (x3 : Int32) (v_arg1_shelf_there : Int32) (v_arg1_rules_flat : Int32) (v_arg1_rules_least : Int32) (v_arg1_shelf_hollow : Nat → Int32) (v_arg1_shelf_thick : Nat → Int32) (v_arg1_shelf_fats : Nat → Int32) (v_arg1_rules_deep : Nat → Int32) (v_arg1_rules_fine : Nat → Int32) {res : Int32} (C : Cx p s m av meth c RX2 cX2_stonesFor 6 (some .int) G cI cZ cO A) (hQ : RI p l e rX2_stonesFor s m av below meth c G A cX2_stonesFor .int Q (res) (wX2_stonesFor cI cZ a_this a_best a_allowed a_pay a_arg1 a_arg1_shelf a_arg1_rules a_arg1_sights a_arg1_shelf_thick a_arg1_shelf_hollow a_arg1_shelf_damp a_arg1_shelf_fresh a_arg1_shelf_pulls a_arg1_shelf_fats a_arg1_rules_deep a_arg1_rules_fine a_arg1_rules_pay a_arg1_rules_hair v_arg1_shelf_there v_arg1_rules_flat v_arg1_rules_least v_arg1_shelf_hollow v_arg1_shelf_thick v_arg1_shelf_fats v_arg1_rules_deep v_arg1_rules_fine)) (h : fX2_stonesFor x2 x3 v_arg1_shelf_there v_arg1_rules_flat v_arg1_rules_least v_arg1_shelf_hollow v_arg1_shelf_thick v_arg1_shelf_fats v_arg1_rules_deep v_arg1_rules_fine = some res) (H : Heap) (locs : List Loc) (hW : HW G A s (wX2_stonesFor cI cZ a_this a_best a_allowed a_pay a_arg1 a_arg1_shelf a_arg1_rules a_arg1_sights a_arg1_shelf_thick a_arg1_shelf_hollow a_arg1_shelf_damp a_arg1_shelf_fresh a_arg1_shelf_pulls a_arg1_shelf_fats a_arg1_rules_deep a_arg1_rules_fine a_arg1_rules_pay a_arg1_rules_hair v_arg1_shelf_there v_arg1_rules_flat v_arg1_rules_least v_arg1_shelf_hollow v_arg1_shelf_thick v_arg1_shelf_fats v_arg1_rules_deep v_arg1_rules_fine) H locs) (ls : Array Slot) (hl : lv_has ls 6 [(0, .ref a_this), (1, .ref a_arg1), (2, .int x2), (3, .int x3)]) : W p l e rX2_stonesFor s m av below meth c H locs 0 0 Q (F0 m 0 ls []) := by
  have hx := C.1
  have hb := C.2.1
  unfold fX2_stonesFor at h
  refine lv_iconst (v := (0 : Int32)) hx hb dX2_stonesFor_0 (by decide) ?_
  refine lv_istore (lv' := [(4, .int (0 : Int32)), (0, .ref a_this), (1, .ref a_arg1), (2, .int x2), (3, .int x3)]) hx hb dX2_stonesFor_1 hl (Nat.le_of_ble_eq_true rfl) rfl (fun ls hl => ?_)
  refine lv_iconst (v := (0 : Int32)) hx hb dX2_stonesFor_3 (by decide) ?_
  refine lv_istore (lv' := [(5, .int (0 : Int32)), (4, .int (0 : Int32)), (0, .ref a_this), (1, .ref a_arg1), (2, .int x2), (3, .int x3)]) hx hb dX2_stonesFor_4 hl (Nat.le_of_ble_eq_true rfl) rfl (fun ls hl => ?_)
  exact wX2_stonesFor_6_ x2 x3 v_arg1_shelf_there v_arg1_rules_flat v_arg1_rules_least v_arg1_shelf_hollow v_arg1_shelf_thick v_arg1_shelf_fats v_arg1_rules_deep v_arg1_rules_fine C hQ 2000 (0 : Int32) (0 : Int32) h _ _ hW _ (lv_sub hl [3, 4, 5, 1, 0] rfl)
theorem ctX2_stonesFor {l : Launch} {G : va_G} {cI cZ cO : ClassId} (a_this a_best a_allowed a_pay a_arg1 a_arg1_shelf a_arg1_rules a_arg1_sights a_arg1_shelf_thick a_arg1_shelf_hollow a_arg1_shelf_damp a_arg1_shelf_fresh a_arg1_shelf_pulls a_arg1_shelf_fats a_arg1_rules_deep a_arg1_rules_fine a_arg1_rules_pay a_arg1_rules_hair : Nat) (x2 : Int32) (x3 : Int32) (v_arg1_shelf_there : Int32) (v_arg1_rules_flat : Int32) (v_arg1_rules_least : Int32) (v_arg1_shelf_hollow : Nat → Int32) (v_arg1_shelf_thick : Nat → Int32) (v_arg1_shelf_fats : Nat → Int32) (v_arg1_rules_deep : Nat → Int32) (v_arg1_rules_fine : Nat → Int32) {res : Int32} (h : fX2_stonesFor x2 x3 v_arg1_shelf_there v_arg1_rules_flat v_arg1_rules_least v_arg1_shelf_hollow v_arg1_shelf_thick v_arg1_shelf_fats v_arg1_rules_deep v_arg1_rules_fine = some res) : MI l G cI cZ cO yX2_stonesFor cX2_stonesFor 6 .int rX2_stonesFor [.ref a_this, .ref a_arg1, .int x2, .int x3] (wX2_stonesFor cI cZ a_this a_best a_allowed a_pay a_arg1 a_arg1_shelf a_arg1_rules a_arg1_sights a_arg1_shelf_thick a_arg1_shelf_hollow a_arg1_shelf_damp a_arg1_shelf_fresh a_arg1_shelf_pulls a_arg1_shelf_fats a_arg1_rules_deep a_arg1_rules_fine a_arg1_rules_pay a_arg1_rules_hair v_arg1_shelf_there v_arg1_rules_flat v_arg1_rules_least v_arg1_shelf_hollow v_arg1_shelf_thick v_arg1_shelf_fats v_arg1_rules_deep v_arg1_rules_fine) (res) (wX2_stonesFor cI cZ a_this a_best a_allowed a_pay a_arg1 a_arg1_shelf a_arg1_rules a_arg1_sights a_arg1_shelf_thick a_arg1_shelf_hollow a_arg1_shelf_damp a_arg1_shelf_fresh a_arg1_shelf_pulls a_arg1_shelf_fats a_arg1_rules_deep a_arg1_rules_fine a_arg1_rules_pay a_arg1_rules_hair v_arg1_shelf_there v_arg1_rules_flat v_arg1_rules_least v_arg1_shelf_hollow v_arg1_shelf_thick v_arg1_shelf_fats v_arg1_rules_deep v_arg1_rules_fine) := by
  refine MI.of (by decide) (Nat.le_of_ble_eq_true rfl) ?_
  intro p e s m below meth c A Q C hW hQ ls hl
  exact uX2_stonesFor_0 x2 x3 v_arg1_shelf_there v_arg1_rules_flat v_arg1_rules_least v_arg1_shelf_hollow v_arg1_shelf_thick v_arg1_shelf_fats v_arg1_rules_deep v_arg1_rules_fine C hQ h _ _ hW _ hl
abbrev wX2_fill (cI cZ : ClassId) (a_this a_best a_allowed a_pay a_arg1 a_arg1_shelf a_arg1_rules a_arg1_sights a_arg1_rules_deep a_arg1_rules_fine a_arg1_rules_pay a_arg1_rules_hair a_arg1_shelf_thick a_arg1_shelf_hollow a_arg1_shelf_damp a_arg1_shelf_fresh a_arg1_shelf_pulls a_arg1_shelf_fats : Nat) (v_best : Nat → Int32) (v_allowed : Nat → Int32) (v_pay : Nat → Int32) (v_arg1_rules_flat : Int32) (v_arg1_rules_least : Int32) (v_arg1_shelf_there : Int32) (v_arg1_rules_pay : Nat → Int32) (v_arg1_shelf_hollow : Nat → Int32) (v_arg1_shelf_thick : Nat → Int32) (v_arg1_shelf_fats : Nat → Int32) (v_arg1_rules_deep : Nat → Int32) (v_arg1_rules_fine : Nat → Int32) : va_W := [(a_this, .inr (2, [.ref a_best, .ref a_allowed, .ref a_pay])), (a_best, .inl (cI, 288, .inl v_best)), (a_allowed, .inl (cI, 8, .inl v_allowed)), (a_pay, .inl (cI, 8, .inl v_pay)), (a_arg1, .inr (4, [.ref a_arg1_shelf, .ref a_arg1_rules, .ref a_arg1_sights])), (a_arg1_rules, .inr (5, [.int v_arg1_rules_flat, .int v_arg1_rules_least, .ref a_arg1_rules_deep, .ref a_arg1_rules_fine, .ref a_arg1_rules_pay, .ref a_arg1_rules_hair])), (a_arg1_shelf, .inr (6, [.int v_arg1_shelf_there, .ref a_arg1_shelf_thick, .ref a_arg1_shelf_hollow, .ref a_arg1_shelf_damp, .ref a_arg1_shelf_fresh, .ref a_arg1_shelf_pulls, .ref a_arg1_shelf_fats])), (a_arg1_rules_pay, .inl (cI, 8, .inl v_arg1_rules_pay)), (a_arg1_shelf_hollow, .inl (cI, 5, .inl v_arg1_shelf_hollow)), (a_arg1_shelf_thick, .inl (cI, 5, .inl v_arg1_shelf_thick)), (a_arg1_shelf_fats, .inl (cI, 40, .inl v_arg1_shelf_fats)), (a_arg1_rules_deep, .inl (cI, 8, .inl v_arg1_rules_deep)), (a_arg1_rules_fine, .inl (cI, 8, .inl v_arg1_rules_fine))]
abbrev rX2_fill : Room := { frames := 4, cells := 0, slots := 0, locals := 98 }
set_option maxRecDepth 20000 in
theorem uX2_fill_72 {a_this a_best a_allowed a_pay a_arg1 a_arg1_shelf a_arg1_rules a_arg1_sights a_arg1_rules_deep a_arg1_rules_fine a_arg1_rules_pay a_arg1_rules_hair a_arg1_shelf_thick a_arg1_shelf_hollow a_arg1_shelf_damp a_arg1_shelf_fresh a_arg1_shelf_pulls a_arg1_shelf_fats : Nat} (x4 : Int32) (x5 : Int32) (v_best : Nat → Int32) (v_allowed : Nat → Int32) (v_pay : Nat → Int32) (v_arg1_rules_flat : Int32) (v_arg1_rules_least : Int32) (v_arg1_shelf_there : Int32) (v_arg1_rules_pay : Nat → Int32) (v_arg1_shelf_hollow : Nat → Int32) (v_arg1_shelf_thick : Nat → Int32) (v_arg1_shelf_fats : Nat → Int32) (v_arg1_rules_deep : Nat → Int32) (v_arg1_rules_fine : Nat → Int32) {res : (Nat → Int32) × (Nat → Int32) × (Nat → Int32)} (C : Cx p s m av meth c RX2 cX2_fill 6 none G cI cZ cO A) (hQ : RV p l e rX2_fill s m av below meth c G A cX2_fill Q (wX2_fill cI cZ a_this a_best a_allowed a_pay a_arg1 a_arg1_shelf a_arg1_rules a_arg1_sights a_arg1_rules_deep a_arg1_rules_fine a_arg1_rules_pay a_arg1_rules_hair a_arg1_shelf_thick a_arg1_shelf_hollow a_arg1_shelf_damp a_arg1_shelf_fresh a_arg1_shelf_pulls a_arg1_shelf_fats res.1 res.2.1 res.2.2 v_arg1_rules_flat v_arg1_rules_least v_arg1_shelf_there v_arg1_rules_pay v_arg1_shelf_hollow v_arg1_shelf_thick v_arg1_shelf_fats v_arg1_rules_deep v_arg1_rules_fine)) {k64 : (Int32) → (Nat → Int32) → Option ((Nat → Int32) × (Nat → Int32) × (Nat → Int32))} {k72 : (Int32) → (Nat → Int32) → Option ((Nat → Int32) × (Nat → Int32) × (Nat → Int32))} (hk64 : ∀ (x4 : Int32) (v_best : Nat → Int32), k64 x4 v_best = some res → ∀ (H : Heap) (locs : List Loc), HW G A s (wX2_fill cI cZ a_this a_best a_allowed a_pay a_arg1 a_arg1_shelf a_arg1_rules a_arg1_sights a_arg1_rules_deep a_arg1_rules_fine a_arg1_rules_pay a_arg1_rules_hair a_arg1_shelf_thick a_arg1_shelf_hollow a_arg1_shelf_damp a_arg1_shelf_fresh a_arg1_shelf_pulls a_arg1_shelf_fats v_best v_allowed v_pay v_arg1_rules_flat v_arg1_rules_least v_arg1_shelf_there v_arg1_rules_pay v_arg1_shelf_hollow v_arg1_shelf_thick v_arg1_shelf_fats v_arg1_rules_deep v_arg1_rules_fine) H locs → ∀ ls : Array Slot, lv_has ls 6 [(0, .ref a_this), (4, .int x4)] → W p l e rX2_fill s m av below meth c H locs 0 0 Q (F0 m 64 ls [])) (hk72 : ∀ (x5 : Int32) (v_best : Nat → Int32), k72 x5 v_best = some res → ∀ (H : Heap) (locs : List Loc), HW G A s (wX2_fill cI cZ a_this a_best a_allowed a_pay a_arg1 a_arg1_shelf a_arg1_rules a_arg1_sights a_arg1_rules_deep a_arg1_rules_fine a_arg1_rules_pay a_arg1_rules_hair a_arg1_shelf_thick a_arg1_shelf_hollow a_arg1_shelf_damp a_arg1_shelf_fresh a_arg1_shelf_pulls a_arg1_shelf_fats v_best v_allowed v_pay v_arg1_rules_flat v_arg1_rules_least v_arg1_shelf_there v_arg1_rules_pay v_arg1_shelf_hollow v_arg1_shelf_thick v_arg1_shelf_fats v_arg1_rules_deep v_arg1_rules_fine) H locs → ∀ ls : Array Slot, lv_has ls 6 [(0, .ref a_this), (4, .int x4), (5, .int x5)] → W p l e rX2_fill s m av below meth c H locs 0 0 Q (F0 m 72 ls [])) (h : FX2_fill_72 x4 v_allowed v_pay k64 k72 x5 v_best = some res) (H : Heap) (locs : List Loc) (hW : HW G A s (wX2_fill cI cZ a_this a_best a_allowed a_pay a_arg1 a_arg1_shelf a_arg1_rules a_arg1_sights a_arg1_rules_deep a_arg1_rules_fine a_arg1_rules_pay a_arg1_rules_hair a_arg1_shelf_thick a_arg1_shelf_hollow a_arg1_shelf_damp a_arg1_shelf_fresh a_arg1_shelf_pulls a_arg1_shelf_fats v_best v_allowed v_pay v_arg1_rules_flat v_arg1_rules_least v_arg1_shelf_there v_arg1_rules_pay v_arg1_shelf_hollow v_arg1_shelf_thick v_arg1_shelf_fats v_arg1_rules_deep v_arg1_rules_fine) H locs) (ls : Array Slot) (hl : lv_has ls 6 [(0, .ref a_this), (4, .int x4), (5, .int x5)]) : W p l e rX2_fill s m av below meth c H locs 0 0 Q (F0 m 72 ls []) := by
  have hx := C.1
  have hb := C.2.1
  unfold FX2_fill_72 at h
  refine lv_iload hx hb dX2_fill_72 (lv_at hl 2 rfl) ?_
  refine lv_bipush (v := (32 : Int32)) hx hb dX2_fill_74 (by decide) ?_
  refine lv_icmp_ge (tgt := 106) hx hb dX2_fill_76 (by decide) (fun c_3 => ?_) (fun c_3 => ?_)
  · have h := ip_h c_3 h
    obtain ⟨v_4, ev_4⟩ : ∃ y : Int32, y = x4 + (-1 : Int32) := ⟨_, rfl⟩
    have h := lt_h ev_4 h
    refine lv_iinc (v := v_4) (lv' := [(4, .int v_4), (0, .ref a_this), (5, .int x5)]) hx hb dX2_fill_106 hl (k := 1) rfl (by rw [ev_4]; rfl) (Nat.le_of_ble_eq_true rfl) rfl (fun ls hl => ?_)
    refine lv_goto (tgt := 64) hx hb dX2_fill_109 (by decide) ?_
    exact hk64 v_4 v_best h _ _ hW _ (lv_sub hl [1, 0] rfl)
  · have h := in_h c_3 h
    refine lv_aload_n hx hb dX2_fill_79 rfl (lv_at hl 0 rfl) ?_
    refine getW C fl_RX2_9 hW 0 rfl rfl dX2_fill_80 ?_
    refine lv_iload hx hb dX2_fill_83 (lv_at hl 1 rfl) ?_
    refine lv_bipush (v := (32 : Int32)) hx hb dX2_fill_85 (by decide) ?_
    refine lv_imul hx hb dX2_fill_87 ?_
    refine lv_iload hx hb dX2_fill_88 (lv_at hl 2 rfl) ?_
    refine lv_iadd hx hb dX2_fill_90 ?_
    refine lv_aload_n hx hb dX2_fill_91 rfl (lv_at hl 0 rfl) ?_
    refine lv_iload hx hb dX2_fill_92 (lv_at hl 1 rfl) ?_
    refine lv_iload hx hb dX2_fill_94 (lv_at hl 2 rfl) ?_
    obtain ⟨v_5, hv_5, h⟩ := bd_h h
    refine callVIr [0, 1, 2, 3] C lk_RX2_41 (ctX2_bestFrom a_this a_best a_allowed a_pay x4 x5 v_best v_allowed v_pay hv_5) hW hl 2 rfl rfl rfl rfl rfl ⟨rfl, rfl⟩ ⟨(Nat.le_of_ble_eq_true rfl), (Nat.le_of_ble_eq_true rfl)⟩ ⟨Nat.zero_le _, Nat.zero_le _⟩ rfl (Nat.le_of_ble_eq_true rfl) dX2_fill_96 (fun H locs hW => ?_)
    obtain ⟨g_6, h⟩ := gd_h h
    refine iastW C hW 1 rfl g_6 dX2_fill_99 (fun H locs hW => ?_)
    have hW : HW G A s (wX2_fill cI cZ a_this a_best a_allowed a_pay a_arg1 a_arg1_shelf a_arg1_rules a_arg1_sights a_arg1_rules_deep a_arg1_rules_fine a_arg1_rules_pay a_arg1_rules_hair a_arg1_shelf_thick a_arg1_shelf_hollow a_arg1_shelf_damp a_arg1_shelf_fresh a_arg1_shelf_pulls a_arg1_shelf_fats (upd v_best (Int32.toNatClampNeg ((x4 * (32 : Int32)) + x5)) v_5) v_allowed v_pay v_arg1_rules_flat v_arg1_rules_least v_arg1_shelf_there v_arg1_rules_pay v_arg1_shelf_hollow v_arg1_shelf_thick v_arg1_shelf_fats v_arg1_rules_deep v_arg1_rules_fine) H locs := hW
    obtain ⟨v_7, ev_7⟩ : ∃ y : Int32, y = x5 + (1 : Int32) := ⟨_, rfl⟩
    have h := lt_h ev_7 h
    refine lv_iinc (v := v_7) (lv' := [(5, .int v_7), (0, .ref a_this), (4, .int x4)]) hx hb dX2_fill_100 hl (k := 2) rfl (by rw [ev_7]; rfl) (Nat.le_of_ble_eq_true rfl) rfl (fun ls hl => ?_)
    refine lv_goto (tgt := 72) hx hb dX2_fill_103 (by decide) ?_
    exact hk72 v_7 (upd v_best (Int32.toNatClampNeg ((x4 * (32 : Int32)) + x5)) v_5) h _ _ hW _ (lv_sub hl [1, 2, 0] rfl)
theorem wX2_fill_72_ {a_this a_best a_allowed a_pay a_arg1 a_arg1_shelf a_arg1_rules a_arg1_sights a_arg1_rules_deep a_arg1_rules_fine a_arg1_rules_pay a_arg1_rules_hair a_arg1_shelf_thick a_arg1_shelf_hollow a_arg1_shelf_damp a_arg1_shelf_fresh a_arg1_shelf_pulls a_arg1_shelf_fats : Nat} (x4 : Int32) (v_allowed : Nat → Int32) (v_pay : Nat → Int32) (v_arg1_rules_flat : Int32) (v_arg1_rules_least : Int32) (v_arg1_shelf_there : Int32) (v_arg1_rules_pay : Nat → Int32) (v_arg1_shelf_hollow : Nat → Int32) (v_arg1_shelf_thick : Nat → Int32) (v_arg1_shelf_fats : Nat → Int32) (v_arg1_rules_deep : Nat → Int32) (v_arg1_rules_fine : Nat → Int32) {res : (Nat → Int32) × (Nat → Int32) × (Nat → Int32)} (C : Cx p s m av meth c RX2 cX2_fill 6 none G cI cZ cO A) (hQ : RV p l e rX2_fill s m av below meth c G A cX2_fill Q (wX2_fill cI cZ a_this a_best a_allowed a_pay a_arg1 a_arg1_shelf a_arg1_rules a_arg1_sights a_arg1_rules_deep a_arg1_rules_fine a_arg1_rules_pay a_arg1_rules_hair a_arg1_shelf_thick a_arg1_shelf_hollow a_arg1_shelf_damp a_arg1_shelf_fresh a_arg1_shelf_pulls a_arg1_shelf_fats res.1 res.2.1 res.2.2 v_arg1_rules_flat v_arg1_rules_least v_arg1_shelf_there v_arg1_rules_pay v_arg1_shelf_hollow v_arg1_shelf_thick v_arg1_shelf_fats v_arg1_rules_deep v_arg1_rules_fine)) {k64 : (Int32) → (Nat → Int32) → Option ((Nat → Int32) × (Nat → Int32) × (Nat → Int32))} (hk64 : ∀ (x4 : Int32) (v_best : Nat → Int32), k64 x4 v_best = some res → ∀ (H : Heap) (locs : List Loc), HW G A s (wX2_fill cI cZ a_this a_best a_allowed a_pay a_arg1 a_arg1_shelf a_arg1_rules a_arg1_sights a_arg1_rules_deep a_arg1_rules_fine a_arg1_rules_pay a_arg1_rules_hair a_arg1_shelf_thick a_arg1_shelf_hollow a_arg1_shelf_damp a_arg1_shelf_fresh a_arg1_shelf_pulls a_arg1_shelf_fats v_best v_allowed v_pay v_arg1_rules_flat v_arg1_rules_least v_arg1_shelf_there v_arg1_rules_pay v_arg1_shelf_hollow v_arg1_shelf_thick v_arg1_shelf_fats v_arg1_rules_deep v_arg1_rules_fine) H locs → ∀ ls : Array Slot, lv_has ls 6 [(0, .ref a_this), (4, .int x4)] → W p l e rX2_fill s m av below meth c H locs 0 0 Q (F0 m 64 ls [])) : ∀ (n : Nat) (x5 : Int32) (v_best : Nat → Int32), LX2_fill_72 x4 v_allowed v_pay k64 n x5 v_best = some res → ∀ (H : Heap) (locs : List Loc), HW G A s (wX2_fill cI cZ a_this a_best a_allowed a_pay a_arg1 a_arg1_shelf a_arg1_rules a_arg1_sights a_arg1_rules_deep a_arg1_rules_fine a_arg1_rules_pay a_arg1_rules_hair a_arg1_shelf_thick a_arg1_shelf_hollow a_arg1_shelf_damp a_arg1_shelf_fresh a_arg1_shelf_pulls a_arg1_shelf_fats v_best v_allowed v_pay v_arg1_rules_flat v_arg1_rules_least v_arg1_shelf_there v_arg1_rules_pay v_arg1_shelf_hollow v_arg1_shelf_thick v_arg1_shelf_fats v_arg1_rules_deep v_arg1_rules_fine) H locs → ∀ ls : Array Slot, lv_has ls 6 [(0, .ref a_this), (4, .int x4), (5, .int x5)] → W p l e rX2_fill s m av below meth c H locs 0 0 Q (F0 m 72 ls []) := by
  intro n
  induction n with
  | zero => intro x5 v_best h; cases h
  | succ n ih =>
    intro x5 v_best h H locs hW ls hl
    exact uX2_fill_72 x4 x5 v_best v_allowed v_pay v_arg1_rules_flat v_arg1_rules_least v_arg1_shelf_there v_arg1_rules_pay v_arg1_shelf_hollow v_arg1_shelf_thick v_arg1_shelf_fats v_arg1_rules_deep v_arg1_rules_fine C hQ hk64 (k72 := LX2_fill_72 x4 v_allowed v_pay k64 n) ih h H locs hW ls hl
set_option maxRecDepth 20000 in
theorem uX2_fill_64 {a_this a_best a_allowed a_pay a_arg1 a_arg1_shelf a_arg1_rules a_arg1_sights a_arg1_rules_deep a_arg1_rules_fine a_arg1_rules_pay a_arg1_rules_hair a_arg1_shelf_thick a_arg1_shelf_hollow a_arg1_shelf_damp a_arg1_shelf_fresh a_arg1_shelf_pulls a_arg1_shelf_fats : Nat} (x4 : Int32) (v_best : Nat → Int32) (v_allowed : Nat → Int32) (v_pay : Nat → Int32) (v_arg1_rules_flat : Int32) (v_arg1_rules_least : Int32) (v_arg1_shelf_there : Int32) (v_arg1_rules_pay : Nat → Int32) (v_arg1_shelf_hollow : Nat → Int32) (v_arg1_shelf_thick : Nat → Int32) (v_arg1_shelf_fats : Nat → Int32) (v_arg1_rules_deep : Nat → Int32) (v_arg1_rules_fine : Nat → Int32) {res : (Nat → Int32) × (Nat → Int32) × (Nat → Int32)} (C : Cx p s m av meth c RX2 cX2_fill 6 none G cI cZ cO A) (hQ : RV p l e rX2_fill s m av below meth c G A cX2_fill Q (wX2_fill cI cZ a_this a_best a_allowed a_pay a_arg1 a_arg1_shelf a_arg1_rules a_arg1_sights a_arg1_rules_deep a_arg1_rules_fine a_arg1_rules_pay a_arg1_rules_hair a_arg1_shelf_thick a_arg1_shelf_hollow a_arg1_shelf_damp a_arg1_shelf_fresh a_arg1_shelf_pulls a_arg1_shelf_fats res.1 res.2.1 res.2.2 v_arg1_rules_flat v_arg1_rules_least v_arg1_shelf_there v_arg1_rules_pay v_arg1_shelf_hollow v_arg1_shelf_thick v_arg1_shelf_fats v_arg1_rules_deep v_arg1_rules_fine)) {k64 : (Int32) → (Nat → Int32) → Option ((Nat → Int32) × (Nat → Int32) × (Nat → Int32))} (hk64 : ∀ (x4 : Int32) (v_best : Nat → Int32), k64 x4 v_best = some res → ∀ (H : Heap) (locs : List Loc), HW G A s (wX2_fill cI cZ a_this a_best a_allowed a_pay a_arg1 a_arg1_shelf a_arg1_rules a_arg1_sights a_arg1_rules_deep a_arg1_rules_fine a_arg1_rules_pay a_arg1_rules_hair a_arg1_shelf_thick a_arg1_shelf_hollow a_arg1_shelf_damp a_arg1_shelf_fresh a_arg1_shelf_pulls a_arg1_shelf_fats v_best v_allowed v_pay v_arg1_rules_flat v_arg1_rules_least v_arg1_shelf_there v_arg1_rules_pay v_arg1_shelf_hollow v_arg1_shelf_thick v_arg1_shelf_fats v_arg1_rules_deep v_arg1_rules_fine) H locs → ∀ ls : Array Slot, lv_has ls 6 [(0, .ref a_this), (4, .int x4)] → W p l e rX2_fill s m av below meth c H locs 0 0 Q (F0 m 64 ls [])) (h : FX2_fill_64 v_allowed v_pay k64 x4 v_best = some res) (H : Heap) (locs : List Loc) (hW : HW G A s (wX2_fill cI cZ a_this a_best a_allowed a_pay a_arg1 a_arg1_shelf a_arg1_rules a_arg1_sights a_arg1_rules_deep a_arg1_rules_fine a_arg1_rules_pay a_arg1_rules_hair a_arg1_shelf_thick a_arg1_shelf_hollow a_arg1_shelf_damp a_arg1_shelf_fresh a_arg1_shelf_pulls a_arg1_shelf_fats v_best v_allowed v_pay v_arg1_rules_flat v_arg1_rules_least v_arg1_shelf_there v_arg1_rules_pay v_arg1_shelf_hollow v_arg1_shelf_thick v_arg1_shelf_fats v_arg1_rules_deep v_arg1_rules_fine) H locs) (ls : Array Slot) (hl : lv_has ls 6 [(0, .ref a_this), (4, .int x4)]) : W p l e rX2_fill s m av below meth c H locs 0 0 Q (F0 m 64 ls []) := by
  have hx := C.1
  have hb := C.2.1
  unfold FX2_fill_64 at h
  refine lv_iload hx hb dX2_fill_64 (lv_at hl 1 rfl) ?_
  refine lv_if_lt (tgt := 112) hx hb dX2_fill_66 (by decide) (fun c_2 => ?_) (fun c_2 => ?_)
  · have h := ip_h c_2 h
    obtain rfl := Option.some.inj h
    exact hQ _ _ _ _ dX2_fill_112 hW
  · have h := in_h c_2 h
    refine lv_iconst (v := (0 : Int32)) hx hb dX2_fill_69 (by decide) ?_
    refine lv_istore (lv' := [(5, .int (0 : Int32)), (0, .ref a_this), (4, .int x4)]) hx hb dX2_fill_70 hl (Nat.le_of_ble_eq_true rfl) rfl (fun ls hl => ?_)
    exact wX2_fill_72_ x4 v_allowed v_pay v_arg1_rules_flat v_arg1_rules_least v_arg1_shelf_there v_arg1_rules_pay v_arg1_shelf_hollow v_arg1_shelf_thick v_arg1_shelf_fats v_arg1_rules_deep v_arg1_rules_fine C hQ hk64 2000 (0 : Int32) v_best h _ _ hW _ (lv_sub hl [1, 2, 0] rfl)
theorem wX2_fill_64_ {a_this a_best a_allowed a_pay a_arg1 a_arg1_shelf a_arg1_rules a_arg1_sights a_arg1_rules_deep a_arg1_rules_fine a_arg1_rules_pay a_arg1_rules_hair a_arg1_shelf_thick a_arg1_shelf_hollow a_arg1_shelf_damp a_arg1_shelf_fresh a_arg1_shelf_pulls a_arg1_shelf_fats : Nat} (v_allowed : Nat → Int32) (v_pay : Nat → Int32) (v_arg1_rules_flat : Int32) (v_arg1_rules_least : Int32) (v_arg1_shelf_there : Int32) (v_arg1_rules_pay : Nat → Int32) (v_arg1_shelf_hollow : Nat → Int32) (v_arg1_shelf_thick : Nat → Int32) (v_arg1_shelf_fats : Nat → Int32) (v_arg1_rules_deep : Nat → Int32) (v_arg1_rules_fine : Nat → Int32) {res : (Nat → Int32) × (Nat → Int32) × (Nat → Int32)} (C : Cx p s m av meth c RX2 cX2_fill 6 none G cI cZ cO A) (hQ : RV p l e rX2_fill s m av below meth c G A cX2_fill Q (wX2_fill cI cZ a_this a_best a_allowed a_pay a_arg1 a_arg1_shelf a_arg1_rules a_arg1_sights a_arg1_rules_deep a_arg1_rules_fine a_arg1_rules_pay a_arg1_rules_hair a_arg1_shelf_thick a_arg1_shelf_hollow a_arg1_shelf_damp a_arg1_shelf_fresh a_arg1_shelf_pulls a_arg1_shelf_fats res.1 res.2.1 res.2.2 v_arg1_rules_flat v_arg1_rules_least v_arg1_shelf_there v_arg1_rules_pay v_arg1_shelf_hollow v_arg1_shelf_thick v_arg1_shelf_fats v_arg1_rules_deep v_arg1_rules_fine)) : ∀ (n : Nat) (x4 : Int32) (v_best : Nat → Int32), LX2_fill_64 v_allowed v_pay n x4 v_best = some res → ∀ (H : Heap) (locs : List Loc), HW G A s (wX2_fill cI cZ a_this a_best a_allowed a_pay a_arg1 a_arg1_shelf a_arg1_rules a_arg1_sights a_arg1_rules_deep a_arg1_rules_fine a_arg1_rules_pay a_arg1_rules_hair a_arg1_shelf_thick a_arg1_shelf_hollow a_arg1_shelf_damp a_arg1_shelf_fresh a_arg1_shelf_pulls a_arg1_shelf_fats v_best v_allowed v_pay v_arg1_rules_flat v_arg1_rules_least v_arg1_shelf_there v_arg1_rules_pay v_arg1_shelf_hollow v_arg1_shelf_thick v_arg1_shelf_fats v_arg1_rules_deep v_arg1_rules_fine) H locs → ∀ ls : Array Slot, lv_has ls 6 [(0, .ref a_this), (4, .int x4)] → W p l e rX2_fill s m av below meth c H locs 0 0 Q (F0 m 64 ls []) := by
  intro n
  induction n with
  | zero => intro x4 v_best h; cases h
  | succ n ih =>
    intro x4 v_best h H locs hW ls hl
    exact uX2_fill_64 x4 v_best v_allowed v_pay v_arg1_rules_flat v_arg1_rules_least v_arg1_shelf_there v_arg1_rules_pay v_arg1_shelf_hollow v_arg1_shelf_thick v_arg1_shelf_fats v_arg1_rules_deep v_arg1_rules_fine C hQ (k64 := LX2_fill_64 v_allowed v_pay n) ih h H locs hW ls hl
set_option maxRecDepth 20000 in
theorem uX2_fill_3 {a_this a_best a_allowed a_pay a_arg1 a_arg1_shelf a_arg1_rules a_arg1_sights a_arg1_rules_deep a_arg1_rules_fine a_arg1_rules_pay a_arg1_rules_hair a_arg1_shelf_thick a_arg1_shelf_hollow a_arg1_shelf_damp a_arg1_shelf_fresh a_arg1_shelf_pulls a_arg1_shelf_fats : Nat} (x2 : Int32) (x3 : Int32) (x4 : Int32) (v_best : Nat → Int32) (v_allowed : Nat → Int32) (v_pay : Nat → Int32) (v_arg1_rules_flat : Int32) (v_arg1_rules_least : Int32) (v_arg1_shelf_there : Int32) (v_arg1_rules_pay : Nat → Int32) (v_arg1_shelf_hollow : Nat → Int32) (v_arg1_shelf_thick : Nat → Int32) (v_arg1_shelf_fats : Nat → Int32) (v_arg1_rules_deep : Nat → Int32) (v_arg1_rules_fine : Nat → Int32) {res : (Nat → Int32) × (Nat → Int32) × (Nat → Int32)} (C : Cx p s m av meth c RX2 cX2_fill 6 none G cI cZ cO A) (hQ : RV p l e rX2_fill s m av below meth c G A cX2_fill Q (wX2_fill cI cZ a_this a_best a_allowed a_pay a_arg1 a_arg1_shelf a_arg1_rules a_arg1_sights a_arg1_rules_deep a_arg1_rules_fine a_arg1_rules_pay a_arg1_rules_hair a_arg1_shelf_thick a_arg1_shelf_hollow a_arg1_shelf_damp a_arg1_shelf_fresh a_arg1_shelf_pulls a_arg1_shelf_fats res.1 res.2.1 res.2.2 v_arg1_rules_flat v_arg1_rules_least v_arg1_shelf_there v_arg1_rules_pay v_arg1_shelf_hollow v_arg1_shelf_thick v_arg1_shelf_fats v_arg1_rules_deep v_arg1_rules_fine)) {k3 : (Int32) → (Nat → Int32) → (Nat → Int32) → Option ((Nat → Int32) × (Nat → Int32) × (Nat → Int32))} (hk3 : ∀ (x4 : Int32) (v_allowed : Nat → Int32) (v_pay : Nat → Int32), k3 x4 v_allowed v_pay = some res → ∀ (H : Heap) (locs : List Loc), HW G A s (wX2_fill cI cZ a_this a_best a_allowed a_pay a_arg1 a_arg1_shelf a_arg1_rules a_arg1_sights a_arg1_rules_deep a_arg1_rules_fine a_arg1_rules_pay a_arg1_rules_hair a_arg1_shelf_thick a_arg1_shelf_hollow a_arg1_shelf_damp a_arg1_shelf_fresh a_arg1_shelf_pulls a_arg1_shelf_fats v_best v_allowed v_pay v_arg1_rules_flat v_arg1_rules_least v_arg1_shelf_there v_arg1_rules_pay v_arg1_shelf_hollow v_arg1_shelf_thick v_arg1_shelf_fats v_arg1_rules_deep v_arg1_rules_fine) H locs → ∀ ls : Array Slot, lv_has ls 6 [(0, .ref a_this), (1, .ref a_arg1), (2, .int x2), (3, .int x3), (4, .int x4)] → W p l e rX2_fill s m av below meth c H locs 0 0 Q (F0 m 3 ls [])) (h : FX2_fill_3 x2 x3 v_best v_arg1_rules_flat v_arg1_rules_least v_arg1_shelf_there v_arg1_rules_pay v_arg1_shelf_hollow v_arg1_shelf_thick v_arg1_shelf_fats v_arg1_rules_deep v_arg1_rules_fine k3 x4 v_allowed v_pay = some res) (H : Heap) (locs : List Loc) (hW : HW G A s (wX2_fill cI cZ a_this a_best a_allowed a_pay a_arg1 a_arg1_shelf a_arg1_rules a_arg1_sights a_arg1_rules_deep a_arg1_rules_fine a_arg1_rules_pay a_arg1_rules_hair a_arg1_shelf_thick a_arg1_shelf_hollow a_arg1_shelf_damp a_arg1_shelf_fresh a_arg1_shelf_pulls a_arg1_shelf_fats v_best v_allowed v_pay v_arg1_rules_flat v_arg1_rules_least v_arg1_shelf_there v_arg1_rules_pay v_arg1_shelf_hollow v_arg1_shelf_thick v_arg1_shelf_fats v_arg1_rules_deep v_arg1_rules_fine) H locs) (ls : Array Slot) (hl : lv_has ls 6 [(0, .ref a_this), (1, .ref a_arg1), (2, .int x2), (3, .int x3), (4, .int x4)]) : W p l e rX2_fill s m av below meth c H locs 0 0 Q (F0 m 3 ls []) := by
  have hx := C.1
  have hb := C.2.1
  unfold FX2_fill_3 at h
  refine lv_iload hx hb dX2_fill_3 (lv_at hl 4 rfl) ?_
  refine lv_bipush (v := (8 : Int32)) hx hb dX2_fill_5 (by decide) ?_
  refine lv_icmp_ge (tgt := 60) hx hb dX2_fill_7 (by decide) (fun c_1 => ?_) (fun c_1 => ?_)
  · have h := ip_h c_1 h
    refine lv_bipush (v := (7 : Int32)) hx hb dX2_fill_60 (by decide) ?_
    refine lv_istore (lv' := [(4, .int (7 : Int32)), (0, .ref a_this), (1, .ref a_arg1), (2, .int x2), (3, .int x3)]) hx hb dX2_fill_62 hl (Nat.le_of_ble_eq_true rfl) rfl (fun ls hl => ?_)
    exact wX2_fill_64_ v_allowed v_pay v_arg1_rules_flat v_arg1_rules_least v_arg1_shelf_there v_arg1_rules_pay v_arg1_shelf_hollow v_arg1_shelf_thick v_arg1_shelf_fats v_arg1_rules_deep v_arg1_rules_fine C hQ 2000 (7 : Int32) v_best h _ _ hW _ (lv_sub hl [1, 0] rfl)
  · have h := in_h c_1 h
    refine lv_aload_n hx hb dX2_fill_10 rfl (lv_at hl 0 rfl) ?_
    refine getW C fl_RX2_18 hW 0 rfl rfl dX2_fill_11 ?_
    refine lv_iload hx hb dX2_fill_14 (lv_at hl 4 rfl) ?_
    refine lv_aload_n hx hb dX2_fill_16 rfl (lv_at hl 1 rfl) ?_
    refine getW C fl_RX2_21 hW 4 rfl rfl dX2_fill_17 ?_
    refine lv_iload hx hb dX2_fill_20 (lv_at hl 4 rfl) ?_
    obtain ⟨v_8, hv_8, h⟩ := bd_h h
    refine callVIr [5, 7] C lk_RX2_27 (ctX5_payOf a_arg1_rules a_arg1_rules_deep a_arg1_rules_fine a_arg1_rules_pay a_arg1_rules_hair x4 v_arg1_rules_flat v_arg1_rules_least v_arg1_rules_pay hv_8) hW hl 5 rfl rfl rfl rfl rfl ⟨rfl, rfl⟩ ⟨(Nat.le_of_ble_eq_true rfl), (Nat.le_of_ble_eq_true rfl)⟩ ⟨Nat.zero_le _, Nat.zero_le _⟩ rfl (Nat.le_of_ble_eq_true rfl) dX2_fill_22 (fun H locs hW => ?_)
    obtain ⟨g_9, h⟩ := gd_h h
    refine iastW C hW 3 rfl g_9 dX2_fill_25 (fun H locs hW => ?_)
    have hW : HW G A s (wX2_fill cI cZ a_this a_best a_allowed a_pay a_arg1 a_arg1_shelf a_arg1_rules a_arg1_sights a_arg1_rules_deep a_arg1_rules_fine a_arg1_rules_pay a_arg1_rules_hair a_arg1_shelf_thick a_arg1_shelf_hollow a_arg1_shelf_damp a_arg1_shelf_fresh a_arg1_shelf_pulls a_arg1_shelf_fats v_best v_allowed (upd v_pay (Int32.toNatClampNeg x4) v_8) v_arg1_rules_flat v_arg1_rules_least v_arg1_shelf_there v_arg1_rules_pay v_arg1_shelf_hollow v_arg1_shelf_thick v_arg1_shelf_fats v_arg1_rules_deep v_arg1_rules_fine) H locs := hW
    refine lv_aload_n hx hb dX2_fill_26 rfl (lv_at hl 0 rfl) ?_
    refine getW C fl_RX2_15 hW 0 rfl rfl dX2_fill_27 ?_
    refine lv_iload hx hb dX2_fill_30 (lv_at hl 4 rfl) ?_
    refine lv_iload_n hx hb dX2_fill_32 rfl (lv_at hl 2 rfl) ?_
    refine lv_iload hx hb dX2_fill_33 (lv_at hl 4 rfl) ?_
    refine callNI0 C lk_RX2_33 (ctX10_hasBit x2 x4 rfl) hW hl rfl ⟨rfl, rfl⟩ ⟨(Nat.le_of_ble_eq_true rfl), (Nat.le_of_ble_eq_true rfl)⟩ ⟨Nat.zero_le _, Nat.zero_le _⟩ rfl (Nat.le_of_ble_eq_true rfl) dX2_fill_35 (fun H locs hW => ?_)
    refine lv_if_eq (tgt := 52) hx hb dX2_fill_38 (by decide) (fun c_10 => ?_) (fun c_10 => ?_)
    · have h := ip_h c_10 h
      refine lv_iconst (v := (0 : Int32)) hx hb dX2_fill_52 (by decide) ?_
      refine iastW C hW 2 rfl g_9 dX2_fill_53 (fun H locs hW => ?_)
      have hW : HW G A s (wX2_fill cI cZ a_this a_best a_allowed a_pay a_arg1 a_arg1_shelf a_arg1_rules a_arg1_sights a_arg1_rules_deep a_arg1_rules_fine a_arg1_rules_pay a_arg1_rules_hair a_arg1_shelf_thick a_arg1_shelf_hollow a_arg1_shelf_damp a_arg1_shelf_fresh a_arg1_shelf_pulls a_arg1_shelf_fats v_best (upd v_allowed (Int32.toNatClampNeg x4) (0 : Int32)) (upd v_pay (Int32.toNatClampNeg x4) v_8) v_arg1_rules_flat v_arg1_rules_least v_arg1_shelf_there v_arg1_rules_pay v_arg1_shelf_hollow v_arg1_shelf_thick v_arg1_shelf_fats v_arg1_rules_deep v_arg1_rules_fine) H locs := hW
      obtain ⟨v_11, ev_11⟩ : ∃ y : Int32, y = x4 + (1 : Int32) := ⟨_, rfl⟩
      have h := lt_h ev_11 h
      refine lv_iinc (v := v_11) (lv' := [(4, .int v_11), (0, .ref a_this), (1, .ref a_arg1), (2, .int x2), (3, .int x3)]) hx hb dX2_fill_54 hl (k := 4) rfl (by rw [ev_11]; rfl) (Nat.le_of_ble_eq_true rfl) rfl (fun ls hl => ?_)
      refine lv_goto (tgt := 3) hx hb dX2_fill_57 (by decide) ?_
      exact hk3 v_11 (upd v_allowed (Int32.toNatClampNeg x4) (0 : Int32)) (upd v_pay (Int32.toNatClampNeg x4) v_8) h _ _ hW _ (lv_sub hl [1, 2, 3, 4, 0] rfl)
    · have h := in_h c_10 h
      refine lv_aload_n hx hb dX2_fill_41 rfl (lv_at hl 0 rfl) ?_
      refine lv_aload_n hx hb dX2_fill_42 rfl (lv_at hl 1 rfl) ?_
      refine lv_iload hx hb dX2_fill_43 (lv_at hl 4 rfl) ?_
      refine lv_iload_n hx hb dX2_fill_45 rfl (lv_at hl 3 rfl) ?_
      obtain ⟨v_12, hv_12, h⟩ := bd_h h
      refine callVIr [0, 4, 6, 5, 8, 9, 10, 11, 12] C lk_RX2_37 (ctX2_stonesFor a_this a_best a_allowed a_pay a_arg1 a_arg1_shelf a_arg1_rules a_arg1_sights a_arg1_shelf_thick a_arg1_shelf_hollow a_arg1_shelf_damp a_arg1_shelf_fresh a_arg1_shelf_pulls a_arg1_shelf_fats a_arg1_rules_deep a_arg1_rules_fine a_arg1_rules_pay a_arg1_rules_hair x4 x3 v_arg1_shelf_there v_arg1_rules_flat v_arg1_rules_least v_arg1_shelf_hollow v_arg1_shelf_thick v_arg1_shelf_fats v_arg1_rules_deep v_arg1_rules_fine hv_12) hW hl 2 rfl rfl rfl rfl rfl ⟨rfl, rfl⟩ ⟨(Nat.le_of_ble_eq_true rfl), (Nat.le_of_ble_eq_true rfl)⟩ ⟨Nat.zero_le _, Nat.zero_le _⟩ rfl (Nat.le_of_ble_eq_true rfl) dX2_fill_46 (fun H locs hW => ?_)
      refine lv_goto (tgt := 53) hx hb dX2_fill_49 (by decide) ?_
      refine iastW C hW 2 rfl g_9 dX2_fill_53 (fun H locs hW => ?_)
      have hW : HW G A s (wX2_fill cI cZ a_this a_best a_allowed a_pay a_arg1 a_arg1_shelf a_arg1_rules a_arg1_sights a_arg1_rules_deep a_arg1_rules_fine a_arg1_rules_pay a_arg1_rules_hair a_arg1_shelf_thick a_arg1_shelf_hollow a_arg1_shelf_damp a_arg1_shelf_fresh a_arg1_shelf_pulls a_arg1_shelf_fats v_best (upd v_allowed (Int32.toNatClampNeg x4) v_12) (upd v_pay (Int32.toNatClampNeg x4) v_8) v_arg1_rules_flat v_arg1_rules_least v_arg1_shelf_there v_arg1_rules_pay v_arg1_shelf_hollow v_arg1_shelf_thick v_arg1_shelf_fats v_arg1_rules_deep v_arg1_rules_fine) H locs := hW
      obtain ⟨v_13, ev_13⟩ : ∃ y : Int32, y = x4 + (1 : Int32) := ⟨_, rfl⟩
      have h := lt_h ev_13 h
      refine lv_iinc (v := v_13) (lv' := [(4, .int v_13), (0, .ref a_this), (1, .ref a_arg1), (2, .int x2), (3, .int x3)]) hx hb dX2_fill_54 hl (k := 4) rfl (by rw [ev_13]; rfl) (Nat.le_of_ble_eq_true rfl) rfl (fun ls hl => ?_)
      refine lv_goto (tgt := 3) hx hb dX2_fill_57 (by decide) ?_
      exact hk3 v_13 (upd v_allowed (Int32.toNatClampNeg x4) v_12) (upd v_pay (Int32.toNatClampNeg x4) v_8) h _ _ hW _ (lv_sub hl [1, 2, 3, 4, 0] rfl)
theorem wX2_fill_3_ {a_this a_best a_allowed a_pay a_arg1 a_arg1_shelf a_arg1_rules a_arg1_sights a_arg1_rules_deep a_arg1_rules_fine a_arg1_rules_pay a_arg1_rules_hair a_arg1_shelf_thick a_arg1_shelf_hollow a_arg1_shelf_damp a_arg1_shelf_fresh a_arg1_shelf_pulls a_arg1_shelf_fats : Nat} (x2 : Int32) (x3 : Int32) (v_best : Nat → Int32) (v_arg1_rules_flat : Int32) (v_arg1_rules_least : Int32) (v_arg1_shelf_there : Int32) (v_arg1_rules_pay : Nat → Int32) (v_arg1_shelf_hollow : Nat → Int32) (v_arg1_shelf_thick : Nat → Int32) (v_arg1_shelf_fats : Nat → Int32) (v_arg1_rules_deep : Nat → Int32) (v_arg1_rules_fine : Nat → Int32) {res : (Nat → Int32) × (Nat → Int32) × (Nat → Int32)} (C : Cx p s m av meth c RX2 cX2_fill 6 none G cI cZ cO A) (hQ : RV p l e rX2_fill s m av below meth c G A cX2_fill Q (wX2_fill cI cZ a_this a_best a_allowed a_pay a_arg1 a_arg1_shelf a_arg1_rules a_arg1_sights a_arg1_rules_deep a_arg1_rules_fine a_arg1_rules_pay a_arg1_rules_hair a_arg1_shelf_thick a_arg1_shelf_hollow a_arg1_shelf_damp a_arg1_shelf_fresh a_arg1_shelf_pulls a_arg1_shelf_fats res.1 res.2.1 res.2.2 v_arg1_rules_flat v_arg1_rules_least v_arg1_shelf_there v_arg1_rules_pay v_arg1_shelf_hollow v_arg1_shelf_thick v_arg1_shelf_fats v_arg1_rules_deep v_arg1_rules_fine)) : ∀ (n : Nat) (x4 : Int32) (v_allowed : Nat → Int32) (v_pay : Nat → Int32), LX2_fill_3 x2 x3 v_best v_arg1_rules_flat v_arg1_rules_least v_arg1_shelf_there v_arg1_rules_pay v_arg1_shelf_hollow v_arg1_shelf_thick v_arg1_shelf_fats v_arg1_rules_deep v_arg1_rules_fine n x4 v_allowed v_pay = some res → ∀ (H : Heap) (locs : List Loc), HW G A s (wX2_fill cI cZ a_this a_best a_allowed a_pay a_arg1 a_arg1_shelf a_arg1_rules a_arg1_sights a_arg1_rules_deep a_arg1_rules_fine a_arg1_rules_pay a_arg1_rules_hair a_arg1_shelf_thick a_arg1_shelf_hollow a_arg1_shelf_damp a_arg1_shelf_fresh a_arg1_shelf_pulls a_arg1_shelf_fats v_best v_allowed v_pay v_arg1_rules_flat v_arg1_rules_least v_arg1_shelf_there v_arg1_rules_pay v_arg1_shelf_hollow v_arg1_shelf_thick v_arg1_shelf_fats v_arg1_rules_deep v_arg1_rules_fine) H locs → ∀ ls : Array Slot, lv_has ls 6 [(0, .ref a_this), (1, .ref a_arg1), (2, .int x2), (3, .int x3), (4, .int x4)] → W p l e rX2_fill s m av below meth c H locs 0 0 Q (F0 m 3 ls []) := by
  intro n
  induction n with
  | zero => intro x4 v_allowed v_pay h; cases h
  | succ n ih =>
    intro x4 v_allowed v_pay h H locs hW ls hl
    exact uX2_fill_3 x2 x3 x4 v_best v_allowed v_pay v_arg1_rules_flat v_arg1_rules_least v_arg1_shelf_there v_arg1_rules_pay v_arg1_shelf_hollow v_arg1_shelf_thick v_arg1_shelf_fats v_arg1_rules_deep v_arg1_rules_fine C hQ (k3 := LX2_fill_3 x2 x3 v_best v_arg1_rules_flat v_arg1_rules_least v_arg1_shelf_there v_arg1_rules_pay v_arg1_shelf_hollow v_arg1_shelf_thick v_arg1_shelf_fats v_arg1_rules_deep v_arg1_rules_fine n) ih h H locs hW ls hl
set_option maxRecDepth 20000 in
theorem uX2_fill_0 {a_this a_best a_allowed a_pay a_arg1 a_arg1_shelf a_arg1_rules a_arg1_sights a_arg1_rules_deep a_arg1_rules_fine a_arg1_rules_pay a_arg1_rules_hair a_arg1_shelf_thick a_arg1_shelf_hollow a_arg1_shelf_damp a_arg1_shelf_fresh a_arg1_shelf_pulls a_arg1_shelf_fats : Nat} (x2 : Int32) (x3 : Int32) (v_best : Nat → Int32) (v_allowed : Nat → Int32) (v_pay : Nat → Int32) (v_arg1_rules_flat : Int32) (v_arg1_rules_least : Int32) (v_arg1_shelf_there : Int32) (v_arg1_rules_pay : Nat → Int32) (v_arg1_shelf_hollow : Nat → Int32) (v_arg1_shelf_thick : Nat → Int32) (v_arg1_shelf_fats : Nat → Int32) (v_arg1_rules_deep : Nat → Int32) (v_arg1_rules_fine : Nat → Int32) {res : (Nat → Int32) × (Nat → Int32) × (Nat → Int32)} (C : Cx p s m av meth c RX2 cX2_fill 6 none G cI cZ cO A) (hQ : RV p l e rX2_fill s m av below meth c G A cX2_fill Q (wX2_fill cI cZ a_this a_best a_allowed a_pay a_arg1 a_arg1_shelf a_arg1_rules a_arg1_sights a_arg1_rules_deep a_arg1_rules_fine a_arg1_rules_pay a_arg1_rules_hair a_arg1_shelf_thick a_arg1_shelf_hollow a_arg1_shelf_damp a_arg1_shelf_fresh a_arg1_shelf_pulls a_arg1_shelf_fats res.1 res.2.1 res.2.2 v_arg1_rules_flat v_arg1_rules_least v_arg1_shelf_there v_arg1_rules_pay v_arg1_shelf_hollow v_arg1_shelf_thick v_arg1_shelf_fats v_arg1_rules_deep v_arg1_rules_fine)) (h : fX2_fill x2 x3 v_best v_allowed v_pay v_arg1_rules_flat v_arg1_rules_least v_arg1_shelf_there v_arg1_rules_pay v_arg1_shelf_hollow v_arg1_shelf_thick v_arg1_shelf_fats v_arg1_rules_deep v_arg1_rules_fine = some res) (H : Heap) (locs : List Loc) (hW : HW G A s (wX2_fill cI cZ a_this a_best a_allowed a_pay a_arg1 a_arg1_shelf a_arg1_rules a_arg1_sights a_arg1_rules_deep a_arg1_rules_fine a_arg1_rules_pay a_arg1_rules_hair a_arg1_shelf_thick a_arg1_shelf_hollow a_arg1_shelf_damp a_arg1_shelf_fresh a_arg1_shelf_pulls a_arg1_shelf_fats v_best v_allowed v_pay v_arg1_rules_flat v_arg1_rules_least v_arg1_shelf_there v_arg1_rules_pay v_arg1_shelf_hollow v_arg1_shelf_thick v_arg1_shelf_fats v_arg1_rules_deep v_arg1_rules_fine) H locs) (ls : Array Slot) (hl : lv_has ls 6 [(0, .ref a_this), (1, .ref a_arg1), (2, .int x2), (3, .int x3)]) : W p l e rX2_fill s m av below meth c H locs 0 0 Q (F0 m 0 ls []) := by
  have hx := C.1
  have hb := C.2.1
  unfold fX2_fill at h
  refine lv_iconst (v := (0 : Int32)) hx hb dX2_fill_0 (by decide) ?_
  refine lv_istore (lv' := [(4, .int (0 : Int32)), (0, .ref a_this), (1, .ref a_arg1), (2, .int x2), (3, .int x3)]) hx hb dX2_fill_1 hl (Nat.le_of_ble_eq_true rfl) rfl (fun ls hl => ?_)
  exact wX2_fill_3_ x2 x3 v_best v_arg1_rules_flat v_arg1_rules_least v_arg1_shelf_there v_arg1_rules_pay v_arg1_shelf_hollow v_arg1_shelf_thick v_arg1_shelf_fats v_arg1_rules_deep v_arg1_rules_fine C hQ 2000 (0 : Int32) v_allowed v_pay h _ _ hW _ (lv_sub hl [1, 2, 3, 4, 0] rfl)
theorem ctX2_fill {l : Launch} {G : va_G} {cI cZ cO : ClassId} (a_this a_best a_allowed a_pay a_arg1 a_arg1_shelf a_arg1_rules a_arg1_sights a_arg1_rules_deep a_arg1_rules_fine a_arg1_rules_pay a_arg1_rules_hair a_arg1_shelf_thick a_arg1_shelf_hollow a_arg1_shelf_damp a_arg1_shelf_fresh a_arg1_shelf_pulls a_arg1_shelf_fats : Nat) (x2 : Int32) (x3 : Int32) (v_best : Nat → Int32) (v_allowed : Nat → Int32) (v_pay : Nat → Int32) (v_arg1_rules_flat : Int32) (v_arg1_rules_least : Int32) (v_arg1_shelf_there : Int32) (v_arg1_rules_pay : Nat → Int32) (v_arg1_shelf_hollow : Nat → Int32) (v_arg1_shelf_thick : Nat → Int32) (v_arg1_shelf_fats : Nat → Int32) (v_arg1_rules_deep : Nat → Int32) (v_arg1_rules_fine : Nat → Int32) {res : (Nat → Int32) × (Nat → Int32) × (Nat → Int32)} (h : fX2_fill x2 x3 v_best v_allowed v_pay v_arg1_rules_flat v_arg1_rules_least v_arg1_shelf_there v_arg1_rules_pay v_arg1_shelf_hollow v_arg1_shelf_thick v_arg1_shelf_fats v_arg1_rules_deep v_arg1_rules_fine = some res) : MV l G cI cZ cO yX2_fill cX2_fill 6 rX2_fill [.ref a_this, .ref a_arg1, .int x2, .int x3] (wX2_fill cI cZ a_this a_best a_allowed a_pay a_arg1 a_arg1_shelf a_arg1_rules a_arg1_sights a_arg1_rules_deep a_arg1_rules_fine a_arg1_rules_pay a_arg1_rules_hair a_arg1_shelf_thick a_arg1_shelf_hollow a_arg1_shelf_damp a_arg1_shelf_fresh a_arg1_shelf_pulls a_arg1_shelf_fats v_best v_allowed v_pay v_arg1_rules_flat v_arg1_rules_least v_arg1_shelf_there v_arg1_rules_pay v_arg1_shelf_hollow v_arg1_shelf_thick v_arg1_shelf_fats v_arg1_rules_deep v_arg1_rules_fine) (wX2_fill cI cZ a_this a_best a_allowed a_pay a_arg1 a_arg1_shelf a_arg1_rules a_arg1_sights a_arg1_rules_deep a_arg1_rules_fine a_arg1_rules_pay a_arg1_rules_hair a_arg1_shelf_thick a_arg1_shelf_hollow a_arg1_shelf_damp a_arg1_shelf_fresh a_arg1_shelf_pulls a_arg1_shelf_fats res.1 res.2.1 res.2.2 v_arg1_rules_flat v_arg1_rules_least v_arg1_shelf_there v_arg1_rules_pay v_arg1_shelf_hollow v_arg1_shelf_thick v_arg1_shelf_fats v_arg1_rules_deep v_arg1_rules_fine) := by
  refine MV.of (by decide) (Nat.le_of_ble_eq_true rfl) ?_
  intro p e s m below meth c A Q C hW hQ ls hl
  exact uX2_fill_0 x2 x3 v_best v_allowed v_pay v_arg1_rules_flat v_arg1_rules_least v_arg1_shelf_there v_arg1_rules_pay v_arg1_shelf_hollow v_arg1_shelf_thick v_arg1_shelf_fats v_arg1_rules_deep v_arg1_rules_fine C hQ h _ _ hW _ hl
abbrev wX2_mostPay (cI cZ : ClassId) (a_this a_best a_allowed a_pay : Nat) (v_best : Nat → Int32) : va_W := [(a_this, .inr (2, [.ref a_best, .ref a_allowed, .ref a_pay])), (a_best, .inl (cI, 288, .inl v_best))]
abbrev rX2_mostPay : Room := { frames := 0, cells := 0, slots := 0, locals := 0 }
set_option maxRecDepth 20000 in
theorem uX2_mostPay_0 {a_this a_best a_allowed a_pay : Nat} (v_best : Nat → Int32) {res : Int32} (C : Cx p s m av meth c RX2 cX2_mostPay 1 (some .int) G cI cZ cO A) (hQ : RI p l e rX2_mostPay s m av below meth c G A cX2_mostPay .int Q (res) (wX2_mostPay cI cZ a_this a_best a_allowed a_pay v_best)) (h : fX2_mostPay v_best = res) (H : Heap) (locs : List Loc) (hW : HW G A s (wX2_mostPay cI cZ a_this a_best a_allowed a_pay v_best) H locs) (ls : Array Slot) (hl : lv_has ls 1 [(0, .ref a_this)]) : W p l e rX2_mostPay s m av below meth c H locs 0 0 Q (F0 m 0 ls []) := by
  have hx := C.1
  have hb := C.2.1
  unfold fX2_mostPay at h
  refine lv_aload_n hx hb dX2_mostPay_0 rfl (lv_at hl 0 rfl) ?_
  refine getW C fl_RX2_9 hW 0 rfl rfl dX2_mostPay_1 ?_
  refine lv_iconst (v := (0 : Int32)) hx hb dX2_mostPay_4 (by decide) ?_
  refine ialdW C hW 1 rfl (show ¬ ((0 : Int32) < 0 ∨ 288 ≤ Int32.toNatClampNeg (0 : Int32)) by decide) dX2_mostPay_5 ?_
  subst h
  exact hQ rfl _ _ _ _ dX2_mostPay_6 hW
theorem ctX2_mostPay {l : Launch} {G : va_G} {cI cZ cO : ClassId} (a_this a_best a_allowed a_pay : Nat) (v_best : Nat → Int32) {res : Int32} (h : fX2_mostPay v_best = res) : MI l G cI cZ cO yX2_mostPay cX2_mostPay 1 .int rX2_mostPay [.ref a_this] (wX2_mostPay cI cZ a_this a_best a_allowed a_pay v_best) (res) (wX2_mostPay cI cZ a_this a_best a_allowed a_pay v_best) := by
  refine MI.of (by decide) (Nat.le_of_ble_eq_true rfl) ?_
  intro p e s m below meth c A Q C hW hQ ls hl
  exact uX2_mostPay_0 v_best C hQ h _ _ hW _ hl
abbrev wX2_firstBest (cI cZ : ClassId) (a_this a_best a_allowed a_pay : Nat) (v_best : Nat → Int32) (v_allowed : Nat → Int32) (v_pay : Nat → Int32) : va_W := [(a_this, .inr (2, [.ref a_best, .ref a_allowed, .ref a_pay])), (a_best, .inl (cI, 288, .inl v_best)), (a_allowed, .inl (cI, 8, .inl v_allowed)), (a_pay, .inl (cI, 8, .inl v_pay))]
abbrev rX2_firstBest : Room := { frames := 3, cells := 0, slots := 0, locals := 70 }
set_option maxRecDepth 20000 in
theorem uX2_firstBest_10 {a_this a_best a_allowed a_pay : Nat} (x1 : Int32) (x2 : Int32) (x3 : Int32) (x4 : Int32) (v_best : Nat → Int32) (v_allowed : Nat → Int32) (v_pay : Nat → Int32) {res : Int32} (C : Cx p s m av meth c RX2 cX2_firstBest 5 (some .int) G cI cZ cO A) (hQ : RI p l e rX2_firstBest s m av below meth c G A cX2_firstBest .int Q (res) (wX2_firstBest cI cZ a_this a_best a_allowed a_pay v_best v_allowed v_pay)) {k10 : (Int32) → Option (Int32)} (hk10 : ∀ (x4 : Int32), k10 x4 = some res → ∀ (H : Heap) (locs : List Loc), HW G A s (wX2_firstBest cI cZ a_this a_best a_allowed a_pay v_best v_allowed v_pay) H locs → ∀ ls : Array Slot, lv_has ls 5 [(0, .ref a_this), (1, .int x1), (2, .int x2), (3, .int x3), (4, .int x4)] → W p l e rX2_firstBest s m av below meth c H locs 0 0 Q (F0 m 10 ls [])) (h : FX2_firstBest_10 x1 x2 x3 v_best v_allowed v_pay k10 x4 = some res) (H : Heap) (locs : List Loc) (hW : HW G A s (wX2_firstBest cI cZ a_this a_best a_allowed a_pay v_best v_allowed v_pay) H locs) (ls : Array Slot) (hl : lv_has ls 5 [(0, .ref a_this), (1, .int x1), (2, .int x2), (3, .int x3), (4, .int x4)]) : W p l e rX2_firstBest s m av below meth c H locs 0 0 Q (F0 m 10 ls []) := by
  have hx := C.1
  have hb := C.2.1
  unfold FX2_firstBest_10 at h
  refine lv_iload hx hb dX2_firstBest_10 (lv_at hl 4 rfl) ?_
  refine lv_iconst (v := (5 : Int32)) hx hb dX2_firstBest_12 (by decide) ?_
  refine lv_icmp_ge (tgt := 48) hx hb dX2_firstBest_13 (by decide) (fun c_2 => ?_) (fun c_2 => ?_)
  · have h := ip_h c_2 h
    refine lv_bipush (v := (-6 : Int32)) hx hb dX2_firstBest_48 (by decide) ?_
    obtain rfl := Option.some.inj h
    exact hQ rfl _ _ _ _ dX2_firstBest_50 hW
  · have h := in_h c_2 h
    refine lv_aload_n hx hb dX2_firstBest_16 rfl (lv_at hl 0 rfl) ?_
    refine lv_iload_n hx hb dX2_firstBest_17 rfl (lv_at hl 1 rfl) ?_
    refine lv_iload hx hb dX2_firstBest_18 (lv_at hl 4 rfl) ?_
    refine lv_iload_n hx hb dX2_firstBest_20 rfl (lv_at hl 2 rfl) ?_
    obtain ⟨v_3, hv_3, h⟩ := bd_h h
    refine callVIr [0, 2] C lk_RX2_56 (ctX2_isFree a_this a_best a_allowed a_pay x1 x4 x2 v_allowed hv_3) hW hl 2 rfl rfl rfl rfl rfl ⟨rfl, rfl⟩ ⟨(Nat.le_of_ble_eq_true rfl), (Nat.le_of_ble_eq_true rfl)⟩ ⟨Nat.zero_le _, Nat.zero_le _⟩ rfl (Nat.le_of_ble_eq_true rfl) dX2_firstBest_21 (fun H locs hW => ?_)
    refine lv_if_eq (tgt := 42) hx hb dX2_firstBest_24 (by decide) (fun c_4 => ?_) (fun c_4 => ?_)
    · have h := ip_h c_4 h
      obtain ⟨v_5, ev_5⟩ : ∃ y : Int32, y = x4 + (1 : Int32) := ⟨_, rfl⟩
      have h := lt_h ev_5 h
      refine lv_iinc (v := v_5) (lv' := [(4, .int v_5), (0, .ref a_this), (1, .int x1), (2, .int x2), (3, .int x3)]) hx hb dX2_firstBest_42 hl (k := 4) rfl (by rw [ev_5]; rfl) (Nat.le_of_ble_eq_true rfl) rfl (fun ls hl => ?_)
      refine lv_goto (tgt := 10) hx hb dX2_firstBest_45 (by decide) ?_
      exact hk10 v_5 h _ _ hW _ (lv_sub hl [1, 2, 3, 4, 0] rfl)
    · have h := in_h c_4 h
      refine lv_aload_n hx hb dX2_firstBest_27 rfl (lv_at hl 0 rfl) ?_
      refine lv_iload_n hx hb dX2_firstBest_28 rfl (lv_at hl 1 rfl) ?_
      refine lv_iload hx hb dX2_firstBest_29 (lv_at hl 4 rfl) ?_
      refine lv_iload_n hx hb dX2_firstBest_31 rfl (lv_at hl 2 rfl) ?_
      obtain ⟨v_6, hv_6, h⟩ := bd_h h
      refine callVIr [0, 3, 1] C lk_RX2_60 (ctX2_payWith a_this a_best a_allowed a_pay x1 x4 x2 v_pay v_best hv_6) hW hl 2 rfl rfl rfl rfl rfl ⟨rfl, rfl⟩ ⟨(Nat.le_of_ble_eq_true rfl), (Nat.le_of_ble_eq_true rfl)⟩ ⟨Nat.zero_le _, Nat.zero_le _⟩ rfl (Nat.le_of_ble_eq_true rfl) dX2_firstBest_32 (fun H locs hW => ?_)
      refine lv_iload_n hx hb dX2_firstBest_35 rfl (lv_at hl 3 rfl) ?_
      refine lv_icmp_ne (tgt := 42) hx hb dX2_firstBest_36 (by decide) (fun c_7 => ?_) (fun c_7 => ?_)
      · have h := in_h c_7 h
        obtain ⟨v_8, ev_8⟩ : ∃ y : Int32, y = x4 + (1 : Int32) := ⟨_, rfl⟩
        have h := lt_h ev_8 h
        refine lv_iinc (v := v_8) (lv' := [(4, .int v_8), (0, .ref a_this), (1, .int x1), (2, .int x2), (3, .int x3)]) hx hb dX2_firstBest_42 hl (k := 4) rfl (by rw [ev_8]; rfl) (Nat.le_of_ble_eq_true rfl) rfl (fun ls hl => ?_)
        refine lv_goto (tgt := 10) hx hb dX2_firstBest_45 (by decide) ?_
        exact hk10 v_8 h _ _ hW _ (lv_sub hl [1, 2, 3, 4, 0] rfl)
      · have h := ip_h c_7 h
        refine lv_iload hx hb dX2_firstBest_39 (lv_at hl 4 rfl) ?_
        obtain rfl := Option.some.inj h
        exact hQ rfl _ _ _ _ dX2_firstBest_41 hW
theorem wX2_firstBest_10_ {a_this a_best a_allowed a_pay : Nat} (x1 : Int32) (x2 : Int32) (x3 : Int32) (v_best : Nat → Int32) (v_allowed : Nat → Int32) (v_pay : Nat → Int32) {res : Int32} (C : Cx p s m av meth c RX2 cX2_firstBest 5 (some .int) G cI cZ cO A) (hQ : RI p l e rX2_firstBest s m av below meth c G A cX2_firstBest .int Q (res) (wX2_firstBest cI cZ a_this a_best a_allowed a_pay v_best v_allowed v_pay)) : ∀ (n : Nat) (x4 : Int32), LX2_firstBest_10 x1 x2 x3 v_best v_allowed v_pay n x4 = some res → ∀ (H : Heap) (locs : List Loc), HW G A s (wX2_firstBest cI cZ a_this a_best a_allowed a_pay v_best v_allowed v_pay) H locs → ∀ ls : Array Slot, lv_has ls 5 [(0, .ref a_this), (1, .int x1), (2, .int x2), (3, .int x3), (4, .int x4)] → W p l e rX2_firstBest s m av below meth c H locs 0 0 Q (F0 m 10 ls []) := by
  intro n
  induction n with
  | zero => intro x4 h; cases h
  | succ n ih =>
    intro x4 h H locs hW ls hl
    exact uX2_firstBest_10 x1 x2 x3 x4 v_best v_allowed v_pay C hQ (k10 := LX2_firstBest_10 x1 x2 x3 v_best v_allowed v_pay n) ih h H locs hW ls hl
set_option maxRecDepth 20000 in
theorem uX2_firstBest_0 {a_this a_best a_allowed a_pay : Nat} (x1 : Int32) (x2 : Int32) (v_best : Nat → Int32) (v_allowed : Nat → Int32) (v_pay : Nat → Int32) {res : Int32} (C : Cx p s m av meth c RX2 cX2_firstBest 5 (some .int) G cI cZ cO A) (hQ : RI p l e rX2_firstBest s m av below meth c G A cX2_firstBest .int Q (res) (wX2_firstBest cI cZ a_this a_best a_allowed a_pay v_best v_allowed v_pay)) (h : fX2_firstBest x1 x2 v_best v_allowed v_pay = some res) (H : Heap) (locs : List Loc) (hW : HW G A s (wX2_firstBest cI cZ a_this a_best a_allowed a_pay v_best v_allowed v_pay) H locs) (ls : Array Slot) (hl : lv_has ls 5 [(0, .ref a_this), (1, .int x1), (2, .int x2)]) : W p l e rX2_firstBest s m av below meth c H locs 0 0 Q (F0 m 0 ls []) := by
  have hx := C.1
  have hb := C.2.1
  unfold fX2_firstBest at h
  refine lv_aload_n hx hb dX2_firstBest_0 rfl (lv_at hl 0 rfl) ?_
  refine lv_iload_n hx hb dX2_firstBest_1 rfl (lv_at hl 1 rfl) ?_
  refine lv_iload_n hx hb dX2_firstBest_2 rfl (lv_at hl 2 rfl) ?_
  obtain ⟨v_1, hv_1, h⟩ := bd_h h
  refine callVIr [0, 1, 2, 3] C lk_RX2_41 (ctX2_bestFrom a_this a_best a_allowed a_pay x1 x2 v_best v_allowed v_pay hv_1) hW hl 2 rfl rfl rfl rfl rfl ⟨rfl, rfl⟩ ⟨(Nat.le_of_ble_eq_true rfl), (Nat.le_of_ble_eq_true rfl)⟩ ⟨Nat.zero_le _, Nat.zero_le _⟩ rfl (Nat.le_of_ble_eq_true rfl) dX2_firstBest_3 (fun H locs hW => ?_)
  refine lv_istore_n (lv' := [(3, .int v_1), (0, .ref a_this), (1, .int x1), (2, .int x2)]) hx hb dX2_firstBest_6 rfl hl (Nat.le_of_ble_eq_true rfl) rfl (fun ls hl => ?_)
  refine lv_iconst (v := (0 : Int32)) hx hb dX2_firstBest_7 (by decide) ?_
  refine lv_istore (lv' := [(4, .int (0 : Int32)), (3, .int v_1), (0, .ref a_this), (1, .int x1), (2, .int x2)]) hx hb dX2_firstBest_8 hl (Nat.le_of_ble_eq_true rfl) rfl (fun ls hl => ?_)
  exact wX2_firstBest_10_ x1 x2 v_1 v_best v_allowed v_pay C hQ 2000 (0 : Int32) h _ _ hW _ (lv_sub hl [2, 3, 4, 1, 0] rfl)
theorem ctX2_firstBest {l : Launch} {G : va_G} {cI cZ cO : ClassId} (a_this a_best a_allowed a_pay : Nat) (x1 : Int32) (x2 : Int32) (v_best : Nat → Int32) (v_allowed : Nat → Int32) (v_pay : Nat → Int32) {res : Int32} (h : fX2_firstBest x1 x2 v_best v_allowed v_pay = some res) : MI l G cI cZ cO yX2_firstBest cX2_firstBest 5 .int rX2_firstBest [.ref a_this, .int x1, .int x2] (wX2_firstBest cI cZ a_this a_best a_allowed a_pay v_best v_allowed v_pay) (res) (wX2_firstBest cI cZ a_this a_best a_allowed a_pay v_best v_allowed v_pay) := by
  refine MI.of (by decide) (Nat.le_of_ble_eq_true rfl) ?_
  intro p e s m below meth c A Q C hW hQ ls hl
  exact uX2_firstBest_0 x1 x2 v_best v_allowed v_pay C hQ h _ _ hW _ hl
abbrev wX2_stoneFor (cI cZ : ClassId) (a_this a_best a_allowed a_pay : Nat) (v_best : Nat → Int32) (v_allowed : Nat → Int32) (v_pay : Nat → Int32) : va_W := [(a_this, .inr (2, [.ref a_best, .ref a_allowed, .ref a_pay])), (a_best, .inl (cI, 288, .inl v_best)), (a_allowed, .inl (cI, 8, .inl v_allowed)), (a_pay, .inl (cI, 8, .inl v_pay))]
abbrev rX2_stoneFor : Room := { frames := 4, cells := 0, slots := 0, locals := 94 }
set_option maxRecDepth 20000 in
theorem uX2_stoneFor_8 {a_this a_best a_allowed a_pay : Nat} (x1 : Int32) (x2 : Int32) (x3 : Int32) (x4 : Int32) (v_best : Nat → Int32) (v_allowed : Nat → Int32) (v_pay : Nat → Int32) {res : Int32} (C : Cx p s m av meth c RX2 cX2_stoneFor 5 (some .int) G cI cZ cO A) (hQ : RI p l e rX2_stoneFor s m av below meth c G A cX2_stoneFor .int Q (res) (wX2_stoneFor cI cZ a_this a_best a_allowed a_pay v_best v_allowed v_pay)) {k8 : (Int32) → (Int32) → (Int32) → Option (Int32)} (hk8 : ∀ (x2 : Int32) (x3 : Int32) (x4 : Int32), k8 x2 x3 x4 = some res → ∀ (H : Heap) (locs : List Loc), HW G A s (wX2_stoneFor cI cZ a_this a_best a_allowed a_pay v_best v_allowed v_pay) H locs → ∀ ls : Array Slot, lv_has ls 5 [(0, .ref a_this), (1, .int x1), (2, .int x2), (3, .int x3), (4, .int x4)] → W p l e rX2_stoneFor s m av below meth c H locs 0 0 Q (F0 m 8 ls [])) (h : FX2_stoneFor_8 x1 v_best v_allowed v_pay k8 x2 x3 x4 = some res) (H : Heap) (locs : List Loc) (hW : HW G A s (wX2_stoneFor cI cZ a_this a_best a_allowed a_pay v_best v_allowed v_pay) H locs) (ls : Array Slot) (hl : lv_has ls 5 [(0, .ref a_this), (1, .int x1), (2, .int x2), (3, .int x3), (4, .int x4)]) : W p l e rX2_stoneFor s m av below meth c H locs 0 0 Q (F0 m 8 ls []) := by
  have hx := C.1
  have hb := C.2.1
  unfold FX2_stoneFor_8 at h
  refine lv_iload hx hb dX2_stoneFor_8 (lv_at hl 4 rfl) ?_
  refine lv_iload_n hx hb dX2_stoneFor_10 rfl (lv_at hl 1 rfl) ?_
  refine lv_icmp_gt (tgt := 47) hx hb dX2_stoneFor_11 (by decide) (fun c_1 => ?_) (fun c_1 => ?_)
  · have h := ip_h c_1 h
    refine lv_iload_n hx hb dX2_stoneFor_47 rfl (lv_at hl 3 rfl) ?_
    obtain rfl := Option.some.inj h
    exact hQ rfl _ _ _ _ dX2_stoneFor_48 hW
  · have h := in_h c_1 h
    refine lv_iload hx hb dX2_stoneFor_14 (lv_at hl 4 rfl) ?_
    refine lv_bipush (v := (8 : Int32)) hx hb dX2_stoneFor_16 (by decide) ?_
    refine lv_icmp_ge (tgt := 47) hx hb dX2_stoneFor_18 (by decide) (fun c_2 => ?_) (fun c_2 => ?_)
    · have h := ip_h c_2 h
      refine lv_iload_n hx hb dX2_stoneFor_47 rfl (lv_at hl 3 rfl) ?_
      obtain rfl := Option.some.inj h
      exact hQ rfl _ _ _ _ dX2_stoneFor_48 hW
    · have h := in_h c_2 h
      refine lv_aload_n hx hb dX2_stoneFor_21 rfl (lv_at hl 0 rfl) ?_
      refine lv_iload hx hb dX2_stoneFor_22 (lv_at hl 4 rfl) ?_
      refine lv_iload_n hx hb dX2_stoneFor_24 rfl (lv_at hl 2 rfl) ?_
      obtain ⟨v_3, hv_3, h⟩ := bd_h h
      refine callVIr [0, 1, 2, 3] C lk_RX2_72 (ctX2_firstBest a_this a_best a_allowed a_pay x4 x2 v_best v_allowed v_pay hv_3) hW hl 2 rfl rfl rfl rfl rfl ⟨rfl, rfl⟩ ⟨(Nat.le_of_ble_eq_true rfl), (Nat.le_of_ble_eq_true rfl)⟩ ⟨Nat.zero_le _, Nat.zero_le _⟩ rfl (Nat.le_of_ble_eq_true rfl) dX2_stoneFor_25 (fun H locs hW => ?_)
      refine lv_istore_n (lv' := [(3, .int v_3), (0, .ref a_this), (1, .int x1), (2, .int x2), (4, .int x4)]) hx hb dX2_stoneFor_28 rfl hl (Nat.le_of_ble_eq_true rfl) rfl (fun ls hl => ?_)
      refine lv_iload_n hx hb dX2_stoneFor_29 rfl (lv_at hl 0 rfl) ?_
      refine lv_bipush (v := (-6 : Int32)) hx hb dX2_stoneFor_30 (by decide) ?_
      refine lv_icmp_eq (tgt := 41) hx hb dX2_stoneFor_32 (by decide) (fun c_4 => ?_) (fun c_4 => ?_)
      · have h := ip_h c_4 h
        obtain ⟨v_5, ev_5⟩ : ∃ y : Int32, y = x4 + (1 : Int32) := ⟨_, rfl⟩
        have h := lt_h ev_5 h
        refine lv_iinc (v := v_5) (lv' := [(4, .int v_5), (3, .int v_3), (0, .ref a_this), (1, .int x1), (2, .int x2)]) hx hb dX2_stoneFor_41 hl (k := 4) rfl (by rw [ev_5]; rfl) (Nat.le_of_ble_eq_true rfl) rfl (fun ls hl => ?_)
        refine lv_goto (tgt := 8) hx hb dX2_stoneFor_44 (by decide) ?_
        exact hk8 x2 v_3 v_5 h _ _ hW _ (lv_sub hl [2, 3, 4, 1, 0] rfl)
      · have h := in_h c_4 h
        refine lv_iload_n hx hb dX2_stoneFor_35 rfl (lv_at hl 3 rfl) ?_
        refine lv_iconst (v := (1 : Int32)) hx hb dX2_stoneFor_36 (by decide) ?_
        refine lv_iload_n hx hb dX2_stoneFor_37 rfl (lv_at hl 0 rfl) ?_
        refine lv_ishl hx hb dX2_stoneFor_38 ?_
        refine lv_ior hx hb dX2_stoneFor_39 ?_
        refine lv_topi (fun v_6 ev_6 => ?_)
        have h := lt_h ev_6 h
        refine lv_istore_n (lv' := [(2, .int v_6), (3, .int v_3), (0, .ref a_this), (1, .int x1), (4, .int x4)]) hx hb dX2_stoneFor_40 rfl hl (Nat.le_of_ble_eq_true rfl) rfl (fun ls hl => ?_)
        obtain ⟨v_7, ev_7⟩ : ∃ y : Int32, y = x4 + (1 : Int32) := ⟨_, rfl⟩
        have h := lt_h ev_7 h
        refine lv_iinc (v := v_7) (lv' := [(4, .int v_7), (2, .int v_6), (3, .int v_3), (0, .ref a_this), (1, .int x1)]) hx hb dX2_stoneFor_41 hl (k := 4) rfl (by rw [ev_7]; rfl) (Nat.le_of_ble_eq_true rfl) rfl (fun ls hl => ?_)
        refine lv_goto (tgt := 8) hx hb dX2_stoneFor_44 (by decide) ?_
        exact hk8 v_6 v_3 v_7 h _ _ hW _ (lv_sub hl [3, 4, 1, 2, 0] rfl)
theorem wX2_stoneFor_8_ {a_this a_best a_allowed a_pay : Nat} (x1 : Int32) (v_best : Nat → Int32) (v_allowed : Nat → Int32) (v_pay : Nat → Int32) {res : Int32} (C : Cx p s m av meth c RX2 cX2_stoneFor 5 (some .int) G cI cZ cO A) (hQ : RI p l e rX2_stoneFor s m av below meth c G A cX2_stoneFor .int Q (res) (wX2_stoneFor cI cZ a_this a_best a_allowed a_pay v_best v_allowed v_pay)) : ∀ (n : Nat) (x2 : Int32) (x3 : Int32) (x4 : Int32), LX2_stoneFor_8 x1 v_best v_allowed v_pay n x2 x3 x4 = some res → ∀ (H : Heap) (locs : List Loc), HW G A s (wX2_stoneFor cI cZ a_this a_best a_allowed a_pay v_best v_allowed v_pay) H locs → ∀ ls : Array Slot, lv_has ls 5 [(0, .ref a_this), (1, .int x1), (2, .int x2), (3, .int x3), (4, .int x4)] → W p l e rX2_stoneFor s m av below meth c H locs 0 0 Q (F0 m 8 ls []) := by
  intro n
  induction n with
  | zero => intro x2 x3 x4 h; cases h
  | succ n ih =>
    intro x2 x3 x4 h H locs hW ls hl
    exact uX2_stoneFor_8 x1 x2 x3 x4 v_best v_allowed v_pay C hQ (k8 := LX2_stoneFor_8 x1 v_best v_allowed v_pay n) ih h H locs hW ls hl
set_option maxRecDepth 20000 in
theorem uX2_stoneFor_0 {a_this a_best a_allowed a_pay : Nat} (x1 : Int32) (v_best : Nat → Int32) (v_allowed : Nat → Int32) (v_pay : Nat → Int32) {res : Int32} (C : Cx p s m av meth c RX2 cX2_stoneFor 5 (some .int) G cI cZ cO A) (hQ : RI p l e rX2_stoneFor s m av below meth c G A cX2_stoneFor .int Q (res) (wX2_stoneFor cI cZ a_this a_best a_allowed a_pay v_best v_allowed v_pay)) (h : fX2_stoneFor x1 v_best v_allowed v_pay = some res) (H : Heap) (locs : List Loc) (hW : HW G A s (wX2_stoneFor cI cZ a_this a_best a_allowed a_pay v_best v_allowed v_pay) H locs) (ls : Array Slot) (hl : lv_has ls 5 [(0, .ref a_this), (1, .int x1)]) : W p l e rX2_stoneFor s m av below meth c H locs 0 0 Q (F0 m 0 ls []) := by
  have hx := C.1
  have hb := C.2.1
  unfold fX2_stoneFor at h
  refine lv_iconst (v := (0 : Int32)) hx hb dX2_stoneFor_0 (by decide) ?_
  refine lv_istore_n (lv' := [(2, .int (0 : Int32)), (0, .ref a_this), (1, .int x1)]) hx hb dX2_stoneFor_1 rfl hl (Nat.le_of_ble_eq_true rfl) rfl (fun ls hl => ?_)
  refine lv_bipush (v := (-6 : Int32)) hx hb dX2_stoneFor_2 (by decide) ?_
  refine lv_istore_n (lv' := [(3, .int (-6 : Int32)), (2, .int (0 : Int32)), (0, .ref a_this), (1, .int x1)]) hx hb dX2_stoneFor_4 rfl hl (Nat.le_of_ble_eq_true rfl) rfl (fun ls hl => ?_)
  refine lv_iconst (v := (0 : Int32)) hx hb dX2_stoneFor_5 (by decide) ?_
  refine lv_istore (lv' := [(4, .int (0 : Int32)), (3, .int (-6 : Int32)), (2, .int (0 : Int32)), (0, .ref a_this), (1, .int x1)]) hx hb dX2_stoneFor_6 hl (Nat.le_of_ble_eq_true rfl) rfl (fun ls hl => ?_)
  exact wX2_stoneFor_8_ x1 v_best v_allowed v_pay C hQ 2000 (0 : Int32) (-6 : Int32) (0 : Int32) h _ _ hW _ (lv_sub hl [3, 4, 2, 1, 0] rfl)
theorem ctX2_stoneFor {l : Launch} {G : va_G} {cI cZ cO : ClassId} (a_this a_best a_allowed a_pay : Nat) (x1 : Int32) (v_best : Nat → Int32) (v_allowed : Nat → Int32) (v_pay : Nat → Int32) {res : Int32} (h : fX2_stoneFor x1 v_best v_allowed v_pay = some res) : MI l G cI cZ cO yX2_stoneFor cX2_stoneFor 5 .int rX2_stoneFor [.ref a_this, .int x1] (wX2_stoneFor cI cZ a_this a_best a_allowed a_pay v_best v_allowed v_pay) (res) (wX2_stoneFor cI cZ a_this a_best a_allowed a_pay v_best v_allowed v_pay) := by
  refine MI.of (by decide) (Nat.le_of_ble_eq_true rfl) ?_
  intro p e s m below meth c A Q C hW hQ ls hl
  exact uX2_stoneFor_0 x1 v_best v_allowed v_pay C hQ h _ _ hW _ hl
abbrev wX3_write (cI cZ : ClassId) (a_this a_signs : Nat) (v_size : Int32) (v_signs : Nat → Int32) : va_W := [(a_this, .inr (3, [.int v_size, .ref a_signs])), (a_signs, .inl (cI, 60, .inl v_signs))]
abbrev rX3_write : Room := { frames := 1, cells := 0, slots := 0, locals := 22 }
set_option maxRecDepth 20000 in
theorem uX3_write_0 {a_this a_signs : Nat} (x1 : Int32) (v_size : Int32) (v_signs : Nat → Int32) {res : Int32 × Int32 × (Nat → Int32)} (C : Cx p s m av meth c RX3 cX3_write 2 (some .boolean) G cI cZ cO A) (hQ : RI p l e rX3_write s m av below meth c G A cX3_write .boolean Q (res.1) (wX3_write cI cZ a_this a_signs res.2.1 res.2.2)) (h : fX3_write x1 v_size v_signs = some res) (H : Heap) (locs : List Loc) (hW : HW G A s (wX3_write cI cZ a_this a_signs v_size v_signs) H locs) (ls : Array Slot) (hl : lv_has ls 2 [(0, .ref a_this), (1, .int x1)]) : W p l e rX3_write s m av below meth c H locs 0 0 Q (F0 m 0 ls []) := by
  have hx := C.1
  have hb := C.2.1
  unfold fX3_write at h
  refine lv_aload_n hx hb dX3_write_0 rfl (lv_at hl 0 rfl) ?_
  refine getW C fl_RX3_15 hW 0 rfl rfl dX3_write_1 ?_
  refine lv_iconst (v := (0 : Int32)) hx hb dX3_write_4 (by decide) ?_
  refine lv_bipush (v := (59 : Int32)) hx hb dX3_write_5 (by decide) ?_
  refine callNI0 C lk_RX3_19 (ctX10_inside v_size (0 : Int32) (59 : Int32) rfl) hW hl rfl ⟨rfl, rfl⟩ ⟨(Nat.le_of_ble_eq_true rfl), (Nat.le_of_ble_eq_true rfl)⟩ ⟨Nat.zero_le _, Nat.zero_le _⟩ rfl (Nat.le_of_ble_eq_true rfl) dX3_write_7 (fun H locs hW => ?_)
  refine lv_if_ne (tgt := 15) hx hb dX3_write_10 (by decide) (fun c_1 => ?_) (fun c_1 => ?_)
  · have h := in_h c_1 h
    refine lv_aload_n hx hb dX3_write_15 rfl (lv_at hl 0 rfl) ?_
    refine getW C fl_RX3_9 hW 0 rfl rfl dX3_write_16 ?_
    refine lv_aload_n hx hb dX3_write_19 rfl (lv_at hl 0 rfl) ?_
    refine getW C fl_RX3_15 hW 0 rfl rfl dX3_write_20 ?_
    refine lv_iload_n hx hb dX3_write_23 rfl (lv_at hl 1 rfl) ?_
    obtain ⟨g_2, h⟩ := gd_h h
    refine iastW C hW 1 rfl g_2 dX3_write_24 (fun H locs hW => ?_)
    have hW : HW G A s (wX3_write cI cZ a_this a_signs v_size (upd v_signs (Int32.toNatClampNeg v_size) x1)) H locs := hW
    refine lv_aload_n hx hb dX3_write_25 rfl (lv_at hl 0 rfl) ?_
    refine lv_dup hx hb dX3_write_26 rfl ?_
    refine getW C fl_RX3_15 hW 0 rfl rfl dX3_write_27 ?_
    refine lv_iconst (v := (1 : Int32)) hx hb dX3_write_30 (by decide) ?_
    refine lv_iadd hx hb dX3_write_31 ?_
    refine lv_topi (fun v_3 ev_3 => ?_)
    have h := lt_h ev_3 h
    refine putW C fp_RX3_15 hW 0 rfl rfl rfl (Nat.le_of_ble_eq_true rfl) dX3_write_32 (fun H locs hW => ?_)
    have hW : HW G A s (wX3_write cI cZ a_this a_signs v_3 (upd v_signs (Int32.toNatClampNeg v_size) x1)) H locs := hW
    refine lv_iconst (v := (1 : Int32)) hx hb dX3_write_35 (by decide) ?_
    obtain rfl := Option.some.inj h
    exact hQ nb_1 _ _ _ _ dX3_write_36 hW
  · have h := ip_h c_1 h
    refine lv_iconst (v := (0 : Int32)) hx hb dX3_write_13 (by decide) ?_
    obtain rfl := Option.some.inj h
    exact hQ nb_0 _ _ _ _ dX3_write_14 hW
theorem ctX3_write {l : Launch} {G : va_G} {cI cZ cO : ClassId} (a_this a_signs : Nat) (x1 : Int32) (v_size : Int32) (v_signs : Nat → Int32) {res : Int32 × Int32 × (Nat → Int32)} (h : fX3_write x1 v_size v_signs = some res) : MI l G cI cZ cO yX3_write cX3_write 2 .boolean rX3_write [.ref a_this, .int x1] (wX3_write cI cZ a_this a_signs v_size v_signs) (res.1) (wX3_write cI cZ a_this a_signs res.2.1 res.2.2) := by
  refine MI.of (by decide) (Nat.le_of_ble_eq_true rfl) ?_
  intro p e s m below meth c A Q C hW hQ ls hl
  exact uX3_write_0 x1 v_size v_signs C hQ h _ _ hW _ hl
abbrev wX3_signAt (cI cZ : ClassId) (a_this a_signs : Nat) (v_size : Int32) (v_signs : Nat → Int32) : va_W := [(a_this, .inr (3, [.int v_size, .ref a_signs])), (a_signs, .inl (cI, 60, .inl v_signs))]
abbrev rX3_signAt : Room := { frames := 0, cells := 0, slots := 0, locals := 0 }
set_option maxRecDepth 20000 in
theorem uX3_signAt_0 {a_this a_signs : Nat} (x1 : Int32) (v_size : Int32) (v_signs : Nat → Int32) {res : Int32} (C : Cx p s m av meth c RX3 cX3_signAt 2 (some .int) G cI cZ cO A) (hQ : RI p l e rX3_signAt s m av below meth c G A cX3_signAt .int Q (res) (wX3_signAt cI cZ a_this a_signs v_size v_signs)) (h : fX3_signAt x1 v_size v_signs = some res) (H : Heap) (locs : List Loc) (hW : HW G A s (wX3_signAt cI cZ a_this a_signs v_size v_signs) H locs) (ls : Array Slot) (hl : lv_has ls 2 [(0, .ref a_this), (1, .int x1)]) : W p l e rX3_signAt s m av below meth c H locs 0 0 Q (F0 m 0 ls []) := by
  have hx := C.1
  have hb := C.2.1
  unfold fX3_signAt at h
  refine lv_iload_n hx hb dX3_signAt_0 rfl (lv_at hl 1 rfl) ?_
  refine lv_if_lt (tgt := 27) hx hb dX3_signAt_1 (by decide) (fun c_1 => ?_) (fun c_1 => ?_)
  · have h := ip_h c_1 h
    refine lv_iconst (v := (0 : Int32)) hx hb dX3_signAt_27 (by decide) ?_
    obtain rfl := Option.some.inj h
    exact hQ rfl _ _ _ _ dX3_signAt_28 hW
  · have h := in_h c_1 h
    refine lv_iload_n hx hb dX3_signAt_4 rfl (lv_at hl 1 rfl) ?_
    refine lv_aload_n hx hb dX3_signAt_5 rfl (lv_at hl 0 rfl) ?_
    refine getW C fl_RX3_15 hW 0 rfl rfl dX3_signAt_6 ?_
    refine lv_icmp_ge (tgt := 27) hx hb dX3_signAt_9 (by decide) (fun c_2 => ?_) (fun c_2 => ?_)
    · have h := ip_h c_2 h
      refine lv_iconst (v := (0 : Int32)) hx hb dX3_signAt_27 (by decide) ?_
      obtain rfl := Option.some.inj h
      exact hQ rfl _ _ _ _ dX3_signAt_28 hW
    · have h := in_h c_2 h
      refine lv_iload_n hx hb dX3_signAt_12 rfl (lv_at hl 1 rfl) ?_
      refine lv_bipush (v := (60 : Int32)) hx hb dX3_signAt_13 (by decide) ?_
      refine lv_icmp_ge (tgt := 27) hx hb dX3_signAt_15 (by decide) (fun c_3 => ?_) (fun c_3 => ?_)
      · have h := ip_h c_3 h
        refine lv_iconst (v := (0 : Int32)) hx hb dX3_signAt_27 (by decide) ?_
        obtain rfl := Option.some.inj h
        exact hQ rfl _ _ _ _ dX3_signAt_28 hW
      · have h := in_h c_3 h
        refine lv_aload_n hx hb dX3_signAt_18 rfl (lv_at hl 0 rfl) ?_
        refine getW C fl_RX3_9 hW 0 rfl rfl dX3_signAt_19 ?_
        refine lv_iload_n hx hb dX3_signAt_22 rfl (lv_at hl 1 rfl) ?_
        obtain ⟨g_4, h⟩ := gd_h h
        refine ialdW C hW 1 rfl g_4 dX3_signAt_23 ?_
        refine lv_goto (tgt := 28) hx hb dX3_signAt_24 (by decide) ?_
        obtain rfl := Option.some.inj h
        exact hQ rfl _ _ _ _ dX3_signAt_28 hW
theorem ctX3_signAt {l : Launch} {G : va_G} {cI cZ cO : ClassId} (a_this a_signs : Nat) (x1 : Int32) (v_size : Int32) (v_signs : Nat → Int32) {res : Int32} (h : fX3_signAt x1 v_size v_signs = some res) : MI l G cI cZ cO yX3_signAt cX3_signAt 2 .int rX3_signAt [.ref a_this, .int x1] (wX3_signAt cI cZ a_this a_signs v_size v_signs) (res) (wX3_signAt cI cZ a_this a_signs v_size v_signs) := by
  refine MI.of (by decide) (Nat.le_of_ble_eq_true rfl) ?_
  intro p e s m below meth c A Q C hW hQ ls hl
  exact uX3_signAt_0 x1 v_size v_signs C hQ h _ _ hW _ hl
abbrev wX3_isStone (cI cZ : ClassId) : va_W := []
abbrev rX3_isStone : Room := { frames := 1, cells := 0, slots := 0, locals := 22 }
set_option maxRecDepth 20000 in
theorem uX3_isStone_0 (x0 : Int32) {res : Int32} (C : Cx p s m av meth c RX3 cX3_isStone 1 (some .boolean) G cI cZ cO A) (hQ : RI p l e rX3_isStone s m av below meth c G A cX3_isStone .boolean Q (res) (wX3_isStone cI cZ)) (h : fX3_isStone x0 = res) (H : Heap) (locs : List Loc) (hW : HW G A s (wX3_isStone cI cZ) H locs) (ls : Array Slot) (hl : lv_has ls 1 [(0, .int x0)]) : W p l e rX3_isStone s m av below meth c H locs 0 0 Q (F0 m 0 ls []) := by
  have hx := C.1
  have hb := C.2.1
  unfold fX3_isStone at h
  refine lv_iload_n hx hb dX3_isStone_0 rfl (lv_at hl 0 rfl) ?_
  refine lv_bipush (v := (97 : Int32)) hx hb dX3_isStone_1 (by decide) ?_
  refine lv_bipush (v := (101 : Int32)) hx hb dX3_isStone_3 (by decide) ?_
  refine callNI0 C lk_RX3_19 (ctX10_inside x0 (97 : Int32) (101 : Int32) rfl) hW hl rfl ⟨rfl, rfl⟩ ⟨(Nat.le_of_ble_eq_true rfl), (Nat.le_of_ble_eq_true rfl)⟩ ⟨Nat.zero_le _, Nat.zero_le _⟩ rfl (Nat.le_of_ble_eq_true rfl) dX3_isStone_5 (fun H locs hW => ?_)
  subst h
  exact hQ (fbX10_inside _ _ _ ) _ _ _ _ dX3_isStone_8 hW
theorem ctX3_isStone {l : Launch} {G : va_G} {cI cZ cO : ClassId} (x0 : Int32) {res : Int32} (h : fX3_isStone x0 = res) : MI l G cI cZ cO yX3_isStone cX3_isStone 1 .boolean rX3_isStone [.int x0] (wX3_isStone cI cZ) (res) (wX3_isStone cI cZ) := by
  refine MI.of (by decide) (Nat.le_of_ble_eq_true rfl) ?_
  intro p e s m below meth c A Q C hW hQ ls hl
  exact uX3_isStone_0 x0 C hQ h _ _ hW _ hl
abbrev wX3_isPicture (cI cZ : ClassId) : va_W := []
abbrev rX3_isPicture : Room := { frames := 1, cells := 0, slots := 0, locals := 22 }
set_option maxRecDepth 20000 in
theorem uX3_isPicture_0 (x0 : Int32) {res : Int32} (C : Cx p s m av meth c RX3 cX3_isPicture 1 (some .boolean) G cI cZ cO A) (hQ : RI p l e rX3_isPicture s m av below meth c G A cX3_isPicture .boolean Q (res) (wX3_isPicture cI cZ)) (h : fX3_isPicture x0 = res) (H : Heap) (locs : List Loc) (hW : HW G A s (wX3_isPicture cI cZ) H locs) (ls : Array Slot) (hl : lv_has ls 1 [(0, .int x0)]) : W p l e rX3_isPicture s m av below meth c H locs 0 0 Q (F0 m 0 ls []) := by
  have hx := C.1
  have hb := C.2.1
  unfold fX3_isPicture at h
  refine lv_iload_n hx hb dX3_isPicture_0 rfl (lv_at hl 0 rfl) ?_
  refine lv_bipush (v := (65 : Int32)) hx hb dX3_isPicture_1 (by decide) ?_
  refine lv_bipush (v := (72 : Int32)) hx hb dX3_isPicture_3 (by decide) ?_
  refine callNI0 C lk_RX3_19 (ctX10_inside x0 (65 : Int32) (72 : Int32) rfl) hW hl rfl ⟨rfl, rfl⟩ ⟨(Nat.le_of_ble_eq_true rfl), (Nat.le_of_ble_eq_true rfl)⟩ ⟨Nat.zero_le _, Nat.zero_le _⟩ rfl (Nat.le_of_ble_eq_true rfl) dX3_isPicture_5 (fun H locs hW => ?_)
  subst h
  exact hQ (fbX10_inside _ _ _ ) _ _ _ _ dX3_isPicture_8 hW
theorem ctX3_isPicture {l : Launch} {G : va_G} {cI cZ cO : ClassId} (x0 : Int32) {res : Int32} (h : fX3_isPicture x0 = res) : MI l G cI cZ cO yX3_isPicture cX3_isPicture 1 .boolean rX3_isPicture [.int x0] (wX3_isPicture cI cZ) (res) (wX3_isPicture cI cZ) := by
  refine MI.of (by decide) (Nat.le_of_ble_eq_true rfl) ?_
  intro p e s m below meth c A Q C hW hQ ls hl
  exact uX3_isPicture_0 x0 C hQ h _ _ hW _ hl
abbrev wX3_takesDigit (cI cZ : ClassId) : va_W := []
abbrev rX3_takesDigit : Room := { frames := 0, cells := 0, slots := 0, locals := 0 }
set_option maxRecDepth 20000 in
theorem uX3_takesDigit_0 (x0 : Int32) {res : Int32} (C : Cx p s m av meth c RX3 cX3_takesDigit 1 (some .boolean) G cI cZ cO A) (hQ : RI p l e rX3_takesDigit s m av below meth c G A cX3_takesDigit .boolean Q (res) (wX3_takesDigit cI cZ)) (h : fX3_takesDigit x0 = res) (H : Heap) (locs : List Loc) (hW : HW G A s (wX3_takesDigit cI cZ) H locs) (ls : Array Slot) (hl : lv_has ls 1 [(0, .int x0)]) : W p l e rX3_takesDigit s m av below meth c H locs 0 0 Q (F0 m 0 ls []) := by
  have hx := C.1
  have hb := C.2.1
  unfold fX3_takesDigit at h
  refine lv_iload_n hx hb dX3_takesDigit_0 rfl (lv_at hl 0 rfl) ?_
  refine lv_bipush (v := (111 : Int32)) hx hb dX3_takesDigit_1 (by decide) ?_
  refine lv_icmp_eq (tgt := 18) hx hb dX3_takesDigit_3 (by decide) (fun c_1 => ?_) (fun c_1 => ?_)
  · have h := ip_h c_1 h
    refine lv_iconst (v := (1 : Int32)) hx hb dX3_takesDigit_18 (by decide) ?_
    refine lv_goto (tgt := 23) hx hb dX3_takesDigit_19 (by decide) ?_
    subst h
    exact hQ nb_1 _ _ _ _ dX3_takesDigit_23 hW
  · have h := in_h c_1 h
    refine lv_iload_n hx hb dX3_takesDigit_6 rfl (lv_at hl 0 rfl) ?_
    refine lv_bipush (v := (120 : Int32)) hx hb dX3_takesDigit_7 (by decide) ?_
    refine lv_icmp_eq (tgt := 18) hx hb dX3_takesDigit_9 (by decide) (fun c_2 => ?_) (fun c_2 => ?_)
    · have h := ip_h c_2 h
      refine lv_iconst (v := (1 : Int32)) hx hb dX3_takesDigit_18 (by decide) ?_
      refine lv_goto (tgt := 23) hx hb dX3_takesDigit_19 (by decide) ?_
      subst h
      exact hQ nb_1 _ _ _ _ dX3_takesDigit_23 hW
    · have h := in_h c_2 h
      refine lv_iload_n hx hb dX3_takesDigit_12 rfl (lv_at hl 0 rfl) ?_
      refine lv_bipush (v := (119 : Int32)) hx hb dX3_takesDigit_13 (by decide) ?_
      refine lv_icmp_ne (tgt := 22) hx hb dX3_takesDigit_15 (by decide) (fun c_3 => ?_) (fun c_3 => ?_)
      · have h := in_h c_3 h
        refine lv_iconst (v := (0 : Int32)) hx hb dX3_takesDigit_22 (by decide) ?_
        subst h
        exact hQ nb_0 _ _ _ _ dX3_takesDigit_23 hW
      · have h := ip_h c_3 h
        refine lv_iconst (v := (1 : Int32)) hx hb dX3_takesDigit_18 (by decide) ?_
        refine lv_goto (tgt := 23) hx hb dX3_takesDigit_19 (by decide) ?_
        subst h
        exact hQ nb_1 _ _ _ _ dX3_takesDigit_23 hW
theorem ctX3_takesDigit {l : Launch} {G : va_G} {cI cZ cO : ClassId} (x0 : Int32) {res : Int32} (h : fX3_takesDigit x0 = res) : MI l G cI cZ cO yX3_takesDigit cX3_takesDigit 1 .boolean rX3_takesDigit [.int x0] (wX3_takesDigit cI cZ) (res) (wX3_takesDigit cI cZ) := by
  refine MI.of (by decide) (Nat.le_of_ble_eq_true rfl) ?_
  intro p e s m below meth c A Q C hW hQ ls hl
  exact uX3_takesDigit_0 x0 C hQ h _ _ hW _ hl
abbrev wX3_hasThird (cI cZ : ClassId) (a_this a_signs : Nat) (v_size : Int32) (v_signs : Nat → Int32) : va_W := [(a_this, .inr (3, [.int v_size, .ref a_signs])), (a_signs, .inl (cI, 60, .inl v_signs))]
abbrev rX3_hasThird : Room := { frames := 1, cells := 0, slots := 0, locals := 21 }
set_option maxRecDepth 20000 in
theorem uX3_hasThird_0 {a_this a_signs : Nat} (x1 : Int32) (v_size : Int32) (v_signs : Nat → Int32) {res : Int32} (C : Cx p s m av meth c RX3 cX3_hasThird 3 (some .boolean) G cI cZ cO A) (hQ : RI p l e rX3_hasThird s m av below meth c G A cX3_hasThird .boolean Q (res) (wX3_hasThird cI cZ a_this a_signs v_size v_signs)) (h : fX3_hasThird x1 v_size v_signs = some res) (H : Heap) (locs : List Loc) (hW : HW G A s (wX3_hasThird cI cZ a_this a_signs v_size v_signs) H locs) (ls : Array Slot) (hl : lv_has ls 3 [(0, .ref a_this), (1, .int x1)]) : W p l e rX3_hasThird s m av below meth c H locs 0 0 Q (F0 m 0 ls []) := by
  have hx := C.1
  have hb := C.2.1
  unfold fX3_hasThird at h
  refine lv_aload_n hx hb dX3_hasThird_0 rfl (lv_at hl 0 rfl) ?_
  refine lv_iload_n hx hb dX3_hasThird_1 rfl (lv_at hl 1 rfl) ?_
  refine lv_iconst (v := (1 : Int32)) hx hb dX3_hasThird_2 (by decide) ?_
  refine lv_iadd hx hb dX3_hasThird_3 ?_
  obtain ⟨v_1, hv_1, h⟩ := bd_h h
  refine callVIr [0, 1] C lk_RX3_23 (ctX3_signAt a_this a_signs (x1 + (1 : Int32)) v_size v_signs hv_1) hW hl 3 rfl rfl rfl rfl rfl ⟨rfl, rfl⟩ ⟨(Nat.le_of_ble_eq_true rfl), (Nat.le_of_ble_eq_true rfl)⟩ ⟨Nat.zero_le _, Nat.zero_le _⟩ rfl (Nat.le_of_ble_eq_true rfl) dX3_hasThird_4 (fun H locs hW => ?_)
  refine lv_istore_n (lv' := [(2, .int v_1), (0, .ref a_this), (1, .int x1)]) hx hb dX3_hasThird_7 rfl hl (Nat.le_of_ble_eq_true rfl) rfl (fun ls hl => ?_)
  refine lv_iload_n hx hb dX3_hasThird_8 rfl (lv_at hl 0 rfl) ?_
  refine callSI0 C lk_RX3_37 (ctX3_takesDigit v_1 rfl) hW hl rfl ⟨rfl, rfl⟩ ⟨(Nat.le_of_ble_eq_true rfl), (Nat.le_of_ble_eq_true rfl)⟩ ⟨Nat.zero_le _, Nat.zero_le _⟩ rfl (Nat.le_of_ble_eq_true rfl) dX3_hasThird_9 (fun H locs hW => ?_)
  refine lv_if_ne (tgt := 21) hx hb dX3_hasThird_12 (by decide) (fun c_2 => ?_) (fun c_2 => ?_)
  · have h := in_h c_2 h
    refine lv_iconst (v := (1 : Int32)) hx hb dX3_hasThird_21 (by decide) ?_
    refine lv_goto (tgt := 26) hx hb dX3_hasThird_22 (by decide) ?_
    obtain rfl := Option.some.inj h
    exact hQ nb_1 _ _ _ _ dX3_hasThird_26 hW
  · have h := ip_h c_2 h
    refine lv_iload_n hx hb dX3_hasThird_15 rfl (lv_at hl 0 rfl) ?_
    refine lv_bipush (v := (43 : Int32)) hx hb dX3_hasThird_16 (by decide) ?_
    refine lv_icmp_ne (tgt := 25) hx hb dX3_hasThird_18 (by decide) (fun c_3 => ?_) (fun c_3 => ?_)
    · have h := in_h c_3 h
      refine lv_iconst (v := (0 : Int32)) hx hb dX3_hasThird_25 (by decide) ?_
      obtain rfl := Option.some.inj h
      exact hQ nb_0 _ _ _ _ dX3_hasThird_26 hW
    · have h := ip_h c_3 h
      refine lv_iconst (v := (1 : Int32)) hx hb dX3_hasThird_21 (by decide) ?_
      refine lv_goto (tgt := 26) hx hb dX3_hasThird_22 (by decide) ?_
      obtain rfl := Option.some.inj h
      exact hQ nb_1 _ _ _ _ dX3_hasThird_26 hW
theorem ctX3_hasThird {l : Launch} {G : va_G} {cI cZ cO : ClassId} (a_this a_signs : Nat) (x1 : Int32) (v_size : Int32) (v_signs : Nat → Int32) {res : Int32} (h : fX3_hasThird x1 v_size v_signs = some res) : MI l G cI cZ cO yX3_hasThird cX3_hasThird 3 .boolean rX3_hasThird [.ref a_this, .int x1] (wX3_hasThird cI cZ a_this a_signs v_size v_signs) (res) (wX3_hasThird cI cZ a_this a_signs v_size v_signs) := by
  refine MI.of (by decide) (Nat.le_of_ble_eq_true rfl) ?_
  intro p e s m below meth c A Q C hW hQ ls hl
  exact uX3_hasThird_0 x1 v_size v_signs C hQ h _ _ hW _ hl
abbrev wX3_isDigit (cI cZ : ClassId) : va_W := []
abbrev rX3_isDigit : Room := { frames := 1, cells := 0, slots := 0, locals := 22 }
set_option maxRecDepth 20000 in
theorem uX3_isDigit_0 (x0 : Int32) {res : Int32} (C : Cx p s m av meth c RX3 cX3_isDigit 1 (some .boolean) G cI cZ cO A) (hQ : RI p l e rX3_isDigit s m av below meth c G A cX3_isDigit .boolean Q (res) (wX3_isDigit cI cZ)) (h : fX3_isDigit x0 = res) (H : Heap) (locs : List Loc) (hW : HW G A s (wX3_isDigit cI cZ) H locs) (ls : Array Slot) (hl : lv_has ls 1 [(0, .int x0)]) : W p l e rX3_isDigit s m av below meth c H locs 0 0 Q (F0 m 0 ls []) := by
  have hx := C.1
  have hb := C.2.1
  unfold fX3_isDigit at h
  refine lv_iload_n hx hb dX3_isDigit_0 rfl (lv_at hl 0 rfl) ?_
  refine lv_bipush (v := (49 : Int32)) hx hb dX3_isDigit_1 (by decide) ?_
  refine lv_bipush (v := (57 : Int32)) hx hb dX3_isDigit_3 (by decide) ?_
  refine callNI0 C lk_RX3_19 (ctX10_inside x0 (49 : Int32) (57 : Int32) rfl) hW hl rfl ⟨rfl, rfl⟩ ⟨(Nat.le_of_ble_eq_true rfl), (Nat.le_of_ble_eq_true rfl)⟩ ⟨Nat.zero_le _, Nat.zero_le _⟩ rfl (Nat.le_of_ble_eq_true rfl) dX3_isDigit_5 (fun H locs hW => ?_)
  subst h
  exact hQ (fbX10_inside _ _ _ ) _ _ _ _ dX3_isDigit_8 hW
theorem ctX3_isDigit {l : Launch} {G : va_G} {cI cZ cO : ClassId} (x0 : Int32) {res : Int32} (h : fX3_isDigit x0 = res) : MI l G cI cZ cO yX3_isDigit cX3_isDigit 1 .boolean rX3_isDigit [.int x0] (wX3_isDigit cI cZ) (res) (wX3_isDigit cI cZ) := by
  refine MI.of (by decide) (Nat.le_of_ble_eq_true rfl) ?_
  intro p e s m below meth c A Q C hW hQ ls hl
  exact uX3_isDigit_0 x0 C hQ h _ _ hW _ hl
abbrev wX3_firstFault (cI cZ : ClassId) (a_this a_signs : Nat) (v_size : Int32) (v_signs : Nat → Int32) : va_W := [(a_this, .inr (3, [.int v_size, .ref a_signs])), (a_signs, .inl (cI, 60, .inl v_signs))]
abbrev rX3_firstFault : Room := { frames := 2, cells := 0, slots := 0, locals := 43 }
set_option maxRecDepth 20000 in
theorem uX3_firstFault_84 {a_this a_signs : Nat} (x1 : Int32) (x2 : Int32) (x3 : Int32) (v_size : Int32) (v_signs : Nat → Int32) {res : Int32} (C : Cx p s m av meth c RX3 cX3_firstFault 4 (some .int) G cI cZ cO A) (hQ : RI p l e rX3_firstFault s m av below meth c G A cX3_firstFault .int Q (res) (wX3_firstFault cI cZ a_this a_signs v_size v_signs)) {k2 : (Int32) → Option (Int32)} (hk2 : ∀ (x1 : Int32), k2 x1 = some res → ∀ (H : Heap) (locs : List Loc), HW G A s (wX3_firstFault cI cZ a_this a_signs v_size v_signs) H locs → ∀ ls : Array Slot, lv_has ls 4 [(0, .ref a_this), (1, .int x1)] → W p l e rX3_firstFault s m av below meth c H locs 0 0 Q (F0 m 2 ls [])) (h : fX3_firstFault_84 x1 x2 x3 v_size v_signs k2 = some res) (H : Heap) (locs : List Loc) (hW : HW G A s (wX3_firstFault cI cZ a_this a_signs v_size v_signs) H locs) (ls : Array Slot) (hl : lv_has ls 4 [(0, .ref a_this), (1, .int x1), (2, .int x2), (3, .int x3)]) : W p l e rX3_firstFault s m av below meth c H locs 0 0 Q (F0 m 84 ls []) := by
  have hx := C.1
  have hb := C.2.1
  unfold fX3_firstFault_84 at h
  refine lv_iload_n hx hb dX3_firstFault_84 rfl (lv_at hl 2 rfl) ?_
  refine lv_bipush (v := (43 : Int32)) hx hb dX3_firstFault_85 (by decide) ?_
  refine lv_icmp_ne (tgt := 101) hx hb dX3_firstFault_87 (by decide) (fun c_8 => ?_) (fun c_8 => ?_)
  · have h := in_h c_8 h
    refine lv_iload_n hx hb dX3_firstFault_101 rfl (lv_at hl 1 rfl) ?_
    refine lv_aload_n hx hb dX3_firstFault_102 rfl (lv_at hl 0 rfl) ?_
    refine lv_iload_n hx hb dX3_firstFault_103 rfl (lv_at hl 1 rfl) ?_
    obtain ⟨v_9, hv_9, h⟩ := bd_h h
    refine callVIr [0, 1] C lk_RX3_40 (ctX3_hasThird a_this a_signs x1 v_size v_signs hv_9) hW hl 3 rfl rfl rfl rfl rfl ⟨rfl, rfl⟩ ⟨(Nat.le_of_ble_eq_true rfl), (Nat.le_of_ble_eq_true rfl)⟩ ⟨Nat.zero_le _, Nat.zero_le _⟩ rfl (Nat.le_of_ble_eq_true rfl) dX3_firstFault_104 (fun H locs hW => ?_)
    refine lv_if_eq (tgt := 114) hx hb dX3_firstFault_107 (by decide) (fun c_10 => ?_) (fun c_10 => ?_)
    · have h := ip_h c_10 h
      refine lv_iconst (v := (2 : Int32)) hx hb dX3_firstFault_114 (by decide) ?_
      refine lv_iadd hx hb dX3_firstFault_115 ?_
      refine lv_topi (fun v_11 ev_11 => ?_)
      have h := lt_h ev_11 h
      refine lv_istore_n (lv' := [(1, .int v_11), (0, .ref a_this), (2, .int x2), (3, .int x3)]) hx hb dX3_firstFault_116 rfl hl (Nat.le_of_ble_eq_true rfl) rfl (fun ls hl => ?_)
      refine lv_goto (tgt := 2) hx hb dX3_firstFault_117 (by decide) ?_
      exact hk2 v_11 h _ _ hW _ (lv_sub hl [1, 0] rfl)
    · have h := in_h c_10 h
      refine lv_iconst (v := (3 : Int32)) hx hb dX3_firstFault_110 (by decide) ?_
      refine lv_goto (tgt := 115) hx hb dX3_firstFault_111 (by decide) ?_
      refine lv_iadd hx hb dX3_firstFault_115 ?_
      refine lv_topi (fun v_12 ev_12 => ?_)
      have h := lt_h ev_12 h
      refine lv_istore_n (lv' := [(1, .int v_12), (0, .ref a_this), (2, .int x2), (3, .int x3)]) hx hb dX3_firstFault_116 rfl hl (Nat.le_of_ble_eq_true rfl) rfl (fun ls hl => ?_)
      refine lv_goto (tgt := 2) hx hb dX3_firstFault_117 (by decide) ?_
      exact hk2 v_12 h _ _ hW _ (lv_sub hl [1, 0] rfl)
  · have h := ip_h c_8 h
    refine lv_iload_n hx hb dX3_firstFault_90 rfl (lv_at hl 3 rfl) ?_
    refine callSI0 C lk_RX3_27 (ctX3_isStone x3 rfl) hW hl rfl ⟨rfl, rfl⟩ ⟨(Nat.le_of_ble_eq_true rfl), (Nat.le_of_ble_eq_true rfl)⟩ ⟨Nat.zero_le _, Nat.zero_le _⟩ rfl (Nat.le_of_ble_eq_true rfl) dX3_firstFault_91 (fun H locs hW => ?_)
    refine lv_if_ne (tgt := 101) hx hb dX3_firstFault_94 (by decide) (fun c_13 => ?_) (fun c_13 => ?_)
    · have h := in_h c_13 h
      refine lv_iload_n hx hb dX3_firstFault_101 rfl (lv_at hl 1 rfl) ?_
      refine lv_aload_n hx hb dX3_firstFault_102 rfl (lv_at hl 0 rfl) ?_
      refine lv_iload_n hx hb dX3_firstFault_103 rfl (lv_at hl 1 rfl) ?_
      obtain ⟨v_14, hv_14, h⟩ := bd_h h
      refine callVIr [0, 1] C lk_RX3_40 (ctX3_hasThird a_this a_signs x1 v_size v_signs hv_14) hW hl 3 rfl rfl rfl rfl rfl ⟨rfl, rfl⟩ ⟨(Nat.le_of_ble_eq_true rfl), (Nat.le_of_ble_eq_true rfl)⟩ ⟨Nat.zero_le _, Nat.zero_le _⟩ rfl (Nat.le_of_ble_eq_true rfl) dX3_firstFault_104 (fun H locs hW => ?_)
      refine lv_if_eq (tgt := 114) hx hb dX3_firstFault_107 (by decide) (fun c_15 => ?_) (fun c_15 => ?_)
      · have h := ip_h c_15 h
        refine lv_iconst (v := (2 : Int32)) hx hb dX3_firstFault_114 (by decide) ?_
        refine lv_iadd hx hb dX3_firstFault_115 ?_
        refine lv_topi (fun v_16 ev_16 => ?_)
        have h := lt_h ev_16 h
        refine lv_istore_n (lv' := [(1, .int v_16), (0, .ref a_this), (2, .int x2), (3, .int x3)]) hx hb dX3_firstFault_116 rfl hl (Nat.le_of_ble_eq_true rfl) rfl (fun ls hl => ?_)
        refine lv_goto (tgt := 2) hx hb dX3_firstFault_117 (by decide) ?_
        exact hk2 v_16 h _ _ hW _ (lv_sub hl [1, 0] rfl)
      · have h := in_h c_15 h
        refine lv_iconst (v := (3 : Int32)) hx hb dX3_firstFault_110 (by decide) ?_
        refine lv_goto (tgt := 115) hx hb dX3_firstFault_111 (by decide) ?_
        refine lv_iadd hx hb dX3_firstFault_115 ?_
        refine lv_topi (fun v_17 ev_17 => ?_)
        have h := lt_h ev_17 h
        refine lv_istore_n (lv' := [(1, .int v_17), (0, .ref a_this), (2, .int x2), (3, .int x3)]) hx hb dX3_firstFault_116 rfl hl (Nat.le_of_ble_eq_true rfl) rfl (fun ls hl => ?_)
        refine lv_goto (tgt := 2) hx hb dX3_firstFault_117 (by decide) ?_
        exact hk2 v_17 h _ _ hW _ (lv_sub hl [1, 0] rfl)
    · have h := ip_h c_13 h
      refine lv_iload_n hx hb dX3_firstFault_97 rfl (lv_at hl 1 rfl) ?_
      refine lv_iconst (v := (2 : Int32)) hx hb dX3_firstFault_98 (by decide) ?_
      refine lv_iadd hx hb dX3_firstFault_99 ?_
      obtain rfl := Option.some.inj h
      exact hQ rfl _ _ _ _ dX3_firstFault_100 hW
set_option maxRecDepth 20000 in
theorem uX3_firstFault_62 {a_this a_signs : Nat} (x1 : Int32) (x2 : Int32) (v_size : Int32) (v_signs : Nat → Int32) {res : Int32} (C : Cx p s m av meth c RX3 cX3_firstFault 4 (some .int) G cI cZ cO A) (hQ : RI p l e rX3_firstFault s m av below meth c G A cX3_firstFault .int Q (res) (wX3_firstFault cI cZ a_this a_signs v_size v_signs)) {k2 : (Int32) → Option (Int32)} (hk2 : ∀ (x1 : Int32), k2 x1 = some res → ∀ (H : Heap) (locs : List Loc), HW G A s (wX3_firstFault cI cZ a_this a_signs v_size v_signs) H locs → ∀ ls : Array Slot, lv_has ls 4 [(0, .ref a_this), (1, .int x1)] → W p l e rX3_firstFault s m av below meth c H locs 0 0 Q (F0 m 2 ls [])) (h : fX3_firstFault_62 x1 x2 v_size v_signs k2 = some res) (H : Heap) (locs : List Loc) (hW : HW G A s (wX3_firstFault cI cZ a_this a_signs v_size v_signs) H locs) (ls : Array Slot) (hl : lv_has ls 4 [(0, .ref a_this), (1, .int x1), (2, .int x2)]) : W p l e rX3_firstFault s m av below meth c H locs 0 0 Q (F0 m 62 ls []) := by
  have hx := C.1
  have hb := C.2.1
  unfold fX3_firstFault_62 at h
  refine lv_aload_n hx hb dX3_firstFault_62 rfl (lv_at hl 0 rfl) ?_
  refine lv_iload_n hx hb dX3_firstFault_63 rfl (lv_at hl 1 rfl) ?_
  refine lv_iconst (v := (2 : Int32)) hx hb dX3_firstFault_64 (by decide) ?_
  refine lv_iadd hx hb dX3_firstFault_65 ?_
  obtain ⟨v_6, hv_6, h⟩ := bd_h h
  refine callVIr [0, 1] C lk_RX3_23 (ctX3_signAt a_this a_signs (x1 + (2 : Int32)) v_size v_signs hv_6) hW hl 3 rfl rfl rfl rfl rfl ⟨rfl, rfl⟩ ⟨(Nat.le_of_ble_eq_true rfl), (Nat.le_of_ble_eq_true rfl)⟩ ⟨Nat.zero_le _, Nat.zero_le _⟩ rfl (Nat.le_of_ble_eq_true rfl) dX3_firstFault_66 (fun H locs hW => ?_)
  refine lv_istore_n (lv' := [(3, .int v_6), (0, .ref a_this), (1, .int x1), (2, .int x2)]) hx hb dX3_firstFault_69 rfl hl (Nat.le_of_ble_eq_true rfl) rfl (fun ls hl => ?_)
  refine lv_iload_n hx hb dX3_firstFault_70 rfl (lv_at hl 3 rfl) ?_
  refine callSI0 C lk_RX3_37 (ctX3_takesDigit x2 rfl) hW hl rfl ⟨rfl, rfl⟩ ⟨(Nat.le_of_ble_eq_true rfl), (Nat.le_of_ble_eq_true rfl)⟩ ⟨Nat.zero_le _, Nat.zero_le _⟩ rfl (Nat.le_of_ble_eq_true rfl) dX3_firstFault_71 (fun H locs hW => ?_)
  refine lv_if_eq (tgt := 84) hx hb dX3_firstFault_74 (by decide) (fun c_7 => ?_) (fun c_7 => ?_)
  · have h := ip_h c_7 h
    exact uX3_firstFault_84 x1 x2 v_6 v_size v_signs C hQ hk2 h _ _ hW _ (lv_sub hl [1, 2, 3, 0] rfl)
  · have h := in_h c_7 h
    refine lv_iload_n hx hb dX3_firstFault_77 rfl (lv_at hl 0 rfl) ?_
    refine callSI0 C lk_RX3_34 (ctX3_isDigit v_6 rfl) hW hl rfl ⟨rfl, rfl⟩ ⟨(Nat.le_of_ble_eq_true rfl), (Nat.le_of_ble_eq_true rfl)⟩ ⟨Nat.zero_le _, Nat.zero_le _⟩ rfl (Nat.le_of_ble_eq_true rfl) dX3_firstFault_78 (fun H locs hW => ?_)
    refine lv_if_eq (tgt := 97) hx hb dX3_firstFault_81 (by decide) (fun c_18 => ?_) (fun c_18 => ?_)
    · have h := ip_h c_18 h
      refine lv_iload_n hx hb dX3_firstFault_97 rfl (lv_at hl 2 rfl) ?_
      refine lv_iconst (v := (2 : Int32)) hx hb dX3_firstFault_98 (by decide) ?_
      refine lv_iadd hx hb dX3_firstFault_99 ?_
      obtain rfl := Option.some.inj h
      exact hQ rfl _ _ _ _ dX3_firstFault_100 hW
    · have h := in_h c_18 h
      exact uX3_firstFault_84 x1 x2 v_6 v_size v_signs C hQ hk2 h _ _ hW _ (lv_sub hl [1, 2, 3, 0] rfl)
set_option maxRecDepth 20000 in
theorem uX3_firstFault_2 {a_this a_signs : Nat} (x1 : Int32) (v_size : Int32) (v_signs : Nat → Int32) {res : Int32} (C : Cx p s m av meth c RX3 cX3_firstFault 4 (some .int) G cI cZ cO A) (hQ : RI p l e rX3_firstFault s m av below meth c G A cX3_firstFault .int Q (res) (wX3_firstFault cI cZ a_this a_signs v_size v_signs)) {k2 : (Int32) → Option (Int32)} (hk2 : ∀ (x1 : Int32), k2 x1 = some res → ∀ (H : Heap) (locs : List Loc), HW G A s (wX3_firstFault cI cZ a_this a_signs v_size v_signs) H locs → ∀ ls : Array Slot, lv_has ls 4 [(0, .ref a_this), (1, .int x1)] → W p l e rX3_firstFault s m av below meth c H locs 0 0 Q (F0 m 2 ls [])) (h : FX3_firstFault_2 v_size v_signs k2 x1 = some res) (H : Heap) (locs : List Loc) (hW : HW G A s (wX3_firstFault cI cZ a_this a_signs v_size v_signs) H locs) (ls : Array Slot) (hl : lv_has ls 4 [(0, .ref a_this), (1, .int x1)]) : W p l e rX3_firstFault s m av below meth c H locs 0 0 Q (F0 m 2 ls []) := by
  have hx := C.1
  have hb := C.2.1
  unfold FX3_firstFault_2 at h
  refine lv_iload_n hx hb dX3_firstFault_2 rfl (lv_at hl 1 rfl) ?_
  refine lv_aload_n hx hb dX3_firstFault_3 rfl (lv_at hl 0 rfl) ?_
  refine getW C fl_RX3_15 hW 0 rfl rfl dX3_firstFault_4 ?_
  refine lv_icmp_ge (tgt := 120) hx hb dX3_firstFault_7 (by decide) (fun c_1 => ?_) (fun c_1 => ?_)
  · have h := ip_h c_1 h
    refine lv_bipush (v := (-6 : Int32)) hx hb dX3_firstFault_120 (by decide) ?_
    obtain rfl := Option.some.inj h
    exact hQ rfl _ _ _ _ dX3_firstFault_122 hW
  · have h := in_h c_1 h
    refine lv_aload_n hx hb dX3_firstFault_10 rfl (lv_at hl 0 rfl) ?_
    refine lv_iload_n hx hb dX3_firstFault_11 rfl (lv_at hl 1 rfl) ?_
    obtain ⟨v_2, hv_2, h⟩ := bd_h h
    refine callVIr [0, 1] C lk_RX3_23 (ctX3_signAt a_this a_signs x1 v_size v_signs hv_2) hW hl 3 rfl rfl rfl rfl rfl ⟨rfl, rfl⟩ ⟨(Nat.le_of_ble_eq_true rfl), (Nat.le_of_ble_eq_true rfl)⟩ ⟨Nat.zero_le _, Nat.zero_le _⟩ rfl (Nat.le_of_ble_eq_true rfl) dX3_firstFault_12 (fun H locs hW => ?_)
    refine callSI0 C lk_RX3_27 (ctX3_isStone v_2 rfl) hW hl rfl ⟨rfl, rfl⟩ ⟨(Nat.le_of_ble_eq_true rfl), (Nat.le_of_ble_eq_true rfl)⟩ ⟨Nat.zero_le _, Nat.zero_le _⟩ rfl (Nat.le_of_ble_eq_true rfl) dX3_firstFault_15 (fun H locs hW => ?_)
    refine lv_if_ne (tgt := 23) hx hb dX3_firstFault_18 (by decide) (fun c_3 => ?_) (fun c_3 => ?_)
    · have h := in_h c_3 h
      refine lv_aload_n hx hb dX3_firstFault_23 rfl (lv_at hl 0 rfl) ?_
      refine lv_iload_n hx hb dX3_firstFault_24 rfl (lv_at hl 1 rfl) ?_
      refine lv_iconst (v := (1 : Int32)) hx hb dX3_firstFault_25 (by decide) ?_
      refine lv_iadd hx hb dX3_firstFault_26 ?_
      obtain ⟨v_4, hv_4, h⟩ := bd_h h
      refine callVIr [0, 1] C lk_RX3_23 (ctX3_signAt a_this a_signs (x1 + (1 : Int32)) v_size v_signs hv_4) hW hl 3 rfl rfl rfl rfl rfl ⟨rfl, rfl⟩ ⟨(Nat.le_of_ble_eq_true rfl), (Nat.le_of_ble_eq_true rfl)⟩ ⟨Nat.zero_le _, Nat.zero_le _⟩ rfl (Nat.le_of_ble_eq_true rfl) dX3_firstFault_27 (fun H locs hW => ?_)
      refine lv_istore_n (lv' := [(2, .int v_4), (0, .ref a_this), (1, .int x1)]) hx hb dX3_firstFault_30 rfl hl (Nat.le_of_ble_eq_true rfl) rfl (fun ls hl => ?_)
      refine lv_iload_n hx hb dX3_firstFault_31 rfl (lv_at hl 0 rfl) ?_
      refine callSI0 C lk_RX3_31 (ctX3_isPicture v_4 rfl) hW hl rfl ⟨rfl, rfl⟩ ⟨(Nat.le_of_ble_eq_true rfl), (Nat.le_of_ble_eq_true rfl)⟩ ⟨Nat.zero_le _, Nat.zero_le _⟩ rfl (Nat.le_of_ble_eq_true rfl) dX3_firstFault_32 (fun H locs hW => ?_)
      refine lv_if_ne (tgt := 62) hx hb dX3_firstFault_35 (by decide) (fun c_5 => ?_) (fun c_5 => ?_)
      · have h := in_h c_5 h
        exact uX3_firstFault_62 x1 v_4 v_size v_signs C hQ hk2 h _ _ hW _ (lv_sub hl [1, 2, 0] rfl)
      · have h := ip_h c_5 h
        refine lv_iload_n hx hb dX3_firstFault_38 rfl (lv_at hl 0 rfl) ?_
        refine callSI0 C lk_RX3_34 (ctX3_isDigit v_4 rfl) hW hl rfl ⟨rfl, rfl⟩ ⟨(Nat.le_of_ble_eq_true rfl), (Nat.le_of_ble_eq_true rfl)⟩ ⟨Nat.zero_le _, Nat.zero_le _⟩ rfl (Nat.le_of_ble_eq_true rfl) dX3_firstFault_39 (fun H locs hW => ?_)
        refine lv_if_ne (tgt := 62) hx hb dX3_firstFault_42 (by decide) (fun c_19 => ?_) (fun c_19 => ?_)
        · have h := in_h c_19 h
          exact uX3_firstFault_62 x1 v_4 v_size v_signs C hQ hk2 h _ _ hW _ (lv_sub hl [1, 2, 0] rfl)
        · have h := ip_h c_19 h
          refine lv_iload_n hx hb dX3_firstFault_45 rfl (lv_at hl 0 rfl) ?_
          refine callSI0 C lk_RX3_37 (ctX3_takesDigit v_4 rfl) hW hl rfl ⟨rfl, rfl⟩ ⟨(Nat.le_of_ble_eq_true rfl), (Nat.le_of_ble_eq_true rfl)⟩ ⟨Nat.zero_le _, Nat.zero_le _⟩ rfl (Nat.le_of_ble_eq_true rfl) dX3_firstFault_46 (fun H locs hW => ?_)
          refine lv_if_ne (tgt := 62) hx hb dX3_firstFault_49 (by decide) (fun c_20 => ?_) (fun c_20 => ?_)
          · have h := in_h c_20 h
            exact uX3_firstFault_62 x1 v_4 v_size v_signs C hQ hk2 h _ _ hW _ (lv_sub hl [1, 2, 0] rfl)
          · have h := ip_h c_20 h
            refine lv_iload_n hx hb dX3_firstFault_52 rfl (lv_at hl 0 rfl) ?_
            refine lv_bipush (v := (43 : Int32)) hx hb dX3_firstFault_53 (by decide) ?_
            refine lv_icmp_eq (tgt := 62) hx hb dX3_firstFault_55 (by decide) (fun c_21 => ?_) (fun c_21 => ?_)
            · have h := ip_h c_21 h
              exact uX3_firstFault_62 x1 v_4 v_size v_signs C hQ hk2 h _ _ hW _ (lv_sub hl [1, 2, 0] rfl)
            · have h := in_h c_21 h
              refine lv_iload_n hx hb dX3_firstFault_58 rfl (lv_at hl 2 rfl) ?_
              refine lv_iconst (v := (1 : Int32)) hx hb dX3_firstFault_59 (by decide) ?_
              refine lv_iadd hx hb dX3_firstFault_60 ?_
              obtain rfl := Option.some.inj h
              exact hQ rfl _ _ _ _ dX3_firstFault_61 hW
    · have h := ip_h c_3 h
      refine lv_iload_n hx hb dX3_firstFault_21 rfl (lv_at hl 1 rfl) ?_
      obtain rfl := Option.some.inj h
      exact hQ rfl _ _ _ _ dX3_firstFault_22 hW
theorem wX3_firstFault_2_ {a_this a_signs : Nat} (v_size : Int32) (v_signs : Nat → Int32) {res : Int32} (C : Cx p s m av meth c RX3 cX3_firstFault 4 (some .int) G cI cZ cO A) (hQ : RI p l e rX3_firstFault s m av below meth c G A cX3_firstFault .int Q (res) (wX3_firstFault cI cZ a_this a_signs v_size v_signs)) : ∀ (n : Nat) (x1 : Int32), LX3_firstFault_2 v_size v_signs n x1 = some res → ∀ (H : Heap) (locs : List Loc), HW G A s (wX3_firstFault cI cZ a_this a_signs v_size v_signs) H locs → ∀ ls : Array Slot, lv_has ls 4 [(0, .ref a_this), (1, .int x1)] → W p l e rX3_firstFault s m av below meth c H locs 0 0 Q (F0 m 2 ls []) := by
  intro n
  induction n with
  | zero => intro x1 h; cases h
  | succ n ih =>
    intro x1 h H locs hW ls hl
    exact uX3_firstFault_2 x1 v_size v_signs C hQ (k2 := LX3_firstFault_2 v_size v_signs n) ih h H locs hW ls hl
set_option maxRecDepth 20000 in
theorem uX3_firstFault_0 {a_this a_signs : Nat} (v_size : Int32) (v_signs : Nat → Int32) {res : Int32} (C : Cx p s m av meth c RX3 cX3_firstFault 4 (some .int) G cI cZ cO A) (hQ : RI p l e rX3_firstFault s m av below meth c G A cX3_firstFault .int Q (res) (wX3_firstFault cI cZ a_this a_signs v_size v_signs)) (h : fX3_firstFault v_size v_signs = some res) (H : Heap) (locs : List Loc) (hW : HW G A s (wX3_firstFault cI cZ a_this a_signs v_size v_signs) H locs) (ls : Array Slot) (hl : lv_has ls 4 [(0, .ref a_this)]) : W p l e rX3_firstFault s m av below meth c H locs 0 0 Q (F0 m 0 ls []) := by
  have hx := C.1
  have hb := C.2.1
  unfold fX3_firstFault at h
  refine lv_iconst (v := (0 : Int32)) hx hb dX3_firstFault_0 (by decide) ?_
  refine lv_istore_n (lv' := [(1, .int (0 : Int32)), (0, .ref a_this)]) hx hb dX3_firstFault_1 rfl hl (Nat.le_of_ble_eq_true rfl) rfl (fun ls hl => ?_)
  exact wX3_firstFault_2_ v_size v_signs C hQ 2000 (0 : Int32) h _ _ hW _ (lv_sub hl [1, 0] rfl)
theorem ctX3_firstFault {l : Launch} {G : va_G} {cI cZ cO : ClassId} (a_this a_signs : Nat) (v_size : Int32) (v_signs : Nat → Int32) {res : Int32} (h : fX3_firstFault v_size v_signs = some res) : MI l G cI cZ cO yX3_firstFault cX3_firstFault 4 .int rX3_firstFault [.ref a_this] (wX3_firstFault cI cZ a_this a_signs v_size v_signs) (res) (wX3_firstFault cI cZ a_this a_signs v_size v_signs) := by
  refine MI.of (by decide) (Nat.le_of_ble_eq_true rfl) ?_
  intro p e s m below meth c A Q C hW hQ ls hl
  exact uX3_firstFault_0 v_size v_signs C hQ h _ _ hW _ hl
abbrev wX3_readAct (cI cZ : ClassId) (a_this a_signs a_arg2 : Nat) (v_size : Int32) (v_signs : Nat → Int32) (v_arg2_stone : Int32) (v_arg2_kind : Int32) (v_arg2_amount : Int32) : va_W := [(a_this, .inr (3, [.int v_size, .ref a_signs])), (a_signs, .inl (cI, 60, .inl v_signs)), (a_arg2, .inr (0, [.int v_arg2_stone, .int v_arg2_kind, .int v_arg2_amount]))]
abbrev rX3_readAct : Room := { frames := 2, cells := 0, slots := 0, locals := 42 }
set_option maxRecDepth 20000 in
theorem uX3_readAct_0 {a_this a_signs a_arg2 : Nat} (x1 : Int32) (v_size : Int32) (v_signs : Nat → Int32) (v_arg2_stone : Int32) (v_arg2_kind : Int32) (v_arg2_amount : Int32) {res : Int32 × Int32 × Int32} (C : Cx p s m av meth c RX3 cX3_readAct 6 none G cI cZ cO A) (hQ : RV p l e rX3_readAct s m av below meth c G A cX3_readAct Q (wX3_readAct cI cZ a_this a_signs a_arg2 v_size v_signs res.2.2 res.2.1 res.1)) (h : fX3_readAct x1 v_size v_signs = some res) (H : Heap) (locs : List Loc) (hW : HW G A s (wX3_readAct cI cZ a_this a_signs a_arg2 v_size v_signs v_arg2_stone v_arg2_kind v_arg2_amount) H locs) (ls : Array Slot) (hl : lv_has ls 6 [(0, .ref a_this), (1, .int x1), (2, .ref a_arg2)]) : W p l e rX3_readAct s m av below meth c H locs 0 0 Q (F0 m 0 ls []) := by
  have hx := C.1
  have hb := C.2.1
  unfold fX3_readAct at h
  refine lv_aload_n hx hb dX3_readAct_0 rfl (lv_at hl 0 rfl) ?_
  refine lv_iload_n hx hb dX3_readAct_1 rfl (lv_at hl 1 rfl) ?_
  obtain ⟨v_1, hv_1, h⟩ := bd_h h
  refine callVIr [0, 1] C lk_RX3_23 (ctX3_signAt a_this a_signs x1 v_size v_signs hv_1) hW hl 3 rfl rfl rfl rfl rfl ⟨rfl, rfl⟩ ⟨(Nat.le_of_ble_eq_true rfl), (Nat.le_of_ble_eq_true rfl)⟩ ⟨Nat.zero_le _, Nat.zero_le _⟩ rfl (Nat.le_of_ble_eq_true rfl) dX3_readAct_2 (fun H locs hW => ?_)
  refine lv_bipush (v := (97 : Int32)) hx hb dX3_readAct_5 (by decide) ?_
  refine lv_isub hx hb dX3_readAct_7 ?_
  refine lv_topi (fun v_2 ev_2 => ?_)
  have h := lt_h ev_2 h
  refine lv_istore_n (lv' := [(3, .int v_2), (0, .ref a_this), (1, .int x1), (2, .ref a_arg2)]) hx hb dX3_readAct_8 rfl hl (Nat.le_of_ble_eq_true rfl) rfl (fun ls hl => ?_)
  refine lv_aload_n hx hb dX3_readAct_9 rfl (lv_at hl 1 rfl) ?_
  refine lv_iload_n hx hb dX3_readAct_10 rfl (lv_at hl 2 rfl) ?_
  refine lv_iconst (v := (1 : Int32)) hx hb dX3_readAct_11 (by decide) ?_
  refine lv_iadd hx hb dX3_readAct_12 ?_
  obtain ⟨v_3, hv_3, h⟩ := bd_h h
  refine callVIr [0, 1] C lk_RX3_23 (ctX3_signAt a_this a_signs (x1 + (1 : Int32)) v_size v_signs hv_3) hW hl 3 rfl rfl rfl rfl rfl ⟨rfl, rfl⟩ ⟨(Nat.le_of_ble_eq_true rfl), (Nat.le_of_ble_eq_true rfl)⟩ ⟨Nat.zero_le _, Nat.zero_le _⟩ rfl (Nat.le_of_ble_eq_true rfl) dX3_readAct_13 (fun H locs hW => ?_)
  refine lv_istore (lv' := [(4, .int v_3), (3, .int v_2), (0, .ref a_this), (1, .int x1), (2, .ref a_arg2)]) hx hb dX3_readAct_16 hl (Nat.le_of_ble_eq_true rfl) rfl (fun ls hl => ?_)
  refine lv_aload_n hx hb dX3_readAct_18 rfl (lv_at hl 2 rfl) ?_
  refine lv_iload_n hx hb dX3_readAct_19 rfl (lv_at hl 3 rfl) ?_
  refine lv_iconst (v := (2 : Int32)) hx hb dX3_readAct_20 (by decide) ?_
  refine lv_iadd hx hb dX3_readAct_21 ?_
  obtain ⟨v_4, hv_4, h⟩ := bd_h h
  refine callVIr [0, 1] C lk_RX3_23 (ctX3_signAt a_this a_signs (x1 + (2 : Int32)) v_size v_signs hv_4) hW hl 3 rfl rfl rfl rfl rfl ⟨rfl, rfl⟩ ⟨(Nat.le_of_ble_eq_true rfl), (Nat.le_of_ble_eq_true rfl)⟩ ⟨Nat.zero_le _, Nat.zero_le _⟩ rfl (Nat.le_of_ble_eq_true rfl) dX3_readAct_22 (fun H locs hW => ?_)
  refine lv_istore (lv' := [(5, .int v_4), (4, .int v_3), (3, .int v_2), (0, .ref a_this), (1, .int x1), (2, .ref a_arg2)]) hx hb dX3_readAct_25 hl (Nat.le_of_ble_eq_true rfl) rfl (fun ls hl => ?_)
  refine lv_iload hx hb dX3_readAct_27 (lv_at hl 1 rfl) ?_
  refine callSI0 C lk_RX3_31 (ctX3_isPicture v_3 rfl) hW hl rfl ⟨rfl, rfl⟩ ⟨(Nat.le_of_ble_eq_true rfl), (Nat.le_of_ble_eq_true rfl)⟩ ⟨Nat.zero_le _, Nat.zero_le _⟩ rfl (Nat.le_of_ble_eq_true rfl) dX3_readAct_29 (fun H locs hW => ?_)
  refine lv_if_eq (tgt := 49) hx hb dX3_readAct_32 (by decide) (fun c_5 => ?_) (fun c_5 => ?_)
  · have h := ip_h c_5 h
    refine lv_iload hx hb dX3_readAct_49 (lv_at hl 1 rfl) ?_
    refine callSI0 C lk_RX3_34 (ctX3_isDigit v_3 rfl) hW hl rfl ⟨rfl, rfl⟩ ⟨(Nat.le_of_ble_eq_true rfl), (Nat.le_of_ble_eq_true rfl)⟩ ⟨Nat.zero_le _, Nat.zero_le _⟩ rfl (Nat.le_of_ble_eq_true rfl) dX3_readAct_51 (fun H locs hW => ?_)
    refine lv_if_eq (tgt := 71) hx hb dX3_readAct_54 (by decide) (fun c_6 => ?_) (fun c_6 => ?_)
    · have h := ip_h c_6 h
      refine lv_iload hx hb dX3_readAct_71 (lv_at hl 1 rfl) ?_
      refine lv_bipush (v := (43 : Int32)) hx hb dX3_readAct_73 (by decide) ?_
      refine lv_icmp_ne (tgt := 92) hx hb dX3_readAct_75 (by decide) (fun c_7 => ?_) (fun c_7 => ?_)
      · have h := in_h c_7 h
        refine lv_iload hx hb dX3_readAct_92 (lv_at hl 1 rfl) ?_
        refine lv_bipush (v := (119 : Int32)) hx hb dX3_readAct_94 (by decide) ?_
        refine lv_icmp_ne (tgt := 113) hx hb dX3_readAct_96 (by decide) (fun c_8 => ?_) (fun c_8 => ?_)
        · have h := in_h c_8 h
          refine lv_aload_n hx hb dX3_readAct_113 rfl (lv_at hl 5 rfl) ?_
          refine lv_iload_n hx hb dX3_readAct_114 rfl (lv_at hl 2 rfl) ?_
          refine lv_iload hx hb dX3_readAct_115 (lv_at hl 1 rfl) ?_
          refine lv_bipush (v := (111 : Int32)) hx hb dX3_readAct_117 (by decide) ?_
          refine lv_icmp_ne (tgt := 126) hx hb dX3_readAct_119 (by decide) (fun c_9 => ?_) (fun c_9 => ?_)
          · have h := in_h c_9 h
            refine lv_iconst (v := (2 : Int32)) hx hb dX3_readAct_126 (by decide) ?_
            refine lv_iload hx hb dX3_readAct_127 (lv_at hl 0 rfl) ?_
            refine lv_bipush (v := (48 : Int32)) hx hb dX3_readAct_129 (by decide) ?_
            refine lv_isub hx hb dX3_readAct_131 ?_
            obtain ⟨v_10, ev_10⟩ : ∃ z, z = (fX0_become v_2 (2 : Int32) (v_4 - (48 : Int32))) := ⟨_, rfl⟩
            have h := lt_h ev_10 h
            refine callVVm [2] [0, 1] [(a_this, .inr (3, [.int v_size, .ref a_signs])), (a_signs, .inl (cI, 60, .inl v_signs))] (wX3_readAct cI cZ a_this a_signs a_arg2 v_size v_signs v_10.2.2 v_10.2.1 v_10.1) C lk_RX3_43 (ctX0_become a_arg2 v_2 (2 : Int32) (v_4 - (48 : Int32)) v_arg2_stone v_arg2_kind v_arg2_amount ev_10.symm) hW hl 0 rfl rfl rfl rfl rfl rfl rfl rfl rfl rfl ⟨rfl, rfl⟩ ⟨(Nat.le_of_ble_eq_true rfl), (Nat.le_of_ble_eq_true rfl)⟩ ⟨Nat.zero_le _, Nat.zero_le _⟩ rfl (Nat.le_of_ble_eq_true rfl) dX3_readAct_132 (fun H locs hW => ?_)
            obtain rfl := Option.some.inj h
            exact hQ _ _ _ _ dX3_readAct_135 hW
          · have h := ip_h c_9 h
            refine lv_iconst (v := (1 : Int32)) hx hb dX3_readAct_122 (by decide) ?_
            refine lv_goto (tgt := 127) hx hb dX3_readAct_123 (by decide) ?_
            refine lv_iload hx hb dX3_readAct_127 (lv_at hl 0 rfl) ?_
            refine lv_bipush (v := (48 : Int32)) hx hb dX3_readAct_129 (by decide) ?_
            refine lv_isub hx hb dX3_readAct_131 ?_
            obtain ⟨v_11, ev_11⟩ : ∃ z, z = (fX0_become v_2 (1 : Int32) (v_4 - (48 : Int32))) := ⟨_, rfl⟩
            have h := lt_h ev_11 h
            refine callVVm [2] [0, 1] [(a_this, .inr (3, [.int v_size, .ref a_signs])), (a_signs, .inl (cI, 60, .inl v_signs))] (wX3_readAct cI cZ a_this a_signs a_arg2 v_size v_signs v_11.2.2 v_11.2.1 v_11.1) C lk_RX3_43 (ctX0_become a_arg2 v_2 (1 : Int32) (v_4 - (48 : Int32)) v_arg2_stone v_arg2_kind v_arg2_amount ev_11.symm) hW hl 0 rfl rfl rfl rfl rfl rfl rfl rfl rfl rfl ⟨rfl, rfl⟩ ⟨(Nat.le_of_ble_eq_true rfl), (Nat.le_of_ble_eq_true rfl)⟩ ⟨Nat.zero_le _, Nat.zero_le _⟩ rfl (Nat.le_of_ble_eq_true rfl) dX3_readAct_132 (fun H locs hW => ?_)
            obtain rfl := Option.some.inj h
            exact hQ _ _ _ _ dX3_readAct_135 hW
        · have h := ip_h c_8 h
          refine lv_aload_n hx hb dX3_readAct_99 rfl (lv_at hl 5 rfl) ?_
          refine lv_iload_n hx hb dX3_readAct_100 rfl (lv_at hl 2 rfl) ?_
          refine lv_iconst (v := (3 : Int32)) hx hb dX3_readAct_101 (by decide) ?_
          refine lv_iload hx hb dX3_readAct_102 (lv_at hl 0 rfl) ?_
          refine lv_bipush (v := (48 : Int32)) hx hb dX3_readAct_104 (by decide) ?_
          refine lv_isub hx hb dX3_readAct_106 ?_
          obtain ⟨v_12, ev_12⟩ : ∃ z, z = (fX0_become v_2 (3 : Int32) (v_4 - (48 : Int32))) := ⟨_, rfl⟩
          have h := lt_h ev_12 h
          refine callVVm [2] [0, 1] [(a_this, .inr (3, [.int v_size, .ref a_signs])), (a_signs, .inl (cI, 60, .inl v_signs))] (wX3_readAct cI cZ a_this a_signs a_arg2 v_size v_signs v_12.2.2 v_12.2.1 v_12.1) C lk_RX3_43 (ctX0_become a_arg2 v_2 (3 : Int32) (v_4 - (48 : Int32)) v_arg2_stone v_arg2_kind v_arg2_amount ev_12.symm) hW hl 0 rfl rfl rfl rfl rfl rfl rfl rfl rfl rfl ⟨rfl, rfl⟩ ⟨(Nat.le_of_ble_eq_true rfl), (Nat.le_of_ble_eq_true rfl)⟩ ⟨Nat.zero_le _, Nat.zero_le _⟩ rfl (Nat.le_of_ble_eq_true rfl) dX3_readAct_107 (fun H locs hW => ?_)
          refine lv_goto (tgt := 135) hx hb dX3_readAct_110 (by decide) ?_
          obtain rfl := Option.some.inj h
          exact hQ _ _ _ _ dX3_readAct_135 hW
      · have h := ip_h c_7 h
        refine lv_aload_n hx hb dX3_readAct_78 rfl (lv_at hl 5 rfl) ?_
        refine lv_iload_n hx hb dX3_readAct_79 rfl (lv_at hl 2 rfl) ?_
        refine lv_iconst (v := (5 : Int32)) hx hb dX3_readAct_80 (by decide) ?_
        refine lv_iload hx hb dX3_readAct_81 (lv_at hl 0 rfl) ?_
        refine lv_bipush (v := (97 : Int32)) hx hb dX3_readAct_83 (by decide) ?_
        refine lv_isub hx hb dX3_readAct_85 ?_
        obtain ⟨v_13, ev_13⟩ : ∃ z, z = (fX0_become v_2 (5 : Int32) (v_4 - (97 : Int32))) := ⟨_, rfl⟩
        have h := lt_h ev_13 h
        refine callVVm [2] [0, 1] [(a_this, .inr (3, [.int v_size, .ref a_signs])), (a_signs, .inl (cI, 60, .inl v_signs))] (wX3_readAct cI cZ a_this a_signs a_arg2 v_size v_signs v_13.2.2 v_13.2.1 v_13.1) C lk_RX3_43 (ctX0_become a_arg2 v_2 (5 : Int32) (v_4 - (97 : Int32)) v_arg2_stone v_arg2_kind v_arg2_amount ev_13.symm) hW hl 0 rfl rfl rfl rfl rfl rfl rfl rfl rfl rfl ⟨rfl, rfl⟩ ⟨(Nat.le_of_ble_eq_true rfl), (Nat.le_of_ble_eq_true rfl)⟩ ⟨Nat.zero_le _, Nat.zero_le _⟩ rfl (Nat.le_of_ble_eq_true rfl) dX3_readAct_86 (fun H locs hW => ?_)
        refine lv_goto (tgt := 135) hx hb dX3_readAct_89 (by decide) ?_
        obtain rfl := Option.some.inj h
        exact hQ _ _ _ _ dX3_readAct_135 hW
    · have h := in_h c_6 h
      refine lv_aload_n hx hb dX3_readAct_57 rfl (lv_at hl 5 rfl) ?_
      refine lv_iload_n hx hb dX3_readAct_58 rfl (lv_at hl 2 rfl) ?_
      refine lv_iconst (v := (4 : Int32)) hx hb dX3_readAct_59 (by decide) ?_
      refine lv_iload hx hb dX3_readAct_60 (lv_at hl 1 rfl) ?_
      refine lv_bipush (v := (48 : Int32)) hx hb dX3_readAct_62 (by decide) ?_
      refine lv_isub hx hb dX3_readAct_64 ?_
      obtain ⟨v_14, ev_14⟩ : ∃ z, z = (fX0_become v_2 (4 : Int32) (v_3 - (48 : Int32))) := ⟨_, rfl⟩
      have h := lt_h ev_14 h
      refine callVVm [2] [0, 1] [(a_this, .inr (3, [.int v_size, .ref a_signs])), (a_signs, .inl (cI, 60, .inl v_signs))] (wX3_readAct cI cZ a_this a_signs a_arg2 v_size v_signs v_14.2.2 v_14.2.1 v_14.1) C lk_RX3_43 (ctX0_become a_arg2 v_2 (4 : Int32) (v_3 - (48 : Int32)) v_arg2_stone v_arg2_kind v_arg2_amount ev_14.symm) hW hl 0 rfl rfl rfl rfl rfl rfl rfl rfl rfl rfl ⟨rfl, rfl⟩ ⟨(Nat.le_of_ble_eq_true rfl), (Nat.le_of_ble_eq_true rfl)⟩ ⟨Nat.zero_le _, Nat.zero_le _⟩ rfl (Nat.le_of_ble_eq_true rfl) dX3_readAct_65 (fun H locs hW => ?_)
      refine lv_goto (tgt := 135) hx hb dX3_readAct_68 (by decide) ?_
      obtain rfl := Option.some.inj h
      exact hQ _ _ _ _ dX3_readAct_135 hW
  · have h := in_h c_5 h
    refine lv_aload_n hx hb dX3_readAct_35 rfl (lv_at hl 5 rfl) ?_
    refine lv_iload_n hx hb dX3_readAct_36 rfl (lv_at hl 2 rfl) ?_
    refine lv_iconst (v := (0 : Int32)) hx hb dX3_readAct_37 (by decide) ?_
    refine lv_iload hx hb dX3_readAct_38 (lv_at hl 1 rfl) ?_
    refine lv_bipush (v := (65 : Int32)) hx hb dX3_readAct_40 (by decide) ?_
    refine lv_isub hx hb dX3_readAct_42 ?_
    obtain ⟨v_15, ev_15⟩ : ∃ z, z = (fX0_become v_2 (0 : Int32) (v_3 - (65 : Int32))) := ⟨_, rfl⟩
    have h := lt_h ev_15 h
    refine callVVm [2] [0, 1] [(a_this, .inr (3, [.int v_size, .ref a_signs])), (a_signs, .inl (cI, 60, .inl v_signs))] (wX3_readAct cI cZ a_this a_signs a_arg2 v_size v_signs v_15.2.2 v_15.2.1 v_15.1) C lk_RX3_43 (ctX0_become a_arg2 v_2 (0 : Int32) (v_3 - (65 : Int32)) v_arg2_stone v_arg2_kind v_arg2_amount ev_15.symm) hW hl 0 rfl rfl rfl rfl rfl rfl rfl rfl rfl rfl ⟨rfl, rfl⟩ ⟨(Nat.le_of_ble_eq_true rfl), (Nat.le_of_ble_eq_true rfl)⟩ ⟨Nat.zero_le _, Nat.zero_le _⟩ rfl (Nat.le_of_ble_eq_true rfl) dX3_readAct_43 (fun H locs hW => ?_)
    refine lv_goto (tgt := 135) hx hb dX3_readAct_46 (by decide) ?_
    obtain rfl := Option.some.inj h
    exact hQ _ _ _ _ dX3_readAct_135 hW
theorem ctX3_readAct {l : Launch} {G : va_G} {cI cZ cO : ClassId} (a_this a_signs a_arg2 : Nat) (x1 : Int32) (v_size : Int32) (v_signs : Nat → Int32) (v_arg2_stone : Int32) (v_arg2_kind : Int32) (v_arg2_amount : Int32) {res : Int32 × Int32 × Int32} (h : fX3_readAct x1 v_size v_signs = some res) : MV l G cI cZ cO yX3_readAct cX3_readAct 6 rX3_readAct [.ref a_this, .int x1, .ref a_arg2] (wX3_readAct cI cZ a_this a_signs a_arg2 v_size v_signs v_arg2_stone v_arg2_kind v_arg2_amount) (wX3_readAct cI cZ a_this a_signs a_arg2 v_size v_signs res.2.2 res.2.1 res.1) := by
  refine MV.of (by decide) (Nat.le_of_ble_eq_true rfl) ?_
  intro p e s m below meth c A Q C hW hQ ls hl
  exact uX3_readAct_0 x1 v_size v_signs v_arg2_stone v_arg2_kind v_arg2_amount C hQ h _ _ hW _ hl
abbrev wX6_copyFrom (cI cZ : ClassId) (a_this a_thick a_hollow a_damp a_fresh a_pulls a_fats a_arg1 a_arg1_thick a_arg1_hollow a_arg1_damp a_arg1_fresh a_arg1_pulls a_arg1_fats : Nat) (v_there : Int32) (v_thick : Nat → Int32) (v_hollow : Nat → Int32) (v_damp : Nat → Int32) (v_fresh : Nat → Int32) (v_pulls : Nat → Int32) (v_fats : Nat → Int32) (v_arg1_there : Int32) (v_arg1_thick : Nat → Int32) (v_arg1_hollow : Nat → Int32) (v_arg1_damp : Nat → Int32) (v_arg1_fresh : Nat → Int32) (v_arg1_pulls : Nat → Int32) (v_arg1_fats : Nat → Int32) : va_W := [(a_this, .inr (6, [.int v_there, .ref a_thick, .ref a_hollow, .ref a_damp, .ref a_fresh, .ref a_pulls, .ref a_fats])), (a_thick, .inl (cI, 5, .inl v_thick)), (a_hollow, .inl (cI, 5, .inl v_hollow)), (a_damp, .inl (cI, 5, .inl v_damp)), (a_fresh, .inl (cI, 5, .inl v_fresh)), (a_pulls, .inl (cI, 5, .inl v_pulls)), (a_fats, .inl (cI, 40, .inl v_fats)), (a_arg1, .inr (6, [.int v_arg1_there, .ref a_arg1_thick, .ref a_arg1_hollow, .ref a_arg1_damp, .ref a_arg1_fresh, .ref a_arg1_pulls, .ref a_arg1_fats])), (a_arg1_thick, .inl (cI, 5, .inl v_arg1_thick)), (a_arg1_hollow, .inl (cI, 5, .inl v_arg1_hollow)), (a_arg1_damp, .inl (cI, 5, .inl v_arg1_damp)), (a_arg1_fresh, .inl (cI, 5, .inl v_arg1_fresh)), (a_arg1_pulls, .inl (cI, 5, .inl v_arg1_pulls)), (a_arg1_fats, .inl (cI, 40, .inl v_arg1_fats))]
abbrev rX6_copyFrom : Room := { frames := 1, cells := 0, slots := 0, locals := 60 }
set_option maxRecDepth 20000 in
theorem uX6_copyFrom_0 {a_this a_thick a_hollow a_damp a_fresh a_pulls a_fats a_arg1 a_arg1_thick a_arg1_hollow a_arg1_damp a_arg1_fresh a_arg1_pulls a_arg1_fats : Nat} (v_there : Int32) (v_thick : Nat → Int32) (v_hollow : Nat → Int32) (v_damp : Nat → Int32) (v_fresh : Nat → Int32) (v_pulls : Nat → Int32) (v_fats : Nat → Int32) (v_arg1_there : Int32) (v_arg1_thick : Nat → Int32) (v_arg1_hollow : Nat → Int32) (v_arg1_damp : Nat → Int32) (v_arg1_fresh : Nat → Int32) (v_arg1_pulls : Nat → Int32) (v_arg1_fats : Nat → Int32) {res : Int32 × (Nat → Int32) × (Nat → Int32) × (Nat → Int32) × (Nat → Int32) × (Nat → Int32) × (Nat → Int32)} (C : Cx p s m av meth c RX6 cX6_copyFrom 2 none G cI cZ cO A) (hQ : RV p l e rX6_copyFrom s m av below meth c G A cX6_copyFrom Q (wX6_copyFrom cI cZ a_this a_thick a_hollow a_damp a_fresh a_pulls a_fats a_arg1 a_arg1_thick a_arg1_hollow a_arg1_damp a_arg1_fresh a_arg1_pulls a_arg1_fats res.1 res.2.1 res.2.2.1 res.2.2.2.1 res.2.2.2.2.1 res.2.2.2.2.2.1 res.2.2.2.2.2.2 v_arg1_there v_arg1_thick v_arg1_hollow v_arg1_damp v_arg1_fresh v_arg1_pulls v_arg1_fats)) (h : fX6_copyFrom v_thick v_hollow v_damp v_fresh v_pulls v_fats v_arg1_there v_arg1_thick v_arg1_hollow v_arg1_damp v_arg1_fresh v_arg1_pulls v_arg1_fats = res) (H : Heap) (locs : List Loc) (hW : HW G A s (wX6_copyFrom cI cZ a_this a_thick a_hollow a_damp a_fresh a_pulls a_fats a_arg1 a_arg1_thick a_arg1_hollow a_arg1_damp a_arg1_fresh a_arg1_pulls a_arg1_fats v_there v_thick v_hollow v_damp v_fresh v_pulls v_fats v_arg1_there v_arg1_thick v_arg1_hollow v_arg1_damp v_arg1_fresh v_arg1_pulls v_arg1_fats) H locs) (ls : Array Slot) (hl : lv_has ls 2 [(0, .ref a_this), (1, .ref a_arg1)]) : W p l e rX6_copyFrom s m av below meth c H locs 0 0 Q (F0 m 0 ls []) := by
  have hx := C.1
  have hb := C.2.1
  unfold fX6_copyFrom at h
  refine lv_aload_n hx hb dX6_copyFrom_0 rfl (lv_at hl 0 rfl) ?_
  refine lv_aload_n hx hb dX6_copyFrom_1 rfl (lv_at hl 1 rfl) ?_
  refine getW C fl_RX6_30 hW 7 rfl rfl dX6_copyFrom_2 ?_
  refine putW C fp_RX6_30 hW 0 rfl rfl rfl (Nat.le_of_ble_eq_true rfl) dX6_copyFrom_5 (fun H locs hW => ?_)
  have hW : HW G A s (wX6_copyFrom cI cZ a_this a_thick a_hollow a_damp a_fresh a_pulls a_fats a_arg1 a_arg1_thick a_arg1_hollow a_arg1_damp a_arg1_fresh a_arg1_pulls a_arg1_fats v_arg1_there v_thick v_hollow v_damp v_fresh v_pulls v_fats v_arg1_there v_arg1_thick v_arg1_hollow v_arg1_damp v_arg1_fresh v_arg1_pulls v_arg1_fats) H locs := hW
  refine lv_aload_n hx hb dX6_copyFrom_8 rfl (lv_at hl 1 rfl) ?_
  refine getW C fl_RX6_9 hW 7 rfl rfl dX6_copyFrom_9 ?_
  refine lv_iconst (v := (0 : Int32)) hx hb dX6_copyFrom_12 (by decide) ?_
  refine lv_aload_n hx hb dX6_copyFrom_13 rfl (lv_at hl 0 rfl) ?_
  refine getW C fl_RX6_9 hW 0 rfl rfl dX6_copyFrom_14 ?_
  refine lv_iconst (v := (0 : Int32)) hx hb dX6_copyFrom_17 (by decide) ?_
  refine lv_iconst (v := (5 : Int32)) hx hb dX6_copyFrom_18 (by decide) ?_
  refine copyW C lk_RX6_48 hW hl 8 1 rfl rfl (by decide) (by decide) (Nat.le_of_ble_eq_true rfl) (Nat.le_of_ble_eq_true rfl) dX6_copyFrom_19 (fun H locs hW => ?_)
  have hW : HW G A s (wX6_copyFrom cI cZ a_this a_thick a_hollow a_damp a_fresh a_pulls a_fats a_arg1 a_arg1_thick a_arg1_hollow a_arg1_damp a_arg1_fresh a_arg1_pulls a_arg1_fats v_arg1_there (va_cpy v_arg1_thick v_thick 0 0 5) v_hollow v_damp v_fresh v_pulls v_fats v_arg1_there v_arg1_thick v_arg1_hollow v_arg1_damp v_arg1_fresh v_arg1_pulls v_arg1_fats) H locs := hW
  refine lv_aload_n hx hb dX6_copyFrom_22 rfl (lv_at hl 1 rfl) ?_
  refine getW C fl_RX6_15 hW 7 rfl rfl dX6_copyFrom_23 ?_
  refine lv_iconst (v := (0 : Int32)) hx hb dX6_copyFrom_26 (by decide) ?_
  refine lv_aload_n hx hb dX6_copyFrom_27 rfl (lv_at hl 0 rfl) ?_
  refine getW C fl_RX6_15 hW 0 rfl rfl dX6_copyFrom_28 ?_
  refine lv_iconst (v := (0 : Int32)) hx hb dX6_copyFrom_31 (by decide) ?_
  refine lv_iconst (v := (5 : Int32)) hx hb dX6_copyFrom_32 (by decide) ?_
  refine copyW C lk_RX6_48 hW hl 9 2 rfl rfl (by decide) (by decide) (Nat.le_of_ble_eq_true rfl) (Nat.le_of_ble_eq_true rfl) dX6_copyFrom_33 (fun H locs hW => ?_)
  have hW : HW G A s (wX6_copyFrom cI cZ a_this a_thick a_hollow a_damp a_fresh a_pulls a_fats a_arg1 a_arg1_thick a_arg1_hollow a_arg1_damp a_arg1_fresh a_arg1_pulls a_arg1_fats v_arg1_there (va_cpy v_arg1_thick v_thick 0 0 5) (va_cpy v_arg1_hollow v_hollow 0 0 5) v_damp v_fresh v_pulls v_fats v_arg1_there v_arg1_thick v_arg1_hollow v_arg1_damp v_arg1_fresh v_arg1_pulls v_arg1_fats) H locs := hW
  refine lv_aload_n hx hb dX6_copyFrom_36 rfl (lv_at hl 1 rfl) ?_
  refine getW C fl_RX6_18 hW 7 rfl rfl dX6_copyFrom_37 ?_
  refine lv_iconst (v := (0 : Int32)) hx hb dX6_copyFrom_40 (by decide) ?_
  refine lv_aload_n hx hb dX6_copyFrom_41 rfl (lv_at hl 0 rfl) ?_
  refine getW C fl_RX6_18 hW 0 rfl rfl dX6_copyFrom_42 ?_
  refine lv_iconst (v := (0 : Int32)) hx hb dX6_copyFrom_45 (by decide) ?_
  refine lv_iconst (v := (5 : Int32)) hx hb dX6_copyFrom_46 (by decide) ?_
  refine copyW C lk_RX6_48 hW hl 10 3 rfl rfl (by decide) (by decide) (Nat.le_of_ble_eq_true rfl) (Nat.le_of_ble_eq_true rfl) dX6_copyFrom_47 (fun H locs hW => ?_)
  have hW : HW G A s (wX6_copyFrom cI cZ a_this a_thick a_hollow a_damp a_fresh a_pulls a_fats a_arg1 a_arg1_thick a_arg1_hollow a_arg1_damp a_arg1_fresh a_arg1_pulls a_arg1_fats v_arg1_there (va_cpy v_arg1_thick v_thick 0 0 5) (va_cpy v_arg1_hollow v_hollow 0 0 5) (va_cpy v_arg1_damp v_damp 0 0 5) v_fresh v_pulls v_fats v_arg1_there v_arg1_thick v_arg1_hollow v_arg1_damp v_arg1_fresh v_arg1_pulls v_arg1_fats) H locs := hW
  refine lv_aload_n hx hb dX6_copyFrom_50 rfl (lv_at hl 1 rfl) ?_
  refine getW C fl_RX6_21 hW 7 rfl rfl dX6_copyFrom_51 ?_
  refine lv_iconst (v := (0 : Int32)) hx hb dX6_copyFrom_54 (by decide) ?_
  refine lv_aload_n hx hb dX6_copyFrom_55 rfl (lv_at hl 0 rfl) ?_
  refine getW C fl_RX6_21 hW 0 rfl rfl dX6_copyFrom_56 ?_
  refine lv_iconst (v := (0 : Int32)) hx hb dX6_copyFrom_59 (by decide) ?_
  refine lv_iconst (v := (5 : Int32)) hx hb dX6_copyFrom_60 (by decide) ?_
  refine copyW C lk_RX6_48 hW hl 11 4 rfl rfl (by decide) (by decide) (Nat.le_of_ble_eq_true rfl) (Nat.le_of_ble_eq_true rfl) dX6_copyFrom_61 (fun H locs hW => ?_)
  have hW : HW G A s (wX6_copyFrom cI cZ a_this a_thick a_hollow a_damp a_fresh a_pulls a_fats a_arg1 a_arg1_thick a_arg1_hollow a_arg1_damp a_arg1_fresh a_arg1_pulls a_arg1_fats v_arg1_there (va_cpy v_arg1_thick v_thick 0 0 5) (va_cpy v_arg1_hollow v_hollow 0 0 5) (va_cpy v_arg1_damp v_damp 0 0 5) (va_cpy v_arg1_fresh v_fresh 0 0 5) v_pulls v_fats v_arg1_there v_arg1_thick v_arg1_hollow v_arg1_damp v_arg1_fresh v_arg1_pulls v_arg1_fats) H locs := hW
  refine lv_aload_n hx hb dX6_copyFrom_64 rfl (lv_at hl 1 rfl) ?_
  refine getW C fl_RX6_24 hW 7 rfl rfl dX6_copyFrom_65 ?_
  refine lv_iconst (v := (0 : Int32)) hx hb dX6_copyFrom_68 (by decide) ?_
  refine lv_aload_n hx hb dX6_copyFrom_69 rfl (lv_at hl 0 rfl) ?_
  refine getW C fl_RX6_24 hW 0 rfl rfl dX6_copyFrom_70 ?_
  refine lv_iconst (v := (0 : Int32)) hx hb dX6_copyFrom_73 (by decide) ?_
  refine lv_iconst (v := (5 : Int32)) hx hb dX6_copyFrom_74 (by decide) ?_
  refine copyW C lk_RX6_48 hW hl 12 5 rfl rfl (by decide) (by decide) (Nat.le_of_ble_eq_true rfl) (Nat.le_of_ble_eq_true rfl) dX6_copyFrom_75 (fun H locs hW => ?_)
  have hW : HW G A s (wX6_copyFrom cI cZ a_this a_thick a_hollow a_damp a_fresh a_pulls a_fats a_arg1 a_arg1_thick a_arg1_hollow a_arg1_damp a_arg1_fresh a_arg1_pulls a_arg1_fats v_arg1_there (va_cpy v_arg1_thick v_thick 0 0 5) (va_cpy v_arg1_hollow v_hollow 0 0 5) (va_cpy v_arg1_damp v_damp 0 0 5) (va_cpy v_arg1_fresh v_fresh 0 0 5) (va_cpy v_arg1_pulls v_pulls 0 0 5) v_fats v_arg1_there v_arg1_thick v_arg1_hollow v_arg1_damp v_arg1_fresh v_arg1_pulls v_arg1_fats) H locs := hW
  refine lv_aload_n hx hb dX6_copyFrom_78 rfl (lv_at hl 1 rfl) ?_
  refine getW C fl_RX6_27 hW 7 rfl rfl dX6_copyFrom_79 ?_
  refine lv_iconst (v := (0 : Int32)) hx hb dX6_copyFrom_82 (by decide) ?_
  refine lv_aload_n hx hb dX6_copyFrom_83 rfl (lv_at hl 0 rfl) ?_
  refine getW C fl_RX6_27 hW 0 rfl rfl dX6_copyFrom_84 ?_
  refine lv_iconst (v := (0 : Int32)) hx hb dX6_copyFrom_87 (by decide) ?_
  refine lv_bipush (v := (40 : Int32)) hx hb dX6_copyFrom_88 (by decide) ?_
  refine copyW C lk_RX6_48 hW hl 13 6 rfl rfl (by decide) (by decide) (Nat.le_of_ble_eq_true rfl) (Nat.le_of_ble_eq_true rfl) dX6_copyFrom_90 (fun H locs hW => ?_)
  have hW : HW G A s (wX6_copyFrom cI cZ a_this a_thick a_hollow a_damp a_fresh a_pulls a_fats a_arg1 a_arg1_thick a_arg1_hollow a_arg1_damp a_arg1_fresh a_arg1_pulls a_arg1_fats v_arg1_there (va_cpy v_arg1_thick v_thick 0 0 5) (va_cpy v_arg1_hollow v_hollow 0 0 5) (va_cpy v_arg1_damp v_damp 0 0 5) (va_cpy v_arg1_fresh v_fresh 0 0 5) (va_cpy v_arg1_pulls v_pulls 0 0 5) (va_cpy v_arg1_fats v_fats 0 0 40) v_arg1_there v_arg1_thick v_arg1_hollow v_arg1_damp v_arg1_fresh v_arg1_pulls v_arg1_fats) H locs := hW
  subst h
  exact hQ _ _ _ _ dX6_copyFrom_93 hW
theorem ctX6_copyFrom {l : Launch} {G : va_G} {cI cZ cO : ClassId} (a_this a_thick a_hollow a_damp a_fresh a_pulls a_fats a_arg1 a_arg1_thick a_arg1_hollow a_arg1_damp a_arg1_fresh a_arg1_pulls a_arg1_fats : Nat) (v_there : Int32) (v_thick : Nat → Int32) (v_hollow : Nat → Int32) (v_damp : Nat → Int32) (v_fresh : Nat → Int32) (v_pulls : Nat → Int32) (v_fats : Nat → Int32) (v_arg1_there : Int32) (v_arg1_thick : Nat → Int32) (v_arg1_hollow : Nat → Int32) (v_arg1_damp : Nat → Int32) (v_arg1_fresh : Nat → Int32) (v_arg1_pulls : Nat → Int32) (v_arg1_fats : Nat → Int32) {res : Int32 × (Nat → Int32) × (Nat → Int32) × (Nat → Int32) × (Nat → Int32) × (Nat → Int32) × (Nat → Int32)} (h : fX6_copyFrom v_thick v_hollow v_damp v_fresh v_pulls v_fats v_arg1_there v_arg1_thick v_arg1_hollow v_arg1_damp v_arg1_fresh v_arg1_pulls v_arg1_fats = res) : MV l G cI cZ cO yX6_copyFrom cX6_copyFrom 2 rX6_copyFrom [.ref a_this, .ref a_arg1] (wX6_copyFrom cI cZ a_this a_thick a_hollow a_damp a_fresh a_pulls a_fats a_arg1 a_arg1_thick a_arg1_hollow a_arg1_damp a_arg1_fresh a_arg1_pulls a_arg1_fats v_there v_thick v_hollow v_damp v_fresh v_pulls v_fats v_arg1_there v_arg1_thick v_arg1_hollow v_arg1_damp v_arg1_fresh v_arg1_pulls v_arg1_fats) (wX6_copyFrom cI cZ a_this a_thick a_hollow a_damp a_fresh a_pulls a_fats a_arg1 a_arg1_thick a_arg1_hollow a_arg1_damp a_arg1_fresh a_arg1_pulls a_arg1_fats res.1 res.2.1 res.2.2.1 res.2.2.2.1 res.2.2.2.2.1 res.2.2.2.2.2.1 res.2.2.2.2.2.2 v_arg1_there v_arg1_thick v_arg1_hollow v_arg1_damp v_arg1_fresh v_arg1_pulls v_arg1_fats) := by
  refine MV.of (by decide) (Nat.le_of_ble_eq_true rfl) ?_
  intro p e s m below meth c A Q C hW hQ ls hl
  exact uX6_copyFrom_0 v_there v_thick v_hollow v_damp v_fresh v_pulls v_fats v_arg1_there v_arg1_thick v_arg1_hollow v_arg1_damp v_arg1_fresh v_arg1_pulls v_arg1_fats C hQ h _ _ hW _ hl
abbrev wX5_copyFrom (cI cZ : ClassId) (a_this a_deep a_fine a_pay a_hair a_arg1 a_arg1_deep a_arg1_fine a_arg1_pay a_arg1_hair : Nat) (v_flat : Int32) (v_least : Int32) (v_deep : Nat → Int32) (v_fine : Nat → Int32) (v_pay : Nat → Int32) (v_hair : Nat → Int32) (v_arg1_flat : Int32) (v_arg1_least : Int32) (v_arg1_deep : Nat → Int32) (v_arg1_fine : Nat → Int32) (v_arg1_pay : Nat → Int32) (v_arg1_hair : Nat → Int32) : va_W := [(a_this, .inr (5, [.int v_flat, .int v_least, .ref a_deep, .ref a_fine, .ref a_pay, .ref a_hair])), (a_deep, .inl (cI, 8, .inl v_deep)), (a_fine, .inl (cI, 8, .inl v_fine)), (a_pay, .inl (cI, 8, .inl v_pay)), (a_hair, .inl (cI, 6, .inl v_hair)), (a_arg1, .inr (5, [.int v_arg1_flat, .int v_arg1_least, .ref a_arg1_deep, .ref a_arg1_fine, .ref a_arg1_pay, .ref a_arg1_hair])), (a_arg1_deep, .inl (cI, 8, .inl v_arg1_deep)), (a_arg1_fine, .inl (cI, 8, .inl v_arg1_fine)), (a_arg1_pay, .inl (cI, 8, .inl v_arg1_pay)), (a_arg1_hair, .inl (cI, 6, .inl v_arg1_hair))]
abbrev rX5_copyFrom : Room := { frames := 1, cells := 0, slots := 0, locals := 60 }
set_option maxRecDepth 20000 in
theorem uX5_copyFrom_0 {a_this a_deep a_fine a_pay a_hair a_arg1 a_arg1_deep a_arg1_fine a_arg1_pay a_arg1_hair : Nat} (v_flat : Int32) (v_least : Int32) (v_deep : Nat → Int32) (v_fine : Nat → Int32) (v_pay : Nat → Int32) (v_hair : Nat → Int32) (v_arg1_flat : Int32) (v_arg1_least : Int32) (v_arg1_deep : Nat → Int32) (v_arg1_fine : Nat → Int32) (v_arg1_pay : Nat → Int32) (v_arg1_hair : Nat → Int32) {res : Int32 × Int32 × (Nat → Int32) × (Nat → Int32) × (Nat → Int32) × (Nat → Int32)} (C : Cx p s m av meth c RX5 cX5_copyFrom 2 none G cI cZ cO A) (hQ : RV p l e rX5_copyFrom s m av below meth c G A cX5_copyFrom Q (wX5_copyFrom cI cZ a_this a_deep a_fine a_pay a_hair a_arg1 a_arg1_deep a_arg1_fine a_arg1_pay a_arg1_hair res.1 res.2.1 res.2.2.1 res.2.2.2.1 res.2.2.2.2.1 res.2.2.2.2.2 v_arg1_flat v_arg1_least v_arg1_deep v_arg1_fine v_arg1_pay v_arg1_hair)) (h : fX5_copyFrom v_deep v_fine v_pay v_hair v_arg1_flat v_arg1_least v_arg1_deep v_arg1_fine v_arg1_pay v_arg1_hair = res) (H : Heap) (locs : List Loc) (hW : HW G A s (wX5_copyFrom cI cZ a_this a_deep a_fine a_pay a_hair a_arg1 a_arg1_deep a_arg1_fine a_arg1_pay a_arg1_hair v_flat v_least v_deep v_fine v_pay v_hair v_arg1_flat v_arg1_least v_arg1_deep v_arg1_fine v_arg1_pay v_arg1_hair) H locs) (ls : Array Slot) (hl : lv_has ls 2 [(0, .ref a_this), (1, .ref a_arg1)]) : W p l e rX5_copyFrom s m av below meth c H locs 0 0 Q (F0 m 0 ls []) := by
  have hx := C.1
  have hb := C.2.1
  unfold fX5_copyFrom at h
  refine lv_aload_n hx hb dX5_copyFrom_0 rfl (lv_at hl 0 rfl) ?_
  refine lv_aload_n hx hb dX5_copyFrom_1 rfl (lv_at hl 1 rfl) ?_
  refine getW C fl_RX5_9 hW 5 rfl rfl dX5_copyFrom_2 ?_
  refine putW C fp_RX5_9 hW 0 rfl rfl rfl (Nat.le_of_ble_eq_true rfl) dX5_copyFrom_5 (fun H locs hW => ?_)
  have hW : HW G A s (wX5_copyFrom cI cZ a_this a_deep a_fine a_pay a_hair a_arg1 a_arg1_deep a_arg1_fine a_arg1_pay a_arg1_hair v_arg1_flat v_least v_deep v_fine v_pay v_hair v_arg1_flat v_arg1_least v_arg1_deep v_arg1_fine v_arg1_pay v_arg1_hair) H locs := hW
  refine lv_aload_n hx hb dX5_copyFrom_8 rfl (lv_at hl 0 rfl) ?_
  refine lv_aload_n hx hb dX5_copyFrom_9 rfl (lv_at hl 1 rfl) ?_
  refine getW C fl_RX5_15 hW 5 rfl rfl dX5_copyFrom_10 ?_
  refine putW C fp_RX5_15 hW 0 rfl rfl rfl (Nat.le_of_ble_eq_true rfl) dX5_copyFrom_13 (fun H locs hW => ?_)
  have hW : HW G A s (wX5_copyFrom cI cZ a_this a_deep a_fine a_pay a_hair a_arg1 a_arg1_deep a_arg1_fine a_arg1_pay a_arg1_hair v_arg1_flat v_arg1_least v_deep v_fine v_pay v_hair v_arg1_flat v_arg1_least v_arg1_deep v_arg1_fine v_arg1_pay v_arg1_hair) H locs := hW
  refine lv_aload_n hx hb dX5_copyFrom_16 rfl (lv_at hl 1 rfl) ?_
  refine getW C fl_RX5_18 hW 5 rfl rfl dX5_copyFrom_17 ?_
  refine lv_iconst (v := (0 : Int32)) hx hb dX5_copyFrom_20 (by decide) ?_
  refine lv_aload_n hx hb dX5_copyFrom_21 rfl (lv_at hl 0 rfl) ?_
  refine getW C fl_RX5_18 hW 0 rfl rfl dX5_copyFrom_22 ?_
  refine lv_iconst (v := (0 : Int32)) hx hb dX5_copyFrom_25 (by decide) ?_
  refine lv_bipush (v := (8 : Int32)) hx hb dX5_copyFrom_26 (by decide) ?_
  refine copyW C lk_RX5_31 hW hl 6 1 rfl rfl (by decide) (by decide) (Nat.le_of_ble_eq_true rfl) (Nat.le_of_ble_eq_true rfl) dX5_copyFrom_28 (fun H locs hW => ?_)
  have hW : HW G A s (wX5_copyFrom cI cZ a_this a_deep a_fine a_pay a_hair a_arg1 a_arg1_deep a_arg1_fine a_arg1_pay a_arg1_hair v_arg1_flat v_arg1_least (va_cpy v_arg1_deep v_deep 0 0 8) v_fine v_pay v_hair v_arg1_flat v_arg1_least v_arg1_deep v_arg1_fine v_arg1_pay v_arg1_hair) H locs := hW
  refine lv_aload_n hx hb dX5_copyFrom_31 rfl (lv_at hl 1 rfl) ?_
  refine getW C fl_RX5_22 hW 5 rfl rfl dX5_copyFrom_32 ?_
  refine lv_iconst (v := (0 : Int32)) hx hb dX5_copyFrom_35 (by decide) ?_
  refine lv_aload_n hx hb dX5_copyFrom_36 rfl (lv_at hl 0 rfl) ?_
  refine getW C fl_RX5_22 hW 0 rfl rfl dX5_copyFrom_37 ?_
  refine lv_iconst (v := (0 : Int32)) hx hb dX5_copyFrom_40 (by decide) ?_
  refine lv_bipush (v := (8 : Int32)) hx hb dX5_copyFrom_41 (by decide) ?_
  refine copyW C lk_RX5_31 hW hl 7 2 rfl rfl (by decide) (by decide) (Nat.le_of_ble_eq_true rfl) (Nat.le_of_ble_eq_true rfl) dX5_copyFrom_43 (fun H locs hW => ?_)
  have hW : HW G A s (wX5_copyFrom cI cZ a_this a_deep a_fine a_pay a_hair a_arg1 a_arg1_deep a_arg1_fine a_arg1_pay a_arg1_hair v_arg1_flat v_arg1_least (va_cpy v_arg1_deep v_deep 0 0 8) (va_cpy v_arg1_fine v_fine 0 0 8) v_pay v_hair v_arg1_flat v_arg1_least v_arg1_deep v_arg1_fine v_arg1_pay v_arg1_hair) H locs := hW
  refine lv_aload_n hx hb dX5_copyFrom_46 rfl (lv_at hl 1 rfl) ?_
  refine getW C fl_RX5_25 hW 5 rfl rfl dX5_copyFrom_47 ?_
  refine lv_iconst (v := (0 : Int32)) hx hb dX5_copyFrom_50 (by decide) ?_
  refine lv_aload_n hx hb dX5_copyFrom_51 rfl (lv_at hl 0 rfl) ?_
  refine getW C fl_RX5_25 hW 0 rfl rfl dX5_copyFrom_52 ?_
  refine lv_iconst (v := (0 : Int32)) hx hb dX5_copyFrom_55 (by decide) ?_
  refine lv_bipush (v := (8 : Int32)) hx hb dX5_copyFrom_56 (by decide) ?_
  refine copyW C lk_RX5_31 hW hl 8 3 rfl rfl (by decide) (by decide) (Nat.le_of_ble_eq_true rfl) (Nat.le_of_ble_eq_true rfl) dX5_copyFrom_58 (fun H locs hW => ?_)
  have hW : HW G A s (wX5_copyFrom cI cZ a_this a_deep a_fine a_pay a_hair a_arg1 a_arg1_deep a_arg1_fine a_arg1_pay a_arg1_hair v_arg1_flat v_arg1_least (va_cpy v_arg1_deep v_deep 0 0 8) (va_cpy v_arg1_fine v_fine 0 0 8) (va_cpy v_arg1_pay v_pay 0 0 8) v_hair v_arg1_flat v_arg1_least v_arg1_deep v_arg1_fine v_arg1_pay v_arg1_hair) H locs := hW
  refine lv_aload_n hx hb dX5_copyFrom_61 rfl (lv_at hl 1 rfl) ?_
  refine getW C fl_RX5_28 hW 5 rfl rfl dX5_copyFrom_62 ?_
  refine lv_iconst (v := (0 : Int32)) hx hb dX5_copyFrom_65 (by decide) ?_
  refine lv_aload_n hx hb dX5_copyFrom_66 rfl (lv_at hl 0 rfl) ?_
  refine getW C fl_RX5_28 hW 0 rfl rfl dX5_copyFrom_67 ?_
  refine lv_iconst (v := (0 : Int32)) hx hb dX5_copyFrom_70 (by decide) ?_
  refine lv_bipush (v := (6 : Int32)) hx hb dX5_copyFrom_71 (by decide) ?_
  refine copyW C lk_RX5_31 hW hl 9 4 rfl rfl (by decide) (by decide) (Nat.le_of_ble_eq_true rfl) (Nat.le_of_ble_eq_true rfl) dX5_copyFrom_73 (fun H locs hW => ?_)
  have hW : HW G A s (wX5_copyFrom cI cZ a_this a_deep a_fine a_pay a_hair a_arg1 a_arg1_deep a_arg1_fine a_arg1_pay a_arg1_hair v_arg1_flat v_arg1_least (va_cpy v_arg1_deep v_deep 0 0 8) (va_cpy v_arg1_fine v_fine 0 0 8) (va_cpy v_arg1_pay v_pay 0 0 8) (va_cpy v_arg1_hair v_hair 0 0 6) v_arg1_flat v_arg1_least v_arg1_deep v_arg1_fine v_arg1_pay v_arg1_hair) H locs := hW
  subst h
  exact hQ _ _ _ _ dX5_copyFrom_76 hW
theorem ctX5_copyFrom {l : Launch} {G : va_G} {cI cZ cO : ClassId} (a_this a_deep a_fine a_pay a_hair a_arg1 a_arg1_deep a_arg1_fine a_arg1_pay a_arg1_hair : Nat) (v_flat : Int32) (v_least : Int32) (v_deep : Nat → Int32) (v_fine : Nat → Int32) (v_pay : Nat → Int32) (v_hair : Nat → Int32) (v_arg1_flat : Int32) (v_arg1_least : Int32) (v_arg1_deep : Nat → Int32) (v_arg1_fine : Nat → Int32) (v_arg1_pay : Nat → Int32) (v_arg1_hair : Nat → Int32) {res : Int32 × Int32 × (Nat → Int32) × (Nat → Int32) × (Nat → Int32) × (Nat → Int32)} (h : fX5_copyFrom v_deep v_fine v_pay v_hair v_arg1_flat v_arg1_least v_arg1_deep v_arg1_fine v_arg1_pay v_arg1_hair = res) : MV l G cI cZ cO yX5_copyFrom cX5_copyFrom 2 rX5_copyFrom [.ref a_this, .ref a_arg1] (wX5_copyFrom cI cZ a_this a_deep a_fine a_pay a_hair a_arg1 a_arg1_deep a_arg1_fine a_arg1_pay a_arg1_hair v_flat v_least v_deep v_fine v_pay v_hair v_arg1_flat v_arg1_least v_arg1_deep v_arg1_fine v_arg1_pay v_arg1_hair) (wX5_copyFrom cI cZ a_this a_deep a_fine a_pay a_hair a_arg1 a_arg1_deep a_arg1_fine a_arg1_pay a_arg1_hair res.1 res.2.1 res.2.2.1 res.2.2.2.1 res.2.2.2.2.1 res.2.2.2.2.2 v_arg1_flat v_arg1_least v_arg1_deep v_arg1_fine v_arg1_pay v_arg1_hair) := by
  refine MV.of (by decide) (Nat.le_of_ble_eq_true rfl) ?_
  intro p e s m below meth c A Q C hW hQ ls hl
  exact uX5_copyFrom_0 v_flat v_least v_deep v_fine v_pay v_hair v_arg1_flat v_arg1_least v_arg1_deep v_arg1_fine v_arg1_pay v_arg1_hair C hQ h _ _ hW _ hl
abbrev wX7_copyFrom (cI cZ : ClassId) (a_this a_drawn a_pull a_arg1 a_arg1_drawn a_arg1_pull : Nat) (v_size : Int32) (v_shown : Int32) (v_drawn : Nat → Int32) (v_pull : Nat → Int32) (v_arg1_size : Int32) (v_arg1_shown : Int32) (v_arg1_drawn : Nat → Int32) (v_arg1_pull : Nat → Int32) : va_W := [(a_this, .inr (7, [.int v_size, .int v_shown, .ref a_drawn, .ref a_pull])), (a_drawn, .inl (cI, 8, .inl v_drawn)), (a_pull, .inl (cI, 8, .inl v_pull)), (a_arg1, .inr (7, [.int v_arg1_size, .int v_arg1_shown, .ref a_arg1_drawn, .ref a_arg1_pull])), (a_arg1_drawn, .inl (cI, 8, .inl v_arg1_drawn)), (a_arg1_pull, .inl (cI, 8, .inl v_arg1_pull))]
abbrev rX7_copyFrom : Room := { frames := 1, cells := 0, slots := 0, locals := 60 }
set_option maxRecDepth 20000 in
theorem uX7_copyFrom_0 {a_this a_drawn a_pull a_arg1 a_arg1_drawn a_arg1_pull : Nat} (v_size : Int32) (v_shown : Int32) (v_drawn : Nat → Int32) (v_pull : Nat → Int32) (v_arg1_size : Int32) (v_arg1_shown : Int32) (v_arg1_drawn : Nat → Int32) (v_arg1_pull : Nat → Int32) {res : Int32 × Int32 × (Nat → Int32) × (Nat → Int32)} (C : Cx p s m av meth c RX7 cX7_copyFrom 2 none G cI cZ cO A) (hQ : RV p l e rX7_copyFrom s m av below meth c G A cX7_copyFrom Q (wX7_copyFrom cI cZ a_this a_drawn a_pull a_arg1 a_arg1_drawn a_arg1_pull res.2.1 res.1 res.2.2.1 res.2.2.2 v_arg1_size v_arg1_shown v_arg1_drawn v_arg1_pull)) (h : fX7_copyFrom v_drawn v_pull v_arg1_size v_arg1_shown v_arg1_drawn v_arg1_pull = res) (H : Heap) (locs : List Loc) (hW : HW G A s (wX7_copyFrom cI cZ a_this a_drawn a_pull a_arg1 a_arg1_drawn a_arg1_pull v_size v_shown v_drawn v_pull v_arg1_size v_arg1_shown v_arg1_drawn v_arg1_pull) H locs) (ls : Array Slot) (hl : lv_has ls 2 [(0, .ref a_this), (1, .ref a_arg1)]) : W p l e rX7_copyFrom s m av below meth c H locs 0 0 Q (F0 m 0 ls []) := by
  have hx := C.1
  have hb := C.2.1
  unfold fX7_copyFrom at h
  refine lv_aload_n hx hb dX7_copyFrom_0 rfl (lv_at hl 0 rfl) ?_
  refine lv_aload_n hx hb dX7_copyFrom_1 rfl (lv_at hl 1 rfl) ?_
  refine getW C fl_RX7_18 hW 3 rfl rfl dX7_copyFrom_2 ?_
  refine putW C fp_RX7_18 hW 0 rfl rfl rfl (Nat.le_of_ble_eq_true rfl) dX7_copyFrom_5 (fun H locs hW => ?_)
  have hW : HW G A s (wX7_copyFrom cI cZ a_this a_drawn a_pull a_arg1 a_arg1_drawn a_arg1_pull v_arg1_size v_shown v_drawn v_pull v_arg1_size v_arg1_shown v_arg1_drawn v_arg1_pull) H locs := hW
  refine lv_aload_n hx hb dX7_copyFrom_8 rfl (lv_at hl 0 rfl) ?_
  refine lv_aload_n hx hb dX7_copyFrom_9 rfl (lv_at hl 1 rfl) ?_
  refine getW C fl_RX7_26 hW 3 rfl rfl dX7_copyFrom_10 ?_
  refine putW C fp_RX7_26 hW 0 rfl rfl rfl (Nat.le_of_ble_eq_true rfl) dX7_copyFrom_13 (fun H locs hW => ?_)
  have hW : HW G A s (wX7_copyFrom cI cZ a_this a_drawn a_pull a_arg1 a_arg1_drawn a_arg1_pull v_arg1_size v_arg1_shown v_drawn v_pull v_arg1_size v_arg1_shown v_arg1_drawn v_arg1_pull) H locs := hW
  refine lv_aload_n hx hb dX7_copyFrom_16 rfl (lv_at hl 1 rfl) ?_
  refine getW C fl_RX7_9 hW 3 rfl rfl dX7_copyFrom_17 ?_
  refine lv_iconst (v := (0 : Int32)) hx hb dX7_copyFrom_20 (by decide) ?_
  refine lv_aload_n hx hb dX7_copyFrom_21 rfl (lv_at hl 0 rfl) ?_
  refine getW C fl_RX7_9 hW 0 rfl rfl dX7_copyFrom_22 ?_
  refine lv_iconst (v := (0 : Int32)) hx hb dX7_copyFrom_25 (by decide) ?_
  refine lv_bipush (v := (8 : Int32)) hx hb dX7_copyFrom_26 (by decide) ?_
  refine copyW C lk_RX7_29 hW hl 4 1 rfl rfl (by decide) (by decide) (Nat.le_of_ble_eq_true rfl) (Nat.le_of_ble_eq_true rfl) dX7_copyFrom_28 (fun H locs hW => ?_)
  have hW : HW G A s (wX7_copyFrom cI cZ a_this a_drawn a_pull a_arg1 a_arg1_drawn a_arg1_pull v_arg1_size v_arg1_shown (va_cpy v_arg1_drawn v_drawn 0 0 8) v_pull v_arg1_size v_arg1_shown v_arg1_drawn v_arg1_pull) H locs := hW
  refine lv_aload_n hx hb dX7_copyFrom_31 rfl (lv_at hl 1 rfl) ?_
  refine getW C fl_RX7_15 hW 3 rfl rfl dX7_copyFrom_32 ?_
  refine lv_iconst (v := (0 : Int32)) hx hb dX7_copyFrom_35 (by decide) ?_
  refine lv_aload_n hx hb dX7_copyFrom_36 rfl (lv_at hl 0 rfl) ?_
  refine getW C fl_RX7_15 hW 0 rfl rfl dX7_copyFrom_37 ?_
  refine lv_iconst (v := (0 : Int32)) hx hb dX7_copyFrom_40 (by decide) ?_
  refine lv_bipush (v := (8 : Int32)) hx hb dX7_copyFrom_41 (by decide) ?_
  refine copyW C lk_RX7_29 hW hl 5 2 rfl rfl (by decide) (by decide) (Nat.le_of_ble_eq_true rfl) (Nat.le_of_ble_eq_true rfl) dX7_copyFrom_43 (fun H locs hW => ?_)
  have hW : HW G A s (wX7_copyFrom cI cZ a_this a_drawn a_pull a_arg1 a_arg1_drawn a_arg1_pull v_arg1_size v_arg1_shown (va_cpy v_arg1_drawn v_drawn 0 0 8) (va_cpy v_arg1_pull v_pull 0 0 8) v_arg1_size v_arg1_shown v_arg1_drawn v_arg1_pull) H locs := hW
  subst h
  exact hQ _ _ _ _ dX7_copyFrom_46 hW
theorem ctX7_copyFrom {l : Launch} {G : va_G} {cI cZ cO : ClassId} (a_this a_drawn a_pull a_arg1 a_arg1_drawn a_arg1_pull : Nat) (v_size : Int32) (v_shown : Int32) (v_drawn : Nat → Int32) (v_pull : Nat → Int32) (v_arg1_size : Int32) (v_arg1_shown : Int32) (v_arg1_drawn : Nat → Int32) (v_arg1_pull : Nat → Int32) {res : Int32 × Int32 × (Nat → Int32) × (Nat → Int32)} (h : fX7_copyFrom v_drawn v_pull v_arg1_size v_arg1_shown v_arg1_drawn v_arg1_pull = res) : MV l G cI cZ cO yX7_copyFrom cX7_copyFrom 2 rX7_copyFrom [.ref a_this, .ref a_arg1] (wX7_copyFrom cI cZ a_this a_drawn a_pull a_arg1 a_arg1_drawn a_arg1_pull v_size v_shown v_drawn v_pull v_arg1_size v_arg1_shown v_arg1_drawn v_arg1_pull) (wX7_copyFrom cI cZ a_this a_drawn a_pull a_arg1 a_arg1_drawn a_arg1_pull res.2.1 res.1 res.2.2.1 res.2.2.2 v_arg1_size v_arg1_shown v_arg1_drawn v_arg1_pull) := by
  refine MV.of (by decide) (Nat.le_of_ble_eq_true rfl) ?_
  intro p e s m below meth c A Q C hW hQ ls hl
  exact uX7_copyFrom_0 v_size v_shown v_drawn v_pull v_arg1_size v_arg1_shown v_arg1_drawn v_arg1_pull C hQ h _ _ hW _ hl
abbrev wX4_copyFrom (cI cZ : ClassId) (a_this a_shelf a_rules a_sights a_shelf_thick a_shelf_hollow a_shelf_damp a_shelf_fresh a_shelf_pulls a_shelf_fats a_rules_deep a_rules_fine a_rules_pay a_rules_hair a_sights_drawn a_sights_pull a_arg1 a_arg1_shelf a_arg1_rules a_arg1_sights a_arg1_shelf_thick a_arg1_shelf_hollow a_arg1_shelf_damp a_arg1_shelf_fresh a_arg1_shelf_pulls a_arg1_shelf_fats a_arg1_rules_deep a_arg1_rules_fine a_arg1_rules_pay a_arg1_rules_hair a_arg1_sights_drawn a_arg1_sights_pull : Nat) (v_shelf_there : Int32) (v_rules_flat : Int32) (v_rules_least : Int32) (v_sights_size : Int32) (v_sights_shown : Int32) (v_shelf_thick : Nat → Int32) (v_shelf_hollow : Nat → Int32) (v_shelf_damp : Nat → Int32) (v_shelf_fresh : Nat → Int32) (v_shelf_pulls : Nat → Int32) (v_shelf_fats : Nat → Int32) (v_rules_deep : Nat → Int32) (v_rules_fine : Nat → Int32) (v_rules_pay : Nat → Int32) (v_rules_hair : Nat → Int32) (v_sights_drawn : Nat → Int32) (v_sights_pull : Nat → Int32) (v_arg1_shelf_there : Int32) (v_arg1_rules_flat : Int32) (v_arg1_rules_least : Int32) (v_arg1_sights_size : Int32) (v_arg1_sights_shown : Int32) (v_arg1_shelf_thick : Nat → Int32) (v_arg1_shelf_hollow : Nat → Int32) (v_arg1_shelf_damp : Nat → Int32) (v_arg1_shelf_fresh : Nat → Int32) (v_arg1_shelf_pulls : Nat → Int32) (v_arg1_shelf_fats : Nat → Int32) (v_arg1_rules_deep : Nat → Int32) (v_arg1_rules_fine : Nat → Int32) (v_arg1_rules_pay : Nat → Int32) (v_arg1_rules_hair : Nat → Int32) (v_arg1_sights_drawn : Nat → Int32) (v_arg1_sights_pull : Nat → Int32) : va_W := [(a_this, .inr (4, [.ref a_shelf, .ref a_rules, .ref a_sights])), (a_shelf, .inr (6, [.int v_shelf_there, .ref a_shelf_thick, .ref a_shelf_hollow, .ref a_shelf_damp, .ref a_shelf_fresh, .ref a_shelf_pulls, .ref a_shelf_fats])), (a_rules, .inr (5, [.int v_rules_flat, .int v_rules_least, .ref a_rules_deep, .ref a_rules_fine, .ref a_rules_pay, .ref a_rules_hair])), (a_sights, .inr (7, [.int v_sights_size, .int v_sights_shown, .ref a_sights_drawn, .ref a_sights_pull])), (a_shelf_thick, .inl (cI, 5, .inl v_shelf_thick)), (a_shelf_hollow, .inl (cI, 5, .inl v_shelf_hollow)), (a_shelf_damp, .inl (cI, 5, .inl v_shelf_damp)), (a_shelf_fresh, .inl (cI, 5, .inl v_shelf_fresh)), (a_shelf_pulls, .inl (cI, 5, .inl v_shelf_pulls)), (a_shelf_fats, .inl (cI, 40, .inl v_shelf_fats)), (a_rules_deep, .inl (cI, 8, .inl v_rules_deep)), (a_rules_fine, .inl (cI, 8, .inl v_rules_fine)), (a_rules_pay, .inl (cI, 8, .inl v_rules_pay)), (a_rules_hair, .inl (cI, 6, .inl v_rules_hair)), (a_sights_drawn, .inl (cI, 8, .inl v_sights_drawn)), (a_sights_pull, .inl (cI, 8, .inl v_sights_pull)), (a_arg1, .inr (4, [.ref a_arg1_shelf, .ref a_arg1_rules, .ref a_arg1_sights])), (a_arg1_shelf, .inr (6, [.int v_arg1_shelf_there, .ref a_arg1_shelf_thick, .ref a_arg1_shelf_hollow, .ref a_arg1_shelf_damp, .ref a_arg1_shelf_fresh, .ref a_arg1_shelf_pulls, .ref a_arg1_shelf_fats])), (a_arg1_rules, .inr (5, [.int v_arg1_rules_flat, .int v_arg1_rules_least, .ref a_arg1_rules_deep, .ref a_arg1_rules_fine, .ref a_arg1_rules_pay, .ref a_arg1_rules_hair])), (a_arg1_sights, .inr (7, [.int v_arg1_sights_size, .int v_arg1_sights_shown, .ref a_arg1_sights_drawn, .ref a_arg1_sights_pull])), (a_arg1_shelf_thick, .inl (cI, 5, .inl v_arg1_shelf_thick)), (a_arg1_shelf_hollow, .inl (cI, 5, .inl v_arg1_shelf_hollow)), (a_arg1_shelf_damp, .inl (cI, 5, .inl v_arg1_shelf_damp)), (a_arg1_shelf_fresh, .inl (cI, 5, .inl v_arg1_shelf_fresh)), (a_arg1_shelf_pulls, .inl (cI, 5, .inl v_arg1_shelf_pulls)), (a_arg1_shelf_fats, .inl (cI, 40, .inl v_arg1_shelf_fats)), (a_arg1_rules_deep, .inl (cI, 8, .inl v_arg1_rules_deep)), (a_arg1_rules_fine, .inl (cI, 8, .inl v_arg1_rules_fine)), (a_arg1_rules_pay, .inl (cI, 8, .inl v_arg1_rules_pay)), (a_arg1_rules_hair, .inl (cI, 6, .inl v_arg1_rules_hair)), (a_arg1_sights_drawn, .inl (cI, 8, .inl v_arg1_sights_drawn)), (a_arg1_sights_pull, .inl (cI, 8, .inl v_arg1_sights_pull))]
abbrev rX4_copyFrom : Room := { frames := 2, cells := 0, slots := 0, locals := 81 }
set_option maxRecDepth 20000 in
theorem uX4_copyFrom_0 {a_this a_shelf a_rules a_sights a_shelf_thick a_shelf_hollow a_shelf_damp a_shelf_fresh a_shelf_pulls a_shelf_fats a_rules_deep a_rules_fine a_rules_pay a_rules_hair a_sights_drawn a_sights_pull a_arg1 a_arg1_shelf a_arg1_rules a_arg1_sights a_arg1_shelf_thick a_arg1_shelf_hollow a_arg1_shelf_damp a_arg1_shelf_fresh a_arg1_shelf_pulls a_arg1_shelf_fats a_arg1_rules_deep a_arg1_rules_fine a_arg1_rules_pay a_arg1_rules_hair a_arg1_sights_drawn a_arg1_sights_pull : Nat} (v_shelf_there : Int32) (v_rules_flat : Int32) (v_rules_least : Int32) (v_sights_size : Int32) (v_sights_shown : Int32) (v_shelf_thick : Nat → Int32) (v_shelf_hollow : Nat → Int32) (v_shelf_damp : Nat → Int32) (v_shelf_fresh : Nat → Int32) (v_shelf_pulls : Nat → Int32) (v_shelf_fats : Nat → Int32) (v_rules_deep : Nat → Int32) (v_rules_fine : Nat → Int32) (v_rules_pay : Nat → Int32) (v_rules_hair : Nat → Int32) (v_sights_drawn : Nat → Int32) (v_sights_pull : Nat → Int32) (v_arg1_shelf_there : Int32) (v_arg1_rules_flat : Int32) (v_arg1_rules_least : Int32) (v_arg1_sights_size : Int32) (v_arg1_sights_shown : Int32) (v_arg1_shelf_thick : Nat → Int32) (v_arg1_shelf_hollow : Nat → Int32) (v_arg1_shelf_damp : Nat → Int32) (v_arg1_shelf_fresh : Nat → Int32) (v_arg1_shelf_pulls : Nat → Int32) (v_arg1_shelf_fats : Nat → Int32) (v_arg1_rules_deep : Nat → Int32) (v_arg1_rules_fine : Nat → Int32) (v_arg1_rules_pay : Nat → Int32) (v_arg1_rules_hair : Nat → Int32) (v_arg1_sights_drawn : Nat → Int32) (v_arg1_sights_pull : Nat → Int32) {res : Int32 × Int32 × Int32 × Int32 × Int32 × (Nat → Int32) × (Nat → Int32) × (Nat → Int32) × (Nat → Int32) × (Nat → Int32) × (Nat → Int32) × (Nat → Int32) × (Nat → Int32) × (Nat → Int32) × (Nat → Int32) × (Nat → Int32) × (Nat → Int32)} (C : Cx p s m av meth c RX4 cX4_copyFrom 2 none G cI cZ cO A) (hQ : RV p l e rX4_copyFrom s m av below meth c G A cX4_copyFrom Q (wX4_copyFrom cI cZ a_this a_shelf a_rules a_sights a_shelf_thick a_shelf_hollow a_shelf_damp a_shelf_fresh a_shelf_pulls a_shelf_fats a_rules_deep a_rules_fine a_rules_pay a_rules_hair a_sights_drawn a_sights_pull a_arg1 a_arg1_shelf a_arg1_rules a_arg1_sights a_arg1_shelf_thick a_arg1_shelf_hollow a_arg1_shelf_damp a_arg1_shelf_fresh a_arg1_shelf_pulls a_arg1_shelf_fats a_arg1_rules_deep a_arg1_rules_fine a_arg1_rules_pay a_arg1_rules_hair a_arg1_sights_drawn a_arg1_sights_pull res.1 res.2.1 res.2.2.1 res.2.2.2.2.1 res.2.2.2.1 res.2.2.2.2.2.1 res.2.2.2.2.2.2.1 res.2.2.2.2.2.2.2.1 res.2.2.2.2.2.2.2.2.1 res.2.2.2.2.2.2.2.2.2.1 res.2.2.2.2.2.2.2.2.2.2.1 res.2.2.2.2.2.2.2.2.2.2.2.1 res.2.2.2.2.2.2.2.2.2.2.2.2.1 res.2.2.2.2.2.2.2.2.2.2.2.2.2.1 res.2.2.2.2.2.2.2.2.2.2.2.2.2.2.1 res.2.2.2.2.2.2.2.2.2.2.2.2.2.2.2.1 res.2.2.2.2.2.2.2.2.2.2.2.2.2.2.2.2 v_arg1_shelf_there v_arg1_rules_flat v_arg1_rules_least v_arg1_sights_size v_arg1_sights_shown v_arg1_shelf_thick v_arg1_shelf_hollow v_arg1_shelf_damp v_arg1_shelf_fresh v_arg1_shelf_pulls v_arg1_shelf_fats v_arg1_rules_deep v_arg1_rules_fine v_arg1_rules_pay v_arg1_rules_hair v_arg1_sights_drawn v_arg1_sights_pull)) (h : fX4_copyFrom v_shelf_thick v_shelf_hollow v_shelf_damp v_shelf_fresh v_shelf_pulls v_shelf_fats v_rules_deep v_rules_fine v_rules_pay v_rules_hair v_sights_drawn v_sights_pull v_arg1_shelf_there v_arg1_rules_flat v_arg1_rules_least v_arg1_sights_size v_arg1_sights_shown v_arg1_shelf_thick v_arg1_shelf_hollow v_arg1_shelf_damp v_arg1_shelf_fresh v_arg1_shelf_pulls v_arg1_shelf_fats v_arg1_rules_deep v_arg1_rules_fine v_arg1_rules_pay v_arg1_rules_hair v_arg1_sights_drawn v_arg1_sights_pull = res) (H : Heap) (locs : List Loc) (hW : HW G A s (wX4_copyFrom cI cZ a_this a_shelf a_rules a_sights a_shelf_thick a_shelf_hollow a_shelf_damp a_shelf_fresh a_shelf_pulls a_shelf_fats a_rules_deep a_rules_fine a_rules_pay a_rules_hair a_sights_drawn a_sights_pull a_arg1 a_arg1_shelf a_arg1_rules a_arg1_sights a_arg1_shelf_thick a_arg1_shelf_hollow a_arg1_shelf_damp a_arg1_shelf_fresh a_arg1_shelf_pulls a_arg1_shelf_fats a_arg1_rules_deep a_arg1_rules_fine a_arg1_rules_pay a_arg1_rules_hair a_arg1_sights_drawn a_arg1_sights_pull v_shelf_there v_rules_flat v_rules_least v_sights_size v_sights_shown v_shelf_thick v_shelf_hollow v_shelf_damp v_shelf_fresh v_shelf_pulls v_shelf_fats v_rules_deep v_rules_fine v_rules_pay v_rules_hair v_sights_drawn v_sights_pull v_arg1_shelf_there v_arg1_rules_flat v_arg1_rules_least v_arg1_sights_size v_arg1_sights_shown v_arg1_shelf_thick v_arg1_shelf_hollow v_arg1_shelf_damp v_arg1_shelf_fresh v_arg1_shelf_pulls v_arg1_shelf_fats v_arg1_rules_deep v_arg1_rules_fine v_arg1_rules_pay v_arg1_rules_hair v_arg1_sights_drawn v_arg1_sights_pull) H locs) (ls : Array Slot) (hl : lv_has ls 2 [(0, .ref a_this), (1, .ref a_arg1)]) : W p l e rX4_copyFrom s m av below meth c H locs 0 0 Q (F0 m 0 ls []) := by
  have hx := C.1
  have hb := C.2.1
  unfold fX4_copyFrom at h
  refine lv_aload_n hx hb dX4_copyFrom_0 rfl (lv_at hl 0 rfl) ?_
  refine getW C fl_RX4_12 hW 0 rfl rfl dX4_copyFrom_1 ?_
  refine lv_aload_n hx hb dX4_copyFrom_4 rfl (lv_at hl 1 rfl) ?_
  refine getW C fl_RX4_12 hW 16 rfl rfl dX4_copyFrom_5 ?_
  obtain ⟨v_1, ev_1⟩ : ∃ z, z = (fX6_copyFrom v_shelf_thick v_shelf_hollow v_shelf_damp v_shelf_fresh v_shelf_pulls v_shelf_fats v_arg1_shelf_there v_arg1_shelf_thick v_arg1_shelf_hollow v_arg1_shelf_damp v_arg1_shelf_fresh v_arg1_shelf_pulls v_arg1_shelf_fats) := ⟨_, rfl⟩
  have h := lt_h ev_1 h
  refine callVVm [1, 4, 5, 6, 7, 8, 9, 17, 20, 21, 22, 23, 24, 25] [0, 2, 3, 10, 11, 12, 13, 14, 15, 16, 18, 19, 26, 27, 28, 29, 30, 31] [(a_this, .inr (4, [.ref a_shelf, .ref a_rules, .ref a_sights])), (a_rules, .inr (5, [.int v_rules_flat, .int v_rules_least, .ref a_rules_deep, .ref a_rules_fine, .ref a_rules_pay, .ref a_rules_hair])), (a_sights, .inr (7, [.int v_sights_size, .int v_sights_shown, .ref a_sights_drawn, .ref a_sights_pull])), (a_rules_deep, .inl (cI, 8, .inl v_rules_deep)), (a_rules_fine, .inl (cI, 8, .inl v_rules_fine)), (a_rules_pay, .inl (cI, 8, .inl v_rules_pay)), (a_rules_hair, .inl (cI, 6, .inl v_rules_hair)), (a_sights_drawn, .inl (cI, 8, .inl v_sights_drawn)), (a_sights_pull, .inl (cI, 8, .inl v_sights_pull)), (a_arg1, .inr (4, [.ref a_arg1_shelf, .ref a_arg1_rules, .ref a_arg1_sights])), (a_arg1_rules, .inr (5, [.int v_arg1_rules_flat, .int v_arg1_rules_least, .ref a_arg1_rules_deep, .ref a_arg1_rules_fine, .ref a_arg1_rules_pay, .ref a_arg1_rules_hair])), (a_arg1_sights, .inr (7, [.int v_arg1_sights_size, .int v_arg1_sights_shown, .ref a_arg1_sights_drawn, .ref a_arg1_sights_pull])), (a_arg1_rules_deep, .inl (cI, 8, .inl v_arg1_rules_deep)), (a_arg1_rules_fine, .inl (cI, 8, .inl v_arg1_rules_fine)), (a_arg1_rules_pay, .inl (cI, 8, .inl v_arg1_rules_pay)), (a_arg1_rules_hair, .inl (cI, 6, .inl v_arg1_rules_hair)), (a_arg1_sights_drawn, .inl (cI, 8, .inl v_arg1_sights_drawn)), (a_arg1_sights_pull, .inl (cI, 8, .inl v_arg1_sights_pull))] (wX4_copyFrom cI cZ a_this a_shelf a_rules a_sights a_shelf_thick a_shelf_hollow a_shelf_damp a_shelf_fresh a_shelf_pulls a_shelf_fats a_rules_deep a_rules_fine a_rules_pay a_rules_hair a_sights_drawn a_sights_pull a_arg1 a_arg1_shelf a_arg1_rules a_arg1_sights a_arg1_shelf_thick a_arg1_shelf_hollow a_arg1_shelf_damp a_arg1_shelf_fresh a_arg1_shelf_pulls a_arg1_shelf_fats a_arg1_rules_deep a_arg1_rules_fine a_arg1_rules_pay a_arg1_rules_hair a_arg1_sights_drawn a_arg1_sights_pull v_1.1 v_rules_flat v_rules_least v_sights_size v_sights_shown v_1.2.1 v_1.2.2.1 v_1.2.2.2.1 v_1.2.2.2.2.1 v_1.2.2.2.2.2.1 v_1.2.2.2.2.2.2 v_rules_deep v_rules_fine v_rules_pay v_rules_hair v_sights_drawn v_sights_pull v_arg1_shelf_there v_arg1_rules_flat v_arg1_rules_least v_arg1_sights_size v_arg1_sights_shown v_arg1_shelf_thick v_arg1_shelf_hollow v_arg1_shelf_damp v_arg1_shelf_fresh v_arg1_shelf_pulls v_arg1_shelf_fats v_arg1_rules_deep v_arg1_rules_fine v_arg1_rules_pay v_arg1_rules_hair v_arg1_sights_drawn v_arg1_sights_pull) C lk_RX4_32 (ctX6_copyFrom a_shelf a_shelf_thick a_shelf_hollow a_shelf_damp a_shelf_fresh a_shelf_pulls a_shelf_fats a_arg1_shelf a_arg1_shelf_thick a_arg1_shelf_hollow a_arg1_shelf_damp a_arg1_shelf_fresh a_arg1_shelf_pulls a_arg1_shelf_fats v_shelf_there v_shelf_thick v_shelf_hollow v_shelf_damp v_shelf_fresh v_shelf_pulls v_shelf_fats v_arg1_shelf_there v_arg1_shelf_thick v_arg1_shelf_hollow v_arg1_shelf_damp v_arg1_shelf_fresh v_arg1_shelf_pulls v_arg1_shelf_fats ev_1.symm) hW hl 6 rfl rfl rfl rfl rfl rfl rfl rfl rfl rfl ⟨rfl, rfl⟩ ⟨(Nat.le_of_ble_eq_true rfl), (Nat.le_of_ble_eq_true rfl)⟩ ⟨Nat.zero_le _, Nat.zero_le _⟩ rfl (Nat.le_of_ble_eq_true rfl) dX4_copyFrom_8 (fun H locs hW => ?_)
  refine lv_aload_n hx hb dX4_copyFrom_11 rfl (lv_at hl 0 rfl) ?_
  refine getW C fl_RX4_21 hW 0 rfl rfl dX4_copyFrom_12 ?_
  refine lv_aload_n hx hb dX4_copyFrom_15 rfl (lv_at hl 1 rfl) ?_
  refine getW C fl_RX4_21 hW 16 rfl rfl dX4_copyFrom_16 ?_
  obtain ⟨v_2, ev_2⟩ : ∃ z, z = (fX5_copyFrom v_rules_deep v_rules_fine v_rules_pay v_rules_hair v_arg1_rules_flat v_arg1_rules_least v_arg1_rules_deep v_arg1_rules_fine v_arg1_rules_pay v_arg1_rules_hair) := ⟨_, rfl⟩
  have h := lt_h ev_2 h
  refine callVVm [2, 10, 11, 12, 13, 18, 26, 27, 28, 29] [0, 1, 3, 4, 5, 6, 7, 8, 9, 14, 15, 16, 17, 19, 20, 21, 22, 23, 24, 25, 30, 31] [(a_this, .inr (4, [.ref a_shelf, .ref a_rules, .ref a_sights])), (a_shelf, .inr (6, [.int v_1.1, .ref a_shelf_thick, .ref a_shelf_hollow, .ref a_shelf_damp, .ref a_shelf_fresh, .ref a_shelf_pulls, .ref a_shelf_fats])), (a_sights, .inr (7, [.int v_sights_size, .int v_sights_shown, .ref a_sights_drawn, .ref a_sights_pull])), (a_shelf_thick, .inl (cI, 5, .inl v_1.2.1)), (a_shelf_hollow, .inl (cI, 5, .inl v_1.2.2.1)), (a_shelf_damp, .inl (cI, 5, .inl v_1.2.2.2.1)), (a_shelf_fresh, .inl (cI, 5, .inl v_1.2.2.2.2.1)), (a_shelf_pulls, .inl (cI, 5, .inl v_1.2.2.2.2.2.1)), (a_shelf_fats, .inl (cI, 40, .inl v_1.2.2.2.2.2.2)), (a_sights_drawn, .inl (cI, 8, .inl v_sights_drawn)), (a_sights_pull, .inl (cI, 8, .inl v_sights_pull)), (a_arg1, .inr (4, [.ref a_arg1_shelf, .ref a_arg1_rules, .ref a_arg1_sights])), (a_arg1_shelf, .inr (6, [.int v_arg1_shelf_there, .ref a_arg1_shelf_thick, .ref a_arg1_shelf_hollow, .ref a_arg1_shelf_damp, .ref a_arg1_shelf_fresh, .ref a_arg1_shelf_pulls, .ref a_arg1_shelf_fats])), (a_arg1_sights, .inr (7, [.int v_arg1_sights_size, .int v_arg1_sights_shown, .ref a_arg1_sights_drawn, .ref a_arg1_sights_pull])), (a_arg1_shelf_thick, .inl (cI, 5, .inl v_arg1_shelf_thick)), (a_arg1_shelf_hollow, .inl (cI, 5, .inl v_arg1_shelf_hollow)), (a_arg1_shelf_damp, .inl (cI, 5, .inl v_arg1_shelf_damp)), (a_arg1_shelf_fresh, .inl (cI, 5, .inl v_arg1_shelf_fresh)), (a_arg1_shelf_pulls, .inl (cI, 5, .inl v_arg1_shelf_pulls)), (a_arg1_shelf_fats, .inl (cI, 40, .inl v_arg1_shelf_fats)), (a_arg1_sights_drawn, .inl (cI, 8, .inl v_arg1_sights_drawn)), (a_arg1_sights_pull, .inl (cI, 8, .inl v_arg1_sights_pull))] (wX4_copyFrom cI cZ a_this a_shelf a_rules a_sights a_shelf_thick a_shelf_hollow a_shelf_damp a_shelf_fresh a_shelf_pulls a_shelf_fats a_rules_deep a_rules_fine a_rules_pay a_rules_hair a_sights_drawn a_sights_pull a_arg1 a_arg1_shelf a_arg1_rules a_arg1_sights a_arg1_shelf_thick a_arg1_shelf_hollow a_arg1_shelf_damp a_arg1_shelf_fresh a_arg1_shelf_pulls a_arg1_shelf_fats a_arg1_rules_deep a_arg1_rules_fine a_arg1_rules_pay a_arg1_rules_hair a_arg1_sights_drawn a_arg1_sights_pull v_1.1 v_2.1 v_2.2.1 v_sights_size v_sights_shown v_1.2.1 v_1.2.2.1 v_1.2.2.2.1 v_1.2.2.2.2.1 v_1.2.2.2.2.2.1 v_1.2.2.2.2.2.2 v_2.2.2.1 v_2.2.2.2.1 v_2.2.2.2.2.1 v_2.2.2.2.2.2 v_sights_drawn v_sights_pull v_arg1_shelf_there v_arg1_rules_flat v_arg1_rules_least v_arg1_sights_size v_arg1_sights_shown v_arg1_shelf_thick v_arg1_shelf_hollow v_arg1_shelf_damp v_arg1_shelf_fresh v_arg1_shelf_pulls v_arg1_shelf_fats v_arg1_rules_deep v_arg1_rules_fine v_arg1_rules_pay v_arg1_rules_hair v_arg1_sights_drawn v_arg1_sights_pull) C lk_RX4_36 (ctX5_copyFrom a_rules a_rules_deep a_rules_fine a_rules_pay a_rules_hair a_arg1_rules a_arg1_rules_deep a_arg1_rules_fine a_arg1_rules_pay a_arg1_rules_hair v_rules_flat v_rules_least v_rules_deep v_rules_fine v_rules_pay v_rules_hair v_arg1_rules_flat v_arg1_rules_least v_arg1_rules_deep v_arg1_rules_fine v_arg1_rules_pay v_arg1_rules_hair ev_2.symm) hW hl 5 rfl rfl rfl rfl rfl rfl rfl rfl rfl rfl ⟨rfl, rfl⟩ ⟨(Nat.le_of_ble_eq_true rfl), (Nat.le_of_ble_eq_true rfl)⟩ ⟨Nat.zero_le _, Nat.zero_le _⟩ rfl (Nat.le_of_ble_eq_true rfl) dX4_copyFrom_19 (fun H locs hW => ?_)
  refine lv_aload_n hx hb dX4_copyFrom_22 rfl (lv_at hl 0 rfl) ?_
  refine getW C fl_RX4_28 hW 0 rfl rfl dX4_copyFrom_23 ?_
  refine lv_aload_n hx hb dX4_copyFrom_26 rfl (lv_at hl 1 rfl) ?_
  refine getW C fl_RX4_28 hW 16 rfl rfl dX4_copyFrom_27 ?_
  obtain ⟨v_3, ev_3⟩ : ∃ z, z = (fX7_copyFrom v_sights_drawn v_sights_pull v_arg1_sights_size v_arg1_sights_shown v_arg1_sights_drawn v_arg1_sights_pull) := ⟨_, rfl⟩
  have h := lt_h ev_3 h
  refine callVVm [3, 14, 15, 19, 30, 31] [0, 1, 2, 4, 5, 6, 7, 8, 9, 10, 11, 12, 13, 16, 17, 18, 20, 21, 22, 23, 24, 25, 26, 27, 28, 29] [(a_this, .inr (4, [.ref a_shelf, .ref a_rules, .ref a_sights])), (a_shelf, .inr (6, [.int v_1.1, .ref a_shelf_thick, .ref a_shelf_hollow, .ref a_shelf_damp, .ref a_shelf_fresh, .ref a_shelf_pulls, .ref a_shelf_fats])), (a_rules, .inr (5, [.int v_2.1, .int v_2.2.1, .ref a_rules_deep, .ref a_rules_fine, .ref a_rules_pay, .ref a_rules_hair])), (a_shelf_thick, .inl (cI, 5, .inl v_1.2.1)), (a_shelf_hollow, .inl (cI, 5, .inl v_1.2.2.1)), (a_shelf_damp, .inl (cI, 5, .inl v_1.2.2.2.1)), (a_shelf_fresh, .inl (cI, 5, .inl v_1.2.2.2.2.1)), (a_shelf_pulls, .inl (cI, 5, .inl v_1.2.2.2.2.2.1)), (a_shelf_fats, .inl (cI, 40, .inl v_1.2.2.2.2.2.2)), (a_rules_deep, .inl (cI, 8, .inl v_2.2.2.1)), (a_rules_fine, .inl (cI, 8, .inl v_2.2.2.2.1)), (a_rules_pay, .inl (cI, 8, .inl v_2.2.2.2.2.1)), (a_rules_hair, .inl (cI, 6, .inl v_2.2.2.2.2.2)), (a_arg1, .inr (4, [.ref a_arg1_shelf, .ref a_arg1_rules, .ref a_arg1_sights])), (a_arg1_shelf, .inr (6, [.int v_arg1_shelf_there, .ref a_arg1_shelf_thick, .ref a_arg1_shelf_hollow, .ref a_arg1_shelf_damp, .ref a_arg1_shelf_fresh, .ref a_arg1_shelf_pulls, .ref a_arg1_shelf_fats])), (a_arg1_rules, .inr (5, [.int v_arg1_rules_flat, .int v_arg1_rules_least, .ref a_arg1_rules_deep, .ref a_arg1_rules_fine, .ref a_arg1_rules_pay, .ref a_arg1_rules_hair])), (a_arg1_shelf_thick, .inl (cI, 5, .inl v_arg1_shelf_thick)), (a_arg1_shelf_hollow, .inl (cI, 5, .inl v_arg1_shelf_hollow)), (a_arg1_shelf_damp, .inl (cI, 5, .inl v_arg1_shelf_damp)), (a_arg1_shelf_fresh, .inl (cI, 5, .inl v_arg1_shelf_fresh)), (a_arg1_shelf_pulls, .inl (cI, 5, .inl v_arg1_shelf_pulls)), (a_arg1_shelf_fats, .inl (cI, 40, .inl v_arg1_shelf_fats)), (a_arg1_rules_deep, .inl (cI, 8, .inl v_arg1_rules_deep)), (a_arg1_rules_fine, .inl (cI, 8, .inl v_arg1_rules_fine)), (a_arg1_rules_pay, .inl (cI, 8, .inl v_arg1_rules_pay)), (a_arg1_rules_hair, .inl (cI, 6, .inl v_arg1_rules_hair))] (wX4_copyFrom cI cZ a_this a_shelf a_rules a_sights a_shelf_thick a_shelf_hollow a_shelf_damp a_shelf_fresh a_shelf_pulls a_shelf_fats a_rules_deep a_rules_fine a_rules_pay a_rules_hair a_sights_drawn a_sights_pull a_arg1 a_arg1_shelf a_arg1_rules a_arg1_sights a_arg1_shelf_thick a_arg1_shelf_hollow a_arg1_shelf_damp a_arg1_shelf_fresh a_arg1_shelf_pulls a_arg1_shelf_fats a_arg1_rules_deep a_arg1_rules_fine a_arg1_rules_pay a_arg1_rules_hair a_arg1_sights_drawn a_arg1_sights_pull v_1.1 v_2.1 v_2.2.1 v_3.2.1 v_3.1 v_1.2.1 v_1.2.2.1 v_1.2.2.2.1 v_1.2.2.2.2.1 v_1.2.2.2.2.2.1 v_1.2.2.2.2.2.2 v_2.2.2.1 v_2.2.2.2.1 v_2.2.2.2.2.1 v_2.2.2.2.2.2 v_3.2.2.1 v_3.2.2.2 v_arg1_shelf_there v_arg1_rules_flat v_arg1_rules_least v_arg1_sights_size v_arg1_sights_shown v_arg1_shelf_thick v_arg1_shelf_hollow v_arg1_shelf_damp v_arg1_shelf_fresh v_arg1_shelf_pulls v_arg1_shelf_fats v_arg1_rules_deep v_arg1_rules_fine v_arg1_rules_pay v_arg1_rules_hair v_arg1_sights_drawn v_arg1_sights_pull) C lk_RX4_39 (ctX7_copyFrom a_sights a_sights_drawn a_sights_pull a_arg1_sights a_arg1_sights_drawn a_arg1_sights_pull v_sights_size v_sights_shown v_sights_drawn v_sights_pull v_arg1_sights_size v_arg1_sights_shown v_arg1_sights_drawn v_arg1_sights_pull ev_3.symm) hW hl 7 rfl rfl rfl rfl rfl rfl rfl rfl rfl rfl ⟨rfl, rfl⟩ ⟨(Nat.le_of_ble_eq_true rfl), (Nat.le_of_ble_eq_true rfl)⟩ ⟨Nat.zero_le _, Nat.zero_le _⟩ rfl (Nat.le_of_ble_eq_true rfl) dX4_copyFrom_30 (fun H locs hW => ?_)
  subst h
  exact hQ _ _ _ _ dX4_copyFrom_33 hW
theorem ctX4_copyFrom {l : Launch} {G : va_G} {cI cZ cO : ClassId} (a_this a_shelf a_rules a_sights a_shelf_thick a_shelf_hollow a_shelf_damp a_shelf_fresh a_shelf_pulls a_shelf_fats a_rules_deep a_rules_fine a_rules_pay a_rules_hair a_sights_drawn a_sights_pull a_arg1 a_arg1_shelf a_arg1_rules a_arg1_sights a_arg1_shelf_thick a_arg1_shelf_hollow a_arg1_shelf_damp a_arg1_shelf_fresh a_arg1_shelf_pulls a_arg1_shelf_fats a_arg1_rules_deep a_arg1_rules_fine a_arg1_rules_pay a_arg1_rules_hair a_arg1_sights_drawn a_arg1_sights_pull : Nat) (v_shelf_there : Int32) (v_rules_flat : Int32) (v_rules_least : Int32) (v_sights_size : Int32) (v_sights_shown : Int32) (v_shelf_thick : Nat → Int32) (v_shelf_hollow : Nat → Int32) (v_shelf_damp : Nat → Int32) (v_shelf_fresh : Nat → Int32) (v_shelf_pulls : Nat → Int32) (v_shelf_fats : Nat → Int32) (v_rules_deep : Nat → Int32) (v_rules_fine : Nat → Int32) (v_rules_pay : Nat → Int32) (v_rules_hair : Nat → Int32) (v_sights_drawn : Nat → Int32) (v_sights_pull : Nat → Int32) (v_arg1_shelf_there : Int32) (v_arg1_rules_flat : Int32) (v_arg1_rules_least : Int32) (v_arg1_sights_size : Int32) (v_arg1_sights_shown : Int32) (v_arg1_shelf_thick : Nat → Int32) (v_arg1_shelf_hollow : Nat → Int32) (v_arg1_shelf_damp : Nat → Int32) (v_arg1_shelf_fresh : Nat → Int32) (v_arg1_shelf_pulls : Nat → Int32) (v_arg1_shelf_fats : Nat → Int32) (v_arg1_rules_deep : Nat → Int32) (v_arg1_rules_fine : Nat → Int32) (v_arg1_rules_pay : Nat → Int32) (v_arg1_rules_hair : Nat → Int32) (v_arg1_sights_drawn : Nat → Int32) (v_arg1_sights_pull : Nat → Int32) {res : Int32 × Int32 × Int32 × Int32 × Int32 × (Nat → Int32) × (Nat → Int32) × (Nat → Int32) × (Nat → Int32) × (Nat → Int32) × (Nat → Int32) × (Nat → Int32) × (Nat → Int32) × (Nat → Int32) × (Nat → Int32) × (Nat → Int32) × (Nat → Int32)} (h : fX4_copyFrom v_shelf_thick v_shelf_hollow v_shelf_damp v_shelf_fresh v_shelf_pulls v_shelf_fats v_rules_deep v_rules_fine v_rules_pay v_rules_hair v_sights_drawn v_sights_pull v_arg1_shelf_there v_arg1_rules_flat v_arg1_rules_least v_arg1_sights_size v_arg1_sights_shown v_arg1_shelf_thick v_arg1_shelf_hollow v_arg1_shelf_damp v_arg1_shelf_fresh v_arg1_shelf_pulls v_arg1_shelf_fats v_arg1_rules_deep v_arg1_rules_fine v_arg1_rules_pay v_arg1_rules_hair v_arg1_sights_drawn v_arg1_sights_pull = res) : MV l G cI cZ cO yX4_copyFrom cX4_copyFrom 2 rX4_copyFrom [.ref a_this, .ref a_arg1] (wX4_copyFrom cI cZ a_this a_shelf a_rules a_sights a_shelf_thick a_shelf_hollow a_shelf_damp a_shelf_fresh a_shelf_pulls a_shelf_fats a_rules_deep a_rules_fine a_rules_pay a_rules_hair a_sights_drawn a_sights_pull a_arg1 a_arg1_shelf a_arg1_rules a_arg1_sights a_arg1_shelf_thick a_arg1_shelf_hollow a_arg1_shelf_damp a_arg1_shelf_fresh a_arg1_shelf_pulls a_arg1_shelf_fats a_arg1_rules_deep a_arg1_rules_fine a_arg1_rules_pay a_arg1_rules_hair a_arg1_sights_drawn a_arg1_sights_pull v_shelf_there v_rules_flat v_rules_least v_sights_size v_sights_shown v_shelf_thick v_shelf_hollow v_shelf_damp v_shelf_fresh v_shelf_pulls v_shelf_fats v_rules_deep v_rules_fine v_rules_pay v_rules_hair v_sights_drawn v_sights_pull v_arg1_shelf_there v_arg1_rules_flat v_arg1_rules_least v_arg1_sights_size v_arg1_sights_shown v_arg1_shelf_thick v_arg1_shelf_hollow v_arg1_shelf_damp v_arg1_shelf_fresh v_arg1_shelf_pulls v_arg1_shelf_fats v_arg1_rules_deep v_arg1_rules_fine v_arg1_rules_pay v_arg1_rules_hair v_arg1_sights_drawn v_arg1_sights_pull) (wX4_copyFrom cI cZ a_this a_shelf a_rules a_sights a_shelf_thick a_shelf_hollow a_shelf_damp a_shelf_fresh a_shelf_pulls a_shelf_fats a_rules_deep a_rules_fine a_rules_pay a_rules_hair a_sights_drawn a_sights_pull a_arg1 a_arg1_shelf a_arg1_rules a_arg1_sights a_arg1_shelf_thick a_arg1_shelf_hollow a_arg1_shelf_damp a_arg1_shelf_fresh a_arg1_shelf_pulls a_arg1_shelf_fats a_arg1_rules_deep a_arg1_rules_fine a_arg1_rules_pay a_arg1_rules_hair a_arg1_sights_drawn a_arg1_sights_pull res.1 res.2.1 res.2.2.1 res.2.2.2.2.1 res.2.2.2.1 res.2.2.2.2.2.1 res.2.2.2.2.2.2.1 res.2.2.2.2.2.2.2.1 res.2.2.2.2.2.2.2.2.1 res.2.2.2.2.2.2.2.2.2.1 res.2.2.2.2.2.2.2.2.2.2.1 res.2.2.2.2.2.2.2.2.2.2.2.1 res.2.2.2.2.2.2.2.2.2.2.2.2.1 res.2.2.2.2.2.2.2.2.2.2.2.2.2.1 res.2.2.2.2.2.2.2.2.2.2.2.2.2.2.1 res.2.2.2.2.2.2.2.2.2.2.2.2.2.2.2.1 res.2.2.2.2.2.2.2.2.2.2.2.2.2.2.2.2 v_arg1_shelf_there v_arg1_rules_flat v_arg1_rules_least v_arg1_sights_size v_arg1_sights_shown v_arg1_shelf_thick v_arg1_shelf_hollow v_arg1_shelf_damp v_arg1_shelf_fresh v_arg1_shelf_pulls v_arg1_shelf_fats v_arg1_rules_deep v_arg1_rules_fine v_arg1_rules_pay v_arg1_rules_hair v_arg1_sights_drawn v_arg1_sights_pull) := by
  refine MV.of (by decide) (Nat.le_of_ble_eq_true rfl) ?_
  intro p e s m below meth c A Q C hW hQ ls hl
  exact uX4_copyFrom_0 v_shelf_there v_rules_flat v_rules_least v_sights_size v_sights_shown v_shelf_thick v_shelf_hollow v_shelf_damp v_shelf_fresh v_shelf_pulls v_shelf_fats v_rules_deep v_rules_fine v_rules_pay v_rules_hair v_sights_drawn v_sights_pull v_arg1_shelf_there v_arg1_rules_flat v_arg1_rules_least v_arg1_sights_size v_arg1_sights_shown v_arg1_shelf_thick v_arg1_shelf_hollow v_arg1_shelf_damp v_arg1_shelf_fresh v_arg1_shelf_pulls v_arg1_shelf_fats v_arg1_rules_deep v_arg1_rules_fine v_arg1_rules_pay v_arg1_rules_hair v_arg1_sights_drawn v_arg1_sights_pull C hQ h _ _ hW _ hl
abbrev wX5_minutesShowing (cI cZ : ClassId) (a_this a_deep a_fine a_pay a_hair : Nat) (v_flat : Int32) (v_least : Int32) (v_deep : Nat → Int32) (v_fine : Nat → Int32) : va_W := [(a_this, .inr (5, [.int v_flat, .int v_least, .ref a_deep, .ref a_fine, .ref a_pay, .ref a_hair])), (a_deep, .inl (cI, 8, .inl v_deep)), (a_fine, .inl (cI, 8, .inl v_fine))]
abbrev rX5_minutesShowing : Room := { frames := 2, cells := 0, slots := 0, locals := 43 }
set_option maxRecDepth 20000 in
theorem uX5_minutesShowing_0 {a_this a_deep a_fine a_pay a_hair : Nat} (x1 : Int32) (x2 : Int32) (x3 : Int32) (v_flat : Int32) (v_least : Int32) (v_deep : Nat → Int32) (v_fine : Nat → Int32) {res : Int32} (C : Cx p s m av meth c RX5 cX5_minutesShowing 6 (some .int) G cI cZ cO A) (hQ : RI p l e rX5_minutesShowing s m av below meth c G A cX5_minutesShowing .int Q (res) (wX5_minutesShowing cI cZ a_this a_deep a_fine a_pay a_hair v_flat v_least v_deep v_fine)) (h : fX5_minutesShowing x1 x2 x3 v_deep v_fine = some res) (H : Heap) (locs : List Loc) (hW : HW G A s (wX5_minutesShowing cI cZ a_this a_deep a_fine a_pay a_hair v_flat v_least v_deep v_fine) H locs) (ls : Array Slot) (hl : lv_has ls 6 [(0, .ref a_this), (1, .int x1), (2, .int x2), (3, .int x3)]) : W p l e rX5_minutesShowing s m av below meth c H locs 0 0 Q (F0 m 0 ls []) := by
  have hx := C.1
  have hb := C.2.1
  unfold fX5_minutesShowing at h
  refine lv_iconst (v := (0 : Int32)) hx hb dX5_minutesShowing_0 (by decide) ?_
  refine lv_aload_n hx hb dX5_minutesShowing_1 rfl (lv_at hl 0 rfl) ?_
  refine lv_iload_n hx hb dX5_minutesShowing_2 rfl (lv_at hl 2 rfl) ?_
  obtain ⟨v_1, hv_1, h⟩ := bd_h h
  refine callVIr [0, 1] C lk_RX5_41 (ctX5_deepOf a_this a_deep a_fine a_pay a_hair x2 v_flat v_least v_deep hv_1) hW hl 5 rfl rfl rfl rfl rfl ⟨rfl, rfl⟩ ⟨(Nat.le_of_ble_eq_true rfl), (Nat.le_of_ble_eq_true rfl)⟩ ⟨Nat.zero_le _, Nat.zero_le _⟩ rfl (Nat.le_of_ble_eq_true rfl) dX5_minutesShowing_3 (fun H locs hW => ?_)
  refine lv_aload_n hx hb dX5_minutesShowing_6 rfl (lv_at hl 0 rfl) ?_
  refine lv_iload_n hx hb dX5_minutesShowing_7 rfl (lv_at hl 2 rfl) ?_
  obtain ⟨v_2, hv_2, h⟩ := bd_h h
  refine callVIr [0, 2] C lk_RX5_45 (ctX5_wear a_this a_deep a_fine a_pay a_hair x2 v_flat v_least v_fine hv_2) hW hl 5 rfl rfl rfl rfl rfl ⟨rfl, rfl⟩ ⟨(Nat.le_of_ble_eq_true rfl), (Nat.le_of_ble_eq_true rfl)⟩ ⟨Nat.zero_le _, Nat.zero_le _⟩ rfl (Nat.le_of_ble_eq_true rfl) dX5_minutesShowing_8 (fun H locs hW => ?_)
  refine lv_iload_n hx hb dX5_minutesShowing_11 rfl (lv_at hl 3 rfl) ?_
  refine lv_bipush (v := (10 : Int32)) hx hb dX5_minutesShowing_12 (by decide) ?_
  refine lv_idiv hx hb dX5_minutesShowing_14 (by decide) ?_
  refine lv_imul hx hb dX5_minutesShowing_15 ?_
  refine lv_isub hx hb dX5_minutesShowing_16 ?_
  refine maxW C lk_RX5_48 hl (Nat.le_of_ble_eq_true rfl) (Nat.le_of_ble_eq_true rfl) ⟨Nat.zero_le _, Nat.zero_le _⟩ dX5_minutesShowing_17 ?_
  refine lv_topi (fun v_3 ev_3 => ?_)
  have h := lt_h ev_3 h
  refine lv_istore (lv' := [(4, .int v_3), (0, .ref a_this), (1, .int x1), (2, .int x2), (3, .int x3)]) hx hb dX5_minutesShowing_20 hl (Nat.le_of_ble_eq_true rfl) rfl (fun ls hl => ?_)
  refine lv_aload_n hx hb dX5_minutesShowing_22 rfl (lv_at hl 1 rfl) ?_
  refine lv_iload_n hx hb dX5_minutesShowing_23 rfl (lv_at hl 2 rfl) ?_
  obtain ⟨v_4, hv_4, h⟩ := bd_h h
  refine callVIr [0, 1] C lk_RX5_41 (ctX5_deepOf a_this a_deep a_fine a_pay a_hair x1 v_flat v_least v_deep hv_4) hW hl 5 rfl rfl rfl rfl rfl ⟨rfl, rfl⟩ ⟨(Nat.le_of_ble_eq_true rfl), (Nat.le_of_ble_eq_true rfl)⟩ ⟨Nat.zero_le _, Nat.zero_le _⟩ rfl (Nat.le_of_ble_eq_true rfl) dX5_minutesShowing_24 (fun H locs hW => ?_)
  refine lv_iload hx hb dX5_minutesShowing_27 (lv_at hl 0 rfl) ?_
  refine lv_isub hx hb dX5_minutesShowing_29 ?_
  refine lv_topi (fun v_5 ev_5 => ?_)
  have h := lt_h ev_5 h
  refine lv_istore (lv' := [(5, .int v_5), (4, .int v_3), (0, .ref a_this), (1, .int x1), (2, .int x2), (3, .int x3)]) hx hb dX5_minutesShowing_30 hl (Nat.le_of_ble_eq_true rfl) rfl (fun ls hl => ?_)
  refine lv_iload_n hx hb dX5_minutesShowing_32 rfl (lv_at hl 3 rfl) ?_
  refine lv_iload_n hx hb dX5_minutesShowing_33 rfl (lv_at hl 4 rfl) ?_
  refine lv_icmp_eq (tgt := 43) hx hb dX5_minutesShowing_34 (by decide) (fun c_6 => ?_) (fun c_6 => ?_)
  · have h := ip_h c_6 h
    refine lv_iconst (v := (0 : Int32)) hx hb dX5_minutesShowing_43 (by decide) ?_
    refine lv_goto (tgt := 53) hx hb dX5_minutesShowing_44 (by decide) ?_
    obtain rfl := Option.some.inj h
    exact hQ rfl _ _ _ _ dX5_minutesShowing_53 hW
  · have h := in_h c_6 h
    refine lv_iload hx hb dX5_minutesShowing_37 (lv_at hl 0 rfl) ?_
    refine lv_iconst (v := (1 : Int32)) hx hb dX5_minutesShowing_39 (by decide) ?_
    refine lv_icmp_ge (tgt := 47) hx hb dX5_minutesShowing_40 (by decide) (fun c_7 => ?_) (fun c_7 => ?_)
    · have h := ip_h c_7 h
      refine lv_iload hx hb dX5_minutesShowing_47 (lv_at hl 0 rfl) ?_
      refine lv_iconst (v := (1 : Int32)) hx hb dX5_minutesShowing_49 (by decide) ?_
      refine lv_isub hx hb dX5_minutesShowing_50 ?_
      refine lv_iconst (v := (3 : Int32)) hx hb dX5_minutesShowing_51 (by decide) ?_
      refine lv_idiv hx hb dX5_minutesShowing_52 (by decide) ?_
      obtain rfl := Option.some.inj h
      exact hQ rfl _ _ _ _ dX5_minutesShowing_53 hW
    · have h := in_h c_7 h
      refine lv_iconst (v := (0 : Int32)) hx hb dX5_minutesShowing_43 (by decide) ?_
      refine lv_goto (tgt := 53) hx hb dX5_minutesShowing_44 (by decide) ?_
      obtain rfl := Option.some.inj h
      exact hQ rfl _ _ _ _ dX5_minutesShowing_53 hW
theorem ctX5_minutesShowing {l : Launch} {G : va_G} {cI cZ cO : ClassId} (a_this a_deep a_fine a_pay a_hair : Nat) (x1 : Int32) (x2 : Int32) (x3 : Int32) (v_flat : Int32) (v_least : Int32) (v_deep : Nat → Int32) (v_fine : Nat → Int32) {res : Int32} (h : fX5_minutesShowing x1 x2 x3 v_deep v_fine = some res) : MI l G cI cZ cO yX5_minutesShowing cX5_minutesShowing 6 .int rX5_minutesShowing [.ref a_this, .int x1, .int x2, .int x3] (wX5_minutesShowing cI cZ a_this a_deep a_fine a_pay a_hair v_flat v_least v_deep v_fine) (res) (wX5_minutesShowing cI cZ a_this a_deep a_fine a_pay a_hair v_flat v_least v_deep v_fine) := by
  refine MI.of (by decide) (Nat.le_of_ble_eq_true rfl) ?_
  intro p e s m below meth c A Q C hW hQ ls hl
  exact uX5_minutesShowing_0 x1 x2 x3 v_flat v_least v_deep v_fine C hQ h _ _ hW _ hl
abbrev wX4_mostMinutes (cI cZ : ClassId) (a_this a_shelf a_rules a_sights a_sights_drawn a_sights_pull a_rules_deep a_rules_fine a_rules_pay a_rules_hair : Nat) (v_sights_size : Int32) (v_sights_shown : Int32) (v_rules_flat : Int32) (v_rules_least : Int32) (v_sights_drawn : Nat → Int32) (v_sights_pull : Nat → Int32) (v_rules_deep : Nat → Int32) (v_rules_fine : Nat → Int32) : va_W := [(a_this, .inr (4, [.ref a_shelf, .ref a_rules, .ref a_sights])), (a_sights, .inr (7, [.int v_sights_size, .int v_sights_shown, .ref a_sights_drawn, .ref a_sights_pull])), (a_rules, .inr (5, [.int v_rules_flat, .int v_rules_least, .ref a_rules_deep, .ref a_rules_fine, .ref a_rules_pay, .ref a_rules_hair])), (a_sights_drawn, .inl (cI, 8, .inl v_sights_drawn)), (a_sights_pull, .inl (cI, 8, .inl v_sights_pull)), (a_rules_deep, .inl (cI, 8, .inl v_rules_deep)), (a_rules_fine, .inl (cI, 8, .inl v_rules_fine))]
abbrev rX4_mostMinutes : Room := { frames := 3, cells := 0, slots := 0, locals := 68 }
set_option maxRecDepth 20000 in
theorem uX4_mostMinutes_5 {a_this a_shelf a_rules a_sights a_sights_drawn a_sights_pull a_rules_deep a_rules_fine a_rules_pay a_rules_hair : Nat} (x1 : Int32) (x2 : Int32) (x3 : Int32) (v_sights_size : Int32) (v_sights_shown : Int32) (v_rules_flat : Int32) (v_rules_least : Int32) (v_sights_drawn : Nat → Int32) (v_sights_pull : Nat → Int32) (v_rules_deep : Nat → Int32) (v_rules_fine : Nat → Int32) {res : Int32} (C : Cx p s m av meth c RX4 cX4_mostMinutes 5 (some .int) G cI cZ cO A) (hQ : RI p l e rX4_mostMinutes s m av below meth c G A cX4_mostMinutes .int Q (res) (wX4_mostMinutes cI cZ a_this a_shelf a_rules a_sights a_sights_drawn a_sights_pull a_rules_deep a_rules_fine a_rules_pay a_rules_hair v_sights_size v_sights_shown v_rules_flat v_rules_least v_sights_drawn v_sights_pull v_rules_deep v_rules_fine)) {k5 : (Int32) → (Int32) → Option (Int32)} (hk5 : ∀ (x2 : Int32) (x3 : Int32), k5 x2 x3 = some res → ∀ (H : Heap) (locs : List Loc), HW G A s (wX4_mostMinutes cI cZ a_this a_shelf a_rules a_sights a_sights_drawn a_sights_pull a_rules_deep a_rules_fine a_rules_pay a_rules_hair v_sights_size v_sights_shown v_rules_flat v_rules_least v_sights_drawn v_sights_pull v_rules_deep v_rules_fine) H locs → ∀ ls : Array Slot, lv_has ls 5 [(0, .ref a_this), (1, .int x1), (2, .int x2), (3, .int x3)] → W p l e rX4_mostMinutes s m av below meth c H locs 0 0 Q (F0 m 5 ls [])) (h : FX4_mostMinutes_5 x1 v_sights_size v_sights_shown v_sights_drawn v_sights_pull v_rules_deep v_rules_fine k5 x2 x3 = some res) (H : Heap) (locs : List Loc) (hW : HW G A s (wX4_mostMinutes cI cZ a_this a_shelf a_rules a_sights a_sights_drawn a_sights_pull a_rules_deep a_rules_fine a_rules_pay a_rules_hair v_sights_size v_sights_shown v_rules_flat v_rules_least v_sights_drawn v_sights_pull v_rules_deep v_rules_fine) H locs) (ls : Array Slot) (hl : lv_has ls 5 [(0, .ref a_this), (1, .int x1), (2, .int x2), (3, .int x3)]) : W p l e rX4_mostMinutes s m av below meth c H locs 0 0 Q (F0 m 5 ls []) := by
  have hx := C.1
  have hb := C.2.1
  unfold FX4_mostMinutes_5 at h
  refine lv_iload_n hx hb dX4_mostMinutes_5 rfl (lv_at hl 3 rfl) ?_
  refine lv_aload_n hx hb dX4_mostMinutes_6 rfl (lv_at hl 0 rfl) ?_
  refine getW C fl_RX4_28 hW 0 rfl rfl dX4_mostMinutes_7 ?_
  refine getW C fl_RX4_86 hW 1 rfl rfl dX4_mostMinutes_10 ?_
  refine lv_icmp_ge (tgt := 77) hx hb dX4_mostMinutes_13 (by decide) (fun c_1 => ?_) (fun c_1 => ?_)
  · have h := ip_h c_1 h
    refine lv_iload_n hx hb dX4_mostMinutes_77 rfl (lv_at hl 2 rfl) ?_
    obtain rfl := Option.some.inj h
    exact hQ rfl _ _ _ _ dX4_mostMinutes_78 hW
  · have h := in_h c_1 h
    refine lv_iload_n hx hb dX4_mostMinutes_16 rfl (lv_at hl 3 rfl) ?_
    refine lv_bipush (v := (8 : Int32)) hx hb dX4_mostMinutes_17 (by decide) ?_
    refine lv_icmp_ge (tgt := 77) hx hb dX4_mostMinutes_19 (by decide) (fun c_2 => ?_) (fun c_2 => ?_)
    · have h := ip_h c_2 h
      refine lv_iload_n hx hb dX4_mostMinutes_77 rfl (lv_at hl 2 rfl) ?_
      obtain rfl := Option.some.inj h
      exact hQ rfl _ _ _ _ dX4_mostMinutes_78 hW
    · have h := in_h c_2 h
      refine lv_aload_n hx hb dX4_mostMinutes_22 rfl (lv_at hl 0 rfl) ?_
      refine getW C fl_RX4_28 hW 0 rfl rfl dX4_mostMinutes_23 ?_
      refine getW C fl_RX4_89 hW 1 rfl rfl dX4_mostMinutes_26 ?_
      refine lv_iload_n hx hb dX4_mostMinutes_29 rfl (lv_at hl 3 rfl) ?_
      refine callNI0 C lk_RX4_92 (ctX10_hasBit v_sights_shown x3 rfl) hW hl rfl ⟨rfl, rfl⟩ ⟨(Nat.le_of_ble_eq_true rfl), (Nat.le_of_ble_eq_true rfl)⟩ ⟨Nat.zero_le _, Nat.zero_le _⟩ rfl (Nat.le_of_ble_eq_true rfl) dX4_mostMinutes_30 (fun H locs hW => ?_)
      refine lv_if_eq (tgt := 71) hx hb dX4_mostMinutes_33 (by decide) (fun c_3 => ?_) (fun c_3 => ?_)
      · have h := ip_h c_3 h
        obtain ⟨v_4, ev_4⟩ : ∃ y : Int32, y = x3 + (1 : Int32) := ⟨_, rfl⟩
        have h := lt_h ev_4 h
        refine lv_iinc (v := v_4) (lv' := [(3, .int v_4), (0, .ref a_this), (1, .int x1), (2, .int x2)]) hx hb dX4_mostMinutes_71 hl (k := 3) rfl (by rw [ev_4]; rfl) (Nat.le_of_ble_eq_true rfl) rfl (fun ls hl => ?_)
        refine lv_goto (tgt := 5) hx hb dX4_mostMinutes_74 (by decide) ?_
        exact hk5 x2 v_4 h _ _ hW _ (lv_sub hl [1, 2, 3, 0] rfl)
      · have h := in_h c_3 h
        refine lv_aload_n hx hb dX4_mostMinutes_36 rfl (lv_at hl 0 rfl) ?_
        refine getW C fl_RX4_21 hW 0 rfl rfl dX4_mostMinutes_37 ?_
        refine lv_iload_n hx hb dX4_mostMinutes_40 rfl (lv_at hl 1 rfl) ?_
        refine lv_aload_n hx hb dX4_mostMinutes_41 rfl (lv_at hl 0 rfl) ?_
        refine getW C fl_RX4_28 hW 0 rfl rfl dX4_mostMinutes_42 ?_
        refine getW C fl_RX4_96 hW 1 rfl rfl dX4_mostMinutes_45 ?_
        refine lv_iload_n hx hb dX4_mostMinutes_48 rfl (lv_at hl 3 rfl) ?_
        obtain ⟨g_5, h⟩ := gd_h h
        refine ialdW C hW 3 rfl g_5 dX4_mostMinutes_49 ?_
        refine lv_aload_n hx hb dX4_mostMinutes_50 rfl (lv_at hl 0 rfl) ?_
        refine getW C fl_RX4_28 hW 0 rfl rfl dX4_mostMinutes_51 ?_
        refine getW C fl_RX4_99 hW 1 rfl rfl dX4_mostMinutes_54 ?_
        refine lv_iload_n hx hb dX4_mostMinutes_57 rfl (lv_at hl 3 rfl) ?_
        refine ialdW C hW 4 rfl g_5 dX4_mostMinutes_58 ?_
        obtain ⟨v_6, hv_6, h⟩ := bd_h h
        refine callVIr [2, 5, 6] C lk_RX4_102 (ctX5_minutesShowing a_rules a_rules_deep a_rules_fine a_rules_pay a_rules_hair x1 (v_sights_drawn (Int32.toNatClampNeg x3)) (v_sights_pull (Int32.toNatClampNeg x3)) v_rules_flat v_rules_least v_rules_deep v_rules_fine hv_6) hW hl 5 rfl rfl rfl rfl rfl ⟨rfl, rfl⟩ ⟨(Nat.le_of_ble_eq_true rfl), (Nat.le_of_ble_eq_true rfl)⟩ ⟨Nat.zero_le _, Nat.zero_le _⟩ rfl (Nat.le_of_ble_eq_true rfl) dX4_mostMinutes_59 (fun H locs hW => ?_)
        refine lv_istore (lv' := [(4, .int v_6), (0, .ref a_this), (1, .int x1), (2, .int x2), (3, .int x3)]) hx hb dX4_mostMinutes_62 hl (Nat.le_of_ble_eq_true rfl) rfl (fun ls hl => ?_)
        refine lv_iload_n hx hb dX4_mostMinutes_64 rfl (lv_at hl 3 rfl) ?_
        refine lv_iload hx hb dX4_mostMinutes_65 (lv_at hl 0 rfl) ?_
        refine minW C lk_RX4_106 hl (Nat.le_of_ble_eq_true rfl) (Nat.le_of_ble_eq_true rfl) ⟨Nat.zero_le _, Nat.zero_le _⟩ dX4_mostMinutes_67 ?_
        refine lv_topi (fun v_7 ev_7 => ?_)
        have h := lt_h ev_7 h
        refine lv_istore_n (lv' := [(2, .int v_7), (4, .int v_6), (0, .ref a_this), (1, .int x1), (3, .int x3)]) hx hb dX4_mostMinutes_70 rfl hl (Nat.le_of_ble_eq_true rfl) rfl (fun ls hl => ?_)
        obtain ⟨v_8, ev_8⟩ : ∃ y : Int32, y = x3 + (1 : Int32) := ⟨_, rfl⟩
        have h := lt_h ev_8 h
        refine lv_iinc (v := v_8) (lv' := [(3, .int v_8), (2, .int v_7), (4, .int v_6), (0, .ref a_this), (1, .int x1)]) hx hb dX4_mostMinutes_71 hl (k := 4) rfl (by rw [ev_8]; rfl) (Nat.le_of_ble_eq_true rfl) rfl (fun ls hl => ?_)
        refine lv_goto (tgt := 5) hx hb dX4_mostMinutes_74 (by decide) ?_
        exact hk5 v_7 v_8 h _ _ hW _ (lv_sub hl [3, 4, 1, 0] rfl)
theorem wX4_mostMinutes_5_ {a_this a_shelf a_rules a_sights a_sights_drawn a_sights_pull a_rules_deep a_rules_fine a_rules_pay a_rules_hair : Nat} (x1 : Int32) (v_sights_size : Int32) (v_sights_shown : Int32) (v_rules_flat : Int32) (v_rules_least : Int32) (v_sights_drawn : Nat → Int32) (v_sights_pull : Nat → Int32) (v_rules_deep : Nat → Int32) (v_rules_fine : Nat → Int32) {res : Int32} (C : Cx p s m av meth c RX4 cX4_mostMinutes 5 (some .int) G cI cZ cO A) (hQ : RI p l e rX4_mostMinutes s m av below meth c G A cX4_mostMinutes .int Q (res) (wX4_mostMinutes cI cZ a_this a_shelf a_rules a_sights a_sights_drawn a_sights_pull a_rules_deep a_rules_fine a_rules_pay a_rules_hair v_sights_size v_sights_shown v_rules_flat v_rules_least v_sights_drawn v_sights_pull v_rules_deep v_rules_fine)) : ∀ (n : Nat) (x2 : Int32) (x3 : Int32), LX4_mostMinutes_5 x1 v_sights_size v_sights_shown v_sights_drawn v_sights_pull v_rules_deep v_rules_fine n x2 x3 = some res → ∀ (H : Heap) (locs : List Loc), HW G A s (wX4_mostMinutes cI cZ a_this a_shelf a_rules a_sights a_sights_drawn a_sights_pull a_rules_deep a_rules_fine a_rules_pay a_rules_hair v_sights_size v_sights_shown v_rules_flat v_rules_least v_sights_drawn v_sights_pull v_rules_deep v_rules_fine) H locs → ∀ ls : Array Slot, lv_has ls 5 [(0, .ref a_this), (1, .int x1), (2, .int x2), (3, .int x3)] → W p l e rX4_mostMinutes s m av below meth c H locs 0 0 Q (F0 m 5 ls []) := by
  intro n
  induction n with
  | zero => intro x2 x3 h; cases h
  | succ n ih =>
    intro x2 x3 h H locs hW ls hl
    exact uX4_mostMinutes_5 x1 x2 x3 v_sights_size v_sights_shown v_rules_flat v_rules_least v_sights_drawn v_sights_pull v_rules_deep v_rules_fine C hQ (k5 := LX4_mostMinutes_5 x1 v_sights_size v_sights_shown v_sights_drawn v_sights_pull v_rules_deep v_rules_fine n) ih h H locs hW ls hl
set_option maxRecDepth 20000 in
theorem uX4_mostMinutes_0 {a_this a_shelf a_rules a_sights a_sights_drawn a_sights_pull a_rules_deep a_rules_fine a_rules_pay a_rules_hair : Nat} (x1 : Int32) (v_sights_size : Int32) (v_sights_shown : Int32) (v_rules_flat : Int32) (v_rules_least : Int32) (v_sights_drawn : Nat → Int32) (v_sights_pull : Nat → Int32) (v_rules_deep : Nat → Int32) (v_rules_fine : Nat → Int32) {res : Int32} (C : Cx p s m av meth c RX4 cX4_mostMinutes 5 (some .int) G cI cZ cO A) (hQ : RI p l e rX4_mostMinutes s m av below meth c G A cX4_mostMinutes .int Q (res) (wX4_mostMinutes cI cZ a_this a_shelf a_rules a_sights a_sights_drawn a_sights_pull a_rules_deep a_rules_fine a_rules_pay a_rules_hair v_sights_size v_sights_shown v_rules_flat v_rules_least v_sights_drawn v_sights_pull v_rules_deep v_rules_fine)) (h : fX4_mostMinutes x1 v_sights_size v_sights_shown v_sights_drawn v_sights_pull v_rules_deep v_rules_fine = some res) (H : Heap) (locs : List Loc) (hW : HW G A s (wX4_mostMinutes cI cZ a_this a_shelf a_rules a_sights a_sights_drawn a_sights_pull a_rules_deep a_rules_fine a_rules_pay a_rules_hair v_sights_size v_sights_shown v_rules_flat v_rules_least v_sights_drawn v_sights_pull v_rules_deep v_rules_fine) H locs) (ls : Array Slot) (hl : lv_has ls 5 [(0, .ref a_this), (1, .int x1)]) : W p l e rX4_mostMinutes s m av below meth c H locs 0 0 Q (F0 m 0 ls []) := by
  have hx := C.1
  have hb := C.2.1
  unfold fX4_mostMinutes at h
  refine lv_bipush (v := (20 : Int32)) hx hb dX4_mostMinutes_0 (by decide) ?_
  refine lv_istore_n (lv' := [(2, .int (20 : Int32)), (0, .ref a_this), (1, .int x1)]) hx hb dX4_mostMinutes_2 rfl hl (Nat.le_of_ble_eq_true rfl) rfl (fun ls hl => ?_)
  refine lv_iconst (v := (0 : Int32)) hx hb dX4_mostMinutes_3 (by decide) ?_
  refine lv_istore_n (lv' := [(3, .int (0 : Int32)), (2, .int (20 : Int32)), (0, .ref a_this), (1, .int x1)]) hx hb dX4_mostMinutes_4 rfl hl (Nat.le_of_ble_eq_true rfl) rfl (fun ls hl => ?_)
  exact wX4_mostMinutes_5_ x1 v_sights_size v_sights_shown v_rules_flat v_rules_least v_sights_drawn v_sights_pull v_rules_deep v_rules_fine C hQ 2000 (20 : Int32) (0 : Int32) h _ _ hW _ (lv_sub hl [2, 3, 1, 0] rfl)
theorem ctX4_mostMinutes {l : Launch} {G : va_G} {cI cZ cO : ClassId} (a_this a_shelf a_rules a_sights a_sights_drawn a_sights_pull a_rules_deep a_rules_fine a_rules_pay a_rules_hair : Nat) (x1 : Int32) (v_sights_size : Int32) (v_sights_shown : Int32) (v_rules_flat : Int32) (v_rules_least : Int32) (v_sights_drawn : Nat → Int32) (v_sights_pull : Nat → Int32) (v_rules_deep : Nat → Int32) (v_rules_fine : Nat → Int32) {res : Int32} (h : fX4_mostMinutes x1 v_sights_size v_sights_shown v_sights_drawn v_sights_pull v_rules_deep v_rules_fine = some res) : MI l G cI cZ cO yX4_mostMinutes cX4_mostMinutes 5 .int rX4_mostMinutes [.ref a_this, .int x1] (wX4_mostMinutes cI cZ a_this a_shelf a_rules a_sights a_sights_drawn a_sights_pull a_rules_deep a_rules_fine a_rules_pay a_rules_hair v_sights_size v_sights_shown v_rules_flat v_rules_least v_sights_drawn v_sights_pull v_rules_deep v_rules_fine) (res) (wX4_mostMinutes cI cZ a_this a_shelf a_rules a_sights a_sights_drawn a_sights_pull a_rules_deep a_rules_fine a_rules_pay a_rules_hair v_sights_size v_sights_shown v_rules_flat v_rules_least v_sights_drawn v_sights_pull v_rules_deep v_rules_fine) := by
  refine MI.of (by decide) (Nat.le_of_ble_eq_true rfl) ?_
  intro p e s m below meth c A Q C hW hQ ls hl
  exact uX4_mostMinutes_0 x1 v_sights_size v_sights_shown v_rules_flat v_rules_least v_sights_drawn v_sights_pull v_rules_deep v_rules_fine C hQ h _ _ hW _ hl
abbrev wX4_fewestMinutes (cI cZ : ClassId) (a_this a_shelf a_rules a_sights a_sights_drawn a_sights_pull a_rules_deep a_rules_fine a_rules_pay a_rules_hair : Nat) (v_sights_size : Int32) (v_sights_shown : Int32) (v_rules_flat : Int32) (v_rules_least : Int32) (v_sights_drawn : Nat → Int32) (v_sights_pull : Nat → Int32) (v_rules_deep : Nat → Int32) (v_rules_fine : Nat → Int32) : va_W := [(a_this, .inr (4, [.ref a_shelf, .ref a_rules, .ref a_sights])), (a_sights, .inr (7, [.int v_sights_size, .int v_sights_shown, .ref a_sights_drawn, .ref a_sights_pull])), (a_rules, .inr (5, [.int v_rules_flat, .int v_rules_least, .ref a_rules_deep, .ref a_rules_fine, .ref a_rules_pay, .ref a_rules_hair])), (a_sights_drawn, .inl (cI, 8, .inl v_sights_drawn)), (a_sights_pull, .inl (cI, 8, .inl v_sights_pull)), (a_rules_deep, .inl (cI, 8, .inl v_rules_deep)), (a_rules_fine, .inl (cI, 8, .inl v_rules_fine))]
abbrev rX4_fewestMinutes : Room := { frames := 3, cells := 0, slots := 0, locals := 68 }
set_option maxRecDepth 20000 in
theorem uX4_fewestMinutes_4 {a_this a_shelf a_rules a_sights a_sights_drawn a_sights_pull a_rules_deep a_rules_fine a_rules_pay a_rules_hair : Nat} (x1 : Int32) (x2 : Int32) (x3 : Int32) (v_sights_size : Int32) (v_sights_shown : Int32) (v_rules_flat : Int32) (v_rules_least : Int32) (v_sights_drawn : Nat → Int32) (v_sights_pull : Nat → Int32) (v_rules_deep : Nat → Int32) (v_rules_fine : Nat → Int32) {res : Int32} (C : Cx p s m av meth c RX4 cX4_fewestMinutes 5 (some .int) G cI cZ cO A) (hQ : RI p l e rX4_fewestMinutes s m av below meth c G A cX4_fewestMinutes .int Q (res) (wX4_fewestMinutes cI cZ a_this a_shelf a_rules a_sights a_sights_drawn a_sights_pull a_rules_deep a_rules_fine a_rules_pay a_rules_hair v_sights_size v_sights_shown v_rules_flat v_rules_least v_sights_drawn v_sights_pull v_rules_deep v_rules_fine)) {k4 : (Int32) → (Int32) → Option (Int32)} (hk4 : ∀ (x2 : Int32) (x3 : Int32), k4 x2 x3 = some res → ∀ (H : Heap) (locs : List Loc), HW G A s (wX4_fewestMinutes cI cZ a_this a_shelf a_rules a_sights a_sights_drawn a_sights_pull a_rules_deep a_rules_fine a_rules_pay a_rules_hair v_sights_size v_sights_shown v_rules_flat v_rules_least v_sights_drawn v_sights_pull v_rules_deep v_rules_fine) H locs → ∀ ls : Array Slot, lv_has ls 5 [(0, .ref a_this), (1, .int x1), (2, .int x2), (3, .int x3)] → W p l e rX4_fewestMinutes s m av below meth c H locs 0 0 Q (F0 m 4 ls [])) (h : FX4_fewestMinutes_4 x1 v_sights_size v_sights_shown v_sights_drawn v_sights_pull v_rules_deep v_rules_fine k4 x2 x3 = some res) (H : Heap) (locs : List Loc) (hW : HW G A s (wX4_fewestMinutes cI cZ a_this a_shelf a_rules a_sights a_sights_drawn a_sights_pull a_rules_deep a_rules_fine a_rules_pay a_rules_hair v_sights_size v_sights_shown v_rules_flat v_rules_least v_sights_drawn v_sights_pull v_rules_deep v_rules_fine) H locs) (ls : Array Slot) (hl : lv_has ls 5 [(0, .ref a_this), (1, .int x1), (2, .int x2), (3, .int x3)]) : W p l e rX4_fewestMinutes s m av below meth c H locs 0 0 Q (F0 m 4 ls []) := by
  have hx := C.1
  have hb := C.2.1
  unfold FX4_fewestMinutes_4 at h
  refine lv_iload_n hx hb dX4_fewestMinutes_4 rfl (lv_at hl 3 rfl) ?_
  refine lv_aload_n hx hb dX4_fewestMinutes_5 rfl (lv_at hl 0 rfl) ?_
  refine getW C fl_RX4_28 hW 0 rfl rfl dX4_fewestMinutes_6 ?_
  refine getW C fl_RX4_86 hW 1 rfl rfl dX4_fewestMinutes_9 ?_
  refine lv_icmp_ge (tgt := 78) hx hb dX4_fewestMinutes_12 (by decide) (fun c_1 => ?_) (fun c_1 => ?_)
  · have h := ip_h c_1 h
    refine lv_iload_n hx hb dX4_fewestMinutes_78 rfl (lv_at hl 2 rfl) ?_
    obtain rfl := Option.some.inj h
    exact hQ rfl _ _ _ _ dX4_fewestMinutes_79 hW
  · have h := in_h c_1 h
    refine lv_iload_n hx hb dX4_fewestMinutes_15 rfl (lv_at hl 3 rfl) ?_
    refine lv_bipush (v := (8 : Int32)) hx hb dX4_fewestMinutes_16 (by decide) ?_
    refine lv_icmp_ge (tgt := 78) hx hb dX4_fewestMinutes_18 (by decide) (fun c_2 => ?_) (fun c_2 => ?_)
    · have h := ip_h c_2 h
      refine lv_iload_n hx hb dX4_fewestMinutes_78 rfl (lv_at hl 2 rfl) ?_
      obtain rfl := Option.some.inj h
      exact hQ rfl _ _ _ _ dX4_fewestMinutes_79 hW
    · have h := in_h c_2 h
      refine lv_aload_n hx hb dX4_fewestMinutes_21 rfl (lv_at hl 0 rfl) ?_
      refine getW C fl_RX4_28 hW 0 rfl rfl dX4_fewestMinutes_22 ?_
      refine getW C fl_RX4_89 hW 1 rfl rfl dX4_fewestMinutes_25 ?_
      refine lv_iload_n hx hb dX4_fewestMinutes_28 rfl (lv_at hl 3 rfl) ?_
      refine callNI0 C lk_RX4_92 (ctX10_hasBit v_sights_shown x3 rfl) hW hl rfl ⟨rfl, rfl⟩ ⟨(Nat.le_of_ble_eq_true rfl), (Nat.le_of_ble_eq_true rfl)⟩ ⟨Nat.zero_le _, Nat.zero_le _⟩ rfl (Nat.le_of_ble_eq_true rfl) dX4_fewestMinutes_29 (fun H locs hW => ?_)
      refine lv_if_ne (tgt := 72) hx hb dX4_fewestMinutes_32 (by decide) (fun c_3 => ?_) (fun c_3 => ?_)
      · have h := in_h c_3 h
        obtain ⟨v_4, ev_4⟩ : ∃ y : Int32, y = x3 + (1 : Int32) := ⟨_, rfl⟩
        have h := lt_h ev_4 h
        refine lv_iinc (v := v_4) (lv' := [(3, .int v_4), (0, .ref a_this), (1, .int x1), (2, .int x2)]) hx hb dX4_fewestMinutes_72 hl (k := 3) rfl (by rw [ev_4]; rfl) (Nat.le_of_ble_eq_true rfl) rfl (fun ls hl => ?_)
        refine lv_goto (tgt := 4) hx hb dX4_fewestMinutes_75 (by decide) ?_
        exact hk4 x2 v_4 h _ _ hW _ (lv_sub hl [1, 2, 3, 0] rfl)
      · have h := ip_h c_3 h
        refine lv_aload_n hx hb dX4_fewestMinutes_35 rfl (lv_at hl 0 rfl) ?_
        refine getW C fl_RX4_21 hW 0 rfl rfl dX4_fewestMinutes_36 ?_
        refine lv_iload_n hx hb dX4_fewestMinutes_39 rfl (lv_at hl 1 rfl) ?_
        refine lv_aload_n hx hb dX4_fewestMinutes_40 rfl (lv_at hl 0 rfl) ?_
        refine getW C fl_RX4_28 hW 0 rfl rfl dX4_fewestMinutes_41 ?_
        refine getW C fl_RX4_96 hW 1 rfl rfl dX4_fewestMinutes_44 ?_
        refine lv_iload_n hx hb dX4_fewestMinutes_47 rfl (lv_at hl 3 rfl) ?_
        obtain ⟨g_5, h⟩ := gd_h h
        refine ialdW C hW 3 rfl g_5 dX4_fewestMinutes_48 ?_
        refine lv_aload_n hx hb dX4_fewestMinutes_49 rfl (lv_at hl 0 rfl) ?_
        refine getW C fl_RX4_28 hW 0 rfl rfl dX4_fewestMinutes_50 ?_
        refine getW C fl_RX4_99 hW 1 rfl rfl dX4_fewestMinutes_53 ?_
        refine lv_iload_n hx hb dX4_fewestMinutes_56 rfl (lv_at hl 3 rfl) ?_
        refine ialdW C hW 4 rfl g_5 dX4_fewestMinutes_57 ?_
        obtain ⟨v_6, hv_6, h⟩ := bd_h h
        refine callVIr [2, 5, 6] C lk_RX4_102 (ctX5_minutesShowing a_rules a_rules_deep a_rules_fine a_rules_pay a_rules_hair x1 (v_sights_drawn (Int32.toNatClampNeg x3)) (v_sights_pull (Int32.toNatClampNeg x3)) v_rules_flat v_rules_least v_rules_deep v_rules_fine hv_6) hW hl 5 rfl rfl rfl rfl rfl ⟨rfl, rfl⟩ ⟨(Nat.le_of_ble_eq_true rfl), (Nat.le_of_ble_eq_true rfl)⟩ ⟨Nat.zero_le _, Nat.zero_le _⟩ rfl (Nat.le_of_ble_eq_true rfl) dX4_fewestMinutes_58 (fun H locs hW => ?_)
        refine lv_istore (lv' := [(4, .int v_6), (0, .ref a_this), (1, .int x1), (2, .int x2), (3, .int x3)]) hx hb dX4_fewestMinutes_61 hl (Nat.le_of_ble_eq_true rfl) rfl (fun ls hl => ?_)
        refine lv_iload_n hx hb dX4_fewestMinutes_63 rfl (lv_at hl 3 rfl) ?_
        refine lv_iload hx hb dX4_fewestMinutes_64 (lv_at hl 0 rfl) ?_
        refine lv_iconst (v := (1 : Int32)) hx hb dX4_fewestMinutes_66 (by decide) ?_
        refine lv_iadd hx hb dX4_fewestMinutes_67 ?_
        refine maxW C lk_RX4_46 hl (Nat.le_of_ble_eq_true rfl) (Nat.le_of_ble_eq_true rfl) ⟨Nat.zero_le _, Nat.zero_le _⟩ dX4_fewestMinutes_68 ?_
        refine lv_topi (fun v_7 ev_7 => ?_)
        have h := lt_h ev_7 h
        refine lv_istore_n (lv' := [(2, .int v_7), (4, .int v_6), (0, .ref a_this), (1, .int x1), (3, .int x3)]) hx hb dX4_fewestMinutes_71 rfl hl (Nat.le_of_ble_eq_true rfl) rfl (fun ls hl => ?_)
        obtain ⟨v_8, ev_8⟩ : ∃ y : Int32, y = x3 + (1 : Int32) := ⟨_, rfl⟩
        have h := lt_h ev_8 h
        refine lv_iinc (v := v_8) (lv' := [(3, .int v_8), (2, .int v_7), (4, .int v_6), (0, .ref a_this), (1, .int x1)]) hx hb dX4_fewestMinutes_72 hl (k := 4) rfl (by rw [ev_8]; rfl) (Nat.le_of_ble_eq_true rfl) rfl (fun ls hl => ?_)
        refine lv_goto (tgt := 4) hx hb dX4_fewestMinutes_75 (by decide) ?_
        exact hk4 v_7 v_8 h _ _ hW _ (lv_sub hl [3, 4, 1, 0] rfl)
theorem wX4_fewestMinutes_4_ {a_this a_shelf a_rules a_sights a_sights_drawn a_sights_pull a_rules_deep a_rules_fine a_rules_pay a_rules_hair : Nat} (x1 : Int32) (v_sights_size : Int32) (v_sights_shown : Int32) (v_rules_flat : Int32) (v_rules_least : Int32) (v_sights_drawn : Nat → Int32) (v_sights_pull : Nat → Int32) (v_rules_deep : Nat → Int32) (v_rules_fine : Nat → Int32) {res : Int32} (C : Cx p s m av meth c RX4 cX4_fewestMinutes 5 (some .int) G cI cZ cO A) (hQ : RI p l e rX4_fewestMinutes s m av below meth c G A cX4_fewestMinutes .int Q (res) (wX4_fewestMinutes cI cZ a_this a_shelf a_rules a_sights a_sights_drawn a_sights_pull a_rules_deep a_rules_fine a_rules_pay a_rules_hair v_sights_size v_sights_shown v_rules_flat v_rules_least v_sights_drawn v_sights_pull v_rules_deep v_rules_fine)) : ∀ (n : Nat) (x2 : Int32) (x3 : Int32), LX4_fewestMinutes_4 x1 v_sights_size v_sights_shown v_sights_drawn v_sights_pull v_rules_deep v_rules_fine n x2 x3 = some res → ∀ (H : Heap) (locs : List Loc), HW G A s (wX4_fewestMinutes cI cZ a_this a_shelf a_rules a_sights a_sights_drawn a_sights_pull a_rules_deep a_rules_fine a_rules_pay a_rules_hair v_sights_size v_sights_shown v_rules_flat v_rules_least v_sights_drawn v_sights_pull v_rules_deep v_rules_fine) H locs → ∀ ls : Array Slot, lv_has ls 5 [(0, .ref a_this), (1, .int x1), (2, .int x2), (3, .int x3)] → W p l e rX4_fewestMinutes s m av below meth c H locs 0 0 Q (F0 m 4 ls []) := by
  intro n
  induction n with
  | zero => intro x2 x3 h; cases h
  | succ n ih =>
    intro x2 x3 h H locs hW ls hl
    exact uX4_fewestMinutes_4 x1 x2 x3 v_sights_size v_sights_shown v_rules_flat v_rules_least v_sights_drawn v_sights_pull v_rules_deep v_rules_fine C hQ (k4 := LX4_fewestMinutes_4 x1 v_sights_size v_sights_shown v_sights_drawn v_sights_pull v_rules_deep v_rules_fine n) ih h H locs hW ls hl
set_option maxRecDepth 20000 in
theorem uX4_fewestMinutes_0 {a_this a_shelf a_rules a_sights a_sights_drawn a_sights_pull a_rules_deep a_rules_fine a_rules_pay a_rules_hair : Nat} (x1 : Int32) (v_sights_size : Int32) (v_sights_shown : Int32) (v_rules_flat : Int32) (v_rules_least : Int32) (v_sights_drawn : Nat → Int32) (v_sights_pull : Nat → Int32) (v_rules_deep : Nat → Int32) (v_rules_fine : Nat → Int32) {res : Int32} (C : Cx p s m av meth c RX4 cX4_fewestMinutes 5 (some .int) G cI cZ cO A) (hQ : RI p l e rX4_fewestMinutes s m av below meth c G A cX4_fewestMinutes .int Q (res) (wX4_fewestMinutes cI cZ a_this a_shelf a_rules a_sights a_sights_drawn a_sights_pull a_rules_deep a_rules_fine a_rules_pay a_rules_hair v_sights_size v_sights_shown v_rules_flat v_rules_least v_sights_drawn v_sights_pull v_rules_deep v_rules_fine)) (h : fX4_fewestMinutes x1 v_sights_size v_sights_shown v_sights_drawn v_sights_pull v_rules_deep v_rules_fine = some res) (H : Heap) (locs : List Loc) (hW : HW G A s (wX4_fewestMinutes cI cZ a_this a_shelf a_rules a_sights a_sights_drawn a_sights_pull a_rules_deep a_rules_fine a_rules_pay a_rules_hair v_sights_size v_sights_shown v_rules_flat v_rules_least v_sights_drawn v_sights_pull v_rules_deep v_rules_fine) H locs) (ls : Array Slot) (hl : lv_has ls 5 [(0, .ref a_this), (1, .int x1)]) : W p l e rX4_fewestMinutes s m av below meth c H locs 0 0 Q (F0 m 0 ls []) := by
  have hx := C.1
  have hb := C.2.1
  unfold fX4_fewestMinutes at h
  refine lv_iconst (v := (1 : Int32)) hx hb dX4_fewestMinutes_0 (by decide) ?_
  refine lv_istore_n (lv' := [(2, .int (1 : Int32)), (0, .ref a_this), (1, .int x1)]) hx hb dX4_fewestMinutes_1 rfl hl (Nat.le_of_ble_eq_true rfl) rfl (fun ls hl => ?_)
  refine lv_iconst (v := (0 : Int32)) hx hb dX4_fewestMinutes_2 (by decide) ?_
  refine lv_istore_n (lv' := [(3, .int (0 : Int32)), (2, .int (1 : Int32)), (0, .ref a_this), (1, .int x1)]) hx hb dX4_fewestMinutes_3 rfl hl (Nat.le_of_ble_eq_true rfl) rfl (fun ls hl => ?_)
  exact wX4_fewestMinutes_4_ x1 v_sights_size v_sights_shown v_rules_flat v_rules_least v_sights_drawn v_sights_pull v_rules_deep v_rules_fine C hQ 2000 (1 : Int32) (0 : Int32) h _ _ hW _ (lv_sub hl [2, 3, 1, 0] rfl)
theorem ctX4_fewestMinutes {l : Launch} {G : va_G} {cI cZ cO : ClassId} (a_this a_shelf a_rules a_sights a_sights_drawn a_sights_pull a_rules_deep a_rules_fine a_rules_pay a_rules_hair : Nat) (x1 : Int32) (v_sights_size : Int32) (v_sights_shown : Int32) (v_rules_flat : Int32) (v_rules_least : Int32) (v_sights_drawn : Nat → Int32) (v_sights_pull : Nat → Int32) (v_rules_deep : Nat → Int32) (v_rules_fine : Nat → Int32) {res : Int32} (h : fX4_fewestMinutes x1 v_sights_size v_sights_shown v_sights_drawn v_sights_pull v_rules_deep v_rules_fine = some res) : MI l G cI cZ cO yX4_fewestMinutes cX4_fewestMinutes 5 .int rX4_fewestMinutes [.ref a_this, .int x1] (wX4_fewestMinutes cI cZ a_this a_shelf a_rules a_sights a_sights_drawn a_sights_pull a_rules_deep a_rules_fine a_rules_pay a_rules_hair v_sights_size v_sights_shown v_rules_flat v_rules_least v_sights_drawn v_sights_pull v_rules_deep v_rules_fine) (res) (wX4_fewestMinutes cI cZ a_this a_shelf a_rules a_sights a_sights_drawn a_sights_pull a_rules_deep a_rules_fine a_rules_pay a_rules_hair v_sights_size v_sights_shown v_rules_flat v_rules_least v_sights_drawn v_sights_pull v_rules_deep v_rules_fine) := by
  refine MI.of (by decide) (Nat.le_of_ble_eq_true rfl) ?_
  intro p e s m below meth c A Q C hW hQ ls hl
  exact uX4_fewestMinutes_0 x1 v_sights_size v_sights_shown v_rules_flat v_rules_least v_sights_drawn v_sights_pull v_rules_deep v_rules_fine C hQ h _ _ hW _ hl
abbrev wX4_countTwos (cI cZ : ClassId) (a_this a_shelf a_rules a_sights a_sights_drawn a_sights_pull a_rules_deep a_rules_fine a_rules_pay a_rules_hair : Nat) (v_sights_size : Int32) (v_sights_shown : Int32) (v_rules_flat : Int32) (v_rules_least : Int32) (v_sights_drawn : Nat → Int32) (v_sights_pull : Nat → Int32) (v_rules_deep : Nat → Int32) (v_rules_fine : Nat → Int32) : va_W := [(a_this, .inr (4, [.ref a_shelf, .ref a_rules, .ref a_sights])), (a_sights, .inr (7, [.int v_sights_size, .int v_sights_shown, .ref a_sights_drawn, .ref a_sights_pull])), (a_rules, .inr (5, [.int v_rules_flat, .int v_rules_least, .ref a_rules_deep, .ref a_rules_fine, .ref a_rules_pay, .ref a_rules_hair])), (a_sights_drawn, .inl (cI, 8, .inl v_sights_drawn)), (a_sights_pull, .inl (cI, 8, .inl v_sights_pull)), (a_rules_deep, .inl (cI, 8, .inl v_rules_deep)), (a_rules_fine, .inl (cI, 8, .inl v_rules_fine))]
abbrev rX4_countTwos : Room := { frames := 4, cells := 0, slots := 0, locals := 92 }
set_option maxRecDepth 20000 in
theorem uX4_countTwos_0 {a_this a_shelf a_rules a_sights a_sights_drawn a_sights_pull a_rules_deep a_rules_fine a_rules_pay a_rules_hair : Nat} (x1 : Int32) (v_sights_size : Int32) (v_sights_shown : Int32) (v_rules_flat : Int32) (v_rules_least : Int32) (v_sights_drawn : Nat → Int32) (v_sights_pull : Nat → Int32) (v_rules_deep : Nat → Int32) (v_rules_fine : Nat → Int32) {res : Int32} (C : Cx p s m av meth c RX4 cX4_countTwos 2 (some .int) G cI cZ cO A) (hQ : RI p l e rX4_countTwos s m av below meth c G A cX4_countTwos .int Q (res) (wX4_countTwos cI cZ a_this a_shelf a_rules a_sights a_sights_drawn a_sights_pull a_rules_deep a_rules_fine a_rules_pay a_rules_hair v_sights_size v_sights_shown v_rules_flat v_rules_least v_sights_drawn v_sights_pull v_rules_deep v_rules_fine)) (h : fX4_countTwos x1 v_sights_size v_sights_shown v_sights_drawn v_sights_pull v_rules_deep v_rules_fine = some res) (H : Heap) (locs : List Loc) (hW : HW G A s (wX4_countTwos cI cZ a_this a_shelf a_rules a_sights a_sights_drawn a_sights_pull a_rules_deep a_rules_fine a_rules_pay a_rules_hair v_sights_size v_sights_shown v_rules_flat v_rules_least v_sights_drawn v_sights_pull v_rules_deep v_rules_fine) H locs) (ls : Array Slot) (hl : lv_has ls 2 [(0, .ref a_this), (1, .int x1)]) : W p l e rX4_countTwos s m av below meth c H locs 0 0 Q (F0 m 0 ls []) := by
  have hx := C.1
  have hb := C.2.1
  unfold fX4_countTwos at h
  refine lv_iconst (v := (0 : Int32)) hx hb dX4_countTwos_0 (by decide) ?_
  refine lv_aload_n hx hb dX4_countTwos_1 rfl (lv_at hl 0 rfl) ?_
  refine lv_iload_n hx hb dX4_countTwos_2 rfl (lv_at hl 1 rfl) ?_
  obtain ⟨v_1, hv_1, h⟩ := bd_h h
  refine callVIr [0, 1, 2, 3, 4, 5, 6] C lk_RX4_80 (ctX4_mostMinutes a_this a_shelf a_rules a_sights a_sights_drawn a_sights_pull a_rules_deep a_rules_fine a_rules_pay a_rules_hair x1 v_sights_size v_sights_shown v_rules_flat v_rules_least v_sights_drawn v_sights_pull v_rules_deep v_rules_fine hv_1) hW hl 4 rfl rfl rfl rfl rfl ⟨rfl, rfl⟩ ⟨(Nat.le_of_ble_eq_true rfl), (Nat.le_of_ble_eq_true rfl)⟩ ⟨Nat.zero_le _, Nat.zero_le _⟩ rfl (Nat.le_of_ble_eq_true rfl) dX4_countTwos_3 (fun H locs hW => ?_)
  refine lv_aload_n hx hb dX4_countTwos_6 rfl (lv_at hl 0 rfl) ?_
  refine lv_iload_n hx hb dX4_countTwos_7 rfl (lv_at hl 1 rfl) ?_
  obtain ⟨v_2, hv_2, h⟩ := bd_h h
  refine callVIr [0, 1, 2, 3, 4, 5, 6] C lk_RX4_83 (ctX4_fewestMinutes a_this a_shelf a_rules a_sights a_sights_drawn a_sights_pull a_rules_deep a_rules_fine a_rules_pay a_rules_hair x1 v_sights_size v_sights_shown v_rules_flat v_rules_least v_sights_drawn v_sights_pull v_rules_deep v_rules_fine hv_2) hW hl 4 rfl rfl rfl rfl rfl ⟨rfl, rfl⟩ ⟨(Nat.le_of_ble_eq_true rfl), (Nat.le_of_ble_eq_true rfl)⟩ ⟨Nat.zero_le _, Nat.zero_le _⟩ rfl (Nat.le_of_ble_eq_true rfl) dX4_countTwos_8 (fun H locs hW => ?_)
  refine lv_isub hx hb dX4_countTwos_11 ?_
  refine lv_iconst (v := (1 : Int32)) hx hb dX4_countTwos_12 (by decide) ?_
  refine lv_iadd hx hb dX4_countTwos_13 ?_
  refine maxW C lk_RX4_46 hl (Nat.le_of_ble_eq_true rfl) (Nat.le_of_ble_eq_true rfl) ⟨Nat.zero_le _, Nat.zero_le _⟩ dX4_countTwos_14 ?_
  obtain rfl := Option.some.inj h
  exact hQ rfl _ _ _ _ dX4_countTwos_17 hW
theorem ctX4_countTwos {l : Launch} {G : va_G} {cI cZ cO : ClassId} (a_this a_shelf a_rules a_sights a_sights_drawn a_sights_pull a_rules_deep a_rules_fine a_rules_pay a_rules_hair : Nat) (x1 : Int32) (v_sights_size : Int32) (v_sights_shown : Int32) (v_rules_flat : Int32) (v_rules_least : Int32) (v_sights_drawn : Nat → Int32) (v_sights_pull : Nat → Int32) (v_rules_deep : Nat → Int32) (v_rules_fine : Nat → Int32) {res : Int32} (h : fX4_countTwos x1 v_sights_size v_sights_shown v_sights_drawn v_sights_pull v_rules_deep v_rules_fine = some res) : MI l G cI cZ cO yX4_countTwos cX4_countTwos 2 .int rX4_countTwos [.ref a_this, .int x1] (wX4_countTwos cI cZ a_this a_shelf a_rules a_sights a_sights_drawn a_sights_pull a_rules_deep a_rules_fine a_rules_pay a_rules_hair v_sights_size v_sights_shown v_rules_flat v_rules_least v_sights_drawn v_sights_pull v_rules_deep v_rules_fine) (res) (wX4_countTwos cI cZ a_this a_shelf a_rules a_sights a_sights_drawn a_sights_pull a_rules_deep a_rules_fine a_rules_pay a_rules_hair v_sights_size v_sights_shown v_rules_flat v_rules_least v_sights_drawn v_sights_pull v_rules_deep v_rules_fine) := by
  refine MI.of (by decide) (Nat.le_of_ble_eq_true rfl) ?_
  intro p e s m below meth c A Q C hW hQ ls hl
  exact uX4_countTwos_0 x1 v_sights_size v_sights_shown v_rules_flat v_rules_least v_sights_drawn v_sights_pull v_rules_deep v_rules_fine C hQ h _ _ hW _ hl
abbrev wX4_mostLeft (cI cZ : ClassId) (a_this a_shelf a_rules a_sights a_sights_drawn a_sights_pull a_rules_deep a_rules_fine a_rules_pay a_rules_hair : Nat) (v_sights_size : Int32) (v_sights_shown : Int32) (v_rules_flat : Int32) (v_rules_least : Int32) (v_sights_drawn : Nat → Int32) (v_sights_pull : Nat → Int32) (v_rules_deep : Nat → Int32) (v_rules_fine : Nat → Int32) : va_W := [(a_this, .inr (4, [.ref a_shelf, .ref a_rules, .ref a_sights])), (a_sights, .inr (7, [.int v_sights_size, .int v_sights_shown, .ref a_sights_drawn, .ref a_sights_pull])), (a_rules, .inr (5, [.int v_rules_flat, .int v_rules_least, .ref a_rules_deep, .ref a_rules_fine, .ref a_rules_pay, .ref a_rules_hair])), (a_sights_drawn, .inl (cI, 8, .inl v_sights_drawn)), (a_sights_pull, .inl (cI, 8, .inl v_sights_pull)), (a_rules_deep, .inl (cI, 8, .inl v_rules_deep)), (a_rules_fine, .inl (cI, 8, .inl v_rules_fine))]
abbrev rX4_mostLeft : Room := { frames := 5, cells := 0, slots := 0, locals := 113 }
set_option maxRecDepth 20000 in
theorem uX4_mostLeft_8 {a_this a_shelf a_rules a_sights a_sights_drawn a_sights_pull a_rules_deep a_rules_fine a_rules_pay a_rules_hair : Nat} (x1 : Int32) (x2 : Int32) (x3 : Int32) (x4 : Int32) (x5 : Int32) (v_sights_size : Int32) (v_sights_shown : Int32) (v_rules_flat : Int32) (v_rules_least : Int32) (v_sights_drawn : Nat → Int32) (v_sights_pull : Nat → Int32) (v_rules_deep : Nat → Int32) (v_rules_fine : Nat → Int32) {res : Int32} (C : Cx p s m av meth c RX4 cX4_mostLeft 7 (some .int) G cI cZ cO A) (hQ : RI p l e rX4_mostLeft s m av below meth c G A cX4_mostLeft .int Q (res) (wX4_mostLeft cI cZ a_this a_shelf a_rules a_sights a_sights_drawn a_sights_pull a_rules_deep a_rules_fine a_rules_pay a_rules_hair v_sights_size v_sights_shown v_rules_flat v_rules_least v_sights_drawn v_sights_pull v_rules_deep v_rules_fine)) {k8 : (Int32) → (Int32) → (Int32) → Option (Int32)} (hk8 : ∀ (x3 : Int32) (x4 : Int32) (x5 : Int32), k8 x3 x4 x5 = some res → ∀ (H : Heap) (locs : List Loc), HW G A s (wX4_mostLeft cI cZ a_this a_shelf a_rules a_sights a_sights_drawn a_sights_pull a_rules_deep a_rules_fine a_rules_pay a_rules_hair v_sights_size v_sights_shown v_rules_flat v_rules_least v_sights_drawn v_sights_pull v_rules_deep v_rules_fine) H locs → ∀ ls : Array Slot, lv_has ls 7 [(0, .ref a_this), (1, .int x1), (2, .int x2), (3, .int x3), (4, .int x4), (5, .int x5)] → W p l e rX4_mostLeft s m av below meth c H locs 0 0 Q (F0 m 8 ls [])) (h : FX4_mostLeft_8 x1 x2 v_sights_size v_sights_shown v_sights_drawn v_sights_pull v_rules_deep v_rules_fine k8 x3 x4 x5 = some res) (H : Heap) (locs : List Loc) (hW : HW G A s (wX4_mostLeft cI cZ a_this a_shelf a_rules a_sights a_sights_drawn a_sights_pull a_rules_deep a_rules_fine a_rules_pay a_rules_hair v_sights_size v_sights_shown v_rules_flat v_rules_least v_sights_drawn v_sights_pull v_rules_deep v_rules_fine) H locs) (ls : Array Slot) (hl : lv_has ls 7 [(0, .ref a_this), (1, .int x1), (2, .int x2), (3, .int x3), (4, .int x4), (5, .int x5)]) : W p l e rX4_mostLeft s m av below meth c H locs 0 0 Q (F0 m 8 ls []) := by
  have hx := C.1
  have hb := C.2.1
  unfold FX4_mostLeft_8 at h
  refine lv_iload hx hb dX4_mostLeft_8 (lv_at hl 5 rfl) ?_
  refine lv_bipush (v := (8 : Int32)) hx hb dX4_mostLeft_10 (by decide) ?_
  refine lv_icmp_ge (tgt := 72) hx hb dX4_mostLeft_12 (by decide) (fun c_1 => ?_) (fun c_1 => ?_)
  · have h := ip_h c_1 h
    refine lv_iload hx hb dX4_mostLeft_72 (lv_at hl 4 rfl) ?_
    refine lv_iload_n hx hb dX4_mostLeft_74 rfl (lv_at hl 3 rfl) ?_
    refine lv_iload hx hb dX4_mostLeft_75 (lv_at hl 4 rfl) ?_
    refine lv_isub hx hb dX4_mostLeft_77 ?_
    refine maxW C lk_RX4_46 hl (Nat.le_of_ble_eq_true rfl) (Nat.le_of_ble_eq_true rfl) ⟨Nat.zero_le _, Nat.zero_le _⟩ dX4_mostLeft_78 ?_
    obtain rfl := Option.some.inj h
    exact hQ rfl _ _ _ _ dX4_mostLeft_81 hW
  · have h := in_h c_1 h
    refine lv_aload_n hx hb dX4_mostLeft_15 rfl (lv_at hl 0 rfl) ?_
    refine lv_iload hx hb dX4_mostLeft_16 (lv_at hl 5 rfl) ?_
    obtain ⟨v_2, hv_2, h⟩ := bd_h h
    refine callVIr [0, 1, 2, 3, 4, 5, 6] C lk_RX4_80 (ctX4_mostMinutes a_this a_shelf a_rules a_sights a_sights_drawn a_sights_pull a_rules_deep a_rules_fine a_rules_pay a_rules_hair x5 v_sights_size v_sights_shown v_rules_flat v_rules_least v_sights_drawn v_sights_pull v_rules_deep v_rules_fine hv_2) hW hl 4 rfl rfl rfl rfl rfl ⟨rfl, rfl⟩ ⟨(Nat.le_of_ble_eq_true rfl), (Nat.le_of_ble_eq_true rfl)⟩ ⟨Nat.zero_le _, Nat.zero_le _⟩ rfl (Nat.le_of_ble_eq_true rfl) dX4_mostLeft_18 (fun H locs hW => ?_)
    refine lv_aload_n hx hb dX4_mostLeft_21 rfl (lv_at hl 0 rfl) ?_
    refine getW C fl_RX4_21 hW 0 rfl rfl dX4_mostLeft_22 ?_
    refine lv_iload hx hb dX4_mostLeft_25 (lv_at hl 5 rfl) ?_
    refine lv_iload_n hx hb dX4_mostLeft_27 rfl (lv_at hl 1 rfl) ?_
    refine lv_iload_n hx hb dX4_mostLeft_28 rfl (lv_at hl 2 rfl) ?_
    obtain ⟨v_3, hv_3, h⟩ := bd_h h
    refine callVIr [2, 5, 6] C lk_RX4_102 (ctX5_minutesShowing a_rules a_rules_deep a_rules_fine a_rules_pay a_rules_hair x5 x1 x2 v_rules_flat v_rules_least v_rules_deep v_rules_fine hv_3) hW hl 5 rfl rfl rfl rfl rfl ⟨rfl, rfl⟩ ⟨(Nat.le_of_ble_eq_true rfl), (Nat.le_of_ble_eq_true rfl)⟩ ⟨Nat.zero_le _, Nat.zero_le _⟩ rfl (Nat.le_of_ble_eq_true rfl) dX4_mostLeft_29 (fun H locs hW => ?_)
    refine minW C lk_RX4_106 hl (Nat.le_of_ble_eq_true rfl) (Nat.le_of_ble_eq_true rfl) ⟨Nat.zero_le _, Nat.zero_le _⟩ dX4_mostLeft_32 ?_
    refine lv_topi (fun v_4 ev_4 => ?_)
    have h := lt_h ev_4 h
    refine lv_istore (lv' := [(6, .int v_4), (0, .ref a_this), (1, .int x1), (2, .int x2), (3, .int x3), (4, .int x4), (5, .int x5)]) hx hb dX4_mostLeft_35 hl (Nat.le_of_ble_eq_true rfl) rfl (fun ls hl => ?_)
    refine lv_iload_n hx hb dX4_mostLeft_37 rfl (lv_at hl 4 rfl) ?_
    refine lv_aload_n hx hb dX4_mostLeft_38 rfl (lv_at hl 1 rfl) ?_
    refine lv_iload hx hb dX4_mostLeft_39 (lv_at hl 6 rfl) ?_
    obtain ⟨v_5, hv_5, h⟩ := bd_h h
    refine callVIr [0, 1, 2, 3, 4, 5, 6] C lk_RX4_109 (ctX4_countTwos a_this a_shelf a_rules a_sights a_sights_drawn a_sights_pull a_rules_deep a_rules_fine a_rules_pay a_rules_hair x5 v_sights_size v_sights_shown v_rules_flat v_rules_least v_sights_drawn v_sights_pull v_rules_deep v_rules_fine hv_5) hW hl 4 rfl rfl rfl rfl rfl ⟨rfl, rfl⟩ ⟨(Nat.le_of_ble_eq_true rfl), (Nat.le_of_ble_eq_true rfl)⟩ ⟨Nat.zero_le _, Nat.zero_le _⟩ rfl (Nat.le_of_ble_eq_true rfl) dX4_mostLeft_41 (fun H locs hW => ?_)
    refine lv_iadd hx hb dX4_mostLeft_44 ?_
    refine lv_topi (fun v_6 ev_6 => ?_)
    have h := lt_h ev_6 h
    refine lv_istore_n (lv' := [(3, .int v_6), (6, .int v_4), (0, .ref a_this), (1, .int x1), (2, .int x2), (4, .int x4), (5, .int x5)]) hx hb dX4_mostLeft_45 rfl hl (Nat.le_of_ble_eq_true rfl) rfl (fun ls hl => ?_)
    refine lv_iload hx hb dX4_mostLeft_46 (lv_at hl 5 rfl) ?_
    refine lv_iconst (v := (0 : Int32)) hx hb dX4_mostLeft_48 (by decide) ?_
    refine lv_iload hx hb dX4_mostLeft_49 (lv_at hl 1 rfl) ?_
    refine lv_aload_n hx hb dX4_mostLeft_51 rfl (lv_at hl 2 rfl) ?_
    refine lv_iload hx hb dX4_mostLeft_52 (lv_at hl 6 rfl) ?_
    obtain ⟨v_7, hv_7, h⟩ := bd_h h
    refine callVIr [0, 1, 2, 3, 4, 5, 6] C lk_RX4_83 (ctX4_fewestMinutes a_this a_shelf a_rules a_sights a_sights_drawn a_sights_pull a_rules_deep a_rules_fine a_rules_pay a_rules_hair x5 v_sights_size v_sights_shown v_rules_flat v_rules_least v_sights_drawn v_sights_pull v_rules_deep v_rules_fine hv_7) hW hl 4 rfl rfl rfl rfl rfl ⟨rfl, rfl⟩ ⟨(Nat.le_of_ble_eq_true rfl), (Nat.le_of_ble_eq_true rfl)⟩ ⟨Nat.zero_le _, Nat.zero_le _⟩ rfl (Nat.le_of_ble_eq_true rfl) dX4_mostLeft_54 (fun H locs hW => ?_)
    refine lv_isub hx hb dX4_mostLeft_57 ?_
    refine lv_iconst (v := (1 : Int32)) hx hb dX4_mostLeft_58 (by decide) ?_
    refine lv_iadd hx hb dX4_mostLeft_59 ?_
    refine maxW C lk_RX4_46 hl (Nat.le_of_ble_eq_true rfl) (Nat.le_of_ble_eq_true rfl) ⟨Nat.zero_le _, Nat.zero_le _⟩ dX4_mostLeft_60 ?_
    refine lv_iadd hx hb dX4_mostLeft_63 ?_
    refine lv_topi (fun v_8 ev_8 => ?_)
    have h := lt_h ev_8 h
    refine lv_istore (lv' := [(4, .int v_8), (3, .int v_6), (6, .int v_4), (0, .ref a_this), (1, .int x1), (2, .int x2), (5, .int x5)]) hx hb dX4_mostLeft_64 hl (Nat.le_of_ble_eq_true rfl) rfl (fun ls hl => ?_)
    obtain ⟨v_9, ev_9⟩ : ∃ y : Int32, y = x5 + (1 : Int32) := ⟨_, rfl⟩
    have h := lt_h ev_9 h
    refine lv_iinc (v := v_9) (lv' := [(5, .int v_9), (4, .int v_8), (3, .int v_6), (6, .int v_4), (0, .ref a_this), (1, .int x1), (2, .int x2)]) hx hb dX4_mostLeft_66 hl (k := 6) rfl (by rw [ev_9]; rfl) (Nat.le_of_ble_eq_true rfl) rfl (fun ls hl => ?_)
    refine lv_goto (tgt := 8) hx hb dX4_mostLeft_69 (by decide) ?_
    exact hk8 v_6 v_8 v_9 h _ _ hW _ (lv_sub hl [4, 5, 6, 2, 1, 0] rfl)
theorem wX4_mostLeft_8_ {a_this a_shelf a_rules a_sights a_sights_drawn a_sights_pull a_rules_deep a_rules_fine a_rules_pay a_rules_hair : Nat} (x1 : Int32) (x2 : Int32) (v_sights_size : Int32) (v_sights_shown : Int32) (v_rules_flat : Int32) (v_rules_least : Int32) (v_sights_drawn : Nat → Int32) (v_sights_pull : Nat → Int32) (v_rules_deep : Nat → Int32) (v_rules_fine : Nat → Int32) {res : Int32} (C : Cx p s m av meth c RX4 cX4_mostLeft 7 (some .int) G cI cZ cO A) (hQ : RI p l e rX4_mostLeft s m av below meth c G A cX4_mostLeft .int Q (res) (wX4_mostLeft cI cZ a_this a_shelf a_rules a_sights a_sights_drawn a_sights_pull a_rules_deep a_rules_fine a_rules_pay a_rules_hair v_sights_size v_sights_shown v_rules_flat v_rules_least v_sights_drawn v_sights_pull v_rules_deep v_rules_fine)) : ∀ (n : Nat) (x3 : Int32) (x4 : Int32) (x5 : Int32), LX4_mostLeft_8 x1 x2 v_sights_size v_sights_shown v_sights_drawn v_sights_pull v_rules_deep v_rules_fine n x3 x4 x5 = some res → ∀ (H : Heap) (locs : List Loc), HW G A s (wX4_mostLeft cI cZ a_this a_shelf a_rules a_sights a_sights_drawn a_sights_pull a_rules_deep a_rules_fine a_rules_pay a_rules_hair v_sights_size v_sights_shown v_rules_flat v_rules_least v_sights_drawn v_sights_pull v_rules_deep v_rules_fine) H locs → ∀ ls : Array Slot, lv_has ls 7 [(0, .ref a_this), (1, .int x1), (2, .int x2), (3, .int x3), (4, .int x4), (5, .int x5)] → W p l e rX4_mostLeft s m av below meth c H locs 0 0 Q (F0 m 8 ls []) := by
  intro n
  induction n with
  | zero => intro x3 x4 x5 h; cases h
  | succ n ih =>
    intro x3 x4 x5 h H locs hW ls hl
    exact uX4_mostLeft_8 x1 x2 x3 x4 x5 v_sights_size v_sights_shown v_rules_flat v_rules_least v_sights_drawn v_sights_pull v_rules_deep v_rules_fine C hQ (k8 := LX4_mostLeft_8 x1 x2 v_sights_size v_sights_shown v_sights_drawn v_sights_pull v_rules_deep v_rules_fine n) ih h H locs hW ls hl
set_option maxRecDepth 20000 in
theorem uX4_mostLeft_0 {a_this a_shelf a_rules a_sights a_sights_drawn a_sights_pull a_rules_deep a_rules_fine a_rules_pay a_rules_hair : Nat} (x1 : Int32) (x2 : Int32) (v_sights_size : Int32) (v_sights_shown : Int32) (v_rules_flat : Int32) (v_rules_least : Int32) (v_sights_drawn : Nat → Int32) (v_sights_pull : Nat → Int32) (v_rules_deep : Nat → Int32) (v_rules_fine : Nat → Int32) {res : Int32} (C : Cx p s m av meth c RX4 cX4_mostLeft 7 (some .int) G cI cZ cO A) (hQ : RI p l e rX4_mostLeft s m av below meth c G A cX4_mostLeft .int Q (res) (wX4_mostLeft cI cZ a_this a_shelf a_rules a_sights a_sights_drawn a_sights_pull a_rules_deep a_rules_fine a_rules_pay a_rules_hair v_sights_size v_sights_shown v_rules_flat v_rules_least v_sights_drawn v_sights_pull v_rules_deep v_rules_fine)) (h : fX4_mostLeft x1 x2 v_sights_size v_sights_shown v_sights_drawn v_sights_pull v_rules_deep v_rules_fine = some res) (H : Heap) (locs : List Loc) (hW : HW G A s (wX4_mostLeft cI cZ a_this a_shelf a_rules a_sights a_sights_drawn a_sights_pull a_rules_deep a_rules_fine a_rules_pay a_rules_hair v_sights_size v_sights_shown v_rules_flat v_rules_least v_sights_drawn v_sights_pull v_rules_deep v_rules_fine) H locs) (ls : Array Slot) (hl : lv_has ls 7 [(0, .ref a_this), (1, .int x1), (2, .int x2)]) : W p l e rX4_mostLeft s m av below meth c H locs 0 0 Q (F0 m 0 ls []) := by
  have hx := C.1
  have hb := C.2.1
  unfold fX4_mostLeft at h
  refine lv_iconst (v := (0 : Int32)) hx hb dX4_mostLeft_0 (by decide) ?_
  refine lv_istore_n (lv' := [(3, .int (0 : Int32)), (0, .ref a_this), (1, .int x1), (2, .int x2)]) hx hb dX4_mostLeft_1 rfl hl (Nat.le_of_ble_eq_true rfl) rfl (fun ls hl => ?_)
  refine lv_iconst (v := (0 : Int32)) hx hb dX4_mostLeft_2 (by decide) ?_
  refine lv_istore (lv' := [(4, .int (0 : Int32)), (3, .int (0 : Int32)), (0, .ref a_this), (1, .int x1), (2, .int x2)]) hx hb dX4_mostLeft_3 hl (Nat.le_of_ble_eq_true rfl) rfl (fun ls hl => ?_)
  refine lv_iconst (v := (0 : Int32)) hx hb dX4_mostLeft_5 (by decide) ?_
  refine lv_istore (lv' := [(5, .int (0 : Int32)), (4, .int (0 : Int32)), (3, .int (0 : Int32)), (0, .ref a_this), (1, .int x1), (2, .int x2)]) hx hb dX4_mostLeft_6 hl (Nat.le_of_ble_eq_true rfl) rfl (fun ls hl => ?_)
  exact wX4_mostLeft_8_ x1 x2 v_sights_size v_sights_shown v_rules_flat v_rules_least v_sights_drawn v_sights_pull v_rules_deep v_rules_fine C hQ 2000 (0 : Int32) (0 : Int32) (0 : Int32) h _ _ hW _ (lv_sub hl [3, 4, 5, 2, 1, 0] rfl)
theorem ctX4_mostLeft {l : Launch} {G : va_G} {cI cZ cO : ClassId} (a_this a_shelf a_rules a_sights a_sights_drawn a_sights_pull a_rules_deep a_rules_fine a_rules_pay a_rules_hair : Nat) (x1 : Int32) (x2 : Int32) (v_sights_size : Int32) (v_sights_shown : Int32) (v_rules_flat : Int32) (v_rules_least : Int32) (v_sights_drawn : Nat → Int32) (v_sights_pull : Nat → Int32) (v_rules_deep : Nat → Int32) (v_rules_fine : Nat → Int32) {res : Int32} (h : fX4_mostLeft x1 x2 v_sights_size v_sights_shown v_sights_drawn v_sights_pull v_rules_deep v_rules_fine = some res) : MI l G cI cZ cO yX4_mostLeft cX4_mostLeft 7 .int rX4_mostLeft [.ref a_this, .int x1, .int x2] (wX4_mostLeft cI cZ a_this a_shelf a_rules a_sights a_sights_drawn a_sights_pull a_rules_deep a_rules_fine a_rules_pay a_rules_hair v_sights_size v_sights_shown v_rules_flat v_rules_least v_sights_drawn v_sights_pull v_rules_deep v_rules_fine) (res) (wX4_mostLeft cI cZ a_this a_shelf a_rules a_sights a_sights_drawn a_sights_pull a_rules_deep a_rules_fine a_rules_pay a_rules_hair v_sights_size v_sights_shown v_rules_flat v_rules_least v_sights_drawn v_sights_pull v_rules_deep v_rules_fine) := by
  refine MI.of (by decide) (Nat.le_of_ble_eq_true rfl) ?_
  intro p e s m below meth c A Q C hW hQ ls hl
  exact uX4_mostLeft_0 x1 x2 v_sights_size v_sights_shown v_rules_flat v_rules_least v_sights_drawn v_sights_pull v_rules_deep v_rules_fine C hQ h _ _ hW _ hl
abbrev wX5_tell (cI cZ : ClassId) (a_this a_deep a_fine a_pay a_hair : Nat) (v_flat : Int32) (v_least : Int32) (v_pay : Nat → Int32) (v_fine : Nat → Int32) (v_deep : Nat → Int32) : va_W := [(a_this, .inr (5, [.int v_flat, .int v_least, .ref a_deep, .ref a_fine, .ref a_pay, .ref a_hair])), (a_pay, .inl (cI, 8, .inl v_pay)), (a_fine, .inl (cI, 8, .inl v_fine)), (a_deep, .inl (cI, 8, .inl v_deep))]
abbrev rX5_tell : Room := { frames := 1, cells := 0, slots := 0, locals := 22 }
set_option maxRecDepth 20000 in
theorem uX5_tell_0 {a_this a_deep a_fine a_pay a_hair : Nat} (x1 : Int32) (x2 : Int32) (v_flat : Int32) (v_least : Int32) (v_pay : Nat → Int32) (v_fine : Nat → Int32) (v_deep : Nat → Int32) {res : Int32} (C : Cx p s m av meth c RX5 cX5_tell 3 (some .int) G cI cZ cO A) (hQ : RI p l e rX5_tell s m av below meth c G A cX5_tell .int Q (res) (wX5_tell cI cZ a_this a_deep a_fine a_pay a_hair v_flat v_least v_pay v_fine v_deep)) (h : fX5_tell x1 x2 v_pay v_fine v_deep = some res) (H : Heap) (locs : List Loc) (hW : HW G A s (wX5_tell cI cZ a_this a_deep a_fine a_pay a_hair v_flat v_least v_pay v_fine v_deep) H locs) (ls : Array Slot) (hl : lv_has ls 3 [(0, .ref a_this), (1, .int x1), (2, .int x2)]) : W p l e rX5_tell s m av below meth c H locs 0 0 Q (F0 m 0 ls []) := by
  have hx := C.1
  have hb := C.2.1
  unfold fX5_tell at h
  refine lv_iload_n hx hb dX5_tell_0 rfl (lv_at hl 1 rfl) ?_
  refine lv_iconst (v := (0 : Int32)) hx hb dX5_tell_1 (by decide) ?_
  refine lv_bipush (v := (7 : Int32)) hx hb dX5_tell_2 (by decide) ?_
  refine callNI0 C lk_RX5_37 (ctX10_inside x1 (0 : Int32) (7 : Int32) rfl) hW hl rfl ⟨rfl, rfl⟩ ⟨(Nat.le_of_ble_eq_true rfl), (Nat.le_of_ble_eq_true rfl)⟩ ⟨Nat.zero_le _, Nat.zero_le _⟩ rfl (Nat.le_of_ble_eq_true rfl) dX5_tell_4 (fun H locs hW => ?_)
  refine lv_if_ne (tgt := 13) hx hb dX5_tell_7 (by decide) (fun c_1 => ?_) (fun c_1 => ?_)
  · have h := in_h c_1 h
    refine lv_iload_n hx hb dX5_tell_13 rfl (lv_at hl 2 rfl) ?_
    by_cases c_2 : x2 = (0 : Int32)
    · have h := ip_h c_2 h
      refine lv_tableIn (off := 26) (tgt := 40) hx hb dX5_tell_14 (by rw [c_2]; decide) (by rw [c_2]; decide) (by rw [c_2]; rfl) (by decide) ?_
      refine lv_aload_n hx hb dX5_tell_40 rfl (lv_at hl 0 rfl) ?_
      refine getW C fl_RX5_18 hW 0 rfl rfl dX5_tell_41 ?_
      refine lv_iload_n hx hb dX5_tell_44 rfl (lv_at hl 1 rfl) ?_
      obtain ⟨g_3, h⟩ := gd_h h
      refine ialdW C hW 3 rfl g_3 dX5_tell_45 ?_
      obtain rfl := Option.some.inj h
      exact hQ rfl _ _ _ _ dX5_tell_46 hW
    · have h := in_h c_2 h
      by_cases c_4 : x2 = (1 : Int32)
      · have h := ip_h c_4 h
        refine lv_tableIn (off := 33) (tgt := 47) hx hb dX5_tell_14 (by rw [c_4]; decide) (by rw [c_4]; decide) (by rw [c_4]; rfl) (by decide) ?_
        refine lv_aload_n hx hb dX5_tell_47 rfl (lv_at hl 0 rfl) ?_
        refine getW C fl_RX5_22 hW 0 rfl rfl dX5_tell_48 ?_
        refine lv_iload_n hx hb dX5_tell_51 rfl (lv_at hl 1 rfl) ?_
        obtain ⟨g_5, h⟩ := gd_h h
        refine ialdW C hW 2 rfl g_5 dX5_tell_52 ?_
        obtain rfl := Option.some.inj h
        exact hQ rfl _ _ _ _ dX5_tell_53 hW
      · have h := in_h c_4 h
        by_cases c_6 : x2 = (2 : Int32)
        · have h := ip_h c_6 h
          refine lv_tableIn (off := 40) (tgt := 54) hx hb dX5_tell_14 (by rw [c_6]; decide) (by rw [c_6]; decide) (by rw [c_6]; rfl) (by decide) ?_
          refine lv_aload_n hx hb dX5_tell_54 rfl (lv_at hl 0 rfl) ?_
          refine getW C fl_RX5_25 hW 0 rfl rfl dX5_tell_55 ?_
          refine lv_iload_n hx hb dX5_tell_58 rfl (lv_at hl 1 rfl) ?_
          obtain ⟨g_7, h⟩ := gd_h h
          refine ialdW C hW 1 rfl g_7 dX5_tell_59 ?_
          obtain rfl := Option.some.inj h
          exact hQ rfl _ _ _ _ dX5_tell_60 hW
        · have h := in_h c_6 h
          refine lv_tableOut (tgt := 61) hx hb dX5_tell_14 (by have t0 := ne_ti (j := 0) (by decide) c_2; have t1 := ne_ti (j := 1) (by decide) c_4; have t2 := ne_ti (j := 2) (by decide) c_6; omega) (by decide) ?_
          refine lv_bipush (v := (-2 : Int32)) hx hb dX5_tell_61 (by decide) ?_
          obtain rfl := Option.some.inj h
          exact hQ rfl _ _ _ _ dX5_tell_63 hW
  · have h := ip_h c_1 h
    refine lv_bipush (v := (-2 : Int32)) hx hb dX5_tell_10 (by decide) ?_
    obtain rfl := Option.some.inj h
    exact hQ rfl _ _ _ _ dX5_tell_12 hW
theorem ctX5_tell {l : Launch} {G : va_G} {cI cZ cO : ClassId} (a_this a_deep a_fine a_pay a_hair : Nat) (x1 : Int32) (x2 : Int32) (v_flat : Int32) (v_least : Int32) (v_pay : Nat → Int32) (v_fine : Nat → Int32) (v_deep : Nat → Int32) {res : Int32} (h : fX5_tell x1 x2 v_pay v_fine v_deep = some res) : MI l G cI cZ cO yX5_tell cX5_tell 3 .int rX5_tell [.ref a_this, .int x1, .int x2] (wX5_tell cI cZ a_this a_deep a_fine a_pay a_hair v_flat v_least v_pay v_fine v_deep) (res) (wX5_tell cI cZ a_this a_deep a_fine a_pay a_hair v_flat v_least v_pay v_fine v_deep) := by
  refine MI.of (by decide) (Nat.le_of_ble_eq_true rfl) ?_
  intro p e s m below meth c A Q C hW hQ ls hl
  exact uX5_tell_0 x1 x2 v_flat v_least v_pay v_fine v_deep C hQ h _ _ hW _ hl
abbrev wX6_count (cI cZ : ClassId) (a_this a_thick a_hollow a_damp a_fresh a_pulls a_fats : Nat) (v_there : Int32) : va_W := [(a_this, .inr (6, [.int v_there, .ref a_thick, .ref a_hollow, .ref a_damp, .ref a_fresh, .ref a_pulls, .ref a_fats]))]
abbrev rX6_count : Room := { frames := 1, cells := 0, slots := 0, locals := 20 }
set_option maxRecDepth 20000 in
theorem uX6_count_0 {a_this a_thick a_hollow a_damp a_fresh a_pulls a_fats : Nat} (v_there : Int32) {res : Int32} (C : Cx p s m av meth c RX6 cX6_count 1 (some .int) G cI cZ cO A) (hQ : RI p l e rX6_count s m av below meth c G A cX6_count .int Q (res) (wX6_count cI cZ a_this a_thick a_hollow a_damp a_fresh a_pulls a_fats v_there)) (h : fX6_count v_there = res) (H : Heap) (locs : List Loc) (hW : HW G A s (wX6_count cI cZ a_this a_thick a_hollow a_damp a_fresh a_pulls a_fats v_there) H locs) (ls : Array Slot) (hl : lv_has ls 1 [(0, .ref a_this)]) : W p l e rX6_count s m av below meth c H locs 0 0 Q (F0 m 0 ls []) := by
  have hx := C.1
  have hb := C.2.1
  unfold fX6_count at h
  refine lv_aload_n hx hb dX6_count_0 rfl (lv_at hl 0 rfl) ?_
  refine getW C fl_RX6_30 hW 0 rfl rfl dX6_count_1 ?_
  refine callSI0 C lk_RX6_34 (ctJ6_bitCount_0f7a4 v_there rfl) hW hl rfl ⟨rfl, rfl⟩ ⟨(Nat.le_of_ble_eq_true rfl), (Nat.le_of_ble_eq_true rfl)⟩ ⟨Nat.zero_le _, Nat.zero_le _⟩ rfl (Nat.le_of_ble_eq_true rfl) dX6_count_4 (fun H locs hW => ?_)
  subst h
  exact hQ rfl _ _ _ _ dX6_count_7 hW
theorem ctX6_count {l : Launch} {G : va_G} {cI cZ cO : ClassId} (a_this a_thick a_hollow a_damp a_fresh a_pulls a_fats : Nat) (v_there : Int32) {res : Int32} (h : fX6_count v_there = res) : MI l G cI cZ cO yX6_count cX6_count 1 .int rX6_count [.ref a_this] (wX6_count cI cZ a_this a_thick a_hollow a_damp a_fresh a_pulls a_fats v_there) (res) (wX6_count cI cZ a_this a_thick a_hollow a_damp a_fresh a_pulls a_fats v_there) := by
  refine MI.of (by decide) (Nat.le_of_ble_eq_true rfl) ?_
  intro p e s m below meth c A Q C hW hQ ls hl
  exact uX6_count_0 v_there C hQ h _ _ hW _ hl
