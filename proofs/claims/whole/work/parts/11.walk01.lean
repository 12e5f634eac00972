variable {p : Program} {l : Launch} {e : Env} {s : State} {m : MethodId} {av : Array Value} {below : List Frame} {meth : Method} {c : Code} {Q : State → Prop} {G : va_G} {cI cZ cO : ClassId} {A : Nat → Prop}
abbrev wX6_countFresh (cI cZ : ClassId) (a_this a_thick a_hollow a_damp a_fresh a_pulls a_fats : Nat) (v_there : Int32) (v_fresh : Nat → Int32) : va_W := [(a_this, .inr (6, [.int v_there, .ref a_thick, .ref a_hollow, .ref a_damp, .ref a_fresh, .ref a_pulls, .ref a_fats])), (a_fresh, .inl (cI, 5, .inl v_fresh))]
abbrev rX6_countFresh : Room := { frames := 1, cells := 0, slots := 0, locals := 21 }
set_option maxRecDepth 20000 in
theorem uX6_countFresh_4 {a_this a_thick a_hollow a_damp a_fresh a_pulls a_fats : Nat} (x1 : Int32) (x2 : Int32) (v_there : Int32) (v_fresh : Nat → Int32) {res : Int32} (C : Cx p s m av meth c RX6 cX6_countFresh 3 (some .int) G cI cZ cO A) (hQ : RI p l e rX6_countFresh s m av below meth c G A cX6_countFresh .int Q (res) (wX6_countFresh cI cZ a_this a_thick a_hollow a_damp a_fresh a_pulls a_fats v_there v_fresh)) {k4 : (Int32) → (Int32) → Option (Int32)} (hk4 : ∀ (x1 : Int32) (x2 : Int32), k4 x1 x2 = some res → ∀ (H : Heap) (locs : List Loc), HW G A s (wX6_countFresh cI cZ a_this a_thick a_hollow a_damp a_fresh a_pulls a_fats v_there v_fresh) H locs → ∀ ls : Array Slot, lv_has ls 3 [(0, .ref a_this), (1, .int x1), (2, .int x2)] → W p l e rX6_countFresh s m av below meth c H locs 0 0 Q (F0 m 4 ls [])) (h : FX6_countFresh_4 v_there v_fresh k4 x1 x2 = some res) (H : Heap) (locs : List Loc) (hW : HW G A s (wX6_countFresh cI cZ a_this a_thick a_hollow a_damp a_fresh a_pulls a_fats v_there v_fresh) H locs) (ls : Array Slot) (hl : lv_has ls 3 [(0, .ref a_this), (1, .int x1), (2, .int x2)]) : W p l e rX6_countFresh s m av below meth c H locs 0 0 Q (F0 m 4 ls []) := by
  have hx := C.1
  have hb := C.2.1
  unfold FX6_countFresh_4 at h
  refine lv_iload_n hx hb dX6_countFresh_4 rfl (lv_at hl 2 rfl) ?_
  refine lv_iconst (v := (5 : Int32)) hx hb dX6_countFresh_5 (by decide) ?_
  refine lv_icmp_ge (tgt := 37) hx hb dX6_countFresh_6 (by decide) (fun c_1 => ?_) (fun c_1 => ?_)
  · have h := ip_h c_1 h
    refine lv_iload_n hx hb dX6_countFresh_37 rfl (lv_at hl 1 rfl) ?_
    obtain rfl := Option.some.inj h
    exact hQ rfl _ _ _ _ dX6_countFresh_38 hW
  · have h := in_h c_1 h
    refine lv_aload_n hx hb dX6_countFresh_9 rfl (lv_at hl 0 rfl) ?_
    refine lv_iload_n hx hb dX6_countFresh_10 rfl (lv_at hl 2 rfl) ?_
    refine callVIr [0] C lk_RX6_40 (ctX6_has a_this a_thick a_hollow a_damp a_fresh a_pulls a_fats x2 v_there rfl) hW hl 6 rfl rfl rfl rfl rfl ⟨rfl, rfl⟩ ⟨(Nat.le_of_ble_eq_true rfl), (Nat.le_of_ble_eq_true rfl)⟩ ⟨Nat.zero_le _, Nat.zero_le _⟩ rfl (Nat.le_of_ble_eq_true rfl) dX6_countFresh_11 (fun H locs hW => ?_)
    refine lv_if_eq (tgt := 31) hx hb dX6_countFresh_14 (by decide) (fun c_2 => ?_) (fun c_2 => ?_)
    · have h := ip_h c_2 h
      obtain ⟨v_3, ev_3⟩ : ∃ y : Int32, y = x2 + (1 : Int32) := ⟨_, rfl⟩
      have h := lt_h ev_3 h
      refine lv_iinc (v := v_3) (lv' := [(2, .int v_3), (0, .ref a_this), (1, .int x1)]) hx hb dX6_countFresh_31 hl (k := 2) rfl (by rw [ev_3]; rfl) (Nat.le_of_ble_eq_true rfl) rfl (fun ls hl => ?_)
      refine lv_goto (tgt := 4) hx hb dX6_countFresh_34 (by decide) ?_
      exact hk4 x1 v_3 h _ _ hW _ (lv_sub hl [1, 2, 0] rfl)
    · have h := in_h c_2 h
      refine lv_aload_n hx hb dX6_countFresh_17 rfl (lv_at hl 0 rfl) ?_
      refine getW C fl_RX6_21 hW 0 rfl rfl dX6_countFresh_18 ?_
      refine lv_iload_n hx hb dX6_countFresh_21 rfl (lv_at hl 2 rfl) ?_
      obtain ⟨g_4, h⟩ := gd_h h
      refine ialdW C hW 1 rfl g_4 dX6_countFresh_22 ?_
      refine lv_bipush (v := (-6 : Int32)) hx hb dX6_countFresh_23 (by decide) ?_
      refine lv_icmp_eq (tgt := 31) hx hb dX6_countFresh_25 (by decide) (fun c_5 => ?_) (fun c_5 => ?_)
      · have h := ip_h c_5 h
        obtain ⟨v_6, ev_6⟩ : ∃ y : Int32, y = x2 + (1 : Int32) := ⟨_, rfl⟩
        have h := lt_h ev_6 h
        refine lv_iinc (v := v_6) (lv' := [(2, .int v_6), (0, .ref a_this), (1, .int x1)]) hx hb dX6_countFresh_31 hl (k := 2) rfl (by rw [ev_6]; rfl) (Nat.le_of_ble_eq_true rfl) rfl (fun ls hl => ?_)
        refine lv_goto (tgt := 4) hx hb dX6_countFresh_34 (by decide) ?_
        exact hk4 x1 v_6 h _ _ hW _ (lv_sub hl [1, 2, 0] rfl)
      · have h := in_h c_5 h
        obtain ⟨v_7, ev_7⟩ : ∃ y : Int32, y = x1 + (1 : Int32) := ⟨_, rfl⟩
        have h := lt_h ev_7 h
        refine lv_iinc (v := v_7) (lv' := [(1, .int v_7), (0, .ref a_this), (2, .int x2)]) hx hb dX6_countFresh_28 hl (k := 1) rfl (by rw [ev_7]; rfl) (Nat.le_of_ble_eq_true rfl) rfl (fun ls hl => ?_)
        obtain ⟨v_8, ev_8⟩ : ∃ y : Int32, y = x2 + (1 : Int32) := ⟨_, rfl⟩
        have h := lt_h ev_8 h
        refine lv_iinc (v := v_8) (lv' := [(2, .int v_8), (1, .int v_7), (0, .ref a_this)]) hx hb dX6_countFresh_31 hl (k := 2) rfl (by rw [ev_8]; rfl) (Nat.le_of_ble_eq_true rfl) rfl (fun ls hl => ?_)
        refine lv_goto (tgt := 4) hx hb dX6_countFresh_34 (by decide) ?_
        exact hk4 v_7 v_8 h _ _ hW _ (lv_sub hl [2, 1, 0] rfl)
theorem wX6_countFresh_4_ {a_this a_thick a_hollow a_damp a_fresh a_pulls a_fats : Nat} (v_there : Int32) (v_fresh : Nat → Int32) {res : Int32} (C : Cx p s m av meth c RX6 cX6_countFresh 3 (some .int) G cI cZ cO A) (hQ : RI p l e rX6_countFresh s m av below meth c G A cX6_countFresh .int Q (res) (wX6_countFresh cI cZ a_this a_thick a_hollow a_damp a_fresh a_pulls a_fats v_there v_fresh)) : ∀ (n : Nat) (x1 : Int32) (x2 : Int32), LX6_countFresh_4 v_there v_fresh n x1 x2 = some res → ∀ (H : Heap) (locs : List Loc), HW G A s (wX6_countFresh cI cZ a_this a_thick a_hollow a_damp a_fresh a_pulls a_fats v_there v_fresh) H locs → ∀ ls : Array Slot, lv_has ls 3 [(0, .ref a_this), (1, .int x1), (2, .int x2)] → W p l e rX6_countFresh s m av below meth c H locs 0 0 Q (F0 m 4 ls []) := by
  intro n
  induction n with
  | zero => intro x1 x2 h; cases h
  | succ n ih =>
    intro x1 x2 h H locs hW ls hl
    exact uX6_countFresh_4 x1 x2 v_there v_fresh C hQ (k4 := LX6_countFresh_4 v_there v_fresh n) ih h H locs hW ls hl
set_option maxRecDepth 20000 in
theorem uX6_countFresh_0 {a_this a_thick a_hollow a_damp a_fresh a_pulls a_fats : Nat} (v_there : Int32) (v_fresh : Nat → Int32) {res : Int32} (C : Cx p s m av meth c RX6 cX6_countFresh 3 (some .int) G cI cZ cO A) (hQ : RI p l e rX6_countFresh s m av below meth c G A cX6_countFresh .int Q (res) (wX6_countFresh cI cZ a_this a_thick a_hollow a_damp a_fresh a_pulls a_fats v_there v_fresh)) (h : fX6_countFresh v_there v_fresh = some res) (H : Heap) (locs : List Loc) (hW : HW G A s (wX6_countFresh cI cZ a_this a_thick a_hollow a_damp a_fresh a_pulls a_fats v_there v_fresh) H locs) (ls : Array Slot) (hl : lv_has ls 3 [(0, .ref a_this)]) : W p l e rX6_countFresh s m av below meth c H locs 0 0 Q (F0 m 0 ls []) := by
  have hx := C.1
  have hb := C.2.1
  unfold fX6_countFresh at h
  refine lv_iconst (v := (0 : Int32)) hx hb dX6_countFresh_0 (by decide) ?_
  refine lv_istore_n (lv' := [(1, .int (0 : Int32)), (0, .ref a_this)]) hx hb dX6_countFresh_1 rfl hl (Nat.le_of_ble_eq_true rfl) rfl (fun ls hl => ?_)
  refine lv_iconst (v := (0 : Int32)) hx hb dX6_countFresh_2 (by decide) ?_
  refine lv_istore_n (lv' := [(2, .int (0 : Int32)), (1, .int (0 : Int32)), (0, .ref a_this)]) hx hb dX6_countFresh_3 rfl hl (Nat.le_of_ble_eq_true rfl) rfl (fun ls hl => ?_)
  exact wX6_countFresh_4_ v_there v_fresh C hQ 2000 (0 : Int32) (0 : Int32) h _ _ hW _ (lv_sub hl [2, 1, 0] rfl)
theorem ctX6_countFresh {l : Launch} {G : va_G} {cI cZ cO : ClassId} (a_this a_thick a_hollow a_damp a_fresh a_pulls a_fats : Nat) (v_there : Int32) (v_fresh : Nat → Int32) {res : Int32} (h : fX6_countFresh v_there v_fresh = some res) : MI l G cI cZ cO yX6_countFresh cX6_countFresh 3 .int rX6_countFresh [.ref a_this] (wX6_countFresh cI cZ a_this a_thick a_hollow a_damp a_fresh a_pulls a_fats v_there v_fresh) (res) (wX6_countFresh cI cZ a_this a_thick a_hollow a_damp a_fresh a_pulls a_fats v_there v_fresh) := by
  refine MI.of (by decide) (Nat.le_of_ble_eq_true rfl) ?_
  intro p e s m below meth c A Q C hW hQ ls hl
  exact uX6_countFresh_0 v_there v_fresh C hQ h _ _ hW _ hl
abbrev wX6_put (cI cZ : ClassId) (a_this a_thick a_hollow a_damp a_fresh a_pulls a_fats : Nat) (v_there : Int32) (v_thick : Nat → Int32) (v_hollow : Nat → Int32) (v_damp : Nat → Int32) (v_fresh : Nat → Int32) (v_pulls : Nat → Int32) (v_fats : Nat → Int32) : va_W := [(a_this, .inr (6, [.int v_there, .ref a_thick, .ref a_hollow, .ref a_damp, .ref a_fresh, .ref a_pulls, .ref a_fats])), (a_thick, .inl (cI, 5, .inl v_thick)), (a_hollow, .inl (cI, 5, .inl v_hollow)), (a_damp, .inl (cI, 5, .inl v_damp)), (a_fresh, .inl (cI, 5, .inl v_fresh)), (a_pulls, .inl (cI, 5, .inl v_pulls)), (a_fats, .inl (cI, 40, .inl v_fats))]
abbrev rX6_put : Room := { frames := 1, cells := 0, slots := 0, locals := 22 }
set_option maxRecDepth 20000 in
theorem uX6_put_62 {a_this a_thick a_hollow a_damp a_fresh a_pulls a_fats : Nat} (x1 : Int32) (x5 : Int32) (v_there : Int32) (v_thick : Nat → Int32) (v_hollow : Nat → Int32) (v_damp : Nat → Int32) (v_fresh : Nat → Int32) (v_pulls : Nat → Int32) (v_fats : Nat → Int32) {res : Int32 × (Nat → Int32) × (Nat → Int32) × (Nat → Int32) × (Nat → Int32) × (Nat → Int32) × (Nat → Int32)} (C : Cx p s m av meth c RX6 cX6_put 6 none G cI cZ cO A) (hQ : RV p l e rX6_put s m av below meth c G A cX6_put Q (wX6_put cI cZ a_this a_thick a_hollow a_damp a_fresh a_pulls a_fats res.1 res.2.1 res.2.2.1 res.2.2.2.1 res.2.2.2.2.1 res.2.2.2.2.2.1 res.2.2.2.2.2.2)) {k62 : (Int32) → (Nat → Int32) → Option (Int32 × (Nat → Int32) × (Nat → Int32) × (Nat → Int32) × (Nat → Int32) × (Nat → Int32) × (Nat → Int32))} (hk62 : ∀ (x5 : Int32) (v_fats : Nat → Int32), k62 x5 v_fats = some res → ∀ (H : Heap) (locs : List Loc), HW G A s (wX6_put cI cZ a_this a_thick a_hollow a_damp a_fresh a_pulls a_fats v_there v_thick v_hollow v_damp v_fresh v_pulls v_fats) H locs → ∀ ls : Array Slot, lv_has ls 6 [(0, .ref a_this), (1, .int x1), (5, .int x5)] → W p l e rX6_put s m av below meth c H locs 0 0 Q (F0 m 62 ls [])) (h : FX6_put_62 x1 v_there v_thick v_hollow v_damp v_fresh v_pulls k62 x5 v_fats = some res) (H : Heap) (locs : List Loc) (hW : HW G A s (wX6_put cI cZ a_this a_thick a_hollow a_damp a_fresh a_pulls a_fats v_there v_thick v_hollow v_damp v_fresh v_pulls v_fats) H locs) (ls : Array Slot) (hl : lv_has ls 6 [(0, .ref a_this), (1, .int x1), (5, .int x5)]) : W p l e rX6_put s m av below meth c H locs 0 0 Q (F0 m 62 ls []) := by
  have hx := C.1
  have hb := C.2.1
  unfold FX6_put_62 at h
  refine lv_iload hx hb dX6_put_62 (lv_at hl 2 rfl) ?_
  refine lv_bipush (v := (8 : Int32)) hx hb dX6_put_64 (by decide) ?_
  refine lv_icmp_ge (tgt := 88) hx hb dX6_put_66 (by decide) (fun c_4 => ?_) (fun c_4 => ?_)
  · have h := ip_h c_4 h
    obtain rfl := Option.some.inj h
    exact hQ _ _ _ _ dX6_put_88 hW
  · have h := in_h c_4 h
    refine lv_aload_n hx hb dX6_put_69 rfl (lv_at hl 0 rfl) ?_
    refine getW C fl_RX6_27 hW 0 rfl rfl dX6_put_70 ?_
    refine lv_iload_n hx hb dX6_put_73 rfl (lv_at hl 1 rfl) ?_
    refine lv_bipush (v := (8 : Int32)) hx hb dX6_put_74 (by decide) ?_
    refine lv_imul hx hb dX6_put_76 ?_
    refine lv_iload hx hb dX6_put_77 (lv_at hl 2 rfl) ?_
    refine lv_iadd hx hb dX6_put_79 ?_
    refine lv_iconst (v := (0 : Int32)) hx hb dX6_put_80 (by decide) ?_
    obtain ⟨g_5, h⟩ := gd_h h
    refine iastW C hW 6 rfl g_5 dX6_put_81 (fun H locs hW => ?_)
    have hW : HW G A s (wX6_put cI cZ a_this a_thick a_hollow a_damp a_fresh a_pulls a_fats v_there v_thick v_hollow v_damp v_fresh v_pulls (upd v_fats (Int32.toNatClampNeg ((x1 * (8 : Int32)) + x5)) (0 : Int32))) H locs := hW
    obtain ⟨v_6, ev_6⟩ : ∃ y : Int32, y = x5 + (1 : Int32) := ⟨_, rfl⟩
    have h := lt_h ev_6 h
    refine lv_iinc (v := v_6) (lv' := [(5, .int v_6), (0, .ref a_this), (1, .int x1)]) hx hb dX6_put_82 hl (k := 2) rfl (by rw [ev_6]; rfl) (Nat.le_of_ble_eq_true rfl) rfl (fun ls hl => ?_)
    refine lv_goto (tgt := 62) hx hb dX6_put_85 (by decide) ?_
    exact hk62 v_6 (upd v_fats (Int32.toNatClampNeg ((x1 * (8 : Int32)) + x5)) (0 : Int32)) h _ _ hW _ (lv_sub hl [1, 2, 0] rfl)
theorem wX6_put_62_ {a_this a_thick a_hollow a_damp a_fresh a_pulls a_fats : Nat} (x1 : Int32) (v_there : Int32) (v_thick : Nat → Int32) (v_hollow : Nat → Int32) (v_damp : Nat → Int32) (v_fresh : Nat → Int32) (v_pulls : Nat → Int32) {res : Int32 × (Nat → Int32) × (Nat → Int32) × (Nat → Int32) × (Nat → Int32) × (Nat → Int32) × (Nat → Int32)} (C : Cx p s m av meth c RX6 cX6_put 6 none G cI cZ cO A) (hQ : RV p l e rX6_put s m av below meth c G A cX6_put Q (wX6_put cI cZ a_this a_thick a_hollow a_damp a_fresh a_pulls a_fats res.1 res.2.1 res.2.2.1 res.2.2.2.1 res.2.2.2.2.1 res.2.2.2.2.2.1 res.2.2.2.2.2.2)) : ∀ (n : Nat) (x5 : Int32) (v_fats : Nat → Int32), LX6_put_62 x1 v_there v_thick v_hollow v_damp v_fresh v_pulls n x5 v_fats = some res → ∀ (H : Heap) (locs : List Loc), HW G A s (wX6_put cI cZ a_this a_thick a_hollow a_damp a_fresh a_pulls a_fats v_there v_thick v_hollow v_damp v_fresh v_pulls v_fats) H locs → ∀ ls : Array Slot, lv_has ls 6 [(0, .ref a_this), (1, .int x1), (5, .int x5)] → W p l e rX6_put s m av below meth c H locs 0 0 Q (F0 m 62 ls []) := by
  intro n
  induction n with
  | zero => intro x5 v_fats h; cases h
  | succ n ih =>
    intro x5 v_fats h H locs hW ls hl
    exact uX6_put_62 x1 x5 v_there v_thick v_hollow v_damp v_fresh v_pulls v_fats C hQ (k62 := LX6_put_62 x1 v_there v_thick v_hollow v_damp v_fresh v_pulls n) ih h H locs hW ls hl
set_option maxRecDepth 20000 in
theorem uX6_put_0 {a_this a_thick a_hollow a_damp a_fresh a_pulls a_fats : Nat} (x1 : Int32) (x2 : Int32) (x3 : Int32) (x4 : Int32) (v_there : Int32) (v_thick : Nat → Int32) (v_hollow : Nat → Int32) (v_damp : Nat → Int32) (v_fresh : Nat → Int32) (v_pulls : Nat → Int32) (v_fats : Nat → Int32) {res : Int32 × (Nat → Int32) × (Nat → Int32) × (Nat → Int32) × (Nat → Int32) × (Nat → Int32) × (Nat → Int32)} (C : Cx p s m av meth c RX6 cX6_put 6 none G cI cZ cO A) (hQ : RV p l e rX6_put s m av below meth c G A cX6_put Q (wX6_put cI cZ a_this a_thick a_hollow a_damp a_fresh a_pulls a_fats res.1 res.2.1 res.2.2.1 res.2.2.2.1 res.2.2.2.2.1 res.2.2.2.2.2.1 res.2.2.2.2.2.2)) (h : fX6_put x1 x2 x3 x4 v_there v_thick v_hollow v_damp v_fresh v_pulls v_fats = some res) (H : Heap) (locs : List Loc) (hW : HW G A s (wX6_put cI cZ a_this a_thick a_hollow a_damp a_fresh a_pulls a_fats v_there v_thick v_hollow v_damp v_fresh v_pulls v_fats) H locs) (ls : Array Slot) (hl : lv_has ls 6 [(0, .ref a_this), (1, .int x1), (2, .int x2), (3, .int x3), (4, .int x4)]) : W p l e rX6_put s m av below meth c H locs 0 0 Q (F0 m 0 ls []) := by
  have hx := C.1
  have hb := C.2.1
  unfold fX6_put at h
  refine lv_iload_n hx hb dX6_put_0 rfl (lv_at hl 1 rfl) ?_
  refine lv_iconst (v := (0 : Int32)) hx hb dX6_put_1 (by decide) ?_
  refine lv_iconst (v := (4 : Int32)) hx hb dX6_put_2 (by decide) ?_
  refine callNI0 C lk_RX6_44 (ctX10_inside x1 (0 : Int32) (4 : Int32) rfl) hW hl rfl ⟨rfl, rfl⟩ ⟨(Nat.le_of_ble_eq_true rfl), (Nat.le_of_ble_eq_true rfl)⟩ ⟨Nat.zero_le _, Nat.zero_le _⟩ rfl (Nat.le_of_ble_eq_true rfl) dX6_put_3 (fun H locs hW => ?_)
  refine lv_if_ne (tgt := 10) hx hb dX6_put_6 (by decide) (fun c_1 => ?_) (fun c_1 => ?_)
  · have h := in_h c_1 h
    refine lv_aload_n hx hb dX6_put_10 rfl (lv_at hl 0 rfl) ?_
    refine lv_dup hx hb dX6_put_11 rfl ?_
    refine getW C fl_RX6_30 hW 0 rfl rfl dX6_put_12 ?_
    refine lv_iconst (v := (1 : Int32)) hx hb dX6_put_15 (by decide) ?_
    refine lv_iload_n hx hb dX6_put_16 rfl (lv_at hl 1 rfl) ?_
    refine lv_ishl hx hb dX6_put_17 ?_
    refine lv_ior hx hb dX6_put_18 ?_
    refine lv_topi (fun v_2 ev_2 => ?_)
    have h := lt_h ev_2 h
    refine putW C fp_RX6_30 hW 0 rfl rfl rfl (Nat.le_of_ble_eq_true rfl) dX6_put_19 (fun H locs hW => ?_)
    have hW : HW G A s (wX6_put cI cZ a_this a_thick a_hollow a_damp a_fresh a_pulls a_fats v_2 v_thick v_hollow v_damp v_fresh v_pulls v_fats) H locs := hW
    refine lv_aload_n hx hb dX6_put_22 rfl (lv_at hl 0 rfl) ?_
    refine getW C fl_RX6_9 hW 0 rfl rfl dX6_put_23 ?_
    refine lv_iload_n hx hb dX6_put_26 rfl (lv_at hl 1 rfl) ?_
    refine lv_iload_n hx hb dX6_put_27 rfl (lv_at hl 2 rfl) ?_
    obtain ⟨g_3, h⟩ := gd_h h
    refine iastW C hW 1 rfl g_3 dX6_put_28 (fun H locs hW => ?_)
    have hW : HW G A s (wX6_put cI cZ a_this a_thick a_hollow a_damp a_fresh a_pulls a_fats v_2 (upd v_thick (Int32.toNatClampNeg x1) x2) v_hollow v_damp v_fresh v_pulls v_fats) H locs := hW
    refine lv_aload_n hx hb dX6_put_29 rfl (lv_at hl 0 rfl) ?_
    refine getW C fl_RX6_15 hW 0 rfl rfl dX6_put_30 ?_
    refine lv_iload_n hx hb dX6_put_33 rfl (lv_at hl 1 rfl) ?_
    refine lv_iload_n hx hb dX6_put_34 rfl (lv_at hl 3 rfl) ?_
    refine iastW C hW 2 rfl g_3 dX6_put_35 (fun H locs hW => ?_)
    have hW : HW G A s (wX6_put cI cZ a_this a_thick a_hollow a_damp a_fresh a_pulls a_fats v_2 (upd v_thick (Int32.toNatClampNeg x1) x2) (upd v_hollow (Int32.toNatClampNeg x1) x3) v_damp v_fresh v_pulls v_fats) H locs := hW
    refine lv_aload_n hx hb dX6_put_36 rfl (lv_at hl 0 rfl) ?_
    refine getW C fl_RX6_18 hW 0 rfl rfl dX6_put_37 ?_
    refine lv_iload_n hx hb dX6_put_40 rfl (lv_at hl 1 rfl) ?_
    refine lv_iload hx hb dX6_put_41 (lv_at hl 4 rfl) ?_
    refine iastW C hW 3 rfl g_3 dX6_put_43 (fun H locs hW => ?_)
    have hW : HW G A s (wX6_put cI cZ a_this a_thick a_hollow a_damp a_fresh a_pulls a_fats v_2 (upd v_thick (Int32.toNatClampNeg x1) x2) (upd v_hollow (Int32.toNatClampNeg x1) x3) (upd v_damp (Int32.toNatClampNeg x1) x4) v_fresh v_pulls v_fats) H locs := hW
    refine lv_aload_n hx hb dX6_put_44 rfl (lv_at hl 0 rfl) ?_
    refine getW C fl_RX6_21 hW 0 rfl rfl dX6_put_45 ?_
    refine lv_iload_n hx hb dX6_put_48 rfl (lv_at hl 1 rfl) ?_
    refine lv_bipush (v := (-6 : Int32)) hx hb dX6_put_49 (by decide) ?_
    refine iastW C hW 4 rfl g_3 dX6_put_51 (fun H locs hW => ?_)
    have hW : HW G A s (wX6_put cI cZ a_this a_thick a_hollow a_damp a_fresh a_pulls a_fats v_2 (upd v_thick (Int32.toNatClampNeg x1) x2) (upd v_hollow (Int32.toNatClampNeg x1) x3) (upd v_damp (Int32.toNatClampNeg x1) x4) (upd v_fresh (Int32.toNatClampNeg x1) (-6 : Int32)) v_pulls v_fats) H locs := hW
    refine lv_aload_n hx hb dX6_put_52 rfl (lv_at hl 0 rfl) ?_
    refine getW C fl_RX6_24 hW 0 rfl rfl dX6_put_53 ?_
    refine lv_iload_n hx hb dX6_put_56 rfl (lv_at hl 1 rfl) ?_
    refine lv_iconst (v := (0 : Int32)) hx hb dX6_put_57 (by decide) ?_
    refine iastW C hW 5 rfl g_3 dX6_put_58 (fun H locs hW => ?_)
    have hW : HW G A s (wX6_put cI cZ a_this a_thick a_hollow a_damp a_fresh a_pulls a_fats v_2 (upd v_thick (Int32.toNatClampNeg x1) x2) (upd v_hollow (Int32.toNatClampNeg x1) x3) (upd v_damp (Int32.toNatClampNeg x1) x4) (upd v_fresh (Int32.toNatClampNeg x1) (-6 : Int32)) (upd v_pulls (Int32.toNatClampNeg x1) (0 : Int32)) v_fats) H locs := hW
    refine lv_iconst (v := (0 : Int32)) hx hb dX6_put_59 (by decide) ?_
    refine lv_istore (lv' := [(5, .int (0 : Int32)), (0, .ref a_this), (1, .int x1), (2, .int x2), (3, .int x3), (4, .int x4)]) hx hb dX6_put_60 hl (Nat.le_of_ble_eq_true rfl) rfl (fun ls hl => ?_)
    exact wX6_put_62_ x1 v_2 (upd v_thick (Int32.toNatClampNeg x1) x2) (upd v_hollow (Int32.toNatClampNeg x1) x3) (upd v_damp (Int32.toNatClampNeg x1) x4) (upd v_fresh (Int32.toNatClampNeg x1) (-6 : Int32)) (upd v_pulls (Int32.toNatClampNeg x1) (0 : Int32)) C hQ 2000 (0 : Int32) v_fats h _ _ hW _ (lv_sub hl [1, 2, 0] rfl)
  · have h := ip_h c_1 h
    obtain rfl := Option.some.inj h
    exact hQ _ _ _ _ dX6_put_9 hW
theorem ctX6_put {l : Launch} {G : va_G} {cI cZ cO : ClassId} (a_this a_thick a_hollow a_damp a_fresh a_pulls a_fats : Nat) (x1 : Int32) (x2 : Int32) (x3 : Int32) (x4 : Int32) (v_there : Int32) (v_thick : Nat → Int32) (v_hollow : Nat → Int32) (v_damp : Nat → Int32) (v_fresh : Nat → Int32) (v_pulls : Nat → Int32) (v_fats : Nat → Int32) {res : Int32 × (Nat → Int32) × (Nat → Int32) × (Nat → Int32) × (Nat → Int32) × (Nat → Int32) × (Nat → Int32)} (h : fX6_put x1 x2 x3 x4 v_there v_thick v_hollow v_damp v_fresh v_pulls v_fats = some res) : MV l G cI cZ cO yX6_put cX6_put 6 rX6_put [.ref a_this, .int x1, .int x2, .int x3, .int x4] (wX6_put cI cZ a_this a_thick a_hollow a_damp a_fresh a_pulls a_fats v_there v_thick v_hollow v_damp v_fresh v_pulls v_fats) (wX6_put cI cZ a_this a_thick a_hollow a_damp a_fresh a_pulls a_fats res.1 res.2.1 res.2.2.1 res.2.2.2.1 res.2.2.2.2.1 res.2.2.2.2.2.1 res.2.2.2.2.2.2) := by
  refine MV.of (by decide) (Nat.le_of_ble_eq_true rfl) ?_
  intro p e s m below meth c A Q C hW hQ ls hl
  exact uX6_put_0 x1 x2 x3 x4 v_there v_thick v_hollow v_damp v_fresh v_pulls v_fats C hQ h _ _ hW _ hl
abbrev wX6_take (cI cZ : ClassId) (a_this a_thick a_hollow a_damp a_fresh a_pulls a_fats : Nat) (v_there : Int32) : va_W := [(a_this, .inr (6, [.int v_there, .ref a_thick, .ref a_hollow, .ref a_damp, .ref a_fresh, .ref a_pulls, .ref a_fats]))]
abbrev rX6_take : Room := { frames := 1, cells := 0, slots := 0, locals := 21 }
set_option maxRecDepth 20000 in
theorem uX6_take_0 {a_this a_thick a_hollow a_damp a_fresh a_pulls a_fats : Nat} (x1 : Int32) (v_there : Int32) {res : Int32} (C : Cx p s m av meth c RX6 cX6_take 2 none G cI cZ cO A) (hQ : RV p l e rX6_take s m av below meth c G A cX6_take Q (wX6_take cI cZ a_this a_thick a_hollow a_damp a_fresh a_pulls a_fats res)) (h : fX6_take x1 v_there = res) (H : Heap) (locs : List Loc) (hW : HW G A s (wX6_take cI cZ a_this a_thick a_hollow a_damp a_fresh a_pulls a_fats v_there) H locs) (ls : Array Slot) (hl : lv_has ls 2 [(0, .ref a_this), (1, .int x1)]) : W p l e rX6_take s m av below meth c H locs 0 0 Q (F0 m 0 ls []) := by
  have hx := C.1
  have hb := C.2.1
  unfold fX6_take at h
  refine lv_aload_n hx hb dX6_take_0 rfl (lv_at hl 0 rfl) ?_
  refine lv_iload_n hx hb dX6_take_1 rfl (lv_at hl 1 rfl) ?_
  refine callVIr [0] C lk_RX6_40 (ctX6_has a_this a_thick a_hollow a_damp a_fresh a_pulls a_fats x1 v_there rfl) hW hl 6 rfl rfl rfl rfl rfl ⟨rfl, rfl⟩ ⟨(Nat.le_of_ble_eq_true rfl), (Nat.le_of_ble_eq_true rfl)⟩ ⟨Nat.zero_le _, Nat.zero_le _⟩ rfl (Nat.le_of_ble_eq_true rfl) dX6_take_2 (fun H locs hW => ?_)
  refine lv_if_eq (tgt := 22) hx hb dX6_take_5 (by decide) (fun c_1 => ?_) (fun c_1 => ?_)
  · have h := ip_h c_1 h
    subst h
    exact hQ _ _ _ _ dX6_take_22 hW
  · have h := in_h c_1 h
    refine lv_aload_n hx hb dX6_take_8 rfl (lv_at hl 0 rfl) ?_
    refine lv_dup hx hb dX6_take_9 rfl ?_
    refine getW C fl_RX6_30 hW 0 rfl rfl dX6_take_10 ?_
    refine lv_iconst (v := (1 : Int32)) hx hb dX6_take_13 (by decide) ?_
    refine lv_iload_n hx hb dX6_take_14 rfl (lv_at hl 1 rfl) ?_
    refine lv_ishl hx hb dX6_take_15 ?_
    refine lv_iconst (v := (-1 : Int32)) hx hb dX6_take_16 (by decide) ?_
    refine lv_ixor hx hb dX6_take_17 ?_
    refine lv_iand hx hb dX6_take_18 ?_
    refine lv_topi (fun v_2 ev_2 => ?_)
    have h := lt_h ev_2 h
    refine putW C fp_RX6_30 hW 0 rfl rfl rfl (Nat.le_of_ble_eq_true rfl) dX6_take_19 (fun H locs hW => ?_)
    have hW : HW G A s (wX6_take cI cZ a_this a_thick a_hollow a_damp a_fresh a_pulls a_fats v_2) H locs := hW
    subst h
    exact hQ _ _ _ _ dX6_take_22 hW
theorem ctX6_take {l : Launch} {G : va_G} {cI cZ cO : ClassId} (a_this a_thick a_hollow a_damp a_fresh a_pulls a_fats : Nat) (x1 : Int32) (v_there : Int32) {res : Int32} (h : fX6_take x1 v_there = res) : MV l G cI cZ cO yX6_take cX6_take 2 rX6_take [.ref a_this, .int x1] (wX6_take cI cZ a_this a_thick a_hollow a_damp a_fresh a_pulls a_fats v_there) (wX6_take cI cZ a_this a_thick a_hollow a_damp a_fresh a_pulls a_fats res) := by
  refine MV.of (by decide) (Nat.le_of_ble_eq_true rfl) ?_
  intro p e s m below meth c A Q C hW hQ ls hl
  exact uX6_take_0 x1 v_there C hQ h _ _ hW _ hl
abbrev wX6_tell (cI cZ : ClassId) (a_this a_thick a_hollow a_damp a_fresh a_pulls a_fats : Nat) (v_there : Int32) (v_pulls : Nat → Int32) (v_fresh : Nat → Int32) (v_damp : Nat → Int32) (v_hollow : Nat → Int32) (v_thick : Nat → Int32) : va_W := [(a_this, .inr (6, [.int v_there, .ref a_thick, .ref a_hollow, .ref a_damp, .ref a_fresh, .ref a_pulls, .ref a_fats])), (a_pulls, .inl (cI, 5, .inl v_pulls)), (a_fresh, .inl (cI, 5, .inl v_fresh)), (a_damp, .inl (cI, 5, .inl v_damp)), (a_hollow, .inl (cI, 5, .inl v_hollow)), (a_thick, .inl (cI, 5, .inl v_thick))]
abbrev rX6_tell : Room := { frames := 1, cells := 0, slots := 0, locals := 21 }
set_option maxRecDepth 20000 in
theorem uX6_tell_0 {a_this a_thick a_hollow a_damp a_fresh a_pulls a_fats : Nat} (x1 : Int32) (x2 : Int32) (v_there : Int32) (v_pulls : Nat → Int32) (v_fresh : Nat → Int32) (v_damp : Nat → Int32) (v_hollow : Nat → Int32) (v_thick : Nat → Int32) {res : Int32} (C : Cx p s m av meth c RX6 cX6_tell 3 (some .int) G cI cZ cO A) (hQ : RI p l e rX6_tell s m av below meth c G A cX6_tell .int Q (res) (wX6_tell cI cZ a_this a_thick a_hollow a_damp a_fresh a_pulls a_fats v_there v_pulls v_fresh v_damp v_hollow v_thick)) (h : fX6_tell x1 x2 v_there v_pulls v_fresh v_damp v_hollow v_thick = some res) (H : Heap) (locs : List Loc) (hW : HW G A s (wX6_tell cI cZ a_this a_thick a_hollow a_damp a_fresh a_pulls a_fats v_there v_pulls v_fresh v_damp v_hollow v_thick) H locs) (ls : Array Slot) (hl : lv_has ls 3 [(0, .ref a_this), (1, .int x1), (2, .int x2)]) : W p l e rX6_tell s m av below meth c H locs 0 0 Q (F0 m 0 ls []) := by
  have hx := C.1
  have hb := C.2.1
  unfold fX6_tell at h
  refine lv_aload_n hx hb dX6_tell_0 rfl (lv_at hl 0 rfl) ?_
  refine lv_iload_n hx hb dX6_tell_1 rfl (lv_at hl 1 rfl) ?_
  refine callVIr [0] C lk_RX6_40 (ctX6_has a_this a_thick a_hollow a_damp a_fresh a_pulls a_fats x1 v_there rfl) hW hl 6 rfl rfl rfl rfl rfl ⟨rfl, rfl⟩ ⟨(Nat.le_of_ble_eq_true rfl), (Nat.le_of_ble_eq_true rfl)⟩ ⟨Nat.zero_le _, Nat.zero_le _⟩ rfl (Nat.le_of_ble_eq_true rfl) dX6_tell_2 (fun H locs hW => ?_)
  refine lv_if_ne (tgt := 10) hx hb dX6_tell_5 (by decide) (fun c_1 => ?_) (fun c_1 => ?_)
  · have h := in_h c_1 h
    refine lv_iload_n hx hb dX6_tell_10 rfl (lv_at hl 2 rfl) ?_
    by_cases c_2 : x2 = (0 : Int32)
    · have h := ip_h c_2 h
      refine lv_tableIn (off := 33) (tgt := 44) hx hb dX6_tell_11 (by rw [c_2]; decide) (by rw [c_2]; decide) (by rw [c_2]; rfl) (by decide) ?_
      refine lv_aload_n hx hb dX6_tell_44 rfl (lv_at hl 0 rfl) ?_
      refine getW C fl_RX6_9 hW 0 rfl rfl dX6_tell_45 ?_
      refine lv_iload_n hx hb dX6_tell_48 rfl (lv_at hl 1 rfl) ?_
      obtain ⟨g_3, h⟩ := gd_h h
      refine ialdW C hW 5 rfl g_3 dX6_tell_49 ?_
      obtain rfl := Option.some.inj h
      exact hQ rfl _ _ _ _ dX6_tell_50 hW
    · have h := in_h c_2 h
      by_cases c_4 : x2 = (1 : Int32)
      · have h := ip_h c_4 h
        refine lv_tableIn (off := 40) (tgt := 51) hx hb dX6_tell_11 (by rw [c_4]; decide) (by rw [c_4]; decide) (by rw [c_4]; rfl) (by decide) ?_
        refine lv_aload_n hx hb dX6_tell_51 rfl (lv_at hl 0 rfl) ?_
        refine getW C fl_RX6_15 hW 0 rfl rfl dX6_tell_52 ?_
        refine lv_iload_n hx hb dX6_tell_55 rfl (lv_at hl 1 rfl) ?_
        obtain ⟨g_5, h⟩ := gd_h h
        refine ialdW C hW 4 rfl g_5 dX6_tell_56 ?_
        obtain rfl := Option.some.inj h
        exact hQ rfl _ _ _ _ dX6_tell_57 hW
      · have h := in_h c_4 h
        by_cases c_6 : x2 = (2 : Int32)
        · have h := ip_h c_6 h
          refine lv_tableIn (off := 47) (tgt := 58) hx hb dX6_tell_11 (by rw [c_6]; decide) (by rw [c_6]; decide) (by rw [c_6]; rfl) (by decide) ?_
          refine lv_aload_n hx hb dX6_tell_58 rfl (lv_at hl 0 rfl) ?_
          refine getW C fl_RX6_18 hW 0 rfl rfl dX6_tell_59 ?_
          refine lv_iload_n hx hb dX6_tell_62 rfl (lv_at hl 1 rfl) ?_
          obtain ⟨g_7, h⟩ := gd_h h
          refine ialdW C hW 3 rfl g_7 dX6_tell_63 ?_
          obtain rfl := Option.some.inj h
          exact hQ rfl _ _ _ _ dX6_tell_64 hW
        · have h := in_h c_6 h
          by_cases c_8 : x2 = (3 : Int32)
          · have h := ip_h c_8 h
            refine lv_tableIn (off := 54) (tgt := 65) hx hb dX6_tell_11 (by rw [c_8]; decide) (by rw [c_8]; decide) (by rw [c_8]; rfl) (by decide) ?_
            refine lv_aload_n hx hb dX6_tell_65 rfl (lv_at hl 0 rfl) ?_
            refine getW C fl_RX6_21 hW 0 rfl rfl dX6_tell_66 ?_
            refine lv_iload_n hx hb dX6_tell_69 rfl (lv_at hl 1 rfl) ?_
            obtain ⟨g_9, h⟩ := gd_h h
            refine ialdW C hW 2 rfl g_9 dX6_tell_70 ?_
            obtain rfl := Option.some.inj h
            exact hQ rfl _ _ _ _ dX6_tell_71 hW
          · have h := in_h c_8 h
            by_cases c_10 : x2 = (4 : Int32)
            · have h := ip_h c_10 h
              refine lv_tableIn (off := 61) (tgt := 72) hx hb dX6_tell_11 (by rw [c_10]; decide) (by rw [c_10]; decide) (by rw [c_10]; rfl) (by decide) ?_
              refine lv_aload_n hx hb dX6_tell_72 rfl (lv_at hl 0 rfl) ?_
              refine getW C fl_RX6_24 hW 0 rfl rfl dX6_tell_73 ?_
              refine lv_iload_n hx hb dX6_tell_76 rfl (lv_at hl 1 rfl) ?_
              obtain ⟨g_11, h⟩ := gd_h h
              refine ialdW C hW 1 rfl g_11 dX6_tell_77 ?_
              obtain rfl := Option.some.inj h
              exact hQ rfl _ _ _ _ dX6_tell_78 hW
            · have h := in_h c_10 h
              refine lv_tableOut (tgt := 79) hx hb dX6_tell_11 (by have t0 := ne_ti (j := 0) (by decide) c_2; have t1 := ne_ti (j := 1) (by decide) c_4; have t2 := ne_ti (j := 2) (by decide) c_6; have t3 := ne_ti (j := 3) (by decide) c_8; have t4 := ne_ti (j := 4) (by decide) c_10; omega) (by decide) ?_
              refine lv_bipush (v := (-2 : Int32)) hx hb dX6_tell_79 (by decide) ?_
              obtain rfl := Option.some.inj h
              exact hQ rfl _ _ _ _ dX6_tell_81 hW
  · have h := ip_h c_1 h
    refine lv_iconst (v := (-1 : Int32)) hx hb dX6_tell_8 (by decide) ?_
    obtain rfl := Option.some.inj h
    exact hQ rfl _ _ _ _ dX6_tell_9 hW
theorem ctX6_tell {l : Launch} {G : va_G} {cI cZ cO : ClassId} (a_this a_thick a_hollow a_damp a_fresh a_pulls a_fats : Nat) (x1 : Int32) (x2 : Int32) (v_there : Int32) (v_pulls : Nat → Int32) (v_fresh : Nat → Int32) (v_damp : Nat → Int32) (v_hollow : Nat → Int32) (v_thick : Nat → Int32) {res : Int32} (h : fX6_tell x1 x2 v_there v_pulls v_fresh v_damp v_hollow v_thick = some res) : MI l G cI cZ cO yX6_tell cX6_tell 3 .int rX6_tell [.ref a_this, .int x1, .int x2] (wX6_tell cI cZ a_this a_thick a_hollow a_damp a_fresh a_pulls a_fats v_there v_pulls v_fresh v_damp v_hollow v_thick) (res) (wX6_tell cI cZ a_this a_thick a_hollow a_damp a_fresh a_pulls a_fats v_there v_pulls v_fresh v_damp v_hollow v_thick) := by
  refine MI.of (by decide) (Nat.le_of_ble_eq_true rfl) ?_
  intro p e s m below meth c A Q C hW hQ ls hl
  exact uX6_tell_0 x1 x2 v_there v_pulls v_fresh v_damp v_hollow v_thick C hQ h _ _ hW _ hl
abbrev wX6_fatOf (cI cZ : ClassId) (a_this a_thick a_hollow a_damp a_fresh a_pulls a_fats : Nat) (v_there : Int32) (v_fats : Nat → Int32) : va_W := [(a_this, .inr (6, [.int v_there, .ref a_thick, .ref a_hollow, .ref a_damp, .ref a_fresh, .ref a_pulls, .ref a_fats])), (a_fats, .inl (cI, 40, .inl v_fats))]
abbrev rX6_fatOf : Room := { frames := 1, cells := 0, slots := 0, locals := 22 }
set_option maxRecDepth 20000 in
theorem uX6_fatOf_0 {a_this a_thick a_hollow a_damp a_fresh a_pulls a_fats : Nat} (x1 : Int32) (x2 : Int32) (v_there : Int32) (v_fats : Nat → Int32) {res : Int32} (C : Cx p s m av meth c RX6 cX6_fatOf 3 (some .int) G cI cZ cO A) (hQ : RI p l e rX6_fatOf s m av below meth c G A cX6_fatOf .int Q (res) (wX6_fatOf cI cZ a_this a_thick a_hollow a_damp a_fresh a_pulls a_fats v_there v_fats)) (h : fX6_fatOf x1 x2 v_there v_fats = some res) (H : Heap) (locs : List Loc) (hW : HW G A s (wX6_fatOf cI cZ a_this a_thick a_hollow a_damp a_fresh a_pulls a_fats v_there v_fats) H locs) (ls : Array Slot) (hl : lv_has ls 3 [(0, .ref a_this), (1, .int x1), (2, .int x2)]) : W p l e rX6_fatOf s m av below meth c H locs 0 0 Q (F0 m 0 ls []) := by
  have hx := C.1
  have hb := C.2.1
  unfold fX6_fatOf at h
  refine lv_aload_n hx hb dX6_fatOf_0 rfl (lv_at hl 0 rfl) ?_
  refine lv_iload_n hx hb dX6_fatOf_1 rfl (lv_at hl 1 rfl) ?_
  refine callVIr [0] C lk_RX6_40 (ctX6_has a_this a_thick a_hollow a_damp a_fresh a_pulls a_fats x1 v_there rfl) hW hl 6 rfl rfl rfl rfl rfl ⟨rfl, rfl⟩ ⟨(Nat.le_of_ble_eq_true rfl), (Nat.le_of_ble_eq_true rfl)⟩ ⟨Nat.zero_le _, Nat.zero_le _⟩ rfl (Nat.le_of_ble_eq_true rfl) dX6_fatOf_2 (fun H locs hW => ?_)
  refine lv_if_eq (tgt := 18) hx hb dX6_fatOf_5 (by decide) (fun c_1 => ?_) (fun c_1 => ?_)
  · have h := ip_h c_1 h
    refine lv_iconst (v := (0 : Int32)) hx hb dX6_fatOf_18 (by decide) ?_
    obtain rfl := Option.some.inj h
    exact hQ rfl _ _ _ _ dX6_fatOf_19 hW
  · have h := in_h c_1 h
    refine lv_iload_n hx hb dX6_fatOf_8 rfl (lv_at hl 2 rfl) ?_
    refine lv_iconst (v := (0 : Int32)) hx hb dX6_fatOf_9 (by decide) ?_
    refine lv_bipush (v := (7 : Int32)) hx hb dX6_fatOf_10 (by decide) ?_
    refine callNI0 C lk_RX6_44 (ctX10_inside x2 (0 : Int32) (7 : Int32) rfl) hW hl rfl ⟨rfl, rfl⟩ ⟨(Nat.le_of_ble_eq_true rfl), (Nat.le_of_ble_eq_true rfl)⟩ ⟨Nat.zero_le _, Nat.zero_le _⟩ rfl (Nat.le_of_ble_eq_true rfl) dX6_fatOf_12 (fun H locs hW => ?_)
    refine lv_if_ne (tgt := 20) hx hb dX6_fatOf_15 (by decide) (fun c_2 => ?_) (fun c_2 => ?_)
    · have h := in_h c_2 h
      refine lv_aload_n hx hb dX6_fatOf_20 rfl (lv_at hl 0 rfl) ?_
      refine getW C fl_RX6_27 hW 0 rfl rfl dX6_fatOf_21 ?_
      refine lv_iload_n hx hb dX6_fatOf_24 rfl (lv_at hl 1 rfl) ?_
      refine lv_bipush (v := (8 : Int32)) hx hb dX6_fatOf_25 (by decide) ?_
      refine lv_imul hx hb dX6_fatOf_27 ?_
      refine lv_iload_n hx hb dX6_fatOf_28 rfl (lv_at hl 2 rfl) ?_
      refine lv_iadd hx hb dX6_fatOf_29 ?_
      obtain ⟨g_3, h⟩ := gd_h h
      refine ialdW C hW 1 rfl g_3 dX6_fatOf_30 ?_
      obtain rfl := Option.some.inj h
      exact hQ rfl _ _ _ _ dX6_fatOf_31 hW
    · have h := ip_h c_2 h
      refine lv_iconst (v := (0 : Int32)) hx hb dX6_fatOf_18 (by decide) ?_
      obtain rfl := Option.some.inj h
      exact hQ rfl _ _ _ _ dX6_fatOf_19 hW
theorem ctX6_fatOf {l : Launch} {G : va_G} {cI cZ cO : ClassId} (a_this a_thick a_hollow a_damp a_fresh a_pulls a_fats : Nat) (x1 : Int32) (x2 : Int32) (v_there : Int32) (v_fats : Nat → Int32) {res : Int32} (h : fX6_fatOf x1 x2 v_there v_fats = some res) : MI l G cI cZ cO yX6_fatOf cX6_fatOf 3 .int rX6_fatOf [.ref a_this, .int x1, .int x2] (wX6_fatOf cI cZ a_this a_thick a_hollow a_damp a_fresh a_pulls a_fats v_there v_fats) (res) (wX6_fatOf cI cZ a_this a_thick a_hollow a_damp a_fresh a_pulls a_fats v_there v_fats) := by
  refine MI.of (by decide) (Nat.le_of_ble_eq_true rfl) ?_
  intro p e s m below meth c A Q C hW hQ ls hl
  exact uX6_fatOf_0 x1 x2 v_there v_fats C hQ h _ _ hW _ hl
abbrev wX6_greatestGhost (cI cZ : ClassId) (a_this a_thick a_hollow a_damp a_fresh a_pulls a_fats : Nat) (v_there : Int32) (v_fats : Nat → Int32) : va_W := [(a_this, .inr (6, [.int v_there, .ref a_thick, .ref a_hollow, .ref a_damp, .ref a_fresh, .ref a_pulls, .ref a_fats])), (a_fats, .inl (cI, 40, .inl v_fats))]
abbrev rX6_greatestGhost : Room := { frames := 1, cells := 0, slots := 0, locals := 25 }
set_option maxRecDepth 20000 in
theorem uX6_greatestGhost_22 {a_this a_thick a_hollow a_damp a_fresh a_pulls a_fats : Nat} (x1 : Int32) (x2 : Int32) (x3 : Int32) (x4 : Int32) (v_there : Int32) (v_fats : Nat → Int32) {res : Int32} (C : Cx p s m av meth c RX6 cX6_greatestGhost 5 (some .int) G cI cZ cO A) (hQ : RI p l e rX6_greatestGhost s m av below meth c G A cX6_greatestGhost .int Q (res) (wX6_greatestGhost cI cZ a_this a_thick a_hollow a_damp a_fresh a_pulls a_fats v_there v_fats)) {k22 : (Int32) → Option (Int32)} (hk22 : ∀ (x4 : Int32), k22 x4 = some res → ∀ (H : Heap) (locs : List Loc), HW G A s (wX6_greatestGhost cI cZ a_this a_thick a_hollow a_damp a_fresh a_pulls a_fats v_there v_fats) H locs → ∀ ls : Array Slot, lv_has ls 5 [(0, .ref a_this), (1, .int x1), (2, .int x2), (3, .int x3), (4, .int x4)] → W p l e rX6_greatestGhost s m av below meth c H locs 0 0 Q (F0 m 22 ls [])) (h : FX6_greatestGhost_22 x1 x2 x3 v_fats k22 x4 = some res) (H : Heap) (locs : List Loc) (hW : HW G A s (wX6_greatestGhost cI cZ a_this a_thick a_hollow a_damp a_fresh a_pulls a_fats v_there v_fats) H locs) (ls : Array Slot) (hl : lv_has ls 5 [(0, .ref a_this), (1, .int x1), (2, .int x2), (3, .int x3), (4, .int x4)]) : W p l e rX6_greatestGhost s m av below meth c H locs 0 0 Q (F0 m 22 ls []) := by
  have hx := C.1
  have hb := C.2.1
  unfold FX6_greatestGhost_22 at h
  refine lv_iload hx hb dX6_greatestGhost_22 (lv_at hl 4 rfl) ?_
  refine lv_bipush (v := (8 : Int32)) hx hb dX6_greatestGhost_24 (by decide) ?_
  refine lv_icmp_ge (tgt := 60) hx hb dX6_greatestGhost_26 (by decide) (fun c_4 => ?_) (fun c_4 => ?_)
  · have h := ip_h c_4 h
    refine lv_bipush (v := (-6 : Int32)) hx hb dX6_greatestGhost_60 (by decide) ?_
    obtain rfl := Option.some.inj h
    exact hQ rfl _ _ _ _ dX6_greatestGhost_62 hW
  · have h := in_h c_4 h
    refine lv_iload hx hb dX6_greatestGhost_29 (lv_at hl 4 rfl) ?_
    refine lv_iload_n hx hb dX6_greatestGhost_31 rfl (lv_at hl 2 rfl) ?_
    refine lv_icmp_eq (tgt := 54) hx hb dX6_greatestGhost_32 (by decide) (fun c_5 => ?_) (fun c_5 => ?_)
    · have h := ip_h c_5 h
      obtain ⟨v_6, ev_6⟩ : ∃ y : Int32, y = x4 + (1 : Int32) := ⟨_, rfl⟩
      have h := lt_h ev_6 h
      refine lv_iinc (v := v_6) (lv' := [(4, .int v_6), (0, .ref a_this), (1, .int x1), (2, .int x2), (3, .int x3)]) hx hb dX6_greatestGhost_54 hl (k := 4) rfl (by rw [ev_6]; rfl) (Nat.le_of_ble_eq_true rfl) rfl (fun ls hl => ?_)
      refine lv_goto (tgt := 22) hx hb dX6_greatestGhost_57 (by decide) ?_
      exact hk22 v_6 h _ _ hW _ (lv_sub hl [1, 2, 3, 4, 0] rfl)
    · have h := in_h c_5 h
      refine lv_aload_n hx hb dX6_greatestGhost_35 rfl (lv_at hl 0 rfl) ?_
      refine getW C fl_RX6_27 hW 0 rfl rfl dX6_greatestGhost_36 ?_
      refine lv_iload_n hx hb dX6_greatestGhost_39 rfl (lv_at hl 1 rfl) ?_
      refine lv_bipush (v := (8 : Int32)) hx hb dX6_greatestGhost_40 (by decide) ?_
      refine lv_imul hx hb dX6_greatestGhost_42 ?_
      refine lv_iload hx hb dX6_greatestGhost_43 (lv_at hl 4 rfl) ?_
      refine lv_iadd hx hb dX6_greatestGhost_45 ?_
      obtain ⟨g_7, h⟩ := gd_h h
      refine ialdW C hW 1 rfl g_7 dX6_greatestGhost_46 ?_
      refine lv_iload_n hx hb dX6_greatestGhost_47 rfl (lv_at hl 3 rfl) ?_
      refine lv_icmp_ne (tgt := 54) hx hb dX6_greatestGhost_48 (by decide) (fun c_8 => ?_) (fun c_8 => ?_)
      · have h := in_h c_8 h
        obtain ⟨v_9, ev_9⟩ : ∃ y : Int32, y = x4 + (1 : Int32) := ⟨_, rfl⟩
        have h := lt_h ev_9 h
        refine lv_iinc (v := v_9) (lv' := [(4, .int v_9), (0, .ref a_this), (1, .int x1), (2, .int x2), (3, .int x3)]) hx hb dX6_greatestGhost_54 hl (k := 4) rfl (by rw [ev_9]; rfl) (Nat.le_of_ble_eq_true rfl) rfl (fun ls hl => ?_)
        refine lv_goto (tgt := 22) hx hb dX6_greatestGhost_57 (by decide) ?_
        exact hk22 v_9 h _ _ hW _ (lv_sub hl [1, 2, 3, 4, 0] rfl)
      · have h := ip_h c_8 h
        refine lv_iload hx hb dX6_greatestGhost_51 (lv_at hl 4 rfl) ?_
        obtain rfl := Option.some.inj h
        exact hQ rfl _ _ _ _ dX6_greatestGhost_53 hW
theorem wX6_greatestGhost_22_ {a_this a_thick a_hollow a_damp a_fresh a_pulls a_fats : Nat} (x1 : Int32) (x2 : Int32) (x3 : Int32) (v_there : Int32) (v_fats : Nat → Int32) {res : Int32} (C : Cx p s m av meth c RX6 cX6_greatestGhost 5 (some .int) G cI cZ cO A) (hQ : RI p l e rX6_greatestGhost s m av below meth c G A cX6_greatestGhost .int Q (res) (wX6_greatestGhost cI cZ a_this a_thick a_hollow a_damp a_fresh a_pulls a_fats v_there v_fats)) : ∀ (n : Nat) (x4 : Int32), LX6_greatestGhost_22 x1 x2 x3 v_fats n x4 = some res → ∀ (H : Heap) (locs : List Loc), HW G A s (wX6_greatestGhost cI cZ a_this a_thick a_hollow a_damp a_fresh a_pulls a_fats v_there v_fats) H locs → ∀ ls : Array Slot, lv_has ls 5 [(0, .ref a_this), (1, .int x1), (2, .int x2), (3, .int x3), (4, .int x4)] → W p l e rX6_greatestGhost s m av below meth c H locs 0 0 Q (F0 m 22 ls []) := by
  intro n
  induction n with
  | zero => intro x4 h; cases h
  | succ n ih =>
    intro x4 h H locs hW ls hl
    exact uX6_greatestGhost_22 x1 x2 x3 x4 v_there v_fats C hQ (k22 := LX6_greatestGhost_22 x1 x2 x3 v_fats n) ih h H locs hW ls hl
set_option maxRecDepth 20000 in
theorem uX6_greatestGhost_0 {a_this a_thick a_hollow a_damp a_fresh a_pulls a_fats : Nat} (x1 : Int32) (x2 : Int32) (v_there : Int32) (v_fats : Nat → Int32) {res : Int32} (C : Cx p s m av meth c RX6 cX6_greatestGhost 5 (some .int) G cI cZ cO A) (hQ : RI p l e rX6_greatestGhost s m av below meth c G A cX6_greatestGhost .int Q (res) (wX6_greatestGhost cI cZ a_this a_thick a_hollow a_damp a_fresh a_pulls a_fats v_there v_fats)) (h : fX6_greatestGhost x1 x2 v_fats = some res) (H : Heap) (locs : List Loc) (hW : HW G A s (wX6_greatestGhost cI cZ a_this a_thick a_hollow a_damp a_fresh a_pulls a_fats v_there v_fats) H locs) (ls : Array Slot) (hl : lv_has ls 5 [(0, .ref a_this), (1, .int x1), (2, .int x2)]) : W p l e rX6_greatestGhost s m av below meth c H locs 0 0 Q (F0 m 0 ls []) := by
  have hx := C.1
  have hb := C.2.1
  unfold fX6_greatestGhost at h
  refine lv_iload_n hx hb dX6_greatestGhost_0 rfl (lv_at hl 1 rfl) ?_
  refine lv_if_lt (tgt := 9) hx hb dX6_greatestGhost_1 (by decide) (fun c_1 => ?_) (fun c_1 => ?_)
  · have h := ip_h c_1 h
    refine lv_bipush (v := (-6 : Int32)) hx hb dX6_greatestGhost_9 (by decide) ?_
    obtain rfl := Option.some.inj h
    exact hQ rfl _ _ _ _ dX6_greatestGhost_11 hW
  · have h := in_h c_1 h
    refine lv_iload_n hx hb dX6_greatestGhost_4 rfl (lv_at hl 1 rfl) ?_
    refine lv_iconst (v := (5 : Int32)) hx hb dX6_greatestGhost_5 (by decide) ?_
    refine lv_icmp_lt (tgt := 12) hx hb dX6_greatestGhost_6 (by decide) (fun c_2 => ?_) (fun c_2 => ?_)
    · have h := ip_h c_2 h
      refine lv_aload_n hx hb dX6_greatestGhost_12 rfl (lv_at hl 0 rfl) ?_
      refine lv_iload_n hx hb dX6_greatestGhost_13 rfl (lv_at hl 1 rfl) ?_
      refine lv_iload_n hx hb dX6_greatestGhost_14 rfl (lv_at hl 2 rfl) ?_
      obtain ⟨v_3, hv_3, h⟩ := bd_h h
      refine callVIr [0, 1] C lk_RX6_54 (ctX6_ghostFat a_this a_thick a_hollow a_damp a_fresh a_pulls a_fats x1 x2 v_there v_fats hv_3) hW hl 6 rfl rfl rfl rfl rfl ⟨rfl, rfl⟩ ⟨(Nat.le_of_ble_eq_true rfl), (Nat.le_of_ble_eq_true rfl)⟩ ⟨Nat.zero_le _, Nat.zero_le _⟩ rfl (Nat.le_of_ble_eq_true rfl) dX6_greatestGhost_15 (fun H locs hW => ?_)
      refine lv_istore_n (lv' := [(3, .int v_3), (0, .ref a_this), (1, .int x1), (2, .int x2)]) hx hb dX6_greatestGhost_18 rfl hl (Nat.le_of_ble_eq_true rfl) rfl (fun ls hl => ?_)
      refine lv_iconst (v := (0 : Int32)) hx hb dX6_greatestGhost_19 (by decide) ?_
      refine lv_istore (lv' := [(4, .int (0 : Int32)), (3, .int v_3), (0, .ref a_this), (1, .int x1), (2, .int x2)]) hx hb dX6_greatestGhost_20 hl (Nat.le_of_ble_eq_true rfl) rfl (fun ls hl => ?_)
      exact wX6_greatestGhost_22_ x1 x2 v_3 v_there v_fats C hQ 2000 (0 : Int32) h _ _ hW _ (lv_sub hl [2, 3, 4, 1, 0] rfl)
    · have h := in_h c_2 h
      refine lv_bipush (v := (-6 : Int32)) hx hb dX6_greatestGhost_9 (by decide) ?_
      obtain rfl := Option.some.inj h
      exact hQ rfl _ _ _ _ dX6_greatestGhost_11 hW
theorem ctX6_greatestGhost {l : Launch} {G : va_G} {cI cZ cO : ClassId} (a_this a_thick a_hollow a_damp a_fresh a_pulls a_fats : Nat) (x1 : Int32) (x2 : Int32) (v_there : Int32) (v_fats : Nat → Int32) {res : Int32} (h : fX6_greatestGhost x1 x2 v_fats = some res) : MI l G cI cZ cO yX6_greatestGhost cX6_greatestGhost 5 .int rX6_greatestGhost [.ref a_this, .int x1, .int x2] (wX6_greatestGhost cI cZ a_this a_thick a_hollow a_damp a_fresh a_pulls a_fats v_there v_fats) (res) (wX6_greatestGhost cI cZ a_this a_thick a_hollow a_damp a_fresh a_pulls a_fats v_there v_fats) := by
  refine MI.of (by decide) (Nat.le_of_ble_eq_true rfl) ?_
  intro p e s m below meth c A Q C hW hQ ls hl
  exact uX6_greatestGhost_0 x1 x2 v_there v_fats C hQ h _ _ hW _ hl
abbrev wX6_draw (cI cZ : ClassId) (a_this a_thick a_hollow a_damp a_fresh a_pulls a_fats : Nat) (v_there : Int32) (v_fats : Nat → Int32) (v_fresh : Nat → Int32) (v_pulls : Nat → Int32) : va_W := [(a_this, .inr (6, [.int v_there, .ref a_thick, .ref a_hollow, .ref a_damp, .ref a_fresh, .ref a_pulls, .ref a_fats])), (a_fats, .inl (cI, 40, .inl v_fats)), (a_fresh, .inl (cI, 5, .inl v_fresh)), (a_pulls, .inl (cI, 5, .inl v_pulls))]
abbrev rX6_draw : Room := { frames := 1, cells := 0, slots := 0, locals := 22 }
set_option maxRecDepth 20000 in
theorem uX6_draw_0 {a_this a_thick a_hollow a_damp a_fresh a_pulls a_fats : Nat} (x1 : Int32) (x2 : Int32) (x3 : Int32) (v_there : Int32) (v_fats : Nat → Int32) (v_fresh : Nat → Int32) (v_pulls : Nat → Int32) {res : (Nat → Int32) × (Nat → Int32) × (Nat → Int32)} (C : Cx p s m av meth c RX6 cX6_draw 4 none G cI cZ cO A) (hQ : RV p l e rX6_draw s m av below meth c G A cX6_draw Q (wX6_draw cI cZ a_this a_thick a_hollow a_damp a_fresh a_pulls a_fats v_there res.1 res.2.1 res.2.2)) (h : fX6_draw x1 x2 x3 v_there v_fats v_fresh v_pulls = some res) (H : Heap) (locs : List Loc) (hW : HW G A s (wX6_draw cI cZ a_this a_thick a_hollow a_damp a_fresh a_pulls a_fats v_there v_fats v_fresh v_pulls) H locs) (ls : Array Slot) (hl : lv_has ls 4 [(0, .ref a_this), (1, .int x1), (2, .int x2), (3, .int x3)]) : W p l e rX6_draw s m av below meth c H locs 0 0 Q (F0 m 0 ls []) := by
  have hx := C.1
  have hb := C.2.1
  unfold fX6_draw at h
  refine lv_aload_n hx hb dX6_draw_0 rfl (lv_at hl 0 rfl) ?_
  refine lv_iload_n hx hb dX6_draw_1 rfl (lv_at hl 1 rfl) ?_
  refine callVIr [0] C lk_RX6_40 (ctX6_has a_this a_thick a_hollow a_damp a_fresh a_pulls a_fats x1 v_there rfl) hW hl 6 rfl rfl rfl rfl rfl ⟨rfl, rfl⟩ ⟨(Nat.le_of_ble_eq_true rfl), (Nat.le_of_ble_eq_true rfl)⟩ ⟨Nat.zero_le _, Nat.zero_le _⟩ rfl (Nat.le_of_ble_eq_true rfl) dX6_draw_2 (fun H locs hW => ?_)
  refine lv_if_eq (tgt := 18) hx hb dX6_draw_5 (by decide) (fun c_1 => ?_) (fun c_1 => ?_)
  · have h := ip_h c_1 h
    obtain rfl := Option.some.inj h
    exact hQ _ _ _ _ dX6_draw_18 hW
  · have h := in_h c_1 h
    refine lv_iload_n hx hb dX6_draw_8 rfl (lv_at hl 2 rfl) ?_
    refine lv_iconst (v := (0 : Int32)) hx hb dX6_draw_9 (by decide) ?_
    refine lv_bipush (v := (7 : Int32)) hx hb dX6_draw_10 (by decide) ?_
    refine callNI0 C lk_RX6_44 (ctX10_inside x2 (0 : Int32) (7 : Int32) rfl) hW hl rfl ⟨rfl, rfl⟩ ⟨(Nat.le_of_ble_eq_true rfl), (Nat.le_of_ble_eq_true rfl)⟩ ⟨Nat.zero_le _, Nat.zero_le _⟩ rfl (Nat.le_of_ble_eq_true rfl) dX6_draw_12 (fun H locs hW => ?_)
    refine lv_if_ne (tgt := 19) hx hb dX6_draw_15 (by decide) (fun c_2 => ?_) (fun c_2 => ?_)
    · have h := in_h c_2 h
      refine lv_aload_n hx hb dX6_draw_19 rfl (lv_at hl 0 rfl) ?_
      refine getW C fl_RX6_27 hW 0 rfl rfl dX6_draw_20 ?_
      refine lv_iload_n hx hb dX6_draw_23 rfl (lv_at hl 1 rfl) ?_
      refine lv_bipush (v := (8 : Int32)) hx hb dX6_draw_24 (by decide) ?_
      refine lv_imul hx hb dX6_draw_26 ?_
      refine lv_iload_n hx hb dX6_draw_27 rfl (lv_at hl 2 rfl) ?_
      refine lv_iadd hx hb dX6_draw_28 ?_
      refine lv_iload_n hx hb dX6_draw_29 rfl (lv_at hl 3 rfl) ?_
      obtain ⟨g_3, h⟩ := gd_h h
      refine iastW C hW 1 rfl g_3 dX6_draw_30 (fun H locs hW => ?_)
      have hW : HW G A s (wX6_draw cI cZ a_this a_thick a_hollow a_damp a_fresh a_pulls a_fats v_there (upd v_fats (Int32.toNatClampNeg ((x1 * (8 : Int32)) + x2)) x3) v_fresh v_pulls) H locs := hW
      refine lv_aload_n hx hb dX6_draw_31 rfl (lv_at hl 0 rfl) ?_
      refine getW C fl_RX6_21 hW 0 rfl rfl dX6_draw_32 ?_
      refine lv_iload_n hx hb dX6_draw_35 rfl (lv_at hl 1 rfl) ?_
      refine lv_iload_n hx hb dX6_draw_36 rfl (lv_at hl 2 rfl) ?_
      obtain ⟨g_4, h⟩ := gd_h h
      refine iastW C hW 2 rfl g_4 dX6_draw_37 (fun H locs hW => ?_)
      have hW : HW G A s (wX6_draw cI cZ a_this a_thick a_hollow a_damp a_fresh a_pulls a_fats v_there (upd v_fats (Int32.toNatClampNeg ((x1 * (8 : Int32)) + x2)) x3) (upd v_fresh (Int32.toNatClampNeg x1) x2) v_pulls) H locs := hW
      refine lv_aload_n hx hb dX6_draw_38 rfl (lv_at hl 0 rfl) ?_
      refine getW C fl_RX6_24 hW 0 rfl rfl dX6_draw_39 ?_
      refine lv_iload_n hx hb dX6_draw_42 rfl (lv_at hl 1 rfl) ?_
      refine lv_iconst (v := (0 : Int32)) hx hb dX6_draw_43 (by decide) ?_
      refine iastW C hW 3 rfl g_4 dX6_draw_44 (fun H locs hW => ?_)
      have hW : HW G A s (wX6_draw cI cZ a_this a_thick a_hollow a_damp a_fresh a_pulls a_fats v_there (upd v_fats (Int32.toNatClampNeg ((x1 * (8 : Int32)) + x2)) x3) (upd v_fresh (Int32.toNatClampNeg x1) x2) (upd v_pulls (Int32.toNatClampNeg x1) (0 : Int32))) H locs := hW
      obtain rfl := Option.some.inj h
      exact hQ _ _ _ _ dX6_draw_45 hW
    · have h := ip_h c_2 h
      obtain rfl := Option.some.inj h
      exact hQ _ _ _ _ dX6_draw_18 hW
theorem ctX6_draw {l : Launch} {G : va_G} {cI cZ cO : ClassId} (a_this a_thick a_hollow a_damp a_fresh a_pulls a_fats : Nat) (x1 : Int32) (x2 : Int32) (x3 : Int32) (v_there : Int32) (v_fats : Nat → Int32) (v_fresh : Nat → Int32) (v_pulls : Nat → Int32) {res : (Nat → Int32) × (Nat → Int32) × (Nat → Int32)} (h : fX6_draw x1 x2 x3 v_there v_fats v_fresh v_pulls = some res) : MV l G cI cZ cO yX6_draw cX6_draw 4 rX6_draw [.ref a_this, .int x1, .int x2, .int x3] (wX6_draw cI cZ a_this a_thick a_hollow a_damp a_fresh a_pulls a_fats v_there v_fats v_fresh v_pulls) (wX6_draw cI cZ a_this a_thick a_hollow a_damp a_fresh a_pulls a_fats v_there res.1 res.2.1 res.2.2) := by
  refine MV.of (by decide) (Nat.le_of_ble_eq_true rfl) ?_
  intro p e s m below meth c A Q C hW hQ ls hl
  exact uX6_draw_0 x1 x2 x3 v_there v_fats v_fresh v_pulls C hQ h _ _ hW _ hl
abbrev wX6_grindOff (cI cZ : ClassId) (a_this a_thick a_hollow a_damp a_fresh a_pulls a_fats : Nat) (v_there : Int32) (v_thick : Nat → Int32) (v_hollow : Nat → Int32) (v_fresh : Nat → Int32) (v_pulls : Nat → Int32) (v_fats : Nat → Int32) : va_W := [(a_this, .inr (6, [.int v_there, .ref a_thick, .ref a_hollow, .ref a_damp, .ref a_fresh, .ref a_pulls, .ref a_fats])), (a_thick, .inl (cI, 5, .inl v_thick)), (a_hollow, .inl (cI, 5, .inl v_hollow)), (a_fresh, .inl (cI, 5, .inl v_fresh)), (a_pulls, .inl (cI, 5, .inl v_pulls)), (a_fats, .inl (cI, 40, .inl v_fats))]
abbrev rX6_grindOff : Room := { frames := 1, cells := 0, slots := 0, locals := 23 }
set_option maxRecDepth 20000 in
theorem uX6_grindOff_64 {a_this a_thick a_hollow a_damp a_fresh a_pulls a_fats : Nat} (x1 : Int32) (x2 : Int32) (x4 : Int32) (v_there : Int32) (v_thick : Nat → Int32) (v_hollow : Nat → Int32) (v_fresh : Nat → Int32) (v_pulls : Nat → Int32) (v_fats : Nat → Int32) {res : (Nat → Int32) × (Nat → Int32) × (Nat → Int32) × (Nat → Int32) × (Nat → Int32)} (C : Cx p s m av meth c RX6 cX6_grindOff 6 none G cI cZ cO A) (hQ : RV p l e rX6_grindOff s m av below meth c G A cX6_grindOff Q (wX6_grindOff cI cZ a_this a_thick a_hollow a_damp a_fresh a_pulls a_fats v_there res.1 res.2.1 res.2.2.1 res.2.2.2.1 res.2.2.2.2)) {k64 : (Int32) → (Nat → Int32) → Option ((Nat → Int32) × (Nat → Int32) × (Nat → Int32) × (Nat → Int32) × (Nat → Int32))} (hk64 : ∀ (x4 : Int32) (v_fats : Nat → Int32), k64 x4 v_fats = some res → ∀ (H : Heap) (locs : List Loc), HW G A s (wX6_grindOff cI cZ a_this a_thick a_hollow a_damp a_fresh a_pulls a_fats v_there v_thick v_hollow v_fresh v_pulls v_fats) H locs → ∀ ls : Array Slot, lv_has ls 6 [(0, .ref a_this), (1, .int x1), (2, .int x2), (4, .int x4)] → W p l e rX6_grindOff s m av below meth c H locs 0 0 Q (F0 m 64 ls [])) (h : FX6_grindOff_64 x1 x2 v_thick v_hollow v_fresh v_pulls k64 x4 v_fats = some res) (H : Heap) (locs : List Loc) (hW : HW G A s (wX6_grindOff cI cZ a_this a_thick a_hollow a_damp a_fresh a_pulls a_fats v_there v_thick v_hollow v_fresh v_pulls v_fats) H locs) (ls : Array Slot) (hl : lv_has ls 6 [(0, .ref a_this), (1, .int x1), (2, .int x2), (4, .int x4)]) : W p l e rX6_grindOff s m av below meth c H locs 0 0 Q (F0 m 64 ls []) := by
  have hx := C.1
  have hb := C.2.1
  unfold FX6_grindOff_64 at h
  refine lv_iload hx hb dX6_grindOff_64 (lv_at hl 3 rfl) ?_
  refine lv_bipush (v := (8 : Int32)) hx hb dX6_grindOff_66 (by decide) ?_
  refine lv_icmp_ge (tgt := 108) hx hb dX6_grindOff_68 (by decide) (fun c_6 => ?_) (fun c_6 => ?_)
  · have h := ip_h c_6 h
    refine lv_aload_n hx hb dX6_grindOff_108 rfl (lv_at hl 0 rfl) ?_
    refine getW C fl_RX6_21 hW 0 rfl rfl dX6_grindOff_109 ?_
    refine lv_iload_n hx hb dX6_grindOff_112 rfl (lv_at hl 1 rfl) ?_
    refine lv_bipush (v := (-6 : Int32)) hx hb dX6_grindOff_113 (by decide) ?_
    obtain ⟨g_7, h⟩ := gd_h h
    refine iastW C hW 3 rfl g_7 dX6_grindOff_115 (fun H locs hW => ?_)
    have hW : HW G A s (wX6_grindOff cI cZ a_this a_thick a_hollow a_damp a_fresh a_pulls a_fats v_there v_thick v_hollow (upd v_fresh (Int32.toNatClampNeg x1) (-6 : Int32)) v_pulls v_fats) H locs := hW
    refine lv_aload_n hx hb dX6_grindOff_116 rfl (lv_at hl 0 rfl) ?_
    refine getW C fl_RX6_24 hW 0 rfl rfl dX6_grindOff_117 ?_
    refine lv_iload_n hx hb dX6_grindOff_120 rfl (lv_at hl 1 rfl) ?_
    refine lv_iconst (v := (0 : Int32)) hx hb dX6_grindOff_121 (by decide) ?_
    refine iastW C hW 4 rfl g_7 dX6_grindOff_122 (fun H locs hW => ?_)
    have hW : HW G A s (wX6_grindOff cI cZ a_this a_thick a_hollow a_damp a_fresh a_pulls a_fats v_there v_thick v_hollow (upd v_fresh (Int32.toNatClampNeg x1) (-6 : Int32)) (upd v_pulls (Int32.toNatClampNeg x1) (0 : Int32)) v_fats) H locs := hW
    obtain rfl := Option.some.inj h
    exact hQ _ _ _ _ dX6_grindOff_123 hW
  · have h := in_h c_6 h
    refine lv_iload_n hx hb dX6_grindOff_71 rfl (lv_at hl 1 rfl) ?_
    refine lv_bipush (v := (8 : Int32)) hx hb dX6_grindOff_72 (by decide) ?_
    refine lv_imul hx hb dX6_grindOff_74 ?_
    refine lv_iload hx hb dX6_grindOff_75 (lv_at hl 3 rfl) ?_
    refine lv_iadd hx hb dX6_grindOff_77 ?_
    refine lv_topi (fun v_8 ev_8 => ?_)
    have h := lt_h ev_8 h
    refine lv_istore (lv' := [(5, .int v_8), (0, .ref a_this), (1, .int x1), (2, .int x2), (4, .int x4)]) hx hb dX6_grindOff_78 hl (Nat.le_of_ble_eq_true rfl) rfl (fun ls hl => ?_)
    refine lv_aload_n hx hb dX6_grindOff_80 rfl (lv_at hl 1 rfl) ?_
    refine getW C fl_RX6_27 hW 0 rfl rfl dX6_grindOff_81 ?_
    refine lv_iload hx hb dX6_grindOff_84 (lv_at hl 0 rfl) ?_
    refine lv_iconst (v := (0 : Int32)) hx hb dX6_grindOff_86 (by decide) ?_
    refine lv_aload_n hx hb dX6_grindOff_87 rfl (lv_at hl 1 rfl) ?_
    refine getW C fl_RX6_27 hW 0 rfl rfl dX6_grindOff_88 ?_
    refine lv_iload hx hb dX6_grindOff_91 (lv_at hl 0 rfl) ?_
    obtain ⟨g_9, h⟩ := gd_h h
    refine ialdW C hW 5 rfl g_9 dX6_grindOff_93 ?_
    refine lv_iconst (v := (3 : Int32)) hx hb dX6_grindOff_94 (by decide) ?_
    refine lv_iload_n hx hb dX6_grindOff_95 rfl (lv_at hl 3 rfl) ?_
    refine lv_imul hx hb dX6_grindOff_96 ?_
    refine lv_isub hx hb dX6_grindOff_97 ?_
    refine maxW C lk_RX6_63 hl (Nat.le_of_ble_eq_true rfl) (Nat.le_of_ble_eq_true rfl) ⟨Nat.zero_le _, Nat.zero_le _⟩ dX6_grindOff_98 ?_
    refine lv_topi (fun v_10 ev_10 => ?_)
    have h := lt_h ev_10 h
    refine iastW C hW 5 rfl g_9 dX6_grindOff_101 (fun H locs hW => ?_)
    have hW : HW G A s (wX6_grindOff cI cZ a_this a_thick a_hollow a_damp a_fresh a_pulls a_fats v_there v_thick v_hollow v_fresh v_pulls (upd v_fats (Int32.toNatClampNeg v_8) v_10)) H locs := hW
    obtain ⟨v_11, ev_11⟩ : ∃ y : Int32, y = x4 + (1 : Int32) := ⟨_, rfl⟩
    have h := lt_h ev_11 h
    refine lv_iinc (v := v_11) (lv' := [(4, .int v_11), (5, .int v_8), (0, .ref a_this), (1, .int x1), (2, .int x2)]) hx hb dX6_grindOff_102 hl (k := 4) rfl (by rw [ev_11]; rfl) (Nat.le_of_ble_eq_true rfl) rfl (fun ls hl => ?_)
    refine lv_goto (tgt := 64) hx hb dX6_grindOff_105 (by decide) ?_
    exact hk64 v_11 (upd v_fats (Int32.toNatClampNeg v_8) v_10) h _ _ hW _ (lv_sub hl [2, 3, 4, 0] rfl)
theorem wX6_grindOff_64_ {a_this a_thick a_hollow a_damp a_fresh a_pulls a_fats : Nat} (x1 : Int32) (x2 : Int32) (v_there : Int32) (v_thick : Nat → Int32) (v_hollow : Nat → Int32) (v_fresh : Nat → Int32) (v_pulls : Nat → Int32) {res : (Nat → Int32) × (Nat → Int32) × (Nat → Int32) × (Nat → Int32) × (Nat → Int32)} (C : Cx p s m av meth c RX6 cX6_grindOff 6 none G cI cZ cO A) (hQ : RV p l e rX6_grindOff s m av below meth c G A cX6_grindOff Q (wX6_grindOff cI cZ a_this a_thick a_hollow a_damp a_fresh a_pulls a_fats v_there res.1 res.2.1 res.2.2.1 res.2.2.2.1 res.2.2.2.2)) : ∀ (n : Nat) (x4 : Int32) (v_fats : Nat → Int32), LX6_grindOff_64 x1 x2 v_thick v_hollow v_fresh v_pulls n x4 v_fats = some res → ∀ (H : Heap) (locs : List Loc), HW G A s (wX6_grindOff cI cZ a_this a_thick a_hollow a_damp a_fresh a_pulls a_fats v_there v_thick v_hollow v_fresh v_pulls v_fats) H locs → ∀ ls : Array Slot, lv_has ls 6 [(0, .ref a_this), (1, .int x1), (2, .int x2), (4, .int x4)] → W p l e rX6_grindOff s m av below meth c H locs 0 0 Q (F0 m 64 ls []) := by
  intro n
  induction n with
  | zero => intro x4 v_fats h; cases h
  | succ n ih =>
    intro x4 v_fats h H locs hW ls hl
    exact uX6_grindOff_64 x1 x2 x4 v_there v_thick v_hollow v_fresh v_pulls v_fats C hQ (k64 := LX6_grindOff_64 x1 x2 v_thick v_hollow v_fresh v_pulls n) ih h H locs hW ls hl
set_option maxRecDepth 20000 in
theorem uX6_grindOff_0 {a_this a_thick a_hollow a_damp a_fresh a_pulls a_fats : Nat} (x1 : Int32) (x2 : Int32) (x3 : Int32) (v_there : Int32) (v_thick : Nat → Int32) (v_hollow : Nat → Int32) (v_fresh : Nat → Int32) (v_pulls : Nat → Int32) (v_fats : Nat → Int32) {res : (Nat → Int32) × (Nat → Int32) × (Nat → Int32) × (Nat → Int32) × (Nat → Int32)} (C : Cx p s m av meth c RX6 cX6_grindOff 6 none G cI cZ cO A) (hQ : RV p l e rX6_grindOff s m av below meth c G A cX6_grindOff Q (wX6_grindOff cI cZ a_this a_thick a_hollow a_damp a_fresh a_pulls a_fats v_there res.1 res.2.1 res.2.2.1 res.2.2.2.1 res.2.2.2.2)) (h : fX6_grindOff x1 x2 x3 v_there v_thick v_hollow v_fresh v_pulls v_fats = some res) (H : Heap) (locs : List Loc) (hW : HW G A s (wX6_grindOff cI cZ a_this a_thick a_hollow a_damp a_fresh a_pulls a_fats v_there v_thick v_hollow v_fresh v_pulls v_fats) H locs) (ls : Array Slot) (hl : lv_has ls 6 [(0, .ref a_this), (1, .int x1), (2, .int x2), (3, .int x3)]) : W p l e rX6_grindOff s m av below meth c H locs 0 0 Q (F0 m 0 ls []) := by
  have hx := C.1
  have hb := C.2.1
  unfold fX6_grindOff at h
  refine lv_aload_n hx hb dX6_grindOff_0 rfl (lv_at hl 0 rfl) ?_
  refine lv_iload_n hx hb dX6_grindOff_1 rfl (lv_at hl 1 rfl) ?_
  refine callVIr [0] C lk_RX6_40 (ctX6_has a_this a_thick a_hollow a_damp a_fresh a_pulls a_fats x1 v_there rfl) hW hl 6 rfl rfl rfl rfl rfl ⟨rfl, rfl⟩ ⟨(Nat.le_of_ble_eq_true rfl), (Nat.le_of_ble_eq_true rfl)⟩ ⟨Nat.zero_le _, Nat.zero_le _⟩ rfl (Nat.le_of_ble_eq_true rfl) dX6_grindOff_2 (fun H locs hW => ?_)
  refine lv_if_ne (tgt := 9) hx hb dX6_grindOff_5 (by decide) (fun c_1 => ?_) (fun c_1 => ?_)
  · have h := in_h c_1 h
    refine lv_aload_n hx hb dX6_grindOff_9 rfl (lv_at hl 0 rfl) ?_
    refine getW C fl_RX6_9 hW 0 rfl rfl dX6_grindOff_10 ?_
    refine lv_iload_n hx hb dX6_grindOff_13 rfl (lv_at hl 1 rfl) ?_
    refine lv_dup2_11 hx hb dX6_grindOff_14 rfl rfl ?_
    obtain ⟨g_2, h⟩ := gd_h h
    refine ialdW C hW 1 rfl g_2 dX6_grindOff_15 ?_
    refine lv_iconst (v := (3 : Int32)) hx hb dX6_grindOff_16 (by decide) ?_
    refine lv_iload_n hx hb dX6_grindOff_17 rfl (lv_at hl 2 rfl) ?_
    refine lv_imul hx hb dX6_grindOff_18 ?_
    refine lv_isub hx hb dX6_grindOff_19 ?_
    refine lv_topi (fun v_3 ev_3 => ?_)
    have h := lt_h ev_3 h
    refine iastW C hW 1 rfl g_2 dX6_grindOff_20 (fun H locs hW => ?_)
    have hW : HW G A s (wX6_grindOff cI cZ a_this a_thick a_hollow a_damp a_fresh a_pulls a_fats v_there (upd v_thick (Int32.toNatClampNeg x1) v_3) v_hollow v_fresh v_pulls v_fats) H locs := hW
    refine lv_aload_n hx hb dX6_grindOff_21 rfl (lv_at hl 0 rfl) ?_
    refine getW C fl_RX6_15 hW 0 rfl rfl dX6_grindOff_22 ?_
    refine lv_iload_n hx hb dX6_grindOff_25 rfl (lv_at hl 1 rfl) ?_
    refine lv_iload_n hx hb dX6_grindOff_26 rfl (lv_at hl 3 rfl) ?_
    refine lv_if_eq (tgt := 48) hx hb dX6_grindOff_27 (by decide) (fun c_4 => ?_) (fun c_4 => ?_)
    · have h := ip_h c_4 h
      refine lv_iconst (v := (0 : Int32)) hx hb dX6_grindOff_48 (by decide) ?_
      refine lv_aload_n hx hb dX6_grindOff_49 rfl (lv_at hl 0 rfl) ?_
      refine getW C fl_RX6_15 hW 0 rfl rfl dX6_grindOff_50 ?_
      refine lv_iload_n hx hb dX6_grindOff_53 rfl (lv_at hl 1 rfl) ?_
      refine ialdW C hW 2 rfl g_2 dX6_grindOff_54 ?_
      refine lv_iload_n hx hb dX6_grindOff_55 rfl (lv_at hl 2 rfl) ?_
      refine lv_isub hx hb dX6_grindOff_56 ?_
      refine maxW C lk_RX6_63 hl (Nat.le_of_ble_eq_true rfl) (Nat.le_of_ble_eq_true rfl) ⟨Nat.zero_le _, Nat.zero_le _⟩ dX6_grindOff_57 ?_
      refine lv_topi (fun v_5 ev_5 => ?_)
      have h := lt_h ev_5 h
      refine iastW C hW 2 rfl g_2 dX6_grindOff_60 (fun H locs hW => ?_)
      have hW : HW G A s (wX6_grindOff cI cZ a_this a_thick a_hollow a_damp a_fresh a_pulls a_fats v_there (upd v_thick (Int32.toNatClampNeg x1) v_3) (upd v_hollow (Int32.toNatClampNeg x1) v_5) v_fresh v_pulls v_fats) H locs := hW
      refine lv_iconst (v := (0 : Int32)) hx hb dX6_grindOff_61 (by decide) ?_
      refine lv_istore (lv' := [(4, .int (0 : Int32)), (0, .ref a_this), (1, .int x1), (2, .int x2), (3, .int x3)]) hx hb dX6_grindOff_62 hl (Nat.le_of_ble_eq_true rfl) rfl (fun ls hl => ?_)
      exact wX6_grindOff_64_ x1 x2 v_there (upd v_thick (Int32.toNatClampNeg x1) v_3) (upd v_hollow (Int32.toNatClampNeg x1) v_5) v_fresh v_pulls C hQ 2000 (0 : Int32) v_fats h _ _ hW _ (lv_sub hl [1, 2, 3, 0] rfl)
    · have h := in_h c_4 h
      refine lv_bipush (v := (99 : Int32)) hx hb dX6_grindOff_30 (by decide) ?_
      refine lv_aload_n hx hb dX6_grindOff_32 rfl (lv_at hl 0 rfl) ?_
      refine getW C fl_RX6_15 hW 0 rfl rfl dX6_grindOff_33 ?_
      refine lv_iload_n hx hb dX6_grindOff_36 rfl (lv_at hl 1 rfl) ?_
      refine ialdW C hW 2 rfl g_2 dX6_grindOff_37 ?_
      refine lv_iconst (v := (2 : Int32)) hx hb dX6_grindOff_38 (by decide) ?_
      refine lv_iload_n hx hb dX6_grindOff_39 rfl (lv_at hl 2 rfl) ?_
      refine lv_imul hx hb dX6_grindOff_40 ?_
      refine lv_iadd hx hb dX6_grindOff_41 ?_
      refine minW C lk_RX6_58 hl (Nat.le_of_ble_eq_true rfl) (Nat.le_of_ble_eq_true rfl) ⟨Nat.zero_le _, Nat.zero_le _⟩ dX6_grindOff_42 ?_
      refine lv_goto (tgt := 60) hx hb dX6_grindOff_45 (by decide) ?_
      refine lv_topi (fun v_12 ev_12 => ?_)
      have h := lt_h ev_12 h
      refine iastW C hW 2 rfl g_2 dX6_grindOff_60 (fun H locs hW => ?_)
      have hW : HW G A s (wX6_grindOff cI cZ a_this a_thick a_hollow a_damp a_fresh a_pulls a_fats v_there (upd v_thick (Int32.toNatClampNeg x1) v_3) (upd v_hollow (Int32.toNatClampNeg x1) v_12) v_fresh v_pulls v_fats) H locs := hW
      refine lv_iconst (v := (0 : Int32)) hx hb dX6_grindOff_61 (by decide) ?_
      refine lv_istore (lv' := [(4, .int (0 : Int32)), (0, .ref a_this), (1, .int x1), (2, .int x2), (3, .int x3)]) hx hb dX6_grindOff_62 hl (Nat.le_of_ble_eq_true rfl) rfl (fun ls hl => ?_)
      exact wX6_grindOff_64_ x1 x2 v_there (upd v_thick (Int32.toNatClampNeg x1) v_3) (upd v_hollow (Int32.toNatClampNeg x1) v_12) v_fresh v_pulls C hQ 2000 (0 : Int32) v_fats h _ _ hW _ (lv_sub hl [1, 2, 3, 0] rfl)
  · have h := ip_h c_1 h
    obtain rfl := Option.some.inj h
    exact hQ _ _ _ _ dX6_grindOff_8 hW
theorem ctX6_grindOff {l : Launch} {G : va_G} {cI cZ cO : ClassId} (a_this a_thick a_hollow a_damp a_fresh a_pulls a_fats : Nat) (x1 : Int32) (x2 : Int32) (x3 : Int32) (v_there : Int32) (v_thick : Nat → Int32) (v_hollow : Nat → Int32) (v_fresh : Nat → Int32) (v_pulls : Nat → Int32) (v_fats : Nat → Int32) {res : (Nat → Int32) × (Nat → Int32) × (Nat → Int32) × (Nat → Int32) × (Nat → Int32)} (h : fX6_grindOff x1 x2 x3 v_there v_thick v_hollow v_fresh v_pulls v_fats = some res) : MV l G cI cZ cO yX6_grindOff cX6_grindOff 6 rX6_grindOff [.ref a_this, .int x1, .int x2, .int x3] (wX6_grindOff cI cZ a_this a_thick a_hollow a_damp a_fresh a_pulls a_fats v_there v_thick v_hollow v_fresh v_pulls v_fats) (wX6_grindOff cI cZ a_this a_thick a_hollow a_damp a_fresh a_pulls a_fats v_there res.1 res.2.1 res.2.2.1 res.2.2.2.1 res.2.2.2.2) := by
  refine MV.of (by decide) (Nat.le_of_ble_eq_true rfl) ?_
  intro p e s m below meth c A Q C hW hQ ls hl
  exact uX6_grindOff_0 x1 x2 x3 v_there v_thick v_hollow v_fresh v_pulls v_fats C hQ h _ _ hW _ hl
abbrev wX6_wet (cI cZ : ClassId) (a_this a_thick a_hollow a_damp a_fresh a_pulls a_fats : Nat) (v_there : Int32) (v_damp : Nat → Int32) : va_W := [(a_this, .inr (6, [.int v_there, .ref a_thick, .ref a_hollow, .ref a_damp, .ref a_fresh, .ref a_pulls, .ref a_fats])), (a_damp, .inl (cI, 5, .inl v_damp))]
abbrev rX6_wet : Room := { frames := 1, cells := 0, slots := 0, locals := 23 }
set_option maxRecDepth 20000 in
theorem uX6_wet_0 {a_this a_thick a_hollow a_damp a_fresh a_pulls a_fats : Nat} (x1 : Int32) (x2 : Int32) (v_there : Int32) (v_damp : Nat → Int32) {res : (Nat → Int32)} (C : Cx p s m av meth c RX6 cX6_wet 3 none G cI cZ cO A) (hQ : RV p l e rX6_wet s m av below meth c G A cX6_wet Q (wX6_wet cI cZ a_this a_thick a_hollow a_damp a_fresh a_pulls a_fats v_there res)) (h : fX6_wet x1 x2 v_there v_damp = some res) (H : Heap) (locs : List Loc) (hW : HW G A s (wX6_wet cI cZ a_this a_thick a_hollow a_damp a_fresh a_pulls a_fats v_there v_damp) H locs) (ls : Array Slot) (hl : lv_has ls 3 [(0, .ref a_this), (1, .int x1), (2, .int x2)]) : W p l e rX6_wet s m av below meth c H locs 0 0 Q (F0 m 0 ls []) := by
  have hx := C.1
  have hb := C.2.1
  unfold fX6_wet at h
  refine lv_aload_n hx hb dX6_wet_0 rfl (lv_at hl 0 rfl) ?_
  refine lv_iload_n hx hb dX6_wet_1 rfl (lv_at hl 1 rfl) ?_
  refine callVIr [0] C lk_RX6_40 (ctX6_has a_this a_thick a_hollow a_damp a_fresh a_pulls a_fats x1 v_there rfl) hW hl 6 rfl rfl rfl rfl rfl ⟨rfl, rfl⟩ ⟨(Nat.le_of_ble_eq_true rfl), (Nat.le_of_ble_eq_true rfl)⟩ ⟨Nat.zero_le _, Nat.zero_le _⟩ rfl (Nat.le_of_ble_eq_true rfl) dX6_wet_2 (fun H locs hW => ?_)
  refine lv_if_eq (tgt := 27) hx hb dX6_wet_5 (by decide) (fun c_1 => ?_) (fun c_1 => ?_)
  · have h := ip_h c_1 h
    obtain rfl := Option.some.inj h
    exact hQ _ _ _ _ dX6_wet_27 hW
  · have h := in_h c_1 h
    refine lv_aload_n hx hb dX6_wet_8 rfl (lv_at hl 0 rfl) ?_
    refine getW C fl_RX6_18 hW 0 rfl rfl dX6_wet_9 ?_
    refine lv_iload_n hx hb dX6_wet_12 rfl (lv_at hl 1 rfl) ?_
    refine lv_bipush (v := (20 : Int32)) hx hb dX6_wet_13 (by decide) ?_
    refine lv_aload_n hx hb dX6_wet_15 rfl (lv_at hl 0 rfl) ?_
    refine getW C fl_RX6_18 hW 0 rfl rfl dX6_wet_16 ?_
    refine lv_iload_n hx hb dX6_wet_19 rfl (lv_at hl 1 rfl) ?_
    obtain ⟨g_2, h⟩ := gd_h h
    refine ialdW C hW 1 rfl g_2 dX6_wet_20 ?_
    refine lv_iload_n hx hb dX6_wet_21 rfl (lv_at hl 2 rfl) ?_
    refine lv_iadd hx hb dX6_wet_22 ?_
    refine minW C lk_RX6_58 hl (Nat.le_of_ble_eq_true rfl) (Nat.le_of_ble_eq_true rfl) ⟨Nat.zero_le _, Nat.zero_le _⟩ dX6_wet_23 ?_
    refine lv_topi (fun v_3 ev_3 => ?_)
    have h := lt_h ev_3 h
    refine iastW C hW 1 rfl g_2 dX6_wet_26 (fun H locs hW => ?_)
    have hW : HW G A s (wX6_wet cI cZ a_this a_thick a_hollow a_damp a_fresh a_pulls a_fats v_there (upd v_damp (Int32.toNatClampNeg x1) v_3)) H locs := hW
    obtain rfl := Option.some.inj h
    exact hQ _ _ _ _ dX6_wet_27 hW
theorem ctX6_wet {l : Launch} {G : va_G} {cI cZ cO : ClassId} (a_this a_thick a_hollow a_damp a_fresh a_pulls a_fats : Nat) (x1 : Int32) (x2 : Int32) (v_there : Int32) (v_damp : Nat → Int32) {res : (Nat → Int32)} (h : fX6_wet x1 x2 v_there v_damp = some res) : MV l G cI cZ cO yX6_wet cX6_wet 3 rX6_wet [.ref a_this, .int x1, .int x2] (wX6_wet cI cZ a_this a_thick a_hollow a_damp a_fresh a_pulls a_fats v_there v_damp) (wX6_wet cI cZ a_this a_thick a_hollow a_damp a_fresh a_pulls a_fats v_there res) := by
  refine MV.of (by decide) (Nat.le_of_ble_eq_true rfl) ?_
  intro p e s m below meth c A Q C hW hQ ls hl
  exact uX6_wet_0 x1 x2 v_there v_damp C hQ h _ _ hW _ hl
abbrev wX6_glueBelow (cI cZ : ClassId) (a_this a_thick a_hollow a_damp a_fresh a_pulls a_fats : Nat) (v_there : Int32) (v_thick : Nat → Int32) : va_W := [(a_this, .inr (6, [.int v_there, .ref a_thick, .ref a_hollow, .ref a_damp, .ref a_fresh, .ref a_pulls, .ref a_fats])), (a_thick, .inl (cI, 5, .inl v_thick))]
abbrev rX6_glueBelow : Room := { frames := 2, cells := 0, slots := 0, locals := 42 }
set_option maxRecDepth 20000 in
theorem uX6_glueBelow_0 {a_this a_thick a_hollow a_damp a_fresh a_pulls a_fats : Nat} (x1 : Int32) (x2 : Int32) (v_there : Int32) (v_thick : Nat → Int32) {res : Int32 × (Nat → Int32)} (C : Cx p s m av meth c RX6 cX6_glueBelow 3 none G cI cZ cO A) (hQ : RV p l e rX6_glueBelow s m av below meth c G A cX6_glueBelow Q (wX6_glueBelow cI cZ a_this a_thick a_hollow a_damp a_fresh a_pulls a_fats res.1 res.2)) (h : fX6_glueBelow x1 x2 v_there v_thick = some res) (H : Heap) (locs : List Loc) (hW : HW G A s (wX6_glueBelow cI cZ a_this a_thick a_hollow a_damp a_fresh a_pulls a_fats v_there v_thick) H locs) (ls : Array Slot) (hl : lv_has ls 3 [(0, .ref a_this), (1, .int x1), (2, .int x2)]) : W p l e rX6_glueBelow s m av below meth c H locs 0 0 Q (F0 m 0 ls []) := by
  have hx := C.1
  have hb := C.2.1
  unfold fX6_glueBelow at h
  refine lv_aload_n hx hb dX6_glueBelow_0 rfl (lv_at hl 0 rfl) ?_
  refine lv_iload_n hx hb dX6_glueBelow_1 rfl (lv_at hl 1 rfl) ?_
  refine callVIr [0] C lk_RX6_40 (ctX6_has a_this a_thick a_hollow a_damp a_fresh a_pulls a_fats x1 v_there rfl) hW hl 6 rfl rfl rfl rfl rfl ⟨rfl, rfl⟩ ⟨(Nat.le_of_ble_eq_true rfl), (Nat.le_of_ble_eq_true rfl)⟩ ⟨Nat.zero_le _, Nat.zero_le _⟩ rfl (Nat.le_of_ble_eq_true rfl) dX6_glueBelow_2 (fun H locs hW => ?_)
  refine lv_if_eq (tgt := 51) hx hb dX6_glueBelow_5 (by decide) (fun c_1 => ?_) (fun c_1 => ?_)
  · have h := ip_h c_1 h
    obtain rfl := Option.some.inj h
    exact hQ _ _ _ _ dX6_glueBelow_51 hW
  · have h := in_h c_1 h
    refine lv_aload_n hx hb dX6_glueBelow_8 rfl (lv_at hl 0 rfl) ?_
    refine lv_iload_n hx hb dX6_glueBelow_9 rfl (lv_at hl 2 rfl) ?_
    refine callVIr [0] C lk_RX6_40 (ctX6_has a_this a_thick a_hollow a_damp a_fresh a_pulls a_fats x2 v_there rfl) hW hl 6 rfl rfl rfl rfl rfl ⟨rfl, rfl⟩ ⟨(Nat.le_of_ble_eq_true rfl), (Nat.le_of_ble_eq_true rfl)⟩ ⟨Nat.zero_le _, Nat.zero_le _⟩ rfl (Nat.le_of_ble_eq_true rfl) dX6_glueBelow_10 (fun H locs hW => ?_)
    refine lv_if_eq (tgt := 51) hx hb dX6_glueBelow_13 (by decide) (fun c_2 => ?_) (fun c_2 => ?_)
    · have h := ip_h c_2 h
      obtain rfl := Option.some.inj h
      exact hQ _ _ _ _ dX6_glueBelow_51 hW
    · have h := in_h c_2 h
      refine lv_iload_n hx hb dX6_glueBelow_16 rfl (lv_at hl 1 rfl) ?_
      refine lv_iload_n hx hb dX6_glueBelow_17 rfl (lv_at hl 2 rfl) ?_
      refine lv_icmp_eq (tgt := 51) hx hb dX6_glueBelow_18 (by decide) (fun c_3 => ?_) (fun c_3 => ?_)
      · have h := ip_h c_3 h
        obtain rfl := Option.some.inj h
        exact hQ _ _ _ _ dX6_glueBelow_51 hW
      · have h := in_h c_3 h
        refine lv_aload_n hx hb dX6_glueBelow_21 rfl (lv_at hl 0 rfl) ?_
        refine getW C fl_RX6_9 hW 0 rfl rfl dX6_glueBelow_22 ?_
        refine lv_iload_n hx hb dX6_glueBelow_25 rfl (lv_at hl 1 rfl) ?_
        refine lv_sipush (v := (9999 : Int32)) hx hb dX6_glueBelow_26 (by decide) ?_
        refine lv_aload_n hx hb dX6_glueBelow_29 rfl (lv_at hl 0 rfl) ?_
        refine getW C fl_RX6_9 hW 0 rfl rfl dX6_glueBelow_30 ?_
        refine lv_iload_n hx hb dX6_glueBelow_33 rfl (lv_at hl 1 rfl) ?_
        obtain ⟨g_4, h⟩ := gd_h h
        refine ialdW C hW 1 rfl g_4 dX6_glueBelow_34 ?_
        refine lv_aload_n hx hb dX6_glueBelow_35 rfl (lv_at hl 0 rfl) ?_
        refine getW C fl_RX6_9 hW 0 rfl rfl dX6_glueBelow_36 ?_
        refine lv_iload_n hx hb dX6_glueBelow_39 rfl (lv_at hl 2 rfl) ?_
        obtain ⟨g_5, h⟩ := gd_h h
        refine ialdW C hW 1 rfl g_5 dX6_glueBelow_40 ?_
        refine lv_iadd hx hb dX6_glueBelow_41 ?_
        refine minW C lk_RX6_58 hl (Nat.le_of_ble_eq_true rfl) (Nat.le_of_ble_eq_true rfl) ⟨Nat.zero_le _, Nat.zero_le _⟩ dX6_glueBelow_42 ?_
        refine lv_topi (fun v_6 ev_6 => ?_)
        have h := lt_h ev_6 h
        refine iastW C hW 1 rfl g_4 dX6_glueBelow_45 (fun H locs hW => ?_)
        have hW : HW G A s (wX6_glueBelow cI cZ a_this a_thick a_hollow a_damp a_fresh a_pulls a_fats v_there (upd v_thick (Int32.toNatClampNeg x1) v_6)) H locs := hW
        refine lv_aload_n hx hb dX6_glueBelow_46 rfl (lv_at hl 0 rfl) ?_
        refine lv_iload_n hx hb dX6_glueBelow_47 rfl (lv_at hl 2 rfl) ?_
        obtain ⟨v_7, ev_7⟩ : ∃ z, z = (fX6_take x2 v_there) := ⟨_, rfl⟩
        have h := lt_h ev_7 h
        refine callVVm [0] [1] [(a_thick, .inl (cI, 5, .inl (upd v_thick (Int32.toNatClampNeg x1) v_6)))] (wX6_glueBelow cI cZ a_this a_thick a_hollow a_damp a_fresh a_pulls a_fats v_7 (upd v_thick (Int32.toNatClampNeg x1) v_6)) C lk_RX6_66 (ctX6_take a_this a_thick a_hollow a_damp a_fresh a_pulls a_fats x2 v_there ev_7.symm) hW hl 6 rfl rfl rfl rfl rfl rfl rfl rfl rfl rfl ⟨rfl, rfl⟩ ⟨(Nat.le_of_ble_eq_true rfl), (Nat.le_of_ble_eq_true rfl)⟩ ⟨Nat.zero_le _, Nat.zero_le _⟩ rfl (Nat.le_of_ble_eq_true rfl) dX6_glueBelow_48 (fun H locs hW => ?_)
        obtain rfl := Option.some.inj h
        exact hQ _ _ _ _ dX6_glueBelow_51 hW
theorem ctX6_glueBelow {l : Launch} {G : va_G} {cI cZ cO : ClassId} (a_this a_thick a_hollow a_damp a_fresh a_pulls a_fats : Nat) (x1 : Int32) (x2 : Int32) (v_there : Int32) (v_thick : Nat → Int32) {res : Int32 × (Nat → Int32)} (h : fX6_glueBelow x1 x2 v_there v_thick = some res) : MV l G cI cZ cO yX6_glueBelow cX6_glueBelow 3 rX6_glueBelow [.ref a_this, .int x1, .int x2] (wX6_glueBelow cI cZ a_this a_thick a_hollow a_damp a_fresh a_pulls a_fats v_there v_thick) (wX6_glueBelow cI cZ a_this a_thick a_hollow a_damp a_fresh a_pulls a_fats res.1 res.2) := by
  refine MV.of (by decide) (Nat.le_of_ble_eq_true rfl) ?_
  intro p e s m below meth c A Q C hW hQ ls hl
  exact uX6_glueBelow_0 x1 x2 v_there v_thick C hQ h _ _ hW _ hl
abbrev wX6_pullOnce (cI cZ : ClassId) (a_this a_thick a_hollow a_damp a_fresh a_pulls a_fats : Nat) (v_there : Int32) (v_fresh : Nat → Int32) (v_damp : Nat → Int32) (v_pulls : Nat → Int32) (v_fats : Nat → Int32) : va_W := [(a_this, .inr (6, [.int v_there, .ref a_thick, .ref a_hollow, .ref a_damp, .ref a_fresh, .ref a_pulls, .ref a_fats])), (a_fresh, .inl (cI, 5, .inl v_fresh)), (a_damp, .inl (cI, 5, .inl v_damp)), (a_pulls, .inl (cI, 5, .inl v_pulls)), (a_fats, .inl (cI, 40, .inl v_fats))]
abbrev rX6_pullOnce : Room := { frames := 1, cells := 0, slots := 0, locals := 25 }
set_option maxRecDepth 20000 in
theorem uX6_pullOnce_101 {a_this a_thick a_hollow a_damp a_fresh a_pulls a_fats : Nat} (x1 : Int32) (x3 : Int32) (x4 : Int32) (v_there : Int32) (v_fresh : Nat → Int32) (v_damp : Nat → Int32) (v_pulls : Nat → Int32) (v_fats : Nat → Int32) {res : Int32 × (Nat → Int32) × (Nat → Int32) × (Nat → Int32)} (C : Cx p s m av meth c RX6 cX6_pullOnce 5 (some .int) G cI cZ cO A) (hQ : RI p l e rX6_pullOnce s m av below meth c G A cX6_pullOnce .int Q (res.1) (wX6_pullOnce cI cZ a_this a_thick a_hollow a_damp a_fresh a_pulls a_fats v_there v_fresh res.2.1 res.2.2.1 res.2.2.2)) (h : fX6_pullOnce_101 x1 x3 x4 v_fresh v_damp v_pulls v_fats = some res) (H : Heap) (locs : List Loc) (hW : HW G A s (wX6_pullOnce cI cZ a_this a_thick a_hollow a_damp a_fresh a_pulls a_fats v_there v_fresh v_damp v_pulls v_fats) H locs) (ls : Array Slot) (hl : lv_has ls 5 [(0, .ref a_this), (1, .int x1), (3, .int x3), (4, .int x4)]) : W p l e rX6_pullOnce s m av below meth c H locs 0 0 Q (F0 m 101 ls []) := by
  have hx := C.1
  have hb := C.2.1
  unfold fX6_pullOnce_101 at h
  refine lv_iload_n hx hb dX6_pullOnce_101 rfl (lv_at hl 2 rfl) ?_
  refine lv_iconst (v := (3 : Int32)) hx hb dX6_pullOnce_102 (by decide) ?_
  refine lv_icmp_gt (tgt := 108) hx hb dX6_pullOnce_103 (by decide) (fun c_9 => ?_) (fun c_9 => ?_)
  · have h := ip_h c_9 h
    refine lv_iload_n hx hb dX6_pullOnce_108 rfl (lv_at hl 2 rfl) ?_
    refine lv_bipush (v := (15 : Int32)) hx hb dX6_pullOnce_109 (by decide) ?_
    refine lv_icmp_lt (tgt := 116) hx hb dX6_pullOnce_111 (by decide) (fun c_10 => ?_) (fun c_10 => ?_)
    · have h := ip_h c_10 h
      refine lv_aload_n hx hb dX6_pullOnce_116 rfl (lv_at hl 0 rfl) ?_
      refine lv_iload_n hx hb dX6_pullOnce_117 rfl (lv_at hl 1 rfl) ?_
      refine lv_aload_n hx hb dX6_pullOnce_118 rfl (lv_at hl 0 rfl) ?_
      refine getW C fl_RX6_21 hW 0 rfl rfl dX6_pullOnce_119 ?_
      refine lv_iload_n hx hb dX6_pullOnce_122 rfl (lv_at hl 1 rfl) ?_
      obtain ⟨g_11, h⟩ := gd_h h
      refine ialdW C hW 1 rfl g_11 dX6_pullOnce_123 ?_
      obtain ⟨v_12, hv_12, h⟩ := bd_h h
      refine callVIr [0, 4] C lk_RX6_54 (ctX6_ghostFat a_this a_thick a_hollow a_damp a_fresh a_pulls a_fats x1 (v_fresh (Int32.toNatClampNeg x1)) v_there v_fats hv_12) hW hl 6 rfl rfl rfl rfl rfl ⟨rfl, rfl⟩ ⟨(Nat.le_of_ble_eq_true rfl), (Nat.le_of_ble_eq_true rfl)⟩ ⟨Nat.zero_le _, Nat.zero_le _⟩ rfl (Nat.le_of_ble_eq_true rfl) dX6_pullOnce_124 (fun H locs hW => ?_)
      refine lv_aload_n hx hb dX6_pullOnce_127 rfl (lv_at hl 0 rfl) ?_
      refine getW C fl_RX6_27 hW 0 rfl rfl dX6_pullOnce_128 ?_
      refine lv_iload hx hb dX6_pullOnce_131 (lv_at hl 3 rfl) ?_
      obtain ⟨g_13, h⟩ := gd_h h
      refine ialdW C hW 4 rfl g_13 dX6_pullOnce_133 ?_
      refine lv_icmp_le (tgt := 139) hx hb dX6_pullOnce_134 (by decide) (fun c_14 => ?_) (fun c_14 => ?_)
      · have h := ip_h c_14 h
        refine lv_aload_n hx hb dX6_pullOnce_139 rfl (lv_at hl 0 rfl) ?_
        refine getW C fl_RX6_27 hW 0 rfl rfl dX6_pullOnce_140 ?_
        refine lv_iload hx hb dX6_pullOnce_143 (lv_at hl 3 rfl) ?_
        refine ialdW C hW 4 rfl g_13 dX6_pullOnce_145 ?_
        refine lv_if_ne (tgt := 153) hx hb dX6_pullOnce_146 (by decide) (fun c_15 => ?_) (fun c_15 => ?_)
        · have h := in_h c_15 h
          refine lv_iconst (v := (0 : Int32)) hx hb dX6_pullOnce_153 (by decide) ?_
          obtain rfl := Option.some.inj h
          exact hQ rfl _ _ _ _ dX6_pullOnce_154 hW
        · have h := ip_h c_15 h
          refine lv_iconst (v := (4 : Int32)) hx hb dX6_pullOnce_149 (by decide) ?_
          refine lv_goto (tgt := 154) hx hb dX6_pullOnce_150 (by decide) ?_
          obtain rfl := Option.some.inj h
          exact hQ rfl _ _ _ _ dX6_pullOnce_154 hW
      · have h := in_h c_14 h
        refine lv_iconst (v := (3 : Int32)) hx hb dX6_pullOnce_137 (by decide) ?_
        obtain rfl := Option.some.inj h
        exact hQ rfl _ _ _ _ dX6_pullOnce_138 hW
    · have h := in_h c_10 h
      refine lv_iconst (v := (2 : Int32)) hx hb dX6_pullOnce_114 (by decide) ?_
      obtain rfl := Option.some.inj h
      exact hQ rfl _ _ _ _ dX6_pullOnce_115 hW
  · have h := in_h c_9 h
    refine lv_iconst (v := (1 : Int32)) hx hb dX6_pullOnce_106 (by decide) ?_
    obtain rfl := Option.some.inj h
    exact hQ rfl _ _ _ _ dX6_pullOnce_107 hW
set_option maxRecDepth 20000 in
theorem uX6_pullOnce_0 {a_this a_thick a_hollow a_damp a_fresh a_pulls a_fats : Nat} (x1 : Int32) (x2 : Int32) (v_there : Int32) (v_fresh : Nat → Int32) (v_damp : Nat → Int32) (v_pulls : Nat → Int32) (v_fats : Nat → Int32) {res : Int32 × (Nat → Int32) × (Nat → Int32) × (Nat → Int32)} (C : Cx p s m av meth c RX6 cX6_pullOnce 5 (some .int) G cI cZ cO A) (hQ : RI p l e rX6_pullOnce s m av below meth c G A cX6_pullOnce .int Q (res.1) (wX6_pullOnce cI cZ a_this a_thick a_hollow a_damp a_fresh a_pulls a_fats v_there v_fresh res.2.1 res.2.2.1 res.2.2.2)) (h : fX6_pullOnce x1 x2 v_there v_fresh v_damp v_pulls v_fats = some res) (H : Heap) (locs : List Loc) (hW : HW G A s (wX6_pullOnce cI cZ a_this a_thick a_hollow a_damp a_fresh a_pulls a_fats v_there v_fresh v_damp v_pulls v_fats) H locs) (ls : Array Slot) (hl : lv_has ls 5 [(0, .ref a_this), (1, .int x1), (2, .int x2)]) : W p l e rX6_pullOnce s m av below meth c H locs 0 0 Q (F0 m 0 ls []) := by
  have hx := C.1
  have hb := C.2.1
  unfold fX6_pullOnce at h
  refine lv_aload_n hx hb dX6_pullOnce_0 rfl (lv_at hl 0 rfl) ?_
  refine lv_iload_n hx hb dX6_pullOnce_1 rfl (lv_at hl 1 rfl) ?_
  refine callVIr [0] C lk_RX6_40 (ctX6_has a_this a_thick a_hollow a_damp a_fresh a_pulls a_fats x1 v_there rfl) hW hl 6 rfl rfl rfl rfl rfl ⟨rfl, rfl⟩ ⟨(Nat.le_of_ble_eq_true rfl), (Nat.le_of_ble_eq_true rfl)⟩ ⟨Nat.zero_le _, Nat.zero_le _⟩ rfl (Nat.le_of_ble_eq_true rfl) dX6_pullOnce_2 (fun H locs hW => ?_)
  refine lv_if_eq (tgt := 23) hx hb dX6_pullOnce_5 (by decide) (fun c_1 => ?_) (fun c_1 => ?_)
  · have h := ip_h c_1 h
    refine lv_bipush (v := (-6 : Int32)) hx hb dX6_pullOnce_23 (by decide) ?_
    obtain rfl := Option.some.inj h
    exact hQ rfl _ _ _ _ dX6_pullOnce_25 hW
  · have h := in_h c_1 h
    refine lv_aload_n hx hb dX6_pullOnce_8 rfl (lv_at hl 0 rfl) ?_
    refine getW C fl_RX6_21 hW 0 rfl rfl dX6_pullOnce_9 ?_
    refine lv_iload_n hx hb dX6_pullOnce_12 rfl (lv_at hl 1 rfl) ?_
    obtain ⟨g_2, h⟩ := gd_h h
    refine ialdW C hW 1 rfl g_2 dX6_pullOnce_13 ?_
    refine lv_iconst (v := (0 : Int32)) hx hb dX6_pullOnce_14 (by decide) ?_
    refine lv_bipush (v := (7 : Int32)) hx hb dX6_pullOnce_15 (by decide) ?_
    refine callNI0 C lk_RX6_44 (ctX10_inside (v_fresh (Int32.toNatClampNeg x1)) (0 : Int32) (7 : Int32) rfl) hW hl rfl ⟨rfl, rfl⟩ ⟨(Nat.le_of_ble_eq_true rfl), (Nat.le_of_ble_eq_true rfl)⟩ ⟨Nat.zero_le _, Nat.zero_le _⟩ rfl (Nat.le_of_ble_eq_true rfl) dX6_pullOnce_17 (fun H locs hW => ?_)
    refine lv_if_ne (tgt := 26) hx hb dX6_pullOnce_20 (by decide) (fun c_3 => ?_) (fun c_3 => ?_)
    · have h := in_h c_3 h
      refine lv_aload_n hx hb dX6_pullOnce_26 rfl (lv_at hl 0 rfl) ?_
      refine getW C fl_RX6_18 hW 0 rfl rfl dX6_pullOnce_27 ?_
      refine lv_iload_n hx hb dX6_pullOnce_30 rfl (lv_at hl 1 rfl) ?_
      refine ialdW C hW 2 rfl g_2 dX6_pullOnce_31 ?_
      refine lv_topi (fun v_4 ev_4 => ?_)
      have h := lt_h ev_4 h
      refine lv_istore_n (lv' := [(3, .int v_4), (0, .ref a_this), (1, .int x1), (2, .int x2)]) hx hb dX6_pullOnce_32 rfl hl (Nat.le_of_ble_eq_true rfl) rfl (fun ls hl => ?_)
      refine lv_iload_n hx hb dX6_pullOnce_33 rfl (lv_at hl 2 rfl) ?_
      refine lv_bipush (v := (8 : Int32)) hx hb dX6_pullOnce_34 (by decide) ?_
      refine lv_imul hx hb dX6_pullOnce_36 ?_
      refine lv_aload_n hx hb dX6_pullOnce_37 rfl (lv_at hl 1 rfl) ?_
      refine getW C fl_RX6_21 hW 0 rfl rfl dX6_pullOnce_38 ?_
      refine lv_iload_n hx hb dX6_pullOnce_41 rfl (lv_at hl 2 rfl) ?_
      refine ialdW C hW 1 rfl g_2 dX6_pullOnce_42 ?_
      refine lv_iadd hx hb dX6_pullOnce_43 ?_
      refine lv_topi (fun v_5 ev_5 => ?_)
      have h := lt_h ev_5 h
      refine lv_istore (lv' := [(4, .int v_5), (3, .int v_4), (0, .ref a_this), (1, .int x1), (2, .int x2)]) hx hb dX6_pullOnce_44 hl (Nat.le_of_ble_eq_true rfl) rfl (fun ls hl => ?_)
      refine lv_aload_n hx hb dX6_pullOnce_46 rfl (lv_at hl 2 rfl) ?_
      refine getW C fl_RX6_18 hW 0 rfl rfl dX6_pullOnce_47 ?_
      refine lv_iload_n hx hb dX6_pullOnce_50 rfl (lv_at hl 3 rfl) ?_
      refine lv_iconst (v := (0 : Int32)) hx hb dX6_pullOnce_51 (by decide) ?_
      refine lv_iload_n hx hb dX6_pullOnce_52 rfl (lv_at hl 1 rfl) ?_
      refine lv_iconst (v := (1 : Int32)) hx hb dX6_pullOnce_53 (by decide) ?_
      refine lv_isub hx hb dX6_pullOnce_54 ?_
      refine maxW C lk_RX6_63 hl (Nat.le_of_ble_eq_true rfl) (Nat.le_of_ble_eq_true rfl) ⟨Nat.zero_le _, Nat.zero_le _⟩ dX6_pullOnce_55 ?_
      refine lv_topi (fun v_6 ev_6 => ?_)
      have h := lt_h ev_6 h
      refine iastW C hW 2 rfl g_2 dX6_pullOnce_58 (fun H locs hW => ?_)
      have hW : HW G A s (wX6_pullOnce cI cZ a_this a_thick a_hollow a_damp a_fresh a_pulls a_fats v_there v_fresh (upd v_damp (Int32.toNatClampNeg x1) v_6) v_pulls v_fats) H locs := hW
      refine lv_aload_n hx hb dX6_pullOnce_59 rfl (lv_at hl 2 rfl) ?_
      refine getW C fl_RX6_24 hW 0 rfl rfl dX6_pullOnce_60 ?_
      refine lv_iload_n hx hb dX6_pullOnce_63 rfl (lv_at hl 3 rfl) ?_
      refine lv_dup2_11 hx hb dX6_pullOnce_64 rfl rfl ?_
      refine ialdW C hW 3 rfl g_2 dX6_pullOnce_65 ?_
      refine lv_iconst (v := (1 : Int32)) hx hb dX6_pullOnce_66 (by decide) ?_
      refine lv_iadd hx hb dX6_pullOnce_67 ?_
      refine lv_topi (fun v_7 ev_7 => ?_)
      have h := lt_h ev_7 h
      refine iastW C hW 3 rfl g_2 dX6_pullOnce_68 (fun H locs hW => ?_)
      have hW : HW G A s (wX6_pullOnce cI cZ a_this a_thick a_hollow a_damp a_fresh a_pulls a_fats v_there v_fresh (upd v_damp (Int32.toNatClampNeg x1) v_6) (upd v_pulls (Int32.toNatClampNeg x1) v_7) v_fats) H locs := hW
      refine lv_aload_n hx hb dX6_pullOnce_69 rfl (lv_at hl 2 rfl) ?_
      refine getW C fl_RX6_24 hW 0 rfl rfl dX6_pullOnce_70 ?_
      refine lv_iload_n hx hb dX6_pullOnce_73 rfl (lv_at hl 3 rfl) ?_
      refine ialdW C hW 3 rfl g_2 dX6_pullOnce_74 ?_
      refine lv_bipush (v := (10 : Int32)) hx hb dX6_pullOnce_75 (by decide) ?_
      refine lv_irem hx hb dX6_pullOnce_77 (by decide) ?_
      refine lv_if_ne (tgt := 101) hx hb dX6_pullOnce_78 (by decide) (fun c_8 => ?_) (fun c_8 => ?_)
      · have h := in_h c_8 h
        exact uX6_pullOnce_101 x1 v_4 v_5 v_there v_fresh (upd v_damp (Int32.toNatClampNeg x1) v_6) (upd v_pulls (Int32.toNatClampNeg x1) v_7) v_fats C hQ h _ _ hW _ (lv_sub hl [2, 3, 1, 0] rfl)
      · have h := ip_h c_8 h
        refine lv_aload_n hx hb dX6_pullOnce_81 rfl (lv_at hl 2 rfl) ?_
        refine getW C fl_RX6_27 hW 0 rfl rfl dX6_pullOnce_82 ?_
        refine lv_iload hx hb dX6_pullOnce_85 (lv_at hl 0 rfl) ?_
        refine lv_iconst (v := (0 : Int32)) hx hb dX6_pullOnce_87 (by decide) ?_
        refine lv_aload_n hx hb dX6_pullOnce_88 rfl (lv_at hl 2 rfl) ?_
        refine getW C fl_RX6_27 hW 0 rfl rfl dX6_pullOnce_89 ?_
        refine lv_iload hx hb dX6_pullOnce_92 (lv_at hl 0 rfl) ?_
        obtain ⟨g_16, h⟩ := gd_h h
        refine ialdW C hW 4 rfl g_16 dX6_pullOnce_94 ?_
        refine lv_iload_n hx hb dX6_pullOnce_95 rfl (lv_at hl 4 rfl) ?_
        refine lv_isub hx hb dX6_pullOnce_96 ?_
        refine maxW C lk_RX6_63 hl (Nat.le_of_ble_eq_true rfl) (Nat.le_of_ble_eq_true rfl) ⟨Nat.zero_le _, Nat.zero_le _⟩ dX6_pullOnce_97 ?_
        refine lv_topi (fun v_17 ev_17 => ?_)
        have h := lt_h ev_17 h
        refine iastW C hW 4 rfl g_16 dX6_pullOnce_100 (fun H locs hW => ?_)
        have hW : HW G A s (wX6_pullOnce cI cZ a_this a_thick a_hollow a_damp a_fresh a_pulls a_fats v_there v_fresh (upd v_damp (Int32.toNatClampNeg x1) v_6) (upd v_pulls (Int32.toNatClampNeg x1) v_7) (upd v_fats (Int32.toNatClampNeg v_5) v_17)) H locs := hW
        exact uX6_pullOnce_101 x1 v_4 v_5 v_there v_fresh (upd v_damp (Int32.toNatClampNeg x1) v_6) (upd v_pulls (Int32.toNatClampNeg x1) v_7) (upd v_fats (Int32.toNatClampNeg v_5) v_17) C hQ h _ _ hW _ (lv_sub hl [2, 3, 1, 0] rfl)
    · have h := ip_h c_3 h
      refine lv_bipush (v := (-6 : Int32)) hx hb dX6_pullOnce_23 (by decide) ?_
      obtain rfl := Option.some.inj h
      exact hQ rfl _ _ _ _ dX6_pullOnce_25 hW
theorem ctX6_pullOnce {l : Launch} {G : va_G} {cI cZ cO : ClassId} (a_this a_thick a_hollow a_damp a_fresh a_pulls a_fats : Nat) (x1 : Int32) (x2 : Int32) (v_there : Int32) (v_fresh : Nat → Int32) (v_damp : Nat → Int32) (v_pulls : Nat → Int32) (v_fats : Nat → Int32) {res : Int32 × (Nat → Int32) × (Nat → Int32) × (Nat → Int32)} (h : fX6_pullOnce x1 x2 v_there v_fresh v_damp v_pulls v_fats = some res) : MI l G cI cZ cO yX6_pullOnce cX6_pullOnce 5 .int rX6_pullOnce [.ref a_this, .int x1, .int x2] (wX6_pullOnce cI cZ a_this a_thick a_hollow a_damp a_fresh a_pulls a_fats v_there v_fresh v_damp v_pulls v_fats) (res.1) (wX6_pullOnce cI cZ a_this a_thick a_hollow a_damp a_fresh a_pulls a_fats v_there v_fresh res.2.1 res.2.2.1 res.2.2.2) := by
  refine MI.of (by decide) (Nat.le_of_ble_eq_true rfl) ?_
  intro p e s m below meth c A Q C hW hQ ls hl
  exact uX6_pullOnce_0 x1 x2 v_there v_fresh v_damp v_pulls v_fats C hQ h _ _ hW _ hl
abbrev wX7_add (cI cZ : ClassId) (a_this a_drawn a_pull : Nat) (v_size : Int32) (v_shown : Int32) (v_drawn : Nat → Int32) (v_pull : Nat → Int32) : va_W := [(a_this, .inr (7, [.int v_size, .int v_shown, .ref a_drawn, .ref a_pull])), (a_drawn, .inl (cI, 8, .inl v_drawn)), (a_pull, .inl (cI, 8, .inl v_pull))]
abbrev rX7_add : Room := { frames := 1, cells := 0, slots := 0, locals := 22 }
set_option maxRecDepth 20000 in
theorem uX7_add_0 {a_this a_drawn a_pull : Nat} (x1 : Int32) (x2 : Int32) (x3 : Int32) (v_size : Int32) (v_shown : Int32) (v_drawn : Nat → Int32) (v_pull : Nat → Int32) {res : Int32 × Int32 × Int32 × (Nat → Int32) × (Nat → Int32)} (C : Cx p s m av meth c RX7 cX7_add 4 (some .boolean) G cI cZ cO A) (hQ : RI p l e rX7_add s m av below meth c G A cX7_add .boolean Q (res.1) (wX7_add cI cZ a_this a_drawn a_pull res.2.2.1 res.2.1 res.2.2.2.1 res.2.2.2.2)) (h : fX7_add x1 x2 x3 v_size v_shown v_drawn v_pull = some res) (H : Heap) (locs : List Loc) (hW : HW G A s (wX7_add cI cZ a_this a_drawn a_pull v_size v_shown v_drawn v_pull) H locs) (ls : Array Slot) (hl : lv_has ls 4 [(0, .ref a_this), (1, .int x1), (2, .int x2), (3, .int x3)]) : W p l e rX7_add s m av below meth c H locs 0 0 Q (F0 m 0 ls []) := by
  have hx := C.1
  have hb := C.2.1
  unfold fX7_add at h
  refine lv_aload_n hx hb dX7_add_0 rfl (lv_at hl 0 rfl) ?_
  refine getW C fl_RX7_18 hW 0 rfl rfl dX7_add_1 ?_
  refine lv_iconst (v := (0 : Int32)) hx hb dX7_add_4 (by decide) ?_
  refine lv_bipush (v := (7 : Int32)) hx hb dX7_add_5 (by decide) ?_
  refine callNI0 C lk_RX7_22 (ctX10_inside v_size (0 : Int32) (7 : Int32) rfl) hW hl rfl ⟨rfl, rfl⟩ ⟨(Nat.le_of_ble_eq_true rfl), (Nat.le_of_ble_eq_true rfl)⟩ ⟨Nat.zero_le _, Nat.zero_le _⟩ rfl (Nat.le_of_ble_eq_true rfl) dX7_add_7 (fun H locs hW => ?_)
  refine lv_if_ne (tgt := 15) hx hb dX7_add_10 (by decide) (fun c_1 => ?_) (fun c_1 => ?_)
  · have h := in_h c_1 h
    refine lv_aload_n hx hb dX7_add_15 rfl (lv_at hl 0 rfl) ?_
    refine getW C fl_RX7_9 hW 0 rfl rfl dX7_add_16 ?_
    refine lv_aload_n hx hb dX7_add_19 rfl (lv_at hl 0 rfl) ?_
    refine getW C fl_RX7_18 hW 0 rfl rfl dX7_add_20 ?_
    refine lv_iload_n hx hb dX7_add_23 rfl (lv_at hl 1 rfl) ?_
    obtain ⟨g_2, h⟩ := gd_h h
    refine iastW C hW 1 rfl g_2 dX7_add_24 (fun H locs hW => ?_)
    have hW : HW G A s (wX7_add cI cZ a_this a_drawn a_pull v_size v_shown (upd v_drawn (Int32.toNatClampNeg v_size) x1) v_pull) H locs := hW
    refine lv_aload_n hx hb dX7_add_25 rfl (lv_at hl 0 rfl) ?_
    refine getW C fl_RX7_15 hW 0 rfl rfl dX7_add_26 ?_
    refine lv_aload_n hx hb dX7_add_29 rfl (lv_at hl 0 rfl) ?_
    refine getW C fl_RX7_18 hW 0 rfl rfl dX7_add_30 ?_
    refine lv_iload_n hx hb dX7_add_33 rfl (lv_at hl 2 rfl) ?_
    refine iastW C hW 2 rfl g_2 dX7_add_34 (fun H locs hW => ?_)
    have hW : HW G A s (wX7_add cI cZ a_this a_drawn a_pull v_size v_shown (upd v_drawn (Int32.toNatClampNeg v_size) x1) (upd v_pull (Int32.toNatClampNeg v_size) x2)) H locs := hW
    refine lv_aload_n hx hb dX7_add_35 rfl (lv_at hl 0 rfl) ?_
    refine lv_iload_n hx hb dX7_add_36 rfl (lv_at hl 3 rfl) ?_
    refine lv_if_eq (tgt := 54) hx hb dX7_add_37 (by decide) (fun c_3 => ?_) (fun c_3 => ?_)
    · have h := ip_h c_3 h
      refine lv_aload_n hx hb dX7_add_54 rfl (lv_at hl 0 rfl) ?_
      refine getW C fl_RX7_26 hW 0 rfl rfl dX7_add_55 ?_
      refine lv_iconst (v := (1 : Int32)) hx hb dX7_add_58 (by decide) ?_
      refine lv_aload_n hx hb dX7_add_59 rfl (lv_at hl 0 rfl) ?_
      refine getW C fl_RX7_18 hW 0 rfl rfl dX7_add_60 ?_
      refine lv_ishl hx hb dX7_add_63 ?_
      refine lv_iconst (v := (-1 : Int32)) hx hb dX7_add_64 (by decide) ?_
      refine lv_ixor hx hb dX7_add_65 ?_
      refine lv_iand hx hb dX7_add_66 ?_
      refine lv_topi (fun v_4 ev_4 => ?_)
      have h := lt_h ev_4 h
      refine putW C fp_RX7_26 hW 0 rfl rfl rfl (Nat.le_of_ble_eq_true rfl) dX7_add_67 (fun H locs hW => ?_)
      have hW : HW G A s (wX7_add cI cZ a_this a_drawn a_pull v_size v_4 (upd v_drawn (Int32.toNatClampNeg v_size) x1) (upd v_pull (Int32.toNatClampNeg v_size) x2)) H locs := hW
      refine lv_aload_n hx hb dX7_add_70 rfl (lv_at hl 0 rfl) ?_
      refine lv_dup hx hb dX7_add_71 rfl ?_
      refine getW C fl_RX7_18 hW 0 rfl rfl dX7_add_72 ?_
      refine lv_iconst (v := (1 : Int32)) hx hb dX7_add_75 (by decide) ?_
      refine lv_iadd hx hb dX7_add_76 ?_
      refine lv_topi (fun v_5 ev_5 => ?_)
      have h := lt_h ev_5 h
      refine putW C fp_RX7_18 hW 0 rfl rfl rfl (Nat.le_of_ble_eq_true rfl) dX7_add_77 (fun H locs hW => ?_)
      have hW : HW G A s (wX7_add cI cZ a_this a_drawn a_pull v_5 v_4 (upd v_drawn (Int32.toNatClampNeg v_size) x1) (upd v_pull (Int32.toNatClampNeg v_size) x2)) H locs := hW
      refine lv_iconst (v := (1 : Int32)) hx hb dX7_add_80 (by decide) ?_
      obtain rfl := Option.some.inj h
      exact hQ nb_1 _ _ _ _ dX7_add_81 hW
    · have h := in_h c_3 h
      refine lv_aload_n hx hb dX7_add_40 rfl (lv_at hl 0 rfl) ?_
      refine getW C fl_RX7_26 hW 0 rfl rfl dX7_add_41 ?_
      refine lv_iconst (v := (1 : Int32)) hx hb dX7_add_44 (by decide) ?_
      refine lv_aload_n hx hb dX7_add_45 rfl (lv_at hl 0 rfl) ?_
      refine getW C fl_RX7_18 hW 0 rfl rfl dX7_add_46 ?_
      refine lv_ishl hx hb dX7_add_49 ?_
      refine lv_ior hx hb dX7_add_50 ?_
      refine lv_goto (tgt := 67) hx hb dX7_add_51 (by decide) ?_
      refine lv_topi (fun v_6 ev_6 => ?_)
      have h := lt_h ev_6 h
      refine putW C fp_RX7_26 hW 0 rfl rfl rfl (Nat.le_of_ble_eq_true rfl) dX7_add_67 (fun H locs hW => ?_)
      have hW : HW G A s (wX7_add cI cZ a_this a_drawn a_pull v_size v_6 (upd v_drawn (Int32.toNatClampNeg v_size) x1) (upd v_pull (Int32.toNatClampNeg v_size) x2)) H locs := hW
      refine lv_aload_n hx hb dX7_add_70 rfl (lv_at hl 0 rfl) ?_
      refine lv_dup hx hb dX7_add_71 rfl ?_
      refine getW C fl_RX7_18 hW 0 rfl rfl dX7_add_72 ?_
      refine lv_iconst (v := (1 : Int32)) hx hb dX7_add_75 (by decide) ?_
      refine lv_iadd hx hb dX7_add_76 ?_
      refine lv_topi (fun v_7 ev_7 => ?_)
      have h := lt_h ev_7 h
      refine putW C fp_RX7_18 hW 0 rfl rfl rfl (Nat.le_of_ble_eq_true rfl) dX7_add_77 (fun H locs hW => ?_)
      have hW : HW G A s (wX7_add cI cZ a_this a_drawn a_pull v_7 v_6 (upd v_drawn (Int32.toNatClampNeg v_size) x1) (upd v_pull (Int32.toNatClampNeg v_size) x2)) H locs := hW
      refine lv_iconst (v := (1 : Int32)) hx hb dX7_add_80 (by decide) ?_
      obtain rfl := Option.some.inj h
      exact hQ nb_1 _ _ _ _ dX7_add_81 hW
  · have h := ip_h c_1 h
    refine lv_iconst (v := (0 : Int32)) hx hb dX7_add_13 (by decide) ?_
    obtain rfl := Option.some.inj h
    exact hQ nb_0 _ _ _ _ dX7_add_14 hW
theorem ctX7_add {l : Launch} {G : va_G} {cI cZ cO : ClassId} (a_this a_drawn a_pull : Nat) (x1 : Int32) (x2 : Int32) (x3 : Int32) (v_size : Int32) (v_shown : Int32) (v_drawn : Nat → Int32) (v_pull : Nat → Int32) {res : Int32 × Int32 × Int32 × (Nat → Int32) × (Nat → Int32)} (h : fX7_add x1 x2 x3 v_size v_shown v_drawn v_pull = some res) : MI l G cI cZ cO yX7_add cX7_add 4 .boolean rX7_add [.ref a_this, .int x1, .int x2, .int x3] (wX7_add cI cZ a_this a_drawn a_pull v_size v_shown v_drawn v_pull) (res.1) (wX7_add cI cZ a_this a_drawn a_pull res.2.2.1 res.2.1 res.2.2.2.1 res.2.2.2.2) := by
  refine MI.of (by decide) (Nat.le_of_ble_eq_true rfl) ?_
  intro p e s m below meth c A Q C hW hQ ls hl
  exact uX7_add_0 x1 x2 x3 v_size v_shown v_drawn v_pull C hQ h _ _ hW _ hl
abbrev wX8_clear (cI cZ : ClassId) (a_this a_ofKind : Nat) (v_pulled : Int32) (v_firstHaunted : Int32) (v_haunter : Int32) (v_ofKind : Nat → Int32) : va_W := [(a_this, .inr (8, [.int v_pulled, .int v_firstHaunted, .int v_haunter, .ref a_ofKind])), (a_ofKind, .inl (cI, 5, .inl v_ofKind))]
abbrev rX8_clear : Room := { frames := 0, cells := 0, slots := 0, locals := 0 }
set_option maxRecDepth 20000 in
theorem uX8_clear_19 {a_this a_ofKind : Nat} (x1 : Int32) (v_pulled : Int32) (v_firstHaunted : Int32) (v_haunter : Int32) (v_ofKind : Nat → Int32) {res : Int32 × Int32 × Int32 × (Nat → Int32)} (C : Cx p s m av meth c RX8 cX8_clear 2 none G cI cZ cO A) (hQ : RV p l e rX8_clear s m av below meth c G A cX8_clear Q (wX8_clear cI cZ a_this a_ofKind res.2.2.1 res.1 res.2.1 res.2.2.2)) {k19 : (Int32) → (Nat → Int32) → Option (Int32 × Int32 × Int32 × (Nat → Int32))} (hk19 : ∀ (x1 : Int32) (v_ofKind : Nat → Int32), k19 x1 v_ofKind = some res → ∀ (H : Heap) (locs : List Loc), HW G A s (wX8_clear cI cZ a_this a_ofKind v_pulled v_firstHaunted v_haunter v_ofKind) H locs → ∀ ls : Array Slot, lv_has ls 2 [(0, .ref a_this), (1, .int x1)] → W p l e rX8_clear s m av below meth c H locs 0 0 Q (F0 m 19 ls [])) (h : FX8_clear_19 v_pulled v_firstHaunted v_haunter k19 x1 v_ofKind = some res) (H : Heap) (locs : List Loc) (hW : HW G A s (wX8_clear cI cZ a_this a_ofKind v_pulled v_firstHaunted v_haunter v_ofKind) H locs) (ls : Array Slot) (hl : lv_has ls 2 [(0, .ref a_this), (1, .int x1)]) : W p l e rX8_clear s m av below meth c H locs 0 0 Q (F0 m 19 ls []) := by
  have hx := C.1
  have hb := C.2.1
  unfold FX8_clear_19 at h
  refine lv_iload_n hx hb dX8_clear_19 rfl (lv_at hl 1 rfl) ?_
  refine lv_iconst (v := (5 : Int32)) hx hb dX8_clear_20 (by decide) ?_
  refine lv_icmp_ge (tgt := 37) hx hb dX8_clear_21 (by decide) (fun c_1 => ?_) (fun c_1 => ?_)
  · have h := ip_h c_1 h
    obtain rfl := Option.some.inj h
    exact hQ _ _ _ _ dX8_clear_37 hW
  · have h := in_h c_1 h
    refine lv_aload_n hx hb dX8_clear_24 rfl (lv_at hl 0 rfl) ?_
    refine getW C fl_RX8_9 hW 0 rfl rfl dX8_clear_25 ?_
    refine lv_iload_n hx hb dX8_clear_28 rfl (lv_at hl 1 rfl) ?_
    refine lv_iconst (v := (0 : Int32)) hx hb dX8_clear_29 (by decide) ?_
    obtain ⟨g_2, h⟩ := gd_h h
    refine iastW C hW 1 rfl g_2 dX8_clear_30 (fun H locs hW => ?_)
    have hW : HW G A s (wX8_clear cI cZ a_this a_ofKind v_pulled v_firstHaunted v_haunter (upd v_ofKind (Int32.toNatClampNeg x1) (0 : Int32))) H locs := hW
    obtain ⟨v_3, ev_3⟩ : ∃ y : Int32, y = x1 + (1 : Int32) := ⟨_, rfl⟩
    have h := lt_h ev_3 h
    refine lv_iinc (v := v_3) (lv' := [(1, .int v_3), (0, .ref a_this)]) hx hb dX8_clear_31 hl (k := 1) rfl (by rw [ev_3]; rfl) (Nat.le_of_ble_eq_true rfl) rfl (fun ls hl => ?_)
    refine lv_goto (tgt := 19) hx hb dX8_clear_34 (by decide) ?_
    exact hk19 v_3 (upd v_ofKind (Int32.toNatClampNeg x1) (0 : Int32)) h _ _ hW _ (lv_sub hl [1, 0] rfl)
theorem wX8_clear_19_ {a_this a_ofKind : Nat} (v_pulled : Int32) (v_firstHaunted : Int32) (v_haunter : Int32) {res : Int32 × Int32 × Int32 × (Nat → Int32)} (C : Cx p s m av meth c RX8 cX8_clear 2 none G cI cZ cO A) (hQ : RV p l e rX8_clear s m av below meth c G A cX8_clear Q (wX8_clear cI cZ a_this a_ofKind res.2.2.1 res.1 res.2.1 res.2.2.2)) : ∀ (n : Nat) (x1 : Int32) (v_ofKind : Nat → Int32), LX8_clear_19 v_pulled v_firstHaunted v_haunter n x1 v_ofKind = some res → ∀ (H : Heap) (locs : List Loc), HW G A s (wX8_clear cI cZ a_this a_ofKind v_pulled v_firstHaunted v_haunter v_ofKind) H locs → ∀ ls : Array Slot, lv_has ls 2 [(0, .ref a_this), (1, .int x1)] → W p l e rX8_clear s m av below meth c H locs 0 0 Q (F0 m 19 ls []) := by
  intro n
  induction n with
  | zero => intro x1 v_ofKind h; cases h
  | succ n ih =>
    intro x1 v_ofKind h H locs hW ls hl
    exact uX8_clear_19 x1 v_pulled v_firstHaunted v_haunter v_ofKind C hQ (k19 := LX8_clear_19 v_pulled v_firstHaunted v_haunter n) ih h H locs hW ls hl
set_option maxRecDepth 20000 in
theorem uX8_clear_0 {a_this a_ofKind : Nat} (v_pulled : Int32) (v_firstHaunted : Int32) (v_haunter : Int32) (v_ofKind : Nat → Int32) {res : Int32 × Int32 × Int32 × (Nat → Int32)} (C : Cx p s m av meth c RX8 cX8_clear 2 none G cI cZ cO A) (hQ : RV p l e rX8_clear s m av below meth c G A cX8_clear Q (wX8_clear cI cZ a_this a_ofKind res.2.2.1 res.1 res.2.1 res.2.2.2)) (h : fX8_clear v_ofKind = some res) (H : Heap) (locs : List Loc) (hW : HW G A s (wX8_clear cI cZ a_this a_ofKind v_pulled v_firstHaunted v_haunter v_ofKind) H locs) (ls : Array Slot) (hl : lv_has ls 2 [(0, .ref a_this)]) : W p l e rX8_clear s m av below meth c H locs 0 0 Q (F0 m 0 ls []) := by
  have hx := C.1
  have hb := C.2.1
  unfold fX8_clear at h
  refine lv_aload_n hx hb dX8_clear_0 rfl (lv_at hl 0 rfl) ?_
  refine lv_iconst (v := (0 : Int32)) hx hb dX8_clear_1 (by decide) ?_
  refine putW C fp_RX8_15 hW 0 rfl rfl rfl (Nat.le_of_ble_eq_true rfl) dX8_clear_2 (fun H locs hW => ?_)
  have hW : HW G A s (wX8_clear cI cZ a_this a_ofKind (0 : Int32) v_firstHaunted v_haunter v_ofKind) H locs := hW
  refine lv_aload_n hx hb dX8_clear_5 rfl (lv_at hl 0 rfl) ?_
  refine lv_bipush (v := (-6 : Int32)) hx hb dX8_clear_6 (by decide) ?_
  refine putW C fp_RX8_19 hW 0 rfl rfl rfl (Nat.le_of_ble_eq_true rfl) dX8_clear_8 (fun H locs hW => ?_)
  have hW : HW G A s (wX8_clear cI cZ a_this a_ofKind (0 : Int32) (-6 : Int32) v_haunter v_ofKind) H locs := hW
  refine lv_aload_n hx hb dX8_clear_11 rfl (lv_at hl 0 rfl) ?_
  refine lv_bipush (v := (-6 : Int32)) hx hb dX8_clear_12 (by decide) ?_
  refine putW C fp_RX8_22 hW 0 rfl rfl rfl (Nat.le_of_ble_eq_true rfl) dX8_clear_14 (fun H locs hW => ?_)
  have hW : HW G A s (wX8_clear cI cZ a_this a_ofKind (0 : Int32) (-6 : Int32) (-6 : Int32) v_ofKind) H locs := hW
  refine lv_iconst (v := (0 : Int32)) hx hb dX8_clear_17 (by decide) ?_
  refine lv_istore_n (lv' := [(1, .int (0 : Int32)), (0, .ref a_this)]) hx hb dX8_clear_18 rfl hl (Nat.le_of_ble_eq_true rfl) rfl (fun ls hl => ?_)
  exact wX8_clear_19_ (0 : Int32) (-6 : Int32) (-6 : Int32) C hQ 2000 (0 : Int32) v_ofKind h _ _ hW _ (lv_sub hl [1, 0] rfl)
theorem ctX8_clear {l : Launch} {G : va_G} {cI cZ cO : ClassId} (a_this a_ofKind : Nat) (v_pulled : Int32) (v_firstHaunted : Int32) (v_haunter : Int32) (v_ofKind : Nat → Int32) {res : Int32 × Int32 × Int32 × (Nat → Int32)} (h : fX8_clear v_ofKind = some res) : MV l G cI cZ cO yX8_clear cX8_clear 2 rX8_clear [.ref a_this] (wX8_clear cI cZ a_this a_ofKind v_pulled v_firstHaunted v_haunter v_ofKind) (wX8_clear cI cZ a_this a_ofKind res.2.2.1 res.1 res.2.1 res.2.2.2) := by
  refine MV.of (by decide) (Nat.le_of_ble_eq_true rfl) ?_
  intro p e s m below meth c A Q C hW hQ ls hl
  exact uX8_clear_0 v_pulled v_firstHaunted v_haunter v_ofKind C hQ h _ _ hW _ hl
abbrev wX8_add (cI cZ : ClassId) (a_this a_ofKind : Nat) (v_pulled : Int32) (v_firstHaunted : Int32) (v_haunter : Int32) (v_ofKind : Nat → Int32) : va_W := [(a_this, .inr (8, [.int v_pulled, .int v_firstHaunted, .int v_haunter, .ref a_ofKind])), (a_ofKind, .inl (cI, 5, .inl v_ofKind))]
abbrev rX8_add : Room := { frames := 1, cells := 0, slots := 0, locals := 22 }
set_option maxRecDepth 20000 in
theorem uX8_add_0 {a_this a_ofKind : Nat} (x1 : Int32) (x2 : Int32) (v_pulled : Int32) (v_firstHaunted : Int32) (v_haunter : Int32) (v_ofKind : Nat → Int32) {res : Int32 × Int32 × Int32 × (Nat → Int32)} (C : Cx p s m av meth c RX8 cX8_add 3 none G cI cZ cO A) (hQ : RV p l e rX8_add s m av below meth c G A cX8_add Q (wX8_add cI cZ a_this a_ofKind res.2.2.1 res.1 res.2.1 res.2.2.2)) (h : fX8_add x1 x2 v_pulled v_firstHaunted v_haunter v_ofKind = some res) (H : Heap) (locs : List Loc) (hW : HW G A s (wX8_add cI cZ a_this a_ofKind v_pulled v_firstHaunted v_haunter v_ofKind) H locs) (ls : Array Slot) (hl : lv_has ls 3 [(0, .ref a_this), (1, .int x1), (2, .int x2)]) : W p l e rX8_add s m av below meth c H locs 0 0 Q (F0 m 0 ls []) := by
  have hx := C.1
  have hb := C.2.1
  unfold fX8_add at h
  refine lv_iload_n hx hb dX8_add_0 rfl (lv_at hl 1 rfl) ?_
  refine lv_iconst (v := (0 : Int32)) hx hb dX8_add_1 (by decide) ?_
  refine lv_iconst (v := (4 : Int32)) hx hb dX8_add_2 (by decide) ?_
  refine callNI0 C lk_RX8_25 (ctX10_inside x1 (0 : Int32) (4 : Int32) rfl) hW hl rfl ⟨rfl, rfl⟩ ⟨(Nat.le_of_ble_eq_true rfl), (Nat.le_of_ble_eq_true rfl)⟩ ⟨Nat.zero_le _, Nat.zero_le _⟩ rfl (Nat.le_of_ble_eq_true rfl) dX8_add_3 (fun H locs hW => ?_)
  refine lv_if_ne (tgt := 10) hx hb dX8_add_6 (by decide) (fun c_1 => ?_) (fun c_1 => ?_)
  · have h := in_h c_1 h
    refine lv_aload_n hx hb dX8_add_10 rfl (lv_at hl 0 rfl) ?_
    refine lv_dup hx hb dX8_add_11 rfl ?_
    refine getW C fl_RX8_15 hW 0 rfl rfl dX8_add_12 ?_
    refine lv_iconst (v := (1 : Int32)) hx hb dX8_add_15 (by decide) ?_
    refine lv_iadd hx hb dX8_add_16 ?_
    refine lv_topi (fun v_2 ev_2 => ?_)
    have h := lt_h ev_2 h
    refine putW C fp_RX8_15 hW 0 rfl rfl rfl (Nat.le_of_ble_eq_true rfl) dX8_add_17 (fun H locs hW => ?_)
    have hW : HW G A s (wX8_add cI cZ a_this a_ofKind v_2 v_firstHaunted v_haunter v_ofKind) H locs := hW
    refine lv_aload_n hx hb dX8_add_20 rfl (lv_at hl 0 rfl) ?_
    refine getW C fl_RX8_9 hW 0 rfl rfl dX8_add_21 ?_
    refine lv_iload_n hx hb dX8_add_24 rfl (lv_at hl 1 rfl) ?_
    refine lv_dup2_11 hx hb dX8_add_25 rfl rfl ?_
    obtain ⟨g_3, h⟩ := gd_h h
    refine ialdW C hW 1 rfl g_3 dX8_add_26 ?_
    refine lv_iconst (v := (1 : Int32)) hx hb dX8_add_27 (by decide) ?_
    refine lv_iadd hx hb dX8_add_28 ?_
    refine lv_topi (fun v_4 ev_4 => ?_)
    have h := lt_h ev_4 h
    refine iastW C hW 1 rfl g_3 dX8_add_29 (fun H locs hW => ?_)
    have hW : HW G A s (wX8_add cI cZ a_this a_ofKind v_2 v_firstHaunted v_haunter (upd v_ofKind (Int32.toNatClampNeg x1) v_4)) H locs := hW
    refine lv_iload_n hx hb dX8_add_30 rfl (lv_at hl 1 rfl) ?_
    refine lv_iconst (v := (3 : Int32)) hx hb dX8_add_31 (by decide) ?_
    refine lv_icmp_ne (tgt := 57) hx hb dX8_add_32 (by decide) (fun c_5 => ?_) (fun c_5 => ?_)
    · have h := in_h c_5 h
      obtain rfl := Option.some.inj h
      exact hQ _ _ _ _ dX8_add_57 hW
    · have h := ip_h c_5 h
      refine lv_aload_n hx hb dX8_add_35 rfl (lv_at hl 0 rfl) ?_
      refine getW C fl_RX8_19 hW 0 rfl rfl dX8_add_36 ?_
      refine lv_bipush (v := (-6 : Int32)) hx hb dX8_add_39 (by decide) ?_
      refine lv_icmp_ne (tgt := 57) hx hb dX8_add_41 (by decide) (fun c_6 => ?_) (fun c_6 => ?_)
      · have h := in_h c_6 h
        obtain rfl := Option.some.inj h
        exact hQ _ _ _ _ dX8_add_57 hW
      · have h := ip_h c_6 h
        refine lv_aload_n hx hb dX8_add_44 rfl (lv_at hl 0 rfl) ?_
        refine lv_aload_n hx hb dX8_add_45 rfl (lv_at hl 0 rfl) ?_
        refine getW C fl_RX8_15 hW 0 rfl rfl dX8_add_46 ?_
        refine putW C fp_RX8_19 hW 0 rfl rfl rfl (Nat.le_of_ble_eq_true rfl) dX8_add_49 (fun H locs hW => ?_)
        have hW : HW G A s (wX8_add cI cZ a_this a_ofKind v_2 v_2 v_haunter (upd v_ofKind (Int32.toNatClampNeg x1) v_4)) H locs := hW
        refine lv_aload_n hx hb dX8_add_52 rfl (lv_at hl 0 rfl) ?_
        refine lv_iload_n hx hb dX8_add_53 rfl (lv_at hl 2 rfl) ?_
        refine putW C fp_RX8_22 hW 0 rfl rfl rfl (Nat.le_of_ble_eq_true rfl) dX8_add_54 (fun H locs hW => ?_)
        have hW : HW G A s (wX8_add cI cZ a_this a_ofKind v_2 v_2 x2 (upd v_ofKind (Int32.toNatClampNeg x1) v_4)) H locs := hW
        obtain rfl := Option.some.inj h
        exact hQ _ _ _ _ dX8_add_57 hW
  · have h := ip_h c_1 h
    obtain rfl := Option.some.inj h
    exact hQ _ _ _ _ dX8_add_9 hW
theorem ctX8_add {l : Launch} {G : va_G} {cI cZ cO : ClassId} (a_this a_ofKind : Nat) (x1 : Int32) (x2 : Int32) (v_pulled : Int32) (v_firstHaunted : Int32) (v_haunter : Int32) (v_ofKind : Nat → Int32) {res : Int32 × Int32 × Int32 × (Nat → Int32)} (h : fX8_add x1 x2 v_pulled v_firstHaunted v_haunter v_ofKind = some res) : MV l G cI cZ cO yX8_add cX8_add 3 rX8_add [.ref a_this, .int x1, .int x2] (wX8_add cI cZ a_this a_ofKind v_pulled v_firstHaunted v_haunter v_ofKind) (wX8_add cI cZ a_this a_ofKind res.2.2.1 res.1 res.2.1 res.2.2.2) := by
  refine MV.of (by decide) (Nat.le_of_ble_eq_true rfl) ?_
  intro p e s m below meth c A Q C hW hQ ls hl
  exact uX8_add_0 x1 x2 v_pulled v_firstHaunted v_haunter v_ofKind C hQ h _ _ hW _ hl
abbrev wX9_begin (cI cZ : ClassId) (a_this a_rules a_shelf a_tally a_act a_rules_deep a_rules_fine a_rules_pay a_rules_hair a_shelf_thick a_shelf_hollow a_shelf_damp a_shelf_fresh a_shelf_pulls a_shelf_fats a_tally_ofKind a_arg1 a_arg1_shelf a_arg1_rules a_arg1_sights a_arg1_rules_deep a_arg1_rules_fine a_arg1_rules_pay a_arg1_rules_hair a_arg1_shelf_thick a_arg1_shelf_hollow a_arg1_shelf_damp a_arg1_shelf_fresh a_arg1_shelf_pulls a_arg1_shelf_fats : Nat) (v_acts : Int32) (v_stoppedAt : Int32) (v_why : Int32) (v_rules_flat : Int32) (v_rules_least : Int32) (v_shelf_there : Int32) (v_tally_pulled : Int32) (v_tally_firstHaunted : Int32) (v_tally_haunter : Int32) (v_rules_deep : Nat → Int32) (v_rules_fine : Nat → Int32) (v_rules_pay : Nat → Int32) (v_rules_hair : Nat → Int32) (v_shelf_thick : Nat → Int32) (v_shelf_hollow : Nat → Int32) (v_shelf_damp : Nat → Int32) (v_shelf_fresh : Nat → Int32) (v_shelf_pulls : Nat → Int32) (v_shelf_fats : Nat → Int32) (v_tally_ofKind : Nat → Int32) (v_arg1_rules_flat : Int32) (v_arg1_rules_least : Int32) (v_arg1_shelf_there : Int32) (v_arg1_rules_deep : Nat → Int32) (v_arg1_rules_fine : Nat → Int32) (v_arg1_rules_pay : Nat → Int32) (v_arg1_rules_hair : Nat → Int32) (v_arg1_shelf_thick : Nat → Int32) (v_arg1_shelf_hollow : Nat → Int32) (v_arg1_shelf_damp : Nat → Int32) (v_arg1_shelf_fresh : Nat → Int32) (v_arg1_shelf_pulls : Nat → Int32) (v_arg1_shelf_fats : Nat → Int32) : va_W := [(a_this, .inr (9, [.ref a_rules, .ref a_shelf, .ref a_tally, .ref a_act, .int v_acts, .int v_stoppedAt, .int v_why])), (a_rules, .inr (5, [.int v_rules_flat, .int v_rules_least, .ref a_rules_deep, .ref a_rules_fine, .ref a_rules_pay, .ref a_rules_hair])), (a_shelf, .inr (6, [.int v_shelf_there, .ref a_shelf_thick, .ref a_shelf_hollow, .ref a_shelf_damp, .ref a_shelf_fresh, .ref a_shelf_pulls, .ref a_shelf_fats])), (a_tally, .inr (8, [.int v_tally_pulled, .int v_tally_firstHaunted, .int v_tally_haunter, .ref a_tally_ofKind])), (a_rules_deep, .inl (cI, 8, .inl v_rules_deep)), (a_rules_fine, .inl (cI, 8, .inl v_rules_fine)), (a_rules_pay, .inl (cI, 8, .inl v_rules_pay)), (a_rules_hair, .inl (cI, 6, .inl v_rules_hair)), (a_shelf_thick, .inl (cI, 5, .inl v_shelf_thick)), (a_shelf_hollow, .inl (cI, 5, .inl v_shelf_hollow)), (a_shelf_damp, .inl (cI, 5, .inl v_shelf_damp)), (a_shelf_fresh, .inl (cI, 5, .inl v_shelf_fresh)), (a_shelf_pulls, .inl (cI, 5, .inl v_shelf_pulls)), (a_shelf_fats, .inl (cI, 40, .inl v_shelf_fats)), (a_tally_ofKind, .inl (cI, 5, .inl v_tally_ofKind)), (a_arg1, .inr (4, [.ref a_arg1_shelf, .ref a_arg1_rules, .ref a_arg1_sights])), (a_arg1_rules, .inr (5, [.int v_arg1_rules_flat, .int v_arg1_rules_least, .ref a_arg1_rules_deep, .ref a_arg1_rules_fine, .ref a_arg1_rules_pay, .ref a_arg1_rules_hair])), (a_arg1_shelf, .inr (6, [.int v_arg1_shelf_there, .ref a_arg1_shelf_thick, .ref a_arg1_shelf_hollow, .ref a_arg1_shelf_damp, .ref a_arg1_shelf_fresh, .ref a_arg1_shelf_pulls, .ref a_arg1_shelf_fats])), (a_arg1_rules_deep, .inl (cI, 8, .inl v_arg1_rules_deep)), (a_arg1_rules_fine, .inl (cI, 8, .inl v_arg1_rules_fine)), (a_arg1_rules_pay, .inl (cI, 8, .inl v_arg1_rules_pay)), (a_arg1_rules_hair, .inl (cI, 6, .inl v_arg1_rules_hair)), (a_arg1_shelf_thick, .inl (cI, 5, .inl v_arg1_shelf_thick)), (a_arg1_shelf_hollow, .inl (cI, 5, .inl v_arg1_shelf_hollow)), (a_arg1_shelf_damp, .inl (cI, 5, .inl v_arg1_shelf_damp)), (a_arg1_shelf_fresh, .inl (cI, 5, .inl v_arg1_shelf_fresh)), (a_arg1_shelf_pulls, .inl (cI, 5, .inl v_arg1_shelf_pulls)), (a_arg1_shelf_fats, .inl (cI, 40, .inl v_arg1_shelf_fats))]
abbrev rX9_begin : Room := { frames := 2, cells := 0, slots := 0, locals := 81 }
set_option maxRecDepth 20000 in
theorem uX9_begin_0 {a_this a_rules a_shelf a_tally a_act a_rules_deep a_rules_fine a_rules_pay a_rules_hair a_shelf_thick a_shelf_hollow a_shelf_damp a_shelf_fresh a_shelf_pulls a_shelf_fats a_tally_ofKind a_arg1 a_arg1_shelf a_arg1_rules a_arg1_sights a_arg1_rules_deep a_arg1_rules_fine a_arg1_rules_pay a_arg1_rules_hair a_arg1_shelf_thick a_arg1_shelf_hollow a_arg1_shelf_damp a_arg1_shelf_fresh a_arg1_shelf_pulls a_arg1_shelf_fats : Nat} (v_acts : Int32) (v_stoppedAt : Int32) (v_why : Int32) (v_rules_flat : Int32) (v_rules_least : Int32) (v_shelf_there : Int32) (v_tally_pulled : Int32) (v_tally_firstHaunted : Int32) (v_tally_haunter : Int32) (v_rules_deep : Nat → Int32) (v_rules_fine : Nat → Int32) (v_rules_pay : Nat → Int32) (v_rules_hair : Nat → Int32) (v_shelf_thick : Nat → Int32) (v_shelf_hollow : Nat → Int32) (v_shelf_damp : Nat → Int32) (v_shelf_fresh : Nat → Int32) (v_shelf_pulls : Nat → Int32) (v_shelf_fats : Nat → Int32) (v_tally_ofKind : Nat → Int32) (v_arg1_rules_flat : Int32) (v_arg1_rules_least : Int32) (v_arg1_shelf_there : Int32) (v_arg1_rules_deep : Nat → Int32) (v_arg1_rules_fine : Nat → Int32) (v_arg1_rules_pay : Nat → Int32) (v_arg1_rules_hair : Nat → Int32) (v_arg1_shelf_thick : Nat → Int32) (v_arg1_shelf_hollow : Nat → Int32) (v_arg1_shelf_damp : Nat → Int32) (v_arg1_shelf_fresh : Nat → Int32) (v_arg1_shelf_pulls : Nat → Int32) (v_arg1_shelf_fats : Nat → Int32) {res : Int32 × Int32 × Int32 × Int32 × Int32 × Int32 × Int32 × Int32 × Int32 × (Nat → Int32) × (Nat → Int32) × (Nat → Int32) × (Nat → Int32) × (Nat → Int32) × (Nat → Int32) × (Nat → Int32) × (Nat → Int32) × (Nat → Int32) × (Nat → Int32) × (Nat → Int32)} (C : Cx p s m av meth c RX9 cX9_begin 2 none G cI cZ cO A) (hQ : RV p l e rX9_begin s m av below meth c G A cX9_begin Q (wX9_begin cI cZ a_this a_rules a_shelf a_tally a_act a_rules_deep a_rules_fine a_rules_pay a_rules_hair a_shelf_thick a_shelf_hollow a_shelf_damp a_shelf_fresh a_shelf_pulls a_shelf_fats a_tally_ofKind a_arg1 a_arg1_shelf a_arg1_rules a_arg1_sights a_arg1_rules_deep a_arg1_rules_fine a_arg1_rules_pay a_arg1_rules_hair a_arg1_shelf_thick a_arg1_shelf_hollow a_arg1_shelf_damp a_arg1_shelf_fresh a_arg1_shelf_pulls a_arg1_shelf_fats res.1 res.2.1 res.2.2.1 res.2.2.2.1 res.2.2.2.2.1 res.2.2.2.2.2.1 res.2.2.2.2.2.2.2.2.1 res.2.2.2.2.2.2.1 res.2.2.2.2.2.2.2.1 res.2.2.2.2.2.2.2.2.2.1 res.2.2.2.2.2.2.2.2.2.2.1 res.2.2.2.2.2.2.2.2.2.2.2.1 res.2.2.2.2.2.2.2.2.2.2.2.2.1 res.2.2.2.2.2.2.2.2.2.2.2.2.2.1 res.2.2.2.2.2.2.2.2.2.2.2.2.2.2.1 res.2.2.2.2.2.2.2.2.2.2.2.2.2.2.2.1 res.2.2.2.2.2.2.2.2.2.2.2.2.2.2.2.2.1 res.2.2.2.2.2.2.2.2.2.2.2.2.2.2.2.2.2.1 res.2.2.2.2.2.2.2.2.2.2.2.2.2.2.2.2.2.2.1 res.2.2.2.2.2.2.2.2.2.2.2.2.2.2.2.2.2.2.2 v_arg1_rules_flat v_arg1_rules_least v_arg1_shelf_there v_arg1_rules_deep v_arg1_rules_fine v_arg1_rules_pay v_arg1_rules_hair v_arg1_shelf_thick v_arg1_shelf_hollow v_arg1_shelf_damp v_arg1_shelf_fresh v_arg1_shelf_pulls v_arg1_shelf_fats)) (h : fX9_begin v_rules_deep v_rules_fine v_rules_pay v_rules_hair v_shelf_thick v_shelf_hollow v_shelf_damp v_shelf_fresh v_shelf_pulls v_shelf_fats v_tally_ofKind v_arg1_rules_flat v_arg1_rules_least v_arg1_shelf_there v_arg1_rules_deep v_arg1_rules_fine v_arg1_rules_pay v_arg1_rules_hair v_arg1_shelf_thick v_arg1_shelf_hollow v_arg1_shelf_damp v_arg1_shelf_fresh v_arg1_shelf_pulls v_arg1_shelf_fats = some res) (H : Heap) (locs : List Loc) (hW : HW G A s (wX9_begin cI cZ a_this a_rules a_shelf a_tally a_act a_rules_deep a_rules_fine a_rules_pay a_rules_hair a_shelf_thick a_shelf_hollow a_shelf_damp a_shelf_fresh a_shelf_pulls a_shelf_fats a_tally_ofKind a_arg1 a_arg1_shelf a_arg1_rules a_arg1_sights a_arg1_rules_deep a_arg1_rules_fine a_arg1_rules_pay a_arg1_rules_hair a_arg1_shelf_thick a_arg1_shelf_hollow a_arg1_shelf_damp a_arg1_shelf_fresh a_arg1_shelf_pulls a_arg1_shelf_fats v_acts v_stoppedAt v_why v_rules_flat v_rules_least v_shelf_there v_tally_pulled v_tally_firstHaunted v_tally_haunter v_rules_deep v_rules_fine v_rules_pay v_rules_hair v_shelf_thick v_shelf_hollow v_shelf_damp v_shelf_fresh v_shelf_pulls v_shelf_fats v_tally_ofKind v_arg1_rules_flat v_arg1_rules_least v_arg1_shelf_there v_arg1_rules_deep v_arg1_rules_fine v_arg1_rules_pay v_arg1_rules_hair v_arg1_shelf_thick v_arg1_shelf_hollow v_arg1_shelf_damp v_arg1_shelf_fresh v_arg1_shelf_pulls v_arg1_shelf_fats) H locs) (ls : Array Slot) (hl : lv_has ls 2 [(0, .ref a_this), (1, .ref a_arg1)]) : W p l e rX9_begin s m av below meth c H locs 0 0 Q (F0 m 0 ls []) := by
  have hx := C.1
  have hb := C.2.1
  unfold fX9_begin at h
  refine lv_aload_n hx hb dX9_begin_0 rfl (lv_at hl 0 rfl) ?_
  refine getW C fl_RX9_12 hW 0 rfl rfl dX9_begin_1 ?_
  refine lv_aload_n hx hb dX9_begin_4 rfl (lv_at hl 1 rfl) ?_
  refine getW C fl_RX9_39 hW 15 rfl rfl dX9_begin_5 ?_
  obtain ⟨v_1, ev_1⟩ : ∃ z, z = (fX5_copyFrom v_rules_deep v_rules_fine v_rules_pay v_rules_hair v_arg1_rules_flat v_arg1_rules_least v_arg1_rules_deep v_arg1_rules_fine v_arg1_rules_pay v_arg1_rules_hair) := ⟨_, rfl⟩
  have h := lt_h ev_1 h
  refine callVVm [1, 4, 5, 6, 7, 16, 18, 19, 20, 21] [0, 2, 3, 8, 9, 10, 11, 12, 13, 14, 15, 17, 22, 23, 24, 25, 26, 27] [(a_this, .inr (9, [.ref a_rules, .ref a_shelf, .ref a_tally, .ref a_act, .int v_acts, .int v_stoppedAt, .int v_why])), (a_shelf, .inr (6, [.int v_shelf_there, .ref a_shelf_thick, .ref a_shelf_hollow, .ref a_shelf_damp, .ref a_shelf_fresh, .ref a_shelf_pulls, .ref a_shelf_fats])), (a_tally, .inr (8, [.int v_tally_pulled, .int v_tally_firstHaunted, .int v_tally_haunter, .ref a_tally_ofKind])), (a_shelf_thick, .inl (cI, 5, .inl v_shelf_thick)), (a_shelf_hollow, .inl (cI, 5, .inl v_shelf_hollow)), (a_shelf_damp, .inl (cI, 5, .inl v_shelf_damp)), (a_shelf_fresh, .inl (cI, 5, .inl v_shelf_fresh)), (a_shelf_pulls, .inl (cI, 5, .inl v_shelf_pulls)), (a_shelf_fats, .inl (cI, 40, .inl v_shelf_fats)), (a_tally_ofKind, .inl (cI, 5, .inl v_tally_ofKind)), (a_arg1, .inr (4, [.ref a_arg1_shelf, .ref a_arg1_rules, .ref a_arg1_sights])), (a_arg1_shelf, .inr (6, [.int v_arg1_shelf_there, .ref a_arg1_shelf_thick, .ref a_arg1_shelf_hollow, .ref a_arg1_shelf_damp, .ref a_arg1_shelf_fresh, .ref a_arg1_shelf_pulls, .ref a_arg1_shelf_fats])), (a_arg1_shelf_thick, .inl (cI, 5, .inl v_arg1_shelf_thick)), (a_arg1_shelf_hollow, .inl (cI, 5, .inl v_arg1_shelf_hollow)), (a_arg1_shelf_damp, .inl (cI, 5, .inl v_arg1_shelf_damp)), (a_arg1_shelf_fresh, .inl (cI, 5, .inl v_arg1_shelf_fresh)), (a_arg1_shelf_pulls, .inl (cI, 5, .inl v_arg1_shelf_pulls)), (a_arg1_shelf_fats, .inl (cI, 40, .inl v_arg1_shelf_fats))] (wX9_begin cI cZ a_this a_rules a_shelf a_tally a_act a_rules_deep a_rules_fine a_rules_pay a_rules_hair a_shelf_thick a_shelf_hollow a_shelf_damp a_shelf_fresh a_shelf_pulls a_shelf_fats a_tally_ofKind a_arg1 a_arg1_shelf a_arg1_rules a_arg1_sights a_arg1_rules_deep a_arg1_rules_fine a_arg1_rules_pay a_arg1_rules_hair a_arg1_shelf_thick a_arg1_shelf_hollow a_arg1_shelf_damp a_arg1_shelf_fresh a_arg1_shelf_pulls a_arg1_shelf_fats v_acts v_stoppedAt v_why v_1.1 v_1.2.1 v_shelf_there v_tally_pulled v_tally_firstHaunted v_tally_haunter v_1.2.2.1 v_1.2.2.2.1 v_1.2.2.2.2.1 v_1.2.2.2.2.2 v_shelf_thick v_shelf_hollow v_shelf_damp v_shelf_fresh v_shelf_pulls v_shelf_fats v_tally_ofKind v_arg1_rules_flat v_arg1_rules_least v_arg1_shelf_there v_arg1_rules_deep v_arg1_rules_fine v_arg1_rules_pay v_arg1_rules_hair v_arg1_shelf_thick v_arg1_shelf_hollow v_arg1_shelf_damp v_arg1_shelf_fresh v_arg1_shelf_pulls v_arg1_shelf_fats) C lk_RX9_42 (ctX5_copyFrom a_rules a_rules_deep a_rules_fine a_rules_pay a_rules_hair a_arg1_rules a_arg1_rules_deep a_arg1_rules_fine a_arg1_rules_pay a_arg1_rules_hair v_rules_flat v_rules_least v_rules_deep v_rules_fine v_rules_pay v_rules_hair v_arg1_rules_flat v_arg1_rules_least v_arg1_rules_deep v_arg1_rules_fine v_arg1_rules_pay v_arg1_rules_hair ev_1.symm) hW hl 5 rfl rfl rfl rfl rfl rfl rfl rfl rfl rfl ⟨rfl, rfl⟩ ⟨(Nat.le_of_ble_eq_true rfl), (Nat.le_of_ble_eq_true rfl)⟩ ⟨Nat.zero_le _, Nat.zero_le _⟩ rfl (Nat.le_of_ble_eq_true rfl) dX9_begin_8 (fun H locs hW => ?_)
  refine lv_aload_n hx hb dX9_begin_11 rfl (lv_at hl 0 rfl) ?_
  refine getW C fl_RX9_21 hW 0 rfl rfl dX9_begin_12 ?_
  refine lv_aload_n hx hb dX9_begin_15 rfl (lv_at hl 1 rfl) ?_
  refine getW C fl_RX9_46 hW 15 rfl rfl dX9_begin_16 ?_
  obtain ⟨v_2, ev_2⟩ : ∃ z, z = (fX6_copyFrom v_shelf_thick v_shelf_hollow v_shelf_damp v_shelf_fresh v_shelf_pulls v_shelf_fats v_arg1_shelf_there v_arg1_shelf_thick v_arg1_shelf_hollow v_arg1_shelf_damp v_arg1_shelf_fresh v_arg1_shelf_pulls v_arg1_shelf_fats) := ⟨_, rfl⟩
  have h := lt_h ev_2 h
  refine callVVm [2, 8, 9, 10, 11, 12, 13, 17, 22, 23, 24, 25, 26, 27] [0, 1, 3, 4, 5, 6, 7, 14, 15, 16, 18, 19, 20, 21] [(a_this, .inr (9, [.ref a_rules, .ref a_shelf, .ref a_tally, .ref a_act, .int v_acts, .int v_stoppedAt, .int v_why])), (a_rules, .inr (5, [.int v_1.1, .int v_1.2.1, .ref a_rules_deep, .ref a_rules_fine, .ref a_rules_pay, .ref a_rules_hair])), (a_tally, .inr (8, [.int v_tally_pulled, .int v_tally_firstHaunted, .int v_tally_haunter, .ref a_tally_ofKind])), (a_rules_deep, .inl (cI, 8, .inl v_1.2.2.1)), (a_rules_fine, .inl (cI, 8, .inl v_1.2.2.2.1)), (a_rules_pay, .inl (cI, 8, .inl v_1.2.2.2.2.1)), (a_rules_hair, .inl (cI, 6, .inl v_1.2.2.2.2.2)), (a_tally_ofKind, .inl (cI, 5, .inl v_tally_ofKind)), (a_arg1, .inr (4, [.ref a_arg1_shelf, .ref a_arg1_rules, .ref a_arg1_sights])), (a_arg1_rules, .inr (5, [.int v_arg1_rules_flat, .int v_arg1_rules_least, .ref a_arg1_rules_deep, .ref a_arg1_rules_fine, .ref a_arg1_rules_pay, .ref a_arg1_rules_hair])), (a_arg1_rules_deep, .inl (cI, 8, .inl v_arg1_rules_deep)), (a_arg1_rules_fine, .inl (cI, 8, .inl v_arg1_rules_fine)), (a_arg1_rules_pay, .inl (cI, 8, .inl v_arg1_rules_pay)), (a_arg1_rules_hair, .inl (cI, 6, .inl v_arg1_rules_hair))] (wX9_begin cI cZ a_this a_rules a_shelf a_tally a_act a_rules_deep a_rules_fine a_rules_pay a_rules_hair a_shelf_thick a_shelf_hollow a_shelf_damp a_shelf_fresh a_shelf_pulls a_shelf_fats a_tally_ofKind a_arg1 a_arg1_shelf a_arg1_rules a_arg1_sights a_arg1_rules_deep a_arg1_rules_fine a_arg1_rules_pay a_arg1_rules_hair a_arg1_shelf_thick a_arg1_shelf_hollow a_arg1_shelf_damp a_arg1_shelf_fresh a_arg1_shelf_pulls a_arg1_shelf_fats v_acts v_stoppedAt v_why v_1.1 v_1.2.1 v_2.1 v_tally_pulled v_tally_firstHaunted v_tally_haunter v_1.2.2.1 v_1.2.2.2.1 v_1.2.2.2.2.1 v_1.2.2.2.2.2 v_2.2.1 v_2.2.2.1 v_2.2.2.2.1 v_2.2.2.2.2.1 v_2.2.2.2.2.2.1 v_2.2.2.2.2.2.2 v_tally_ofKind v_arg1_rules_flat v_arg1_rules_least v_arg1_shelf_there v_arg1_rules_deep v_arg1_rules_fine v_arg1_rules_pay v_arg1_rules_hair v_arg1_shelf_thick v_arg1_shelf_hollow v_arg1_shelf_damp v_arg1_shelf_fresh v_arg1_shelf_pulls v_arg1_shelf_fats) C lk_RX9_47 (ctX6_copyFrom a_shelf a_shelf_thick a_shelf_hollow a_shelf_damp a_shelf_fresh a_shelf_pulls a_shelf_fats a_arg1_shelf a_arg1_shelf_thick a_arg1_shelf_hollow a_arg1_shelf_damp a_arg1_shelf_fresh a_arg1_shelf_pulls a_arg1_shelf_fats v_shelf_there v_shelf_thick v_shelf_hollow v_shelf_damp v_shelf_fresh v_shelf_pulls v_shelf_fats v_arg1_shelf_there v_arg1_shelf_thick v_arg1_shelf_hollow v_arg1_shelf_damp v_arg1_shelf_fresh v_arg1_shelf_pulls v_arg1_shelf_fats ev_2.symm) hW hl 6 rfl rfl rfl rfl rfl rfl rfl rfl rfl rfl ⟨rfl, rfl⟩ ⟨(Nat.le_of_ble_eq_true rfl), (Nat.le_of_ble_eq_true rfl)⟩ ⟨Nat.zero_le _, Nat.zero_le _⟩ rfl (Nat.le_of_ble_eq_true rfl) dX9_begin_19 (fun H locs hW => ?_)
  refine lv_aload_n hx hb dX9_begin_22 rfl (lv_at hl 0 rfl) ?_
  refine getW C fl_RX9_28 hW 0 rfl rfl dX9_begin_23 ?_
  obtain ⟨v_3, hv_3, h⟩ := bd_h h
  refine callVVm [3, 14] [0, 1, 2, 4, 5, 6, 7, 8, 9, 10, 11, 12, 13, 15, 16, 17, 18, 19, 20, 21, 22, 23, 24, 25, 26, 27] [(a_this, .inr (9, [.ref a_rules, .ref a_shelf, .ref a_tally, .ref a_act, .int v_acts, .int v_stoppedAt, .int v_why])), (a_rules, .inr (5, [.int v_1.1, .int v_1.2.1, .ref a_rules_deep, .ref a_rules_fine, .ref a_rules_pay, .ref a_rules_hair])), (a_shelf, .inr (6, [.int v_2.1, .ref a_shelf_thick, .ref a_shelf_hollow, .ref a_shelf_damp, .ref a_shelf_fresh, .ref a_shelf_pulls, .ref a_shelf_fats])), (a_rules_deep, .inl (cI, 8, .inl v_1.2.2.1)), (a_rules_fine, .inl (cI, 8, .inl v_1.2.2.2.1)), (a_rules_pay, .inl (cI, 8, .inl v_1.2.2.2.2.1)), (a_rules_hair, .inl (cI, 6, .inl v_1.2.2.2.2.2)), (a_shelf_thick, .inl (cI, 5, .inl v_2.2.1)), (a_shelf_hollow, .inl (cI, 5, .inl v_2.2.2.1)), (a_shelf_damp, .inl (cI, 5, .inl v_2.2.2.2.1)), (a_shelf_fresh, .inl (cI, 5, .inl v_2.2.2.2.2.1)), (a_shelf_pulls, .inl (cI, 5, .inl v_2.2.2.2.2.2.1)), (a_shelf_fats, .inl (cI, 40, .inl v_2.2.2.2.2.2.2)), (a_arg1, .inr (4, [.ref a_arg1_shelf, .ref a_arg1_rules, .ref a_arg1_sights])), (a_arg1_rules, .inr (5, [.int v_arg1_rules_flat, .int v_arg1_rules_least, .ref a_arg1_rules_deep, .ref a_arg1_rules_fine, .ref a_arg1_rules_pay, .ref a_arg1_rules_hair])), (a_arg1_shelf, .inr (6, [.int v_arg1_shelf_there, .ref a_arg1_shelf_thick, .ref a_arg1_shelf_hollow, .ref a_arg1_shelf_damp, .ref a_arg1_shelf_fresh, .ref a_arg1_shelf_pulls, .ref a_arg1_shelf_fats])), (a_arg1_rules_deep, .inl (cI, 8, .inl v_arg1_rules_deep)), (a_arg1_rules_fine, .inl (cI, 8, .inl v_arg1_rules_fine)), (a_arg1_rules_pay, .inl (cI, 8, .inl v_arg1_rules_pay)), (a_arg1_rules_hair, .inl (cI, 6, .inl v_arg1_rules_hair)), (a_arg1_shelf_thick, .inl (cI, 5, .inl v_arg1_shelf_thick)), (a_arg1_shelf_hollow, .inl (cI, 5, .inl v_arg1_shelf_hollow)), (a_arg1_shelf_damp, .inl (cI, 5, .inl v_arg1_shelf_damp)), (a_arg1_shelf_fresh, .inl (cI, 5, .inl v_arg1_shelf_fresh)), (a_arg1_shelf_pulls, .inl (cI, 5, .inl v_arg1_shelf_pulls)), (a_arg1_shelf_fats, .inl (cI, 40, .inl v_arg1_shelf_fats))] (wX9_begin cI cZ a_this a_rules a_shelf a_tally a_act a_rules_deep a_rules_fine a_rules_pay a_rules_hair a_shelf_thick a_shelf_hollow a_shelf_damp a_shelf_fresh a_shelf_pulls a_shelf_fats a_tally_ofKind a_arg1 a_arg1_shelf a_arg1_rules a_arg1_sights a_arg1_rules_deep a_arg1_rules_fine a_arg1_rules_pay a_arg1_rules_hair a_arg1_shelf_thick a_arg1_shelf_hollow a_arg1_shelf_damp a_arg1_shelf_fresh a_arg1_shelf_pulls a_arg1_shelf_fats v_acts v_stoppedAt v_why v_1.1 v_1.2.1 v_2.1 v_3.2.2.1 v_3.1 v_3.2.1 v_1.2.2.1 v_1.2.2.2.1 v_1.2.2.2.2.1 v_1.2.2.2.2.2 v_2.2.1 v_2.2.2.1 v_2.2.2.2.1 v_2.2.2.2.2.1 v_2.2.2.2.2.2.1 v_2.2.2.2.2.2.2 v_3.2.2.2 v_arg1_rules_flat v_arg1_rules_least v_arg1_shelf_there v_arg1_rules_deep v_arg1_rules_fine v_arg1_rules_pay v_arg1_rules_hair v_arg1_shelf_thick v_arg1_shelf_hollow v_arg1_shelf_damp v_arg1_shelf_fresh v_arg1_shelf_pulls v_arg1_shelf_fats) C lk_RX9_50 (ctX8_clear a_tally a_tally_ofKind v_tally_pulled v_tally_firstHaunted v_tally_haunter v_tally_ofKind hv_3) hW hl 8 rfl rfl rfl rfl rfl rfl rfl rfl rfl rfl ⟨rfl, rfl⟩ ⟨(Nat.le_of_ble_eq_true rfl), (Nat.le_of_ble_eq_true rfl)⟩ ⟨Nat.zero_le _, Nat.zero_le _⟩ rfl (Nat.le_of_ble_eq_true rfl) dX9_begin_26 (fun H locs hW => ?_)
  refine lv_aload_n hx hb dX9_begin_29 rfl (lv_at hl 0 rfl) ?_
  refine lv_iconst (v := (0 : Int32)) hx hb dX9_begin_30 (by decide) ?_
  refine putW C fp_RX9_53 hW 0 rfl rfl rfl (Nat.le_of_ble_eq_true rfl) dX9_begin_31 (fun H locs hW => ?_)
  have hW : HW G A s (wX9_begin cI cZ a_this a_rules a_shelf a_tally a_act a_rules_deep a_rules_fine a_rules_pay a_rules_hair a_shelf_thick a_shelf_hollow a_shelf_damp a_shelf_fresh a_shelf_pulls a_shelf_fats a_tally_ofKind a_arg1 a_arg1_shelf a_arg1_rules a_arg1_sights a_arg1_rules_deep a_arg1_rules_fine a_arg1_rules_pay a_arg1_rules_hair a_arg1_shelf_thick a_arg1_shelf_hollow a_arg1_shelf_damp a_arg1_shelf_fresh a_arg1_shelf_pulls a_arg1_shelf_fats (0 : Int32) v_stoppedAt v_why v_1.1 v_1.2.1 v_2.1 v_3.2.2.1 v_3.1 v_3.2.1 v_1.2.2.1 v_1.2.2.2.1 v_1.2.2.2.2.1 v_1.2.2.2.2.2 v_2.2.1 v_2.2.2.1 v_2.2.2.2.1 v_2.2.2.2.2.1 v_2.2.2.2.2.2.1 v_2.2.2.2.2.2.2 v_3.2.2.2 v_arg1_rules_flat v_arg1_rules_least v_arg1_shelf_there v_arg1_rules_deep v_arg1_rules_fine v_arg1_rules_pay v_arg1_rules_hair v_arg1_shelf_thick v_arg1_shelf_hollow v_arg1_shelf_damp v_arg1_shelf_fresh v_arg1_shelf_pulls v_arg1_shelf_fats) H locs := hW
  refine lv_aload_n hx hb dX9_begin_34 rfl (lv_at hl 0 rfl) ?_
  refine lv_bipush (v := (-6 : Int32)) hx hb dX9_begin_35 (by decide) ?_
  refine putW C fp_RX9_57 hW 0 rfl rfl rfl (Nat.le_of_ble_eq_true rfl) dX9_begin_37 (fun H locs hW => ?_)
  have hW : HW G A s (wX9_begin cI cZ a_this a_rules a_shelf a_tally a_act a_rules_deep a_rules_fine a_rules_pay a_rules_hair a_shelf_thick a_shelf_hollow a_shelf_damp a_shelf_fresh a_shelf_pulls a_shelf_fats a_tally_ofKind a_arg1 a_arg1_shelf a_arg1_rules a_arg1_sights a_arg1_rules_deep a_arg1_rules_fine a_arg1_rules_pay a_arg1_rules_hair a_arg1_shelf_thick a_arg1_shelf_hollow a_arg1_shelf_damp a_arg1_shelf_fresh a_arg1_shelf_pulls a_arg1_shelf_fats (0 : Int32) (-6 : Int32) v_why v_1.1 v_1.2.1 v_2.1 v_3.2.2.1 v_3.1 v_3.2.1 v_1.2.2.1 v_1.2.2.2.1 v_1.2.2.2.2.1 v_1.2.2.2.2.2 v_2.2.1 v_2.2.2.1 v_2.2.2.2.1 v_2.2.2.2.2.1 v_2.2.2.2.2.2.1 v_2.2.2.2.2.2.2 v_3.2.2.2 v_arg1_rules_flat v_arg1_rules_least v_arg1_shelf_there v_arg1_rules_deep v_arg1_rules_fine v_arg1_rules_pay v_arg1_rules_hair v_arg1_shelf_thick v_arg1_shelf_hollow v_arg1_shelf_damp v_arg1_shelf_fresh v_arg1_shelf_pulls v_arg1_shelf_fats) H locs := hW
  refine lv_aload_n hx hb dX9_begin_40 rfl (lv_at hl 0 rfl) ?_
  refine lv_bipush (v := (-6 : Int32)) hx hb dX9_begin_41 (by decide) ?_
  refine putW C fp_RX9_60 hW 0 rfl rfl rfl (Nat.le_of_ble_eq_true rfl) dX9_begin_43 (fun H locs hW => ?_)
  have hW : HW G A s (wX9_begin cI cZ a_this a_rules a_shelf a_tally a_act a_rules_deep a_rules_fine a_rules_pay a_rules_hair a_shelf_thick a_shelf_hollow a_shelf_damp a_shelf_fresh a_shelf_pulls a_shelf_fats a_tally_ofKind a_arg1 a_arg1_shelf a_arg1_rules a_arg1_sights a_arg1_rules_deep a_arg1_rules_fine a_arg1_rules_pay a_arg1_rules_hair a_arg1_shelf_thick a_arg1_shelf_hollow a_arg1_shelf_damp a_arg1_shelf_fresh a_arg1_shelf_pulls a_arg1_shelf_fats (0 : Int32) (-6 : Int32) (-6 : Int32) v_1.1 v_1.2.1 v_2.1 v_3.2.2.1 v_3.1 v_3.2.1 v_1.2.2.1 v_1.2.2.2.1 v_1.2.2.2.2.1 v_1.2.2.2.2.2 v_2.2.1 v_2.2.2.1 v_2.2.2.2.1 v_2.2.2.2.2.1 v_2.2.2.2.2.2.1 v_2.2.2.2.2.2.2 v_3.2.2.2 v_arg1_rules_flat v_arg1_rules_least v_arg1_shelf_there v_arg1_rules_deep v_arg1_rules_fine v_arg1_rules_pay v_arg1_rules_hair v_arg1_shelf_thick v_arg1_shelf_hollow v_arg1_shelf_damp v_arg1_shelf_fresh v_arg1_shelf_pulls v_arg1_shelf_fats) H locs := hW
  obtain rfl := Option.some.inj h
  exact hQ _ _ _ _ dX9_begin_46 hW
theorem ctX9_begin {l : Launch} {G : va_G} {cI cZ cO : ClassId} (a_this a_rules a_shelf a_tally a_act a_rules_deep a_rules_fine a_rules_pay a_rules_hair a_shelf_thick a_shelf_hollow a_shelf_damp a_shelf_fresh a_shelf_pulls a_shelf_fats a_tally_ofKind a_arg1 a_arg1_shelf a_arg1_rules a_arg1_sights a_arg1_rules_deep a_arg1_rules_fine a_arg1_rules_pay a_arg1_rules_hair a_arg1_shelf_thick a_arg1_shelf_hollow a_arg1_shelf_damp a_arg1_shelf_fresh a_arg1_shelf_pulls a_arg1_shelf_fats : Nat) (v_acts : Int32) (v_stoppedAt : Int32) (v_why : Int32) (v_rules_flat : Int32) (v_rules_least : Int32) (v_shelf_there : Int32) (v_tally_pulled : Int32) (v_tally_firstHaunted : Int32) (v_tally_haunter : Int32) (v_rules_deep : Nat → Int32) (v_rules_fine : Nat → Int32) (v_rules_pay : Nat → Int32) (v_rules_hair : Nat → Int32) (v_shelf_thick : Nat → Int32) (v_shelf_hollow : Nat → Int32) (v_shelf_damp : Nat → Int32) (v_shelf_fresh : Nat → Int32) (v_shelf_pulls : Nat → Int32) (v_shelf_fats : Nat → Int32) (v_tally_ofKind : Nat → Int32) (v_arg1_rules_flat : Int32) (v_arg1_rules_least : Int32) (v_arg1_shelf_there : Int32) (v_arg1_rules_deep : Nat → Int32) (v_arg1_rules_fine : Nat → Int32) (v_arg1_rules_pay : Nat → Int32) (v_arg1_rules_hair : Nat → Int32) (v_arg1_shelf_thick : Nat → Int32) (v_arg1_shelf_hollow : Nat → Int32) (v_arg1_shelf_damp : Nat → Int32) (v_arg1_shelf_fresh : Nat → Int32) (v_arg1_shelf_pulls : Nat → Int32) (v_arg1_shelf_fats : Nat → Int32) {res : Int32 × Int32 × Int32 × Int32 × Int32 × Int32 × Int32 × Int32 × Int32 × (Nat → Int32) × (Nat → Int32) × (Nat → Int32) × (Nat → Int32) × (Nat → Int32) × (Nat → Int32) × (Nat → Int32) × (Nat → Int32) × (Nat → Int32) × (Nat → Int32) × (Nat → Int32)} (h : fX9_begin v_rules_deep v_rules_fine v_rules_pay v_rules_hair v_shelf_thick v_shelf_hollow v_shelf_damp v_shelf_fresh v_shelf_pulls v_shelf_fats v_tally_ofKind v_arg1_rules_flat v_arg1_rules_least v_arg1_shelf_there v_arg1_rules_deep v_arg1_rules_fine v_arg1_rules_pay v_arg1_rules_hair v_arg1_shelf_thick v_arg1_shelf_hollow v_arg1_shelf_damp v_arg1_shelf_fresh v_arg1_shelf_pulls v_arg1_shelf_fats = some res) : MV l G cI cZ cO yX9_begin cX9_begin 2 rX9_begin [.ref a_this, .ref a_arg1] (wX9_begin cI cZ a_this a_rules a_shelf a_tally a_act a_rules_deep a_rules_fine a_rules_pay a_rules_hair a_shelf_thick a_shelf_hollow a_shelf_damp a_shelf_fresh a_shelf_pulls a_shelf_fats a_tally_ofKind a_arg1 a_arg1_shelf a_arg1_rules a_arg1_sights a_arg1_rules_deep a_arg1_rules_fine a_arg1_rules_pay a_arg1_rules_hair a_arg1_shelf_thick a_arg1_shelf_hollow a_arg1_shelf_damp a_arg1_shelf_fresh a_arg1_shelf_pulls a_arg1_shelf_fats v_acts v_stoppedAt v_why v_rules_flat v_rules_least v_shelf_there v_tally_pulled v_tally_firstHaunted v_tally_haunter v_rules_deep v_rules_fine v_rules_pay v_rules_hair v_shelf_thick v_shelf_hollow v_shelf_damp v_shelf_fresh v_shelf_pulls v_shelf_fats v_tally_ofKind v_arg1_rules_flat v_arg1_rules_least v_arg1_shelf_there v_arg1_rules_deep v_arg1_rules_fine v_arg1_rules_pay v_arg1_rules_hair v_arg1_shelf_thick v_arg1_shelf_hollow v_arg1_shelf_damp v_arg1_shelf_fresh v_arg1_shelf_pulls v_arg1_shelf_fats) (wX9_begin cI cZ a_this a_rules a_shelf a_tally a_act a_rules_deep a_rules_fine a_rules_pay a_rules_hair a_shelf_thick a_shelf_hollow a_shelf_damp a_shelf_fresh a_shelf_pulls a_shelf_fats a_tally_ofKind a_arg1 a_arg1_shelf a_arg1_rules a_arg1_sights a_arg1_rules_deep a_arg1_rules_fine a_arg1_rules_pay a_arg1_rules_hair a_arg1_shelf_thick a_arg1_shelf_hollow a_arg1_shelf_damp a_arg1_shelf_fresh a_arg1_shelf_pulls a_arg1_shelf_fats res.1 res.2.1 res.2.2.1 res.2.2.2.1 res.2.2.2.2.1 res.2.2.2.2.2.1 res.2.2.2.2.2.2.2.2.1 res.2.2.2.2.2.2.1 res.2.2.2.2.2.2.2.1 res.2.2.2.2.2.2.2.2.2.1 res.2.2.2.2.2.2.2.2.2.2.1 res.2.2.2.2.2.2.2.2.2.2.2.1 res.2.2.2.2.2.2.2.2.2.2.2.2.1 res.2.2.2.2.2.2.2.2.2.2.2.2.2.1 res.2.2.2.2.2.2.2.2.2.2.2.2.2.2.1 res.2.2.2.2.2.2.2.2.2.2.2.2.2.2.2.1 res.2.2.2.2.2.2.2.2.2.2.2.2.2.2.2.2.1 res.2.2.2.2.2.2.2.2.2.2.2.2.2.2.2.2.2.1 res.2.2.2.2.2.2.2.2.2.2.2.2.2.2.2.2.2.2.1 res.2.2.2.2.2.2.2.2.2.2.2.2.2.2.2.2.2.2.2 v_arg1_rules_flat v_arg1_rules_least v_arg1_shelf_there v_arg1_rules_deep v_arg1_rules_fine v_arg1_rules_pay v_arg1_rules_hair v_arg1_shelf_thick v_arg1_shelf_hollow v_arg1_shelf_damp v_arg1_shelf_fresh v_arg1_shelf_pulls v_arg1_shelf_fats) := by
  refine MV.of (by decide) (Nat.le_of_ble_eq_true rfl) ?_
  intro p e s m below meth c A Q C hW hQ ls hl
  exact uX9_begin_0 v_acts v_stoppedAt v_why v_rules_flat v_rules_least v_shelf_there v_tally_pulled v_tally_firstHaunted v_tally_haunter v_rules_deep v_rules_fine v_rules_pay v_rules_hair v_shelf_thick v_shelf_hollow v_shelf_damp v_shelf_fresh v_shelf_pulls v_shelf_fats v_tally_ofKind v_arg1_rules_flat v_arg1_rules_least v_arg1_shelf_there v_arg1_rules_deep v_arg1_rules_fine v_arg1_rules_pay v_arg1_rules_hair v_arg1_shelf_thick v_arg1_shelf_hollow v_arg1_shelf_damp v_arg1_shelf_fresh v_arg1_shelf_pulls v_arg1_shelf_fats C hQ h _ _ hW _ hl
abbrev wX9_reasonAgainstDraw (cI cZ : ClassId) (a_this a_rules a_shelf a_tally a_act a_shelf_thick a_shelf_hollow a_shelf_damp a_shelf_fresh a_shelf_pulls a_shelf_fats a_rules_deep a_rules_fine a_rules_pay a_rules_hair : Nat) (v_acts : Int32) (v_stoppedAt : Int32) (v_why : Int32) (v_shelf_there : Int32) (v_rules_flat : Int32) (v_rules_least : Int32) (v_shelf_fresh : Nat → Int32) (v_shelf_hollow : Nat → Int32) : va_W := [(a_this, .inr (9, [.ref a_rules, .ref a_shelf, .ref a_tally, .ref a_act, .int v_acts, .int v_stoppedAt, .int v_why])), (a_shelf, .inr (6, [.int v_shelf_there, .ref a_shelf_thick, .ref a_shelf_hollow, .ref a_shelf_damp, .ref a_shelf_fresh, .ref a_shelf_pulls, .ref a_shelf_fats])), (a_rules, .inr (5, [.int v_rules_flat, .int v_rules_least, .ref a_rules_deep, .ref a_rules_fine, .ref a_rules_pay, .ref a_rules_hair])), (a_shelf_fresh, .inl (cI, 5, .inl v_shelf_fresh)), (a_shelf_hollow, .inl (cI, 5, .inl v_shelf_hollow))]
abbrev rX9_reasonAgainstDraw : Room := { frames := 1, cells := 0, slots := 0, locals := 21 }
set_option maxRecDepth 20000 in
theorem uX9_reasonAgainstDraw_0 {a_this a_rules a_shelf a_tally a_act a_shelf_thick a_shelf_hollow a_shelf_damp a_shelf_fresh a_shelf_pulls a_shelf_fats a_rules_deep a_rules_fine a_rules_pay a_rules_hair : Nat} (x1 : Int32) (v_acts : Int32) (v_stoppedAt : Int32) (v_why : Int32) (v_shelf_there : Int32) (v_rules_flat : Int32) (v_rules_least : Int32) (v_shelf_fresh : Nat → Int32) (v_shelf_hollow : Nat → Int32) {res : Int32} (C : Cx p s m av meth c RX9 cX9_reasonAgainstDraw 2 (some .int) G cI cZ cO A) (hQ : RI p l e rX9_reasonAgainstDraw s m av below meth c G A cX9_reasonAgainstDraw .int Q (res) (wX9_reasonAgainstDraw cI cZ a_this a_rules a_shelf a_tally a_act a_shelf_thick a_shelf_hollow a_shelf_damp a_shelf_fresh a_shelf_pulls a_shelf_fats a_rules_deep a_rules_fine a_rules_pay a_rules_hair v_acts v_stoppedAt v_why v_shelf_there v_rules_flat v_rules_least v_shelf_fresh v_shelf_hollow)) (h : fX9_reasonAgainstDraw x1 v_shelf_there v_rules_flat v_shelf_fresh v_shelf_hollow = some res) (H : Heap) (locs : List Loc) (hW : HW G A s (wX9_reasonAgainstDraw cI cZ a_this a_rules a_shelf a_tally a_act a_shelf_thick a_shelf_hollow a_shelf_damp a_shelf_fresh a_shelf_pulls a_shelf_fats a_rules_deep a_rules_fine a_rules_pay a_rules_hair v_acts v_stoppedAt v_why v_shelf_there v_rules_flat v_rules_least v_shelf_fresh v_shelf_hollow) H locs) (ls : Array Slot) (hl : lv_has ls 2 [(0, .ref a_this), (1, .int x1)]) : W p l e rX9_reasonAgainstDraw s m av below meth c H locs 0 0 Q (F0 m 0 ls []) := by
  have hx := C.1
  have hb := C.2.1
  unfold fX9_reasonAgainstDraw at h
  refine lv_aload_n hx hb dX9_reasonAgainstDraw_0 rfl (lv_at hl 0 rfl) ?_
  refine getW C fl_RX9_21 hW 0 rfl rfl dX9_reasonAgainstDraw_1 ?_
  refine lv_iload_n hx hb dX9_reasonAgainstDraw_4 rfl (lv_at hl 1 rfl) ?_
  refine callVIr [1] C lk_RX9_95 (ctX6_has a_shelf a_shelf_thick a_shelf_hollow a_shelf_damp a_shelf_fresh a_shelf_pulls a_shelf_fats x1 v_shelf_there rfl) hW hl 6 rfl rfl rfl rfl rfl ⟨rfl, rfl⟩ ⟨(Nat.le_of_ble_eq_true rfl), (Nat.le_of_ble_eq_true rfl)⟩ ⟨Nat.zero_le _, Nat.zero_le _⟩ rfl (Nat.le_of_ble_eq_true rfl) dX9_reasonAgainstDraw_5 (fun H locs hW => ?_)
  refine lv_if_ne (tgt := 13) hx hb dX9_reasonAgainstDraw_8 (by decide) (fun c_1 => ?_) (fun c_1 => ?_)
  · have h := in_h c_1 h
    refine lv_aload_n hx hb dX9_reasonAgainstDraw_13 rfl (lv_at hl 0 rfl) ?_
    refine getW C fl_RX9_21 hW 0 rfl rfl dX9_reasonAgainstDraw_14 ?_
    refine getW C fl_RX9_118 hW 1 rfl rfl dX9_reasonAgainstDraw_17 ?_
    refine lv_iload_n hx hb dX9_reasonAgainstDraw_20 rfl (lv_at hl 1 rfl) ?_
    obtain ⟨g_2, h⟩ := gd_h h
    refine ialdW C hW 3 rfl g_2 dX9_reasonAgainstDraw_21 ?_
    refine lv_bipush (v := (-6 : Int32)) hx hb dX9_reasonAgainstDraw_22 (by decide) ?_
    refine lv_icmp_eq (tgt := 29) hx hb dX9_reasonAgainstDraw_24 (by decide) (fun c_3 => ?_) (fun c_3 => ?_)
    · have h := ip_h c_3 h
      refine lv_aload_n hx hb dX9_reasonAgainstDraw_29 rfl (lv_at hl 0 rfl) ?_
      refine getW C fl_RX9_21 hW 0 rfl rfl dX9_reasonAgainstDraw_30 ?_
      refine getW C fl_RX9_121 hW 1 rfl rfl dX9_reasonAgainstDraw_33 ?_
      refine lv_iload_n hx hb dX9_reasonAgainstDraw_36 rfl (lv_at hl 1 rfl) ?_
      refine ialdW C hW 4 rfl g_2 dX9_reasonAgainstDraw_37 ?_
      refine lv_aload_n hx hb dX9_reasonAgainstDraw_38 rfl (lv_at hl 0 rfl) ?_
      refine getW C fl_RX9_12 hW 0 rfl rfl dX9_reasonAgainstDraw_39 ?_
      refine getW C fl_RX9_124 hW 2 rfl rfl dX9_reasonAgainstDraw_42 ?_
      refine lv_icmp_le (tgt := 52) hx hb dX9_reasonAgainstDraw_45 (by decide) (fun c_4 => ?_) (fun c_4 => ?_)
      · have h := ip_h c_4 h
        refine lv_iconst (v := (0 : Int32)) hx hb dX9_reasonAgainstDraw_52 (by decide) ?_
        obtain rfl := Option.some.inj h
        exact hQ rfl _ _ _ _ dX9_reasonAgainstDraw_53 hW
      · have h := in_h c_4 h
        refine lv_iconst (v := (5 : Int32)) hx hb dX9_reasonAgainstDraw_48 (by decide) ?_
        refine lv_goto (tgt := 53) hx hb dX9_reasonAgainstDraw_49 (by decide) ?_
        obtain rfl := Option.some.inj h
        exact hQ rfl _ _ _ _ dX9_reasonAgainstDraw_53 hW
    · have h := in_h c_3 h
      refine lv_iconst (v := (3 : Int32)) hx hb dX9_reasonAgainstDraw_27 (by decide) ?_
      obtain rfl := Option.some.inj h
      exact hQ rfl _ _ _ _ dX9_reasonAgainstDraw_28 hW
  · have h := ip_h c_1 h
    refine lv_iconst (v := (1 : Int32)) hx hb dX9_reasonAgainstDraw_11 (by decide) ?_
    obtain rfl := Option.some.inj h
    exact hQ rfl _ _ _ _ dX9_reasonAgainstDraw_12 hW
theorem ctX9_reasonAgainstDraw {l : Launch} {G : va_G} {cI cZ cO : ClassId} (a_this a_rules a_shelf a_tally a_act a_shelf_thick a_shelf_hollow a_shelf_damp a_shelf_fresh a_shelf_pulls a_shelf_fats a_rules_deep a_rules_fine a_rules_pay a_rules_hair : Nat) (x1 : Int32) (v_acts : Int32) (v_stoppedAt : Int32) (v_why : Int32) (v_shelf_there : Int32) (v_rules_flat : Int32) (v_rules_least : Int32) (v_shelf_fresh : Nat → Int32) (v_shelf_hollow : Nat → Int32) {res : Int32} (h : fX9_reasonAgainstDraw x1 v_shelf_there v_rules_flat v_shelf_fresh v_shelf_hollow = some res) : MI l G cI cZ cO yX9_reasonAgainstDraw cX9_reasonAgainstDraw 2 .int rX9_reasonAgainstDraw [.ref a_this, .int x1] (wX9_reasonAgainstDraw cI cZ a_this a_rules a_shelf a_tally a_act a_shelf_thick a_shelf_hollow a_shelf_damp a_shelf_fresh a_shelf_pulls a_shelf_fats a_rules_deep a_rules_fine a_rules_pay a_rules_hair v_acts v_stoppedAt v_why v_shelf_there v_rules_flat v_rules_least v_shelf_fresh v_shelf_hollow) (res) (wX9_reasonAgainstDraw cI cZ a_this a_rules a_shelf a_tally a_act a_shelf_thick a_shelf_hollow a_shelf_damp a_shelf_fresh a_shelf_pulls a_shelf_fats a_rules_deep a_rules_fine a_rules_pay a_rules_hair v_acts v_stoppedAt v_why v_shelf_there v_rules_flat v_rules_least v_shelf_fresh v_shelf_hollow) := by
  refine MI.of (by decide) (Nat.le_of_ble_eq_true rfl) ?_
  intro p e s m below meth c A Q C hW hQ ls hl
  exact uX9_reasonAgainstDraw_0 x1 v_acts v_stoppedAt v_why v_shelf_there v_rules_flat v_rules_least v_shelf_fresh v_shelf_hollow C hQ h _ _ hW _ hl
abbrev wX9_reasonAgainstPulls (cI cZ : ClassId) (a_this a_rules a_shelf a_tally a_act a_shelf_thick a_shelf_hollow a_shelf_damp a_shelf_fresh a_shelf_pulls a_shelf_fats a_rules_deep a_rules_fine a_rules_pay a_rules_hair : Nat) (v_acts : Int32) (v_stoppedAt : Int32) (v_why : Int32) (v_shelf_there : Int32) (v_rules_flat : Int32) (v_rules_least : Int32) (v_shelf_fresh : Nat → Int32) (v_shelf_hollow : Nat → Int32) (v_shelf_thick : Nat → Int32) : va_W := [(a_this, .inr (9, [.ref a_rules, .ref a_shelf, .ref a_tally, .ref a_act, .int v_acts, .int v_stoppedAt, .int v_why])), (a_shelf, .inr (6, [.int v_shelf_there, .ref a_shelf_thick, .ref a_shelf_hollow, .ref a_shelf_damp, .ref a_shelf_fresh, .ref a_shelf_pulls, .ref a_shelf_fats])), (a_rules, .inr (5, [.int v_rules_flat, .int v_rules_least, .ref a_rules_deep, .ref a_rules_fine, .ref a_rules_pay, .ref a_rules_hair])), (a_shelf_fresh, .inl (cI, 5, .inl v_shelf_fresh)), (a_shelf_hollow, .inl (cI, 5, .inl v_shelf_hollow)), (a_shelf_thick, .inl (cI, 5, .inl v_shelf_thick))]
abbrev rX9_reasonAgainstPulls : Room := { frames := 1, cells := 0, slots := 0, locals := 21 }
set_option maxRecDepth 20000 in
theorem uX9_reasonAgainstPulls_0 {a_this a_rules a_shelf a_tally a_act a_shelf_thick a_shelf_hollow a_shelf_damp a_shelf_fresh a_shelf_pulls a_shelf_fats a_rules_deep a_rules_fine a_rules_pay a_rules_hair : Nat} (x1 : Int32) (v_acts : Int32) (v_stoppedAt : Int32) (v_why : Int32) (v_shelf_there : Int32) (v_rules_flat : Int32) (v_rules_least : Int32) (v_shelf_fresh : Nat → Int32) (v_shelf_hollow : Nat → Int32) (v_shelf_thick : Nat → Int32) {res : Int32} (C : Cx p s m av meth c RX9 cX9_reasonAgainstPulls 2 (some .int) G cI cZ cO A) (hQ : RI p l e rX9_reasonAgainstPulls s m av below meth c G A cX9_reasonAgainstPulls .int Q (res) (wX9_reasonAgainstPulls cI cZ a_this a_rules a_shelf a_tally a_act a_shelf_thick a_shelf_hollow a_shelf_damp a_shelf_fresh a_shelf_pulls a_shelf_fats a_rules_deep a_rules_fine a_rules_pay a_rules_hair v_acts v_stoppedAt v_why v_shelf_there v_rules_flat v_rules_least v_shelf_fresh v_shelf_hollow v_shelf_thick)) (h : fX9_reasonAgainstPulls x1 v_shelf_there v_rules_flat v_rules_least v_shelf_fresh v_shelf_hollow v_shelf_thick = some res) (H : Heap) (locs : List Loc) (hW : HW G A s (wX9_reasonAgainstPulls cI cZ a_this a_rules a_shelf a_tally a_act a_shelf_thick a_shelf_hollow a_shelf_damp a_shelf_fresh a_shelf_pulls a_shelf_fats a_rules_deep a_rules_fine a_rules_pay a_rules_hair v_acts v_stoppedAt v_why v_shelf_there v_rules_flat v_rules_least v_shelf_fresh v_shelf_hollow v_shelf_thick) H locs) (ls : Array Slot) (hl : lv_has ls 2 [(0, .ref a_this), (1, .int x1)]) : W p l e rX9_reasonAgainstPulls s m av below meth c H locs 0 0 Q (F0 m 0 ls []) := by
  have hx := C.1
  have hb := C.2.1
  unfold fX9_reasonAgainstPulls at h
  refine lv_aload_n hx hb dX9_reasonAgainstPulls_0 rfl (lv_at hl 0 rfl) ?_
  refine getW C fl_RX9_21 hW 0 rfl rfl dX9_reasonAgainstPulls_1 ?_
  refine lv_iload_n hx hb dX9_reasonAgainstPulls_4 rfl (lv_at hl 1 rfl) ?_
  refine callVIr [1] C lk_RX9_95 (ctX6_has a_shelf a_shelf_thick a_shelf_hollow a_shelf_damp a_shelf_fresh a_shelf_pulls a_shelf_fats x1 v_shelf_there rfl) hW hl 6 rfl rfl rfl rfl rfl ⟨rfl, rfl⟩ ⟨(Nat.le_of_ble_eq_true rfl), (Nat.le_of_ble_eq_true rfl)⟩ ⟨Nat.zero_le _, Nat.zero_le _⟩ rfl (Nat.le_of_ble_eq_true rfl) dX9_reasonAgainstPulls_5 (fun H locs hW => ?_)
  refine lv_if_ne (tgt := 13) hx hb dX9_reasonAgainstPulls_8 (by decide) (fun c_1 => ?_) (fun c_1 => ?_)
  · have h := in_h c_1 h
    refine lv_aload_n hx hb dX9_reasonAgainstPulls_13 rfl (lv_at hl 0 rfl) ?_
    refine getW C fl_RX9_21 hW 0 rfl rfl dX9_reasonAgainstPulls_14 ?_
    refine getW C fl_RX9_118 hW 1 rfl rfl dX9_reasonAgainstPulls_17 ?_
    refine lv_iload_n hx hb dX9_reasonAgainstPulls_20 rfl (lv_at hl 1 rfl) ?_
    obtain ⟨g_2, h⟩ := gd_h h
    refine ialdW C hW 3 rfl g_2 dX9_reasonAgainstPulls_21 ?_
    refine lv_bipush (v := (-6 : Int32)) hx hb dX9_reasonAgainstPulls_22 (by decide) ?_
    refine lv_icmp_ne (tgt := 29) hx hb dX9_reasonAgainstPulls_24 (by decide) (fun c_3 => ?_) (fun c_3 => ?_)
    · have h := in_h c_3 h
      refine lv_aload_n hx hb dX9_reasonAgainstPulls_29 rfl (lv_at hl 0 rfl) ?_
      refine getW C fl_RX9_21 hW 0 rfl rfl dX9_reasonAgainstPulls_30 ?_
      refine getW C fl_RX9_121 hW 1 rfl rfl dX9_reasonAgainstPulls_33 ?_
      refine lv_iload_n hx hb dX9_reasonAgainstPulls_36 rfl (lv_at hl 1 rfl) ?_
      refine ialdW C hW 4 rfl g_2 dX9_reasonAgainstPulls_37 ?_
      refine lv_aload_n hx hb dX9_reasonAgainstPulls_38 rfl (lv_at hl 0 rfl) ?_
      refine getW C fl_RX9_12 hW 0 rfl rfl dX9_reasonAgainstPulls_39 ?_
      refine getW C fl_RX9_124 hW 2 rfl rfl dX9_reasonAgainstPulls_42 ?_
      refine lv_icmp_le (tgt := 50) hx hb dX9_reasonAgainstPulls_45 (by decide) (fun c_4 => ?_) (fun c_4 => ?_)
      · have h := ip_h c_4 h
        refine lv_aload_n hx hb dX9_reasonAgainstPulls_50 rfl (lv_at hl 0 rfl) ?_
        refine getW C fl_RX9_21 hW 0 rfl rfl dX9_reasonAgainstPulls_51 ?_
        refine getW C fl_RX9_111 hW 1 rfl rfl dX9_reasonAgainstPulls_54 ?_
        refine lv_iload_n hx hb dX9_reasonAgainstPulls_57 rfl (lv_at hl 1 rfl) ?_
        refine ialdW C hW 5 rfl g_2 dX9_reasonAgainstPulls_58 ?_
        refine lv_aload_n hx hb dX9_reasonAgainstPulls_59 rfl (lv_at hl 0 rfl) ?_
        refine getW C fl_RX9_12 hW 0 rfl rfl dX9_reasonAgainstPulls_60 ?_
        refine getW C fl_RX9_115 hW 2 rfl rfl dX9_reasonAgainstPulls_63 ?_
        refine lv_icmp_ge (tgt := 74) hx hb dX9_reasonAgainstPulls_66 (by decide) (fun c_5 => ?_) (fun c_5 => ?_)
        · have h := ip_h c_5 h
          refine lv_iconst (v := (0 : Int32)) hx hb dX9_reasonAgainstPulls_74 (by decide) ?_
          obtain rfl := Option.some.inj h
          exact hQ rfl _ _ _ _ dX9_reasonAgainstPulls_75 hW
        · have h := in_h c_5 h
          refine lv_bipush (v := (6 : Int32)) hx hb dX9_reasonAgainstPulls_69 (by decide) ?_
          refine lv_goto (tgt := 75) hx hb dX9_reasonAgainstPulls_71 (by decide) ?_
          obtain rfl := Option.some.inj h
          exact hQ rfl _ _ _ _ dX9_reasonAgainstPulls_75 hW
      · have h := in_h c_4 h
        refine lv_iconst (v := (5 : Int32)) hx hb dX9_reasonAgainstPulls_48 (by decide) ?_
        obtain rfl := Option.some.inj h
        exact hQ rfl _ _ _ _ dX9_reasonAgainstPulls_49 hW
    · have h := ip_h c_3 h
      refine lv_iconst (v := (4 : Int32)) hx hb dX9_reasonAgainstPulls_27 (by decide) ?_
      obtain rfl := Option.some.inj h
      exact hQ rfl _ _ _ _ dX9_reasonAgainstPulls_28 hW
  · have h := ip_h c_1 h
    refine lv_iconst (v := (1 : Int32)) hx hb dX9_reasonAgainstPulls_11 (by decide) ?_
    obtain rfl := Option.some.inj h
    exact hQ rfl _ _ _ _ dX9_reasonAgainstPulls_12 hW
theorem ctX9_reasonAgainstPulls {l : Launch} {G : va_G} {cI cZ cO : ClassId} (a_this a_rules a_shelf a_tally a_act a_shelf_thick a_shelf_hollow a_shelf_damp a_shelf_fresh a_shelf_pulls a_shelf_fats a_rules_deep a_rules_fine a_rules_pay a_rules_hair : Nat) (x1 : Int32) (v_acts : Int32) (v_stoppedAt : Int32) (v_why : Int32) (v_shelf_there : Int32) (v_rules_flat : Int32) (v_rules_least : Int32) (v_shelf_fresh : Nat → Int32) (v_shelf_hollow : Nat → Int32) (v_shelf_thick : Nat → Int32) {res : Int32} (h : fX9_reasonAgainstPulls x1 v_shelf_there v_rules_flat v_rules_least v_shelf_fresh v_shelf_hollow v_shelf_thick = some res) : MI l G cI cZ cO yX9_reasonAgainstPulls cX9_reasonAgainstPulls 2 .int rX9_reasonAgainstPulls [.ref a_this, .int x1] (wX9_reasonAgainstPulls cI cZ a_this a_rules a_shelf a_tally a_act a_shelf_thick a_shelf_hollow a_shelf_damp a_shelf_fresh a_shelf_pulls a_shelf_fats a_rules_deep a_rules_fine a_rules_pay a_rules_hair v_acts v_stoppedAt v_why v_shelf_there v_rules_flat v_rules_least v_shelf_fresh v_shelf_hollow v_shelf_thick) (res) (wX9_reasonAgainstPulls cI cZ a_this a_rules a_shelf a_tally a_act a_shelf_thick a_shelf_hollow a_shelf_damp a_shelf_fresh a_shelf_pulls a_shelf_fats a_rules_deep a_rules_fine a_rules_pay a_rules_hair v_acts v_stoppedAt v_why v_shelf_there v_rules_flat v_rules_least v_shelf_fresh v_shelf_hollow v_shelf_thick) := by
  refine MI.of (by decide) (Nat.le_of_ble_eq_true rfl) ?_
  intro p e s m below meth c A Q C hW hQ ls hl
  exact uX9_reasonAgainstPulls_0 x1 v_acts v_stoppedAt v_why v_shelf_there v_rules_flat v_rules_least v_shelf_fresh v_shelf_hollow v_shelf_thick C hQ h _ _ hW _ hl
abbrev wX9_reasonAgainst (cI cZ : ClassId) (a_this a_rules a_shelf a_tally a_act a_shelf_thick a_shelf_hollow a_shelf_damp a_shelf_fresh a_shelf_pulls a_shelf_fats a_rules_deep a_rules_fine a_rules_pay a_rules_hair : Nat) (v_acts : Int32) (v_stoppedAt : Int32) (v_why : Int32) (v_act_stone : Int32) (v_act_kind : Int32) (v_act_amount : Int32) (v_shelf_there : Int32) (v_rules_flat : Int32) (v_rules_least : Int32) (v_shelf_fresh : Nat → Int32) (v_shelf_hollow : Nat → Int32) (v_shelf_thick : Nat → Int32) : va_W := [(a_this, .inr (9, [.ref a_rules, .ref a_shelf, .ref a_tally, .ref a_act, .int v_acts, .int v_stoppedAt, .int v_why])), (a_act, .inr (0, [.int v_act_stone, .int v_act_kind, .int v_act_amount])), (a_shelf, .inr (6, [.int v_shelf_there, .ref a_shelf_thick, .ref a_shelf_hollow, .ref a_shelf_damp, .ref a_shelf_fresh, .ref a_shelf_pulls, .ref a_shelf_fats])), (a_rules, .inr (5, [.int v_rules_flat, .int v_rules_least, .ref a_rules_deep, .ref a_rules_fine, .ref a_rules_pay, .ref a_rules_hair])), (a_shelf_fresh, .inl (cI, 5, .inl v_shelf_fresh)), (a_shelf_hollow, .inl (cI, 5, .inl v_shelf_hollow)), (a_shelf_thick, .inl (cI, 5, .inl v_shelf_thick))]
abbrev rX9_reasonAgainst : Room := { frames := 2, cells := 0, slots := 0, locals := 42 }
set_option maxRecDepth 20000 in
theorem uX9_reasonAgainst_49 {a_this a_rules a_shelf a_tally a_act a_shelf_thick a_shelf_hollow a_shelf_damp a_shelf_fresh a_shelf_pulls a_shelf_fats a_rules_deep a_rules_fine a_rules_pay a_rules_hair : Nat} (x1 : Int32) (v_acts : Int32) (v_stoppedAt : Int32) (v_why : Int32) (v_act_stone : Int32) (v_act_kind : Int32) (v_act_amount : Int32) (v_shelf_there : Int32) (v_rules_flat : Int32) (v_rules_least : Int32) (v_shelf_fresh : Nat → Int32) (v_shelf_hollow : Nat → Int32) (v_shelf_thick : Nat → Int32) {res : Int32} (C : Cx p s m av meth c RX9 cX9_reasonAgainst 2 (some .int) G cI cZ cO A) (hQ : RI p l e rX9_reasonAgainst s m av below meth c G A cX9_reasonAgainst .int Q (res) (wX9_reasonAgainst cI cZ a_this a_rules a_shelf a_tally a_act a_shelf_thick a_shelf_hollow a_shelf_damp a_shelf_fresh a_shelf_pulls a_shelf_fats a_rules_deep a_rules_fine a_rules_pay a_rules_hair v_acts v_stoppedAt v_why v_act_stone v_act_kind v_act_amount v_shelf_there v_rules_flat v_rules_least v_shelf_fresh v_shelf_hollow v_shelf_thick)) (h : fX9_reasonAgainst_49 x1 v_act_kind v_act_amount v_shelf_there v_rules_flat v_rules_least v_shelf_fresh v_shelf_hollow v_shelf_thick = some res) (H : Heap) (locs : List Loc) (hW : HW G A s (wX9_reasonAgainst cI cZ a_this a_rules a_shelf a_tally a_act a_shelf_thick a_shelf_hollow a_shelf_damp a_shelf_fresh a_shelf_pulls a_shelf_fats a_rules_deep a_rules_fine a_rules_pay a_rules_hair v_acts v_stoppedAt v_why v_act_stone v_act_kind v_act_amount v_shelf_there v_rules_flat v_rules_least v_shelf_fresh v_shelf_hollow v_shelf_thick) H locs) (ls : Array Slot) (hl : lv_has ls 2 [(0, .ref a_this), (1, .int x1)]) : W p l e rX9_reasonAgainst s m av below meth c H locs 0 0 Q (F0 m 49 ls []) := by
  have hx := C.1
  have hb := C.2.1
  unfold fX9_reasonAgainst_49 at h
  refine lv_aload_n hx hb dX9_reasonAgainst_49 rfl (lv_at hl 0 rfl) ?_
  refine getW C fl_RX9_35 hW 0 rfl rfl dX9_reasonAgainst_50 ?_
  refine getW C fl_RX9_98 hW 1 rfl rfl dX9_reasonAgainst_53 ?_
  by_cases c_3 : v_act_kind = (0 : Int32)
  · have h := ip_h c_3 h
    refine lv_tableIn (off := 57) (tgt := 113) hx hb dX9_reasonAgainst_56 (by rw [c_3]; decide) (by rw [c_3]; decide) (by rw [c_3]; rfl) (by decide) ?_
    refine lv_aload_n hx hb dX9_reasonAgainst_113 rfl (lv_at hl 0 rfl) ?_
    refine lv_iload_n hx hb dX9_reasonAgainst_114 rfl (lv_at hl 1 rfl) ?_
    obtain ⟨v_4, hv_4, h⟩ := bd_h h
    refine callVIr [0, 2, 3, 4, 5] C lk_RX9_104 (ctX9_reasonAgainstDraw a_this a_rules a_shelf a_tally a_act a_shelf_thick a_shelf_hollow a_shelf_damp a_shelf_fresh a_shelf_pulls a_shelf_fats a_rules_deep a_rules_fine a_rules_pay a_rules_hair x1 v_acts v_stoppedAt v_why v_shelf_there v_rules_flat v_rules_least v_shelf_fresh v_shelf_hollow hv_4) hW hl 9 rfl rfl rfl rfl rfl ⟨rfl, rfl⟩ ⟨(Nat.le_of_ble_eq_true rfl), (Nat.le_of_ble_eq_true rfl)⟩ ⟨Nat.zero_le _, Nat.zero_le _⟩ rfl (Nat.le_of_ble_eq_true rfl) dX9_reasonAgainst_115 (fun H locs hW => ?_)
    obtain rfl := Option.some.inj h
    exact hQ rfl _ _ _ _ dX9_reasonAgainst_118 hW
  · have h := in_h c_3 h
    by_cases c_5 : v_act_kind = (1 : Int32)
    · have h := ip_h c_5 h
      refine lv_tableIn (off := 69) (tgt := 125) hx hb dX9_reasonAgainst_56 (by rw [c_5]; decide) (by rw [c_5]; decide) (by rw [c_5]; rfl) (by decide) ?_
      refine lv_aload_n hx hb dX9_reasonAgainst_125 rfl (lv_at hl 0 rfl) ?_
      refine getW C fl_RX9_21 hW 0 rfl rfl dX9_reasonAgainst_126 ?_
      refine getW C fl_RX9_111 hW 2 rfl rfl dX9_reasonAgainst_129 ?_
      refine lv_iload_n hx hb dX9_reasonAgainst_132 rfl (lv_at hl 1 rfl) ?_
      obtain ⟨g_6, h⟩ := gd_h h
      refine ialdW C hW 6 rfl g_6 dX9_reasonAgainst_133 ?_
      refine lv_iconst (v := (3 : Int32)) hx hb dX9_reasonAgainst_134 (by decide) ?_
      refine lv_aload_n hx hb dX9_reasonAgainst_135 rfl (lv_at hl 0 rfl) ?_
      refine getW C fl_RX9_35 hW 0 rfl rfl dX9_reasonAgainst_136 ?_
      refine getW C fl_RX9_101 hW 1 rfl rfl dX9_reasonAgainst_139 ?_
      refine lv_imul hx hb dX9_reasonAgainst_142 ?_
      refine lv_isub hx hb dX9_reasonAgainst_143 ?_
      refine lv_aload_n hx hb dX9_reasonAgainst_144 rfl (lv_at hl 0 rfl) ?_
      refine getW C fl_RX9_12 hW 0 rfl rfl dX9_reasonAgainst_145 ?_
      refine getW C fl_RX9_115 hW 3 rfl rfl dX9_reasonAgainst_148 ?_
      refine lv_icmp_ge (tgt := 159) hx hb dX9_reasonAgainst_151 (by decide) (fun c_7 => ?_) (fun c_7 => ?_)
      · have h := ip_h c_7 h
        refine lv_iconst (v := (0 : Int32)) hx hb dX9_reasonAgainst_159 (by decide) ?_
        obtain rfl := Option.some.inj h
        exact hQ rfl _ _ _ _ dX9_reasonAgainst_160 hW
      · have h := in_h c_7 h
        refine lv_bipush (v := (6 : Int32)) hx hb dX9_reasonAgainst_154 (by decide) ?_
        refine lv_goto (tgt := 160) hx hb dX9_reasonAgainst_156 (by decide) ?_
        obtain rfl := Option.some.inj h
        exact hQ rfl _ _ _ _ dX9_reasonAgainst_160 hW
    · have h := in_h c_5 h
      by_cases c_8 : v_act_kind = (2 : Int32)
      · have h := ip_h c_8 h
        refine lv_tableIn (off := 69) (tgt := 125) hx hb dX9_reasonAgainst_56 (by rw [c_8]; decide) (by rw [c_8]; decide) (by rw [c_8]; rfl) (by decide) ?_
        refine lv_aload_n hx hb dX9_reasonAgainst_125 rfl (lv_at hl 0 rfl) ?_
        refine getW C fl_RX9_21 hW 0 rfl rfl dX9_reasonAgainst_126 ?_
        refine getW C fl_RX9_111 hW 2 rfl rfl dX9_reasonAgainst_129 ?_
        refine lv_iload_n hx hb dX9_reasonAgainst_132 rfl (lv_at hl 1 rfl) ?_
        obtain ⟨g_9, h⟩ := gd_h h
        refine ialdW C hW 6 rfl g_9 dX9_reasonAgainst_133 ?_
        refine lv_iconst (v := (3 : Int32)) hx hb dX9_reasonAgainst_134 (by decide) ?_
        refine lv_aload_n hx hb dX9_reasonAgainst_135 rfl (lv_at hl 0 rfl) ?_
        refine getW C fl_RX9_35 hW 0 rfl rfl dX9_reasonAgainst_136 ?_
        refine getW C fl_RX9_101 hW 1 rfl rfl dX9_reasonAgainst_139 ?_
        refine lv_imul hx hb dX9_reasonAgainst_142 ?_
        refine lv_isub hx hb dX9_reasonAgainst_143 ?_
        refine lv_aload_n hx hb dX9_reasonAgainst_144 rfl (lv_at hl 0 rfl) ?_
        refine getW C fl_RX9_12 hW 0 rfl rfl dX9_reasonAgainst_145 ?_
        refine getW C fl_RX9_115 hW 3 rfl rfl dX9_reasonAgainst_148 ?_
        refine lv_icmp_ge (tgt := 159) hx hb dX9_reasonAgainst_151 (by decide) (fun c_10 => ?_) (fun c_10 => ?_)
        · have h := ip_h c_10 h
          refine lv_iconst (v := (0 : Int32)) hx hb dX9_reasonAgainst_159 (by decide) ?_
          obtain rfl := Option.some.inj h
          exact hQ rfl _ _ _ _ dX9_reasonAgainst_160 hW
        · have h := in_h c_10 h
          refine lv_bipush (v := (6 : Int32)) hx hb dX9_reasonAgainst_154 (by decide) ?_
          refine lv_goto (tgt := 160) hx hb dX9_reasonAgainst_156 (by decide) ?_
          obtain rfl := Option.some.inj h
          exact hQ rfl _ _ _ _ dX9_reasonAgainst_160 hW
      · have h := in_h c_8 h
        by_cases c_11 : v_act_kind = (3 : Int32)
        · have h := ip_h c_11 h
          refine lv_tableIn (off := 105) (tgt := 161) hx hb dX9_reasonAgainst_56 (by rw [c_11]; decide) (by rw [c_11]; decide) (by rw [c_11]; rfl) (by decide) ?_
          refine lv_iconst (v := (0 : Int32)) hx hb dX9_reasonAgainst_161 (by decide) ?_
          obtain rfl := Option.some.inj h
          exact hQ rfl _ _ _ _ dX9_reasonAgainst_162 hW
        · have h := in_h c_11 h
          by_cases c_12 : v_act_kind = (4 : Int32)
          · have h := ip_h c_12 h
            refine lv_tableIn (off := 63) (tgt := 119) hx hb dX9_reasonAgainst_56 (by rw [c_12]; decide) (by rw [c_12]; decide) (by rw [c_12]; rfl) (by decide) ?_
            refine lv_aload_n hx hb dX9_reasonAgainst_119 rfl (lv_at hl 0 rfl) ?_
            refine lv_iload_n hx hb dX9_reasonAgainst_120 rfl (lv_at hl 1 rfl) ?_
            obtain ⟨v_13, hv_13, h⟩ := bd_h h
            refine callVIr [0, 2, 3, 4, 5, 6] C lk_RX9_108 (ctX9_reasonAgainstPulls a_this a_rules a_shelf a_tally a_act a_shelf_thick a_shelf_hollow a_shelf_damp a_shelf_fresh a_shelf_pulls a_shelf_fats a_rules_deep a_rules_fine a_rules_pay a_rules_hair x1 v_acts v_stoppedAt v_why v_shelf_there v_rules_flat v_rules_least v_shelf_fresh v_shelf_hollow v_shelf_thick hv_13) hW hl 9 rfl rfl rfl rfl rfl ⟨rfl, rfl⟩ ⟨(Nat.le_of_ble_eq_true rfl), (Nat.le_of_ble_eq_true rfl)⟩ ⟨Nat.zero_le _, Nat.zero_le _⟩ rfl (Nat.le_of_ble_eq_true rfl) dX9_reasonAgainst_121 (fun H locs hW => ?_)
            obtain rfl := Option.some.inj h
            exact hQ rfl _ _ _ _ dX9_reasonAgainst_124 hW
          · have h := in_h c_12 h
            by_cases c_14 : v_act_kind = (5 : Int32)
            · have h := ip_h c_14 h
              refine lv_tableIn (off := 40) (tgt := 96) hx hb dX9_reasonAgainst_56 (by rw [c_14]; decide) (by rw [c_14]; decide) (by rw [c_14]; rfl) (by decide) ?_
              refine lv_aload_n hx hb dX9_reasonAgainst_96 rfl (lv_at hl 0 rfl) ?_
              refine getW C fl_RX9_35 hW 0 rfl rfl dX9_reasonAgainst_97 ?_
              refine getW C fl_RX9_101 hW 1 rfl rfl dX9_reasonAgainst_100 ?_
              refine lv_iload_n hx hb dX9_reasonAgainst_103 rfl (lv_at hl 1 rfl) ?_
              refine lv_icmp_ne (tgt := 111) hx hb dX9_reasonAgainst_104 (by decide) (fun c_15 => ?_) (fun c_15 => ?_)
              · have h := in_h c_15 h
                refine lv_iconst (v := (0 : Int32)) hx hb dX9_reasonAgainst_111 (by decide) ?_
                obtain rfl := Option.some.inj h
                exact hQ rfl _ _ _ _ dX9_reasonAgainst_112 hW
              · have h := ip_h c_15 h
                refine lv_iconst (v := (2 : Int32)) hx hb dX9_reasonAgainst_107 (by decide) ?_
                refine lv_goto (tgt := 112) hx hb dX9_reasonAgainst_108 (by decide) ?_
                obtain rfl := Option.some.inj h
                exact hQ rfl _ _ _ _ dX9_reasonAgainst_112 hW
            · have h := in_h c_14 h
              refine lv_tableOut (tgt := 161) hx hb dX9_reasonAgainst_56 (by have t0 := ne_ti (j := 0) (by decide) c_3; have t1 := ne_ti (j := 1) (by decide) c_5; have t2 := ne_ti (j := 2) (by decide) c_8; have t3 := ne_ti (j := 3) (by decide) c_11; have t4 := ne_ti (j := 4) (by decide) c_12; have t5 := ne_ti (j := 5) (by decide) c_14; omega) (by decide) ?_
              refine lv_iconst (v := (0 : Int32)) hx hb dX9_reasonAgainst_161 (by decide) ?_
              obtain rfl := Option.some.inj h
              exact hQ rfl _ _ _ _ dX9_reasonAgainst_162 hW
set_option maxRecDepth 20000 in
theorem uX9_reasonAgainst_0 {a_this a_rules a_shelf a_tally a_act a_shelf_thick a_shelf_hollow a_shelf_damp a_shelf_fresh a_shelf_pulls a_shelf_fats a_rules_deep a_rules_fine a_rules_pay a_rules_hair : Nat} (v_acts : Int32) (v_stoppedAt : Int32) (v_why : Int32) (v_act_stone : Int32) (v_act_kind : Int32) (v_act_amount : Int32) (v_shelf_there : Int32) (v_rules_flat : Int32) (v_rules_least : Int32) (v_shelf_fresh : Nat → Int32) (v_shelf_hollow : Nat → Int32) (v_shelf_thick : Nat → Int32) {res : Int32} (C : Cx p s m av meth c RX9 cX9_reasonAgainst 2 (some .int) G cI cZ cO A) (hQ : RI p l e rX9_reasonAgainst s m av below meth c G A cX9_reasonAgainst .int Q (res) (wX9_reasonAgainst cI cZ a_this a_rules a_shelf a_tally a_act a_shelf_thick a_shelf_hollow a_shelf_damp a_shelf_fresh a_shelf_pulls a_shelf_fats a_rules_deep a_rules_fine a_rules_pay a_rules_hair v_acts v_stoppedAt v_why v_act_stone v_act_kind v_act_amount v_shelf_there v_rules_flat v_rules_least v_shelf_fresh v_shelf_hollow v_shelf_thick)) (h : fX9_reasonAgainst v_act_stone v_act_kind v_act_amount v_shelf_there v_rules_flat v_rules_least v_shelf_fresh v_shelf_hollow v_shelf_thick = some res) (H : Heap) (locs : List Loc) (hW : HW G A s (wX9_reasonAgainst cI cZ a_this a_rules a_shelf a_tally a_act a_shelf_thick a_shelf_hollow a_shelf_damp a_shelf_fresh a_shelf_pulls a_shelf_fats a_rules_deep a_rules_fine a_rules_pay a_rules_hair v_acts v_stoppedAt v_why v_act_stone v_act_kind v_act_amount v_shelf_there v_rules_flat v_rules_least v_shelf_fresh v_shelf_hollow v_shelf_thick) H locs) (ls : Array Slot) (hl : lv_has ls 2 [(0, .ref a_this)]) : W p l e rX9_reasonAgainst s m av below meth c H locs 0 0 Q (F0 m 0 ls []) := by
  have hx := C.1
  have hb := C.2.1
  unfold fX9_reasonAgainst at h
  refine lv_aload_n hx hb dX9_reasonAgainst_0 rfl (lv_at hl 0 rfl) ?_
  refine getW C fl_RX9_35 hW 0 rfl rfl dX9_reasonAgainst_1 ?_
  refine getW C fl_RX9_92 hW 1 rfl rfl dX9_reasonAgainst_4 ?_
  refine lv_istore_n (lv' := [(1, .int v_act_stone), (0, .ref a_this)]) hx hb dX9_reasonAgainst_7 rfl hl (Nat.le_of_ble_eq_true rfl) rfl (fun ls hl => ?_)
  refine lv_aload_n hx hb dX9_reasonAgainst_8 rfl (lv_at hl 1 rfl) ?_
  refine getW C fl_RX9_21 hW 0 rfl rfl dX9_reasonAgainst_9 ?_
  refine lv_iload_n hx hb dX9_reasonAgainst_12 rfl (lv_at hl 0 rfl) ?_
  refine callVIr [2] C lk_RX9_95 (ctX6_has a_shelf a_shelf_thick a_shelf_hollow a_shelf_damp a_shelf_fresh a_shelf_pulls a_shelf_fats v_act_stone v_shelf_there rfl) hW hl 6 rfl rfl rfl rfl rfl ⟨rfl, rfl⟩ ⟨(Nat.le_of_ble_eq_true rfl), (Nat.le_of_ble_eq_true rfl)⟩ ⟨Nat.zero_le _, Nat.zero_le _⟩ rfl (Nat.le_of_ble_eq_true rfl) dX9_reasonAgainst_13 (fun H locs hW => ?_)
  refine lv_if_eq (tgt := 47) hx hb dX9_reasonAgainst_16 (by decide) (fun c_1 => ?_) (fun c_1 => ?_)
  · have h := ip_h c_1 h
    refine lv_iconst (v := (1 : Int32)) hx hb dX9_reasonAgainst_47 (by decide) ?_
    obtain rfl := Option.some.inj h
    exact hQ rfl _ _ _ _ dX9_reasonAgainst_48 hW
  · have h := in_h c_1 h
    refine lv_aload_n hx hb dX9_reasonAgainst_19 rfl (lv_at hl 1 rfl) ?_
    refine getW C fl_RX9_35 hW 0 rfl rfl dX9_reasonAgainst_20 ?_
    refine getW C fl_RX9_98 hW 1 rfl rfl dX9_reasonAgainst_23 ?_
    refine lv_iconst (v := (5 : Int32)) hx hb dX9_reasonAgainst_26 (by decide) ?_
    refine lv_icmp_ne (tgt := 49) hx hb dX9_reasonAgainst_27 (by decide) (fun c_2 => ?_) (fun c_2 => ?_)
    · have h := in_h c_2 h
      exact uX9_reasonAgainst_49 v_act_stone v_acts v_stoppedAt v_why v_act_stone v_act_kind v_act_amount v_shelf_there v_rules_flat v_rules_least v_shelf_fresh v_shelf_hollow v_shelf_thick C hQ h _ _ hW _ (lv_sub hl [1, 0] rfl)
    · have h := ip_h c_2 h
      refine lv_aload_n hx hb dX9_reasonAgainst_30 rfl (lv_at hl 1 rfl) ?_
      refine getW C fl_RX9_21 hW 0 rfl rfl dX9_reasonAgainst_31 ?_
      refine lv_aload_n hx hb dX9_reasonAgainst_34 rfl (lv_at hl 1 rfl) ?_
      refine getW C fl_RX9_35 hW 0 rfl rfl dX9_reasonAgainst_35 ?_
      refine getW C fl_RX9_101 hW 1 rfl rfl dX9_reasonAgainst_38 ?_
      refine callVIr [2] C lk_RX9_95 (ctX6_has a_shelf a_shelf_thick a_shelf_hollow a_shelf_damp a_shelf_fresh a_shelf_pulls a_shelf_fats v_act_amount v_shelf_there rfl) hW hl 6 rfl rfl rfl rfl rfl ⟨rfl, rfl⟩ ⟨(Nat.le_of_ble_eq_true rfl), (Nat.le_of_ble_eq_true rfl)⟩ ⟨Nat.zero_le _, Nat.zero_le _⟩ rfl (Nat.le_of_ble_eq_true rfl) dX9_reasonAgainst_41 (fun H locs hW => ?_)
      refine lv_if_ne (tgt := 49) hx hb dX9_reasonAgainst_44 (by decide) (fun c_16 => ?_) (fun c_16 => ?_)
      · have h := in_h c_16 h
        exact uX9_reasonAgainst_49 v_act_stone v_acts v_stoppedAt v_why v_act_stone v_act_kind v_act_amount v_shelf_there v_rules_flat v_rules_least v_shelf_fresh v_shelf_hollow v_shelf_thick C hQ h _ _ hW _ (lv_sub hl [1, 0] rfl)
      · have h := ip_h c_16 h
        refine lv_iconst (v := (1 : Int32)) hx hb dX9_reasonAgainst_47 (by decide) ?_
        obtain rfl := Option.some.inj h
        exact hQ rfl _ _ _ _ dX9_reasonAgainst_48 hW
theorem ctX9_reasonAgainst {l : Launch} {G : va_G} {cI cZ cO : ClassId} (a_this a_rules a_shelf a_tally a_act a_shelf_thick a_shelf_hollow a_shelf_damp a_shelf_fresh a_shelf_pulls a_shelf_fats a_rules_deep a_rules_fine a_rules_pay a_rules_hair : Nat) (v_acts : Int32) (v_stoppedAt : Int32) (v_why : Int32) (v_act_stone : Int32) (v_act_kind : Int32) (v_act_amount : Int32) (v_shelf_there : Int32) (v_rules_flat : Int32) (v_rules_least : Int32) (v_shelf_fresh : Nat → Int32) (v_shelf_hollow : Nat → Int32) (v_shelf_thick : Nat → Int32) {res : Int32} (h : fX9_reasonAgainst v_act_stone v_act_kind v_act_amount v_shelf_there v_rules_flat v_rules_least v_shelf_fresh v_shelf_hollow v_shelf_thick = some res) : MI l G cI cZ cO yX9_reasonAgainst cX9_reasonAgainst 2 .int rX9_reasonAgainst [.ref a_this] (wX9_reasonAgainst cI cZ a_this a_rules a_shelf a_tally a_act a_shelf_thick a_shelf_hollow a_shelf_damp a_shelf_fresh a_shelf_pulls a_shelf_fats a_rules_deep a_rules_fine a_rules_pay a_rules_hair v_acts v_stoppedAt v_why v_act_stone v_act_kind v_act_amount v_shelf_there v_rules_flat v_rules_least v_shelf_fresh v_shelf_hollow v_shelf_thick) (res) (wX9_reasonAgainst cI cZ a_this a_rules a_shelf a_tally a_act a_shelf_thick a_shelf_hollow a_shelf_damp a_shelf_fresh a_shelf_pulls a_shelf_fats a_rules_deep a_rules_fine a_rules_pay a_rules_hair v_acts v_stoppedAt v_why v_act_stone v_act_kind v_act_amount v_shelf_there v_rules_flat v_rules_least v_shelf_fresh v_shelf_hollow v_shelf_thick) := by
  refine MI.of (by decide) (Nat.le_of_ble_eq_true rfl) ?_
  intro p e s m below meth c A Q C hW hQ ls hl
  exact uX9_reasonAgainst_0 v_acts v_stoppedAt v_why v_act_stone v_act_kind v_act_amount v_shelf_there v_rules_flat v_rules_least v_shelf_fresh v_shelf_hollow v_shelf_thick C hQ h _ _ hW _ hl
abbrev wX9_pullSeveral (cI cZ : ClassId) (a_this a_rules a_shelf a_tally a_act a_shelf_thick a_shelf_hollow a_shelf_damp a_shelf_fresh a_shelf_pulls a_shelf_fats a_rules_deep a_rules_fine a_rules_pay a_rules_hair a_tally_ofKind : Nat) (v_acts : Int32) (v_stoppedAt : Int32) (v_why : Int32) (v_shelf_there : Int32) (v_rules_flat : Int32) (v_rules_least : Int32) (v_tally_pulled : Int32) (v_tally_firstHaunted : Int32) (v_tally_haunter : Int32) (v_shelf_fresh : Nat → Int32) (v_rules_fine : Nat → Int32) (v_shelf_damp : Nat → Int32) (v_shelf_pulls : Nat → Int32) (v_shelf_fats : Nat → Int32) (v_tally_ofKind : Nat → Int32) : va_W := [(a_this, .inr (9, [.ref a_rules, .ref a_shelf, .ref a_tally, .ref a_act, .int v_acts, .int v_stoppedAt, .int v_why])), (a_shelf, .inr (6, [.int v_shelf_there, .ref a_shelf_thick, .ref a_shelf_hollow, .ref a_shelf_damp, .ref a_shelf_fresh, .ref a_shelf_pulls, .ref a_shelf_fats])), (a_rules, .inr (5, [.int v_rules_flat, .int v_rules_least, .ref a_rules_deep, .ref a_rules_fine, .ref a_rules_pay, .ref a_rules_hair])), (a_tally, .inr (8, [.int v_tally_pulled, .int v_tally_firstHaunted, .int v_tally_haunter, .ref a_tally_ofKind])), (a_shelf_fresh, .inl (cI, 5, .inl v_shelf_fresh)), (a_rules_fine, .inl (cI, 8, .inl v_rules_fine)), (a_shelf_damp, .inl (cI, 5, .inl v_shelf_damp)), (a_shelf_pulls, .inl (cI, 5, .inl v_shelf_pulls)), (a_shelf_fats, .inl (cI, 40, .inl v_shelf_fats)), (a_tally_ofKind, .inl (cI, 5, .inl v_tally_ofKind))]
abbrev rX9_pullSeveral : Room := { frames := 2, cells := 0, slots := 0, locals := 49 }
set_option maxRecDepth 20000 in
theorem uX9_pullSeveral_25 {a_this a_rules a_shelf a_tally a_act a_shelf_thick a_shelf_hollow a_shelf_damp a_shelf_fresh a_shelf_pulls a_shelf_fats a_rules_deep a_rules_fine a_rules_pay a_rules_hair a_tally_ofKind : Nat} (x1 : Int32) (x2 : Int32) (x3 : Int32) (x4 : Int32) (v_acts : Int32) (v_stoppedAt : Int32) (v_why : Int32) (v_shelf_there : Int32) (v_rules_flat : Int32) (v_rules_least : Int32) (v_tally_pulled : Int32) (v_tally_firstHaunted : Int32) (v_tally_haunter : Int32) (v_shelf_fresh : Nat → Int32) (v_rules_fine : Nat → Int32) (v_shelf_damp : Nat → Int32) (v_shelf_pulls : Nat → Int32) (v_shelf_fats : Nat → Int32) (v_tally_ofKind : Nat → Int32) {res : Int32 × Int32 × Int32 × (Nat → Int32) × (Nat → Int32) × (Nat → Int32) × (Nat → Int32)} (C : Cx p s m av meth c RX9 cX9_pullSeveral 6 none G cI cZ cO A) (hQ : RV p l e rX9_pullSeveral s m av below meth c G A cX9_pullSeveral Q (wX9_pullSeveral cI cZ a_this a_rules a_shelf a_tally a_act a_shelf_thick a_shelf_hollow a_shelf_damp a_shelf_fresh a_shelf_pulls a_shelf_fats a_rules_deep a_rules_fine a_rules_pay a_rules_hair a_tally_ofKind v_acts v_stoppedAt v_why v_shelf_there v_rules_flat v_rules_least res.2.2.1 res.1 res.2.1 v_shelf_fresh v_rules_fine res.2.2.2.1 res.2.2.2.2.1 res.2.2.2.2.2.1 res.2.2.2.2.2.2)) {k25 : (Int32) → (Int32) → (Int32) → (Int32) → (Nat → Int32) → (Nat → Int32) → (Nat → Int32) → (Nat → Int32) → Option (Int32 × Int32 × Int32 × (Nat → Int32) × (Nat → Int32) × (Nat → Int32) × (Nat → Int32))} (hk25 : ∀ (x4 : Int32) (v_tally_pulled : Int32) (v_tally_firstHaunted : Int32) (v_tally_haunter : Int32) (v_shelf_damp : Nat → Int32) (v_shelf_pulls : Nat → Int32) (v_shelf_fats : Nat → Int32) (v_tally_ofKind : Nat → Int32), k25 x4 v_tally_pulled v_tally_firstHaunted v_tally_haunter v_shelf_damp v_shelf_pulls v_shelf_fats v_tally_ofKind = some res → ∀ (H : Heap) (locs : List Loc), HW G A s (wX9_pullSeveral cI cZ a_this a_rules a_shelf a_tally a_act a_shelf_thick a_shelf_hollow a_shelf_damp a_shelf_fresh a_shelf_pulls a_shelf_fats a_rules_deep a_rules_fine a_rules_pay a_rules_hair a_tally_ofKind v_acts v_stoppedAt v_why v_shelf_there v_rules_flat v_rules_least v_tally_pulled v_tally_firstHaunted v_tally_haunter v_shelf_fresh v_rules_fine v_shelf_damp v_shelf_pulls v_shelf_fats v_tally_ofKind) H locs → ∀ ls : Array Slot, lv_has ls 6 [(0, .ref a_this), (1, .int x1), (2, .int x2), (3, .int x3), (4, .int x4)] → W p l e rX9_pullSeveral s m av below meth c H locs 0 0 Q (F0 m 25 ls [])) (h : FX9_pullSeveral_25 x1 x2 x3 v_shelf_there v_shelf_fresh v_rules_fine k25 x4 v_tally_pulled v_tally_firstHaunted v_tally_haunter v_shelf_damp v_shelf_pulls v_shelf_fats v_tally_ofKind = some res) (H : Heap) (locs : List Loc) (hW : HW G A s (wX9_pullSeveral cI cZ a_this a_rules a_shelf a_tally a_act a_shelf_thick a_shelf_hollow a_shelf_damp a_shelf_fresh a_shelf_pulls a_shelf_fats a_rules_deep a_rules_fine a_rules_pay a_rules_hair a_tally_ofKind v_acts v_stoppedAt v_why v_shelf_there v_rules_flat v_rules_least v_tally_pulled v_tally_firstHaunted v_tally_haunter v_shelf_fresh v_rules_fine v_shelf_damp v_shelf_pulls v_shelf_fats v_tally_ofKind) H locs) (ls : Array Slot) (hl : lv_has ls 6 [(0, .ref a_this), (1, .int x1), (2, .int x2), (3, .int x3), (4, .int x4)]) : W p l e rX9_pullSeveral s m av below meth c H locs 0 0 Q (F0 m 25 ls []) := by
  have hx := C.1
  have hb := C.2.1
  unfold FX9_pullSeveral_25 at h
  refine lv_iload hx hb dX9_pullSeveral_25 (lv_at hl 4 rfl) ?_
  refine lv_iload_n hx hb dX9_pullSeveral_27 rfl (lv_at hl 2 rfl) ?_
  refine lv_icmp_ge (tgt := 73) hx hb dX9_pullSeveral_28 (by decide) (fun c_4 => ?_) (fun c_4 => ?_)
  · have h := ip_h c_4 h
    obtain rfl := Option.some.inj h
    exact hQ _ _ _ _ dX9_pullSeveral_73 hW
  · have h := in_h c_4 h
    refine lv_aload_n hx hb dX9_pullSeveral_31 rfl (lv_at hl 0 rfl) ?_
    refine getW C fl_RX9_21 hW 0 rfl rfl dX9_pullSeveral_32 ?_
    refine lv_iload_n hx hb dX9_pullSeveral_35 rfl (lv_at hl 1 rfl) ?_
    refine lv_aload_n hx hb dX9_pullSeveral_36 rfl (lv_at hl 0 rfl) ?_
    refine getW C fl_RX9_12 hW 0 rfl rfl dX9_pullSeveral_37 ?_
    refine lv_iload_n hx hb dX9_pullSeveral_40 rfl (lv_at hl 3 rfl) ?_
    obtain ⟨v_5, hv_5, h⟩ := bd_h h
    refine callVIr [2, 5] C lk_RX9_147 (ctX5_wear a_rules a_rules_deep a_rules_fine a_rules_pay a_rules_hair x3 v_rules_flat v_rules_least v_rules_fine hv_5) hW hl 5 rfl rfl rfl rfl rfl ⟨rfl, rfl⟩ ⟨(Nat.le_of_ble_eq_true rfl), (Nat.le_of_ble_eq_true rfl)⟩ ⟨Nat.zero_le _, Nat.zero_le _⟩ rfl (Nat.le_of_ble_eq_true rfl) dX9_pullSeveral_41 (fun H locs hW => ?_)
    obtain ⟨v_6, hv_6, h⟩ := bd_h h
    refine callVIm [1, 4, 6, 7, 8] [0, 2, 3, 5, 9] [(a_this, .inr (9, [.ref a_rules, .ref a_shelf, .ref a_tally, .ref a_act, .int v_acts, .int v_stoppedAt, .int v_why])), (a_rules, .inr (5, [.int v_rules_flat, .int v_rules_least, .ref a_rules_deep, .ref a_rules_fine, .ref a_rules_pay, .ref a_rules_hair])), (a_tally, .inr (8, [.int v_tally_pulled, .int v_tally_firstHaunted, .int v_tally_haunter, .ref a_tally_ofKind])), (a_rules_fine, .inl (cI, 8, .inl v_rules_fine)), (a_tally_ofKind, .inl (cI, 5, .inl v_tally_ofKind))] (wX9_pullSeveral cI cZ a_this a_rules a_shelf a_tally a_act a_shelf_thick a_shelf_hollow a_shelf_damp a_shelf_fresh a_shelf_pulls a_shelf_fats a_rules_deep a_rules_fine a_rules_pay a_rules_hair a_tally_ofKind v_acts v_stoppedAt v_why v_shelf_there v_rules_flat v_rules_least v_tally_pulled v_tally_firstHaunted v_tally_haunter v_shelf_fresh v_rules_fine v_6.2.1 v_6.2.2.1 v_6.2.2.2 v_tally_ofKind) C lk_RX9_150 (ctX6_pullOnce a_shelf a_shelf_thick a_shelf_hollow a_shelf_damp a_shelf_fresh a_shelf_pulls a_shelf_fats x1 v_5 v_shelf_there v_shelf_fresh v_shelf_damp v_shelf_pulls v_shelf_fats hv_6) hW hl 6 rfl rfl rfl rfl rfl rfl rfl rfl rfl rfl ⟨rfl, rfl⟩ ⟨(Nat.le_of_ble_eq_true rfl), (Nat.le_of_ble_eq_true rfl)⟩ ⟨Nat.zero_le _, Nat.zero_le _⟩ rfl (Nat.le_of_ble_eq_true rfl) dX9_pullSeveral_44 (fun H locs hW => ?_)
    refine lv_istore (lv' := [(5, .int v_6.1), (0, .ref a_this), (1, .int x1), (2, .int x2), (3, .int x3), (4, .int x4)]) hx hb dX9_pullSeveral_47 hl (Nat.le_of_ble_eq_true rfl) rfl (fun ls hl => ?_)
    refine lv_aload_n hx hb dX9_pullSeveral_49 rfl (lv_at hl 1 rfl) ?_
    refine getW C fl_RX9_28 hW 0 rfl rfl dX9_pullSeveral_50 ?_
    refine lv_iload hx hb dX9_pullSeveral_53 (lv_at hl 0 rfl) ?_
    refine lv_aload_n hx hb dX9_pullSeveral_55 rfl (lv_at hl 1 rfl) ?_
    refine getW C fl_RX9_21 hW 0 rfl rfl dX9_pullSeveral_56 ?_
    refine lv_iload_n hx hb dX9_pullSeveral_59 rfl (lv_at hl 2 rfl) ?_
    refine lv_iload_n hx hb dX9_pullSeveral_60 rfl (lv_at hl 4 rfl) ?_
    obtain ⟨v_7, hv_7, h⟩ := bd_h h
    refine callVIr [1, 8] C lk_RX9_154 (ctX6_greatestGhost a_shelf a_shelf_thick a_shelf_hollow a_shelf_damp a_shelf_fresh a_shelf_pulls a_shelf_fats x1 x3 v_shelf_there v_6.2.2.2 hv_7) hW hl 6 rfl rfl rfl rfl rfl ⟨rfl, rfl⟩ ⟨(Nat.le_of_ble_eq_true rfl), (Nat.le_of_ble_eq_true rfl)⟩ ⟨Nat.zero_le _, Nat.zero_le _⟩ rfl (Nat.le_of_ble_eq_true rfl) dX9_pullSeveral_61 (fun H locs hW => ?_)
    obtain ⟨v_8, hv_8, h⟩ := bd_h h
    refine callVVm [3, 9] [0, 1, 2, 4, 5, 6, 7, 8] [(a_this, .inr (9, [.ref a_rules, .ref a_shelf, .ref a_tally, .ref a_act, .int v_acts, .int v_stoppedAt, .int v_why])), (a_shelf, .inr (6, [.int v_shelf_there, .ref a_shelf_thick, .ref a_shelf_hollow, .ref a_shelf_damp, .ref a_shelf_fresh, .ref a_shelf_pulls, .ref a_shelf_fats])), (a_rules, .inr (5, [.int v_rules_flat, .int v_rules_least, .ref a_rules_deep, .ref a_rules_fine, .ref a_rules_pay, .ref a_rules_hair])), (a_shelf_fresh, .inl (cI, 5, .inl v_shelf_fresh)), (a_rules_fine, .inl (cI, 8, .inl v_rules_fine)), (a_shelf_damp, .inl (cI, 5, .inl v_6.2.1)), (a_shelf_pulls, .inl (cI, 5, .inl v_6.2.2.1)), (a_shelf_fats, .inl (cI, 40, .inl v_6.2.2.2))] (wX9_pullSeveral cI cZ a_this a_rules a_shelf a_tally a_act a_shelf_thick a_shelf_hollow a_shelf_damp a_shelf_fresh a_shelf_pulls a_shelf_fats a_rules_deep a_rules_fine a_rules_pay a_rules_hair a_tally_ofKind v_acts v_stoppedAt v_why v_shelf_there v_rules_flat v_rules_least v_8.2.2.1 v_8.1 v_8.2.1 v_shelf_fresh v_rules_fine v_6.2.1 v_6.2.2.1 v_6.2.2.2 v_8.2.2.2) C lk_RX9_157 (ctX8_add a_tally a_tally_ofKind v_6.1 v_7 v_tally_pulled v_tally_firstHaunted v_tally_haunter v_tally_ofKind hv_8) hW hl 8 rfl rfl rfl rfl rfl rfl rfl rfl rfl rfl ⟨rfl, rfl⟩ ⟨(Nat.le_of_ble_eq_true rfl), (Nat.le_of_ble_eq_true rfl)⟩ ⟨Nat.zero_le _, Nat.zero_le _⟩ rfl (Nat.le_of_ble_eq_true rfl) dX9_pullSeveral_64 (fun H locs hW => ?_)
    obtain ⟨v_9, ev_9⟩ : ∃ y : Int32, y = x4 + (1 : Int32) := ⟨_, rfl⟩
    have h := lt_h ev_9 h
    refine lv_iinc (v := v_9) (lv' := [(4, .int v_9), (5, .int v_6.1), (0, .ref a_this), (1, .int x1), (2, .int x2), (3, .int x3)]) hx hb dX9_pullSeveral_67 hl (k := 5) rfl (by rw [ev_9]; rfl) (Nat.le_of_ble_eq_true rfl) rfl (fun ls hl => ?_)
    refine lv_goto (tgt := 25) hx hb dX9_pullSeveral_70 (by decide) ?_
    exact hk25 v_9 v_8.2.2.1 v_8.1 v_8.2.1 v_6.2.1 v_6.2.2.1 v_6.2.2.2 v_8.2.2.2 h _ _ hW _ (lv_sub hl [2, 3, 4, 5, 0] rfl)
theorem wX9_pullSeveral_25_ {a_this a_rules a_shelf a_tally a_act a_shelf_thick a_shelf_hollow a_shelf_damp a_shelf_fresh a_shelf_pulls a_shelf_fats a_rules_deep a_rules_fine a_rules_pay a_rules_hair a_tally_ofKind : Nat} (x1 : Int32) (x2 : Int32) (x3 : Int32) (v_acts : Int32) (v_stoppedAt : Int32) (v_why : Int32) (v_shelf_there : Int32) (v_rules_flat : Int32) (v_rules_least : Int32) (v_shelf_fresh : Nat → Int32) (v_rules_fine : Nat → Int32) {res : Int32 × Int32 × Int32 × (Nat → Int32) × (Nat → Int32) × (Nat → Int32) × (Nat → Int32)} (C : Cx p s m av meth c RX9 cX9_pullSeveral 6 none G cI cZ cO A) (hQ : RV p l e rX9_pullSeveral s m av below meth c G A cX9_pullSeveral Q (wX9_pullSeveral cI cZ a_this a_rules a_shelf a_tally a_act a_shelf_thick a_shelf_hollow a_shelf_damp a_shelf_fresh a_shelf_pulls a_shelf_fats a_rules_deep a_rules_fine a_rules_pay a_rules_hair a_tally_ofKind v_acts v_stoppedAt v_why v_shelf_there v_rules_flat v_rules_least res.2.2.1 res.1 res.2.1 v_shelf_fresh v_rules_fine res.2.2.2.1 res.2.2.2.2.1 res.2.2.2.2.2.1 res.2.2.2.2.2.2)) : ∀ (n : Nat) (x4 : Int32) (v_tally_pulled : Int32) (v_tally_firstHaunted : Int32) (v_tally_haunter : Int32) (v_shelf_damp : Nat → Int32) (v_shelf_pulls : Nat → Int32) (v_shelf_fats : Nat → Int32) (v_tally_ofKind : Nat → Int32), LX9_pullSeveral_25 x1 x2 x3 v_shelf_there v_shelf_fresh v_rules_fine n x4 v_tally_pulled v_tally_firstHaunted v_tally_haunter v_shelf_damp v_shelf_pulls v_shelf_fats v_tally_ofKind = some res → ∀ (H : Heap) (locs : List Loc), HW G A s (wX9_pullSeveral cI cZ a_this a_rules a_shelf a_tally a_act a_shelf_thick a_shelf_hollow a_shelf_damp a_shelf_fresh a_shelf_pulls a_shelf_fats a_rules_deep a_rules_fine a_rules_pay a_rules_hair a_tally_ofKind v_acts v_stoppedAt v_why v_shelf_there v_rules_flat v_rules_least v_tally_pulled v_tally_firstHaunted v_tally_haunter v_shelf_fresh v_rules_fine v_shelf_damp v_shelf_pulls v_shelf_fats v_tally_ofKind) H locs → ∀ ls : Array Slot, lv_has ls 6 [(0, .ref a_this), (1, .int x1), (2, .int x2), (3, .int x3), (4, .int x4)] → W p l e rX9_pullSeveral s m av below meth c H locs 0 0 Q (F0 m 25 ls []) := by
  intro n
  induction n with
  | zero => intro x4 v_tally_pulled v_tally_firstHaunted v_tally_haunter v_shelf_damp v_shelf_pulls v_shelf_fats v_tally_ofKind h; cases h
  | succ n ih =>
    intro x4 v_tally_pulled v_tally_firstHaunted v_tally_haunter v_shelf_damp v_shelf_pulls v_shelf_fats v_tally_ofKind h H locs hW ls hl
    exact uX9_pullSeveral_25 x1 x2 x3 x4 v_acts v_stoppedAt v_why v_shelf_there v_rules_flat v_rules_least v_tally_pulled v_tally_firstHaunted v_tally_haunter v_shelf_fresh v_rules_fine v_shelf_damp v_shelf_pulls v_shelf_fats v_tally_ofKind C hQ (k25 := LX9_pullSeveral_25 x1 x2 x3 v_shelf_there v_shelf_fresh v_rules_fine n) ih h H locs hW ls hl
set_option maxRecDepth 20000 in
theorem uX9_pullSeveral_0 {a_this a_rules a_shelf a_tally a_act a_shelf_thick a_shelf_hollow a_shelf_damp a_shelf_fresh a_shelf_pulls a_shelf_fats a_rules_deep a_rules_fine a_rules_pay a_rules_hair a_tally_ofKind : Nat} (x1 : Int32) (x2 : Int32) (v_acts : Int32) (v_stoppedAt : Int32) (v_why : Int32) (v_shelf_there : Int32) (v_rules_flat : Int32) (v_rules_least : Int32) (v_tally_pulled : Int32) (v_tally_firstHaunted : Int32) (v_tally_haunter : Int32) (v_shelf_fresh : Nat → Int32) (v_rules_fine : Nat → Int32) (v_shelf_damp : Nat → Int32) (v_shelf_pulls : Nat → Int32) (v_shelf_fats : Nat → Int32) (v_tally_ofKind : Nat → Int32) {res : Int32 × Int32 × Int32 × (Nat → Int32) × (Nat → Int32) × (Nat → Int32) × (Nat → Int32)} (C : Cx p s m av meth c RX9 cX9_pullSeveral 6 none G cI cZ cO A) (hQ : RV p l e rX9_pullSeveral s m av below meth c G A cX9_pullSeveral Q (wX9_pullSeveral cI cZ a_this a_rules a_shelf a_tally a_act a_shelf_thick a_shelf_hollow a_shelf_damp a_shelf_fresh a_shelf_pulls a_shelf_fats a_rules_deep a_rules_fine a_rules_pay a_rules_hair a_tally_ofKind v_acts v_stoppedAt v_why v_shelf_there v_rules_flat v_rules_least res.2.2.1 res.1 res.2.1 v_shelf_fresh v_rules_fine res.2.2.2.1 res.2.2.2.2.1 res.2.2.2.2.2.1 res.2.2.2.2.2.2)) (h : fX9_pullSeveral x1 x2 v_shelf_there v_tally_pulled v_tally_firstHaunted v_tally_haunter v_shelf_fresh v_rules_fine v_shelf_damp v_shelf_pulls v_shelf_fats v_tally_ofKind = some res) (H : Heap) (locs : List Loc) (hW : HW G A s (wX9_pullSeveral cI cZ a_this a_rules a_shelf a_tally a_act a_shelf_thick a_shelf_hollow a_shelf_damp a_shelf_fresh a_shelf_pulls a_shelf_fats a_rules_deep a_rules_fine a_rules_pay a_rules_hair a_tally_ofKind v_acts v_stoppedAt v_why v_shelf_there v_rules_flat v_rules_least v_tally_pulled v_tally_firstHaunted v_tally_haunter v_shelf_fresh v_rules_fine v_shelf_damp v_shelf_pulls v_shelf_fats v_tally_ofKind) H locs) (ls : Array Slot) (hl : lv_has ls 6 [(0, .ref a_this), (1, .int x1), (2, .int x2)]) : W p l e rX9_pullSeveral s m av below meth c H locs 0 0 Q (F0 m 0 ls []) := by
  have hx := C.1
  have hb := C.2.1
  unfold fX9_pullSeveral at h
  refine lv_aload_n hx hb dX9_pullSeveral_0 rfl (lv_at hl 0 rfl) ?_
  refine getW C fl_RX9_21 hW 0 rfl rfl dX9_pullSeveral_1 ?_
  refine lv_iload_n hx hb dX9_pullSeveral_4 rfl (lv_at hl 1 rfl) ?_
  refine callVIr [1] C lk_RX9_95 (ctX6_has a_shelf a_shelf_thick a_shelf_hollow a_shelf_damp a_shelf_fresh a_shelf_pulls a_shelf_fats x1 v_shelf_there rfl) hW hl 6 rfl rfl rfl rfl rfl ⟨rfl, rfl⟩ ⟨(Nat.le_of_ble_eq_true rfl), (Nat.le_of_ble_eq_true rfl)⟩ ⟨Nat.zero_le _, Nat.zero_le _⟩ rfl (Nat.le_of_ble_eq_true rfl) dX9_pullSeveral_5 (fun H locs hW => ?_)
  refine lv_if_ne (tgt := 12) hx hb dX9_pullSeveral_8 (by decide) (fun c_1 => ?_) (fun c_1 => ?_)
  · have h := in_h c_1 h
    refine lv_aload_n hx hb dX9_pullSeveral_12 rfl (lv_at hl 0 rfl) ?_
    refine getW C fl_RX9_21 hW 0 rfl rfl dX9_pullSeveral_13 ?_
    refine getW C fl_RX9_118 hW 1 rfl rfl dX9_pullSeveral_16 ?_
    refine lv_iload_n hx hb dX9_pullSeveral_19 rfl (lv_at hl 1 rfl) ?_
    obtain ⟨g_2, h⟩ := gd_h h
    refine ialdW C hW 4 rfl g_2 dX9_pullSeveral_20 ?_
    refine lv_topi (fun v_3 ev_3 => ?_)
    have h := lt_h ev_3 h
    refine lv_istore_n (lv' := [(3, .int v_3), (0, .ref a_this), (1, .int x1), (2, .int x2)]) hx hb dX9_pullSeveral_21 rfl hl (Nat.le_of_ble_eq_true rfl) rfl (fun ls hl => ?_)
    refine lv_iconst (v := (0 : Int32)) hx hb dX9_pullSeveral_22 (by decide) ?_
    refine lv_istore (lv' := [(4, .int (0 : Int32)), (3, .int v_3), (0, .ref a_this), (1, .int x1), (2, .int x2)]) hx hb dX9_pullSeveral_23 hl (Nat.le_of_ble_eq_true rfl) rfl (fun ls hl => ?_)
    exact wX9_pullSeveral_25_ x1 x2 v_3 v_acts v_stoppedAt v_why v_shelf_there v_rules_flat v_rules_least v_shelf_fresh v_rules_fine C hQ 2000 (0 : Int32) v_tally_pulled v_tally_firstHaunted v_tally_haunter v_shelf_damp v_shelf_pulls v_shelf_fats v_tally_ofKind h _ _ hW _ (lv_sub hl [2, 3, 4, 1, 0] rfl)
  · have h := ip_h c_1 h
    obtain rfl := Option.some.inj h
    exact hQ _ _ _ _ dX9_pullSeveral_11 hW
theorem ctX9_pullSeveral {l : Launch} {G : va_G} {cI cZ cO : ClassId} (a_this a_rules a_shelf a_tally a_act a_shelf_thick a_shelf_hollow a_shelf_damp a_shelf_fresh a_shelf_pulls a_shelf_fats a_rules_deep a_rules_fine a_rules_pay a_rules_hair a_tally_ofKind : Nat) (x1 : Int32) (x2 : Int32) (v_acts : Int32) (v_stoppedAt : Int32) (v_why : Int32) (v_shelf_there : Int32) (v_rules_flat : Int32) (v_rules_least : Int32) (v_tally_pulled : Int32) (v_tally_firstHaunted : Int32) (v_tally_haunter : Int32) (v_shelf_fresh : Nat → Int32) (v_rules_fine : Nat → Int32) (v_shelf_damp : Nat → Int32) (v_shelf_pulls : Nat → Int32) (v_shelf_fats : Nat → Int32) (v_tally_ofKind : Nat → Int32) {res : Int32 × Int32 × Int32 × (Nat → Int32) × (Nat → Int32) × (Nat → Int32) × (Nat → Int32)} (h : fX9_pullSeveral x1 x2 v_shelf_there v_tally_pulled v_tally_firstHaunted v_tally_haunter v_shelf_fresh v_rules_fine v_shelf_damp v_shelf_pulls v_shelf_fats v_tally_ofKind = some res) : MV l G cI cZ cO yX9_pullSeveral cX9_pullSeveral 6 rX9_pullSeveral [.ref a_this, .int x1, .int x2] (wX9_pullSeveral cI cZ a_this a_rules a_shelf a_tally a_act a_shelf_thick a_shelf_hollow a_shelf_damp a_shelf_fresh a_shelf_pulls a_shelf_fats a_rules_deep a_rules_fine a_rules_pay a_rules_hair a_tally_ofKind v_acts v_stoppedAt v_why v_shelf_there v_rules_flat v_rules_least v_tally_pulled v_tally_firstHaunted v_tally_haunter v_shelf_fresh v_rules_fine v_shelf_damp v_shelf_pulls v_shelf_fats v_tally_ofKind) (wX9_pullSeveral cI cZ a_this a_rules a_shelf a_tally a_act a_shelf_thick a_shelf_hollow a_shelf_damp a_shelf_fresh a_shelf_pulls a_shelf_fats a_rules_deep a_rules_fine a_rules_pay a_rules_hair a_tally_ofKind v_acts v_stoppedAt v_why v_shelf_there v_rules_flat v_rules_least res.2.2.1 res.1 res.2.1 v_shelf_fresh v_rules_fine res.2.2.2.1 res.2.2.2.2.1 res.2.2.2.2.2.1 res.2.2.2.2.2.2) := by
  refine MV.of (by decide) (Nat.le_of_ble_eq_true rfl) ?_
  intro p e s m below meth c A Q C hW hQ ls hl
  exact uX9_pullSeveral_0 x1 x2 v_acts v_stoppedAt v_why v_shelf_there v_rules_flat v_rules_least v_tally_pulled v_tally_firstHaunted v_tally_haunter v_shelf_fresh v_rules_fine v_shelf_damp v_shelf_pulls v_shelf_fats v_tally_ofKind C hQ h _ _ hW _ hl
abbrev wX9_carryOut (cI cZ : ClassId) (a_this a_rules a_shelf a_tally a_act a_shelf_thick a_shelf_hollow a_shelf_damp a_shelf_fresh a_shelf_pulls a_shelf_fats a_rules_deep a_rules_fine a_rules_pay a_rules_hair a_tally_ofKind : Nat) (v_acts : Int32) (v_stoppedAt : Int32) (v_why : Int32) (v_act_stone : Int32) (v_act_kind : Int32) (v_act_amount : Int32) (v_shelf_there : Int32) (v_rules_flat : Int32) (v_rules_least : Int32) (v_tally_pulled : Int32) (v_tally_firstHaunted : Int32) (v_tally_haunter : Int32) (v_shelf_thick : Nat → Int32) (v_shelf_fresh : Nat → Int32) (v_rules_fine : Nat → Int32) (v_shelf_damp : Nat → Int32) (v_shelf_pulls : Nat → Int32) (v_shelf_fats : Nat → Int32) (v_tally_ofKind : Nat → Int32) (v_shelf_hollow : Nat → Int32) (v_rules_deep : Nat → Int32) : va_W := [(a_this, .inr (9, [.ref a_rules, .ref a_shelf, .ref a_tally, .ref a_act, .int v_acts, .int v_stoppedAt, .int v_why])), (a_act, .inr (0, [.int v_act_stone, .int v_act_kind, .int v_act_amount])), (a_shelf, .inr (6, [.int v_shelf_there, .ref a_shelf_thick, .ref a_shelf_hollow, .ref a_shelf_damp, .ref a_shelf_fresh, .ref a_shelf_pulls, .ref a_shelf_fats])), (a_rules, .inr (5, [.int v_rules_flat, .int v_rules_least, .ref a_rules_deep, .ref a_rules_fine, .ref a_rules_pay, .ref a_rules_hair])), (a_tally, .inr (8, [.int v_tally_pulled, .int v_tally_firstHaunted, .int v_tally_haunter, .ref a_tally_ofKind])), (a_shelf_thick, .inl (cI, 5, .inl v_shelf_thick)), (a_shelf_fresh, .inl (cI, 5, .inl v_shelf_fresh)), (a_rules_fine, .inl (cI, 8, .inl v_rules_fine)), (a_shelf_damp, .inl (cI, 5, .inl v_shelf_damp)), (a_shelf_pulls, .inl (cI, 5, .inl v_shelf_pulls)), (a_shelf_fats, .inl (cI, 40, .inl v_shelf_fats)), (a_tally_ofKind, .inl (cI, 5, .inl v_tally_ofKind)), (a_shelf_hollow, .inl (cI, 5, .inl v_shelf_hollow)), (a_rules_deep, .inl (cI, 8, .inl v_rules_deep))]
abbrev rX9_carryOut : Room := { frames := 3, cells := 0, slots := 0, locals := 74 }
set_option maxRecDepth 20000 in
theorem uX9_carryOut_0 {a_this a_rules a_shelf a_tally a_act a_shelf_thick a_shelf_hollow a_shelf_damp a_shelf_fresh a_shelf_pulls a_shelf_fats a_rules_deep a_rules_fine a_rules_pay a_rules_hair a_tally_ofKind : Nat} (v_acts : Int32) (v_stoppedAt : Int32) (v_why : Int32) (v_act_stone : Int32) (v_act_kind : Int32) (v_act_amount : Int32) (v_shelf_there : Int32) (v_rules_flat : Int32) (v_rules_least : Int32) (v_tally_pulled : Int32) (v_tally_firstHaunted : Int32) (v_tally_haunter : Int32) (v_shelf_thick : Nat → Int32) (v_shelf_fresh : Nat → Int32) (v_rules_fine : Nat → Int32) (v_shelf_damp : Nat → Int32) (v_shelf_pulls : Nat → Int32) (v_shelf_fats : Nat → Int32) (v_tally_ofKind : Nat → Int32) (v_shelf_hollow : Nat → Int32) (v_rules_deep : Nat → Int32) {res : Int32 × Int32 × Int32 × Int32 × (Nat → Int32) × (Nat → Int32) × (Nat → Int32) × (Nat → Int32) × (Nat → Int32) × (Nat → Int32) × (Nat → Int32)} (C : Cx p s m av meth c RX9 cX9_carryOut 2 none G cI cZ cO A) (hQ : RV p l e rX9_carryOut s m av below meth c G A cX9_carryOut Q (wX9_carryOut cI cZ a_this a_rules a_shelf a_tally a_act a_shelf_thick a_shelf_hollow a_shelf_damp a_shelf_fresh a_shelf_pulls a_shelf_fats a_rules_deep a_rules_fine a_rules_pay a_rules_hair a_tally_ofKind v_acts v_stoppedAt v_why v_act_stone v_act_kind v_act_amount res.1 v_rules_flat v_rules_least res.2.2.2.1 res.2.1 res.2.2.1 res.2.2.2.2.1 res.2.2.2.2.2.1 v_rules_fine res.2.2.2.2.2.2.1 res.2.2.2.2.2.2.2.1 res.2.2.2.2.2.2.2.2.1 res.2.2.2.2.2.2.2.2.2.1 res.2.2.2.2.2.2.2.2.2.2 v_rules_deep)) (h : fX9_carryOut v_act_stone v_act_kind v_act_amount v_shelf_there v_tally_pulled v_tally_firstHaunted v_tally_haunter v_shelf_thick v_shelf_fresh v_rules_fine v_shelf_damp v_shelf_pulls v_shelf_fats v_tally_ofKind v_shelf_hollow v_rules_deep = some res) (H : Heap) (locs : List Loc) (hW : HW G A s (wX9_carryOut cI cZ a_this a_rules a_shelf a_tally a_act a_shelf_thick a_shelf_hollow a_shelf_damp a_shelf_fresh a_shelf_pulls a_shelf_fats a_rules_deep a_rules_fine a_rules_pay a_rules_hair a_tally_ofKind v_acts v_stoppedAt v_why v_act_stone v_act_kind v_act_amount v_shelf_there v_rules_flat v_rules_least v_tally_pulled v_tally_firstHaunted v_tally_haunter v_shelf_thick v_shelf_fresh v_rules_fine v_shelf_damp v_shelf_pulls v_shelf_fats v_tally_ofKind v_shelf_hollow v_rules_deep) H locs) (ls : Array Slot) (hl : lv_has ls 2 [(0, .ref a_this)]) : W p l e rX9_carryOut s m av below meth c H locs 0 0 Q (F0 m 0 ls []) := by
  have hx := C.1
  have hb := C.2.1
  unfold fX9_carryOut at h
  refine lv_aload_n hx hb dX9_carryOut_0 rfl (lv_at hl 0 rfl) ?_
  refine getW C fl_RX9_35 hW 0 rfl rfl dX9_carryOut_1 ?_
  refine getW C fl_RX9_92 hW 1 rfl rfl dX9_carryOut_4 ?_
  refine lv_istore_n (lv' := [(1, .int v_act_stone), (0, .ref a_this)]) hx hb dX9_carryOut_7 rfl hl (Nat.le_of_ble_eq_true rfl) rfl (fun ls hl => ?_)
  refine lv_aload_n hx hb dX9_carryOut_8 rfl (lv_at hl 1 rfl) ?_
  refine getW C fl_RX9_35 hW 0 rfl rfl dX9_carryOut_9 ?_
  refine getW C fl_RX9_98 hW 1 rfl rfl dX9_carryOut_12 ?_
  by_cases c_1 : v_act_kind = (0 : Int32)
  · have h := ip_h c_1 h
    refine lv_tableIn (off := 33) (tgt := 48) hx hb dX9_carryOut_15 (by rw [c_1]; decide) (by rw [c_1]; decide) (by rw [c_1]; rfl) (by decide) ?_
    refine lv_aload_n hx hb dX9_carryOut_48 rfl (lv_at hl 1 rfl) ?_
    refine getW C fl_RX9_21 hW 0 rfl rfl dX9_carryOut_49 ?_
    refine lv_iload_n hx hb dX9_carryOut_52 rfl (lv_at hl 0 rfl) ?_
    refine lv_aload_n hx hb dX9_carryOut_53 rfl (lv_at hl 1 rfl) ?_
    refine getW C fl_RX9_35 hW 0 rfl rfl dX9_carryOut_54 ?_
    refine getW C fl_RX9_101 hW 1 rfl rfl dX9_carryOut_57 ?_
    refine lv_aload_n hx hb dX9_carryOut_60 rfl (lv_at hl 1 rfl) ?_
    refine getW C fl_RX9_12 hW 0 rfl rfl dX9_carryOut_61 ?_
    refine lv_aload_n hx hb dX9_carryOut_64 rfl (lv_at hl 1 rfl) ?_
    refine getW C fl_RX9_35 hW 0 rfl rfl dX9_carryOut_65 ?_
    refine getW C fl_RX9_101 hW 1 rfl rfl dX9_carryOut_68 ?_
    obtain ⟨v_2, hv_2, h⟩ := bd_h h
    refine callVIr [3, 13] C lk_RX9_127 (ctX5_deepOf a_rules a_rules_deep a_rules_fine a_rules_pay a_rules_hair v_act_amount v_rules_flat v_rules_least v_rules_deep hv_2) hW hl 5 rfl rfl rfl rfl rfl ⟨rfl, rfl⟩ ⟨(Nat.le_of_ble_eq_true rfl), (Nat.le_of_ble_eq_true rfl)⟩ ⟨Nat.zero_le _, Nat.zero_le _⟩ rfl (Nat.le_of_ble_eq_true rfl) dX9_carryOut_71 (fun H locs hW => ?_)
    obtain ⟨v_3, hv_3, h⟩ := bd_h h
    refine callVVm [2, 10, 6, 9] [0, 1, 3, 4, 5, 7, 8, 11, 12, 13] [(a_this, .inr (9, [.ref a_rules, .ref a_shelf, .ref a_tally, .ref a_act, .int v_acts, .int v_stoppedAt, .int v_why])), (a_act, .inr (0, [.int v_act_stone, .int v_act_kind, .int v_act_amount])), (a_rules, .inr (5, [.int v_rules_flat, .int v_rules_least, .ref a_rules_deep, .ref a_rules_fine, .ref a_rules_pay, .ref a_rules_hair])), (a_tally, .inr (8, [.int v_tally_pulled, .int v_tally_firstHaunted, .int v_tally_haunter, .ref a_tally_ofKind])), (a_shelf_thick, .inl (cI, 5, .inl v_shelf_thick)), (a_rules_fine, .inl (cI, 8, .inl v_rules_fine)), (a_shelf_damp, .inl (cI, 5, .inl v_shelf_damp)), (a_tally_ofKind, .inl (cI, 5, .inl v_tally_ofKind)), (a_shelf_hollow, .inl (cI, 5, .inl v_shelf_hollow)), (a_rules_deep, .inl (cI, 8, .inl v_rules_deep))] (wX9_carryOut cI cZ a_this a_rules a_shelf a_tally a_act a_shelf_thick a_shelf_hollow a_shelf_damp a_shelf_fresh a_shelf_pulls a_shelf_fats a_rules_deep a_rules_fine a_rules_pay a_rules_hair a_tally_ofKind v_acts v_stoppedAt v_why v_act_stone v_act_kind v_act_amount v_shelf_there v_rules_flat v_rules_least v_tally_pulled v_tally_firstHaunted v_tally_haunter v_shelf_thick v_3.2.1 v_rules_fine v_shelf_damp v_3.2.2 v_3.1 v_tally_ofKind v_shelf_hollow v_rules_deep) C lk_RX9_130 (ctX6_draw a_shelf a_shelf_thick a_shelf_hollow a_shelf_damp a_shelf_fresh a_shelf_pulls a_shelf_fats v_act_stone v_act_amount v_2 v_shelf_there v_shelf_fats v_shelf_fresh v_shelf_pulls hv_3) hW hl 6 rfl rfl rfl rfl rfl rfl rfl rfl rfl rfl ⟨rfl, rfl⟩ ⟨(Nat.le_of_ble_eq_true rfl), (Nat.le_of_ble_eq_true rfl)⟩ ⟨Nat.zero_le _, Nat.zero_le _⟩ rfl (Nat.le_of_ble_eq_true rfl) dX9_carryOut_74 (fun H locs hW => ?_)
    refine lv_goto (tgt := 166) hx hb dX9_carryOut_77 (by decide) ?_
    obtain rfl := Option.some.inj h
    exact hQ _ _ _ _ dX9_carryOut_166 hW
  · have h := in_h c_1 h
    by_cases c_4 : v_act_kind = (1 : Int32)
    · have h := ip_h c_4 h
      refine lv_tableIn (off := 65) (tgt := 80) hx hb dX9_carryOut_15 (by rw [c_4]; decide) (by rw [c_4]; decide) (by rw [c_4]; rfl) (by decide) ?_
      refine lv_aload_n hx hb dX9_carryOut_80 rfl (lv_at hl 1 rfl) ?_
      refine getW C fl_RX9_21 hW 0 rfl rfl dX9_carryOut_81 ?_
      refine lv_iload_n hx hb dX9_carryOut_84 rfl (lv_at hl 0 rfl) ?_
      refine lv_aload_n hx hb dX9_carryOut_85 rfl (lv_at hl 1 rfl) ?_
      refine getW C fl_RX9_35 hW 0 rfl rfl dX9_carryOut_86 ?_
      refine getW C fl_RX9_101 hW 1 rfl rfl dX9_carryOut_89 ?_
      refine lv_iconst (v := (1 : Int32)) hx hb dX9_carryOut_92 (by decide) ?_
      obtain ⟨v_5, hv_5, h⟩ := bd_h h
      refine callVVm [2, 5, 12, 6, 9, 10] [0, 1, 3, 4, 7, 8, 11, 13] [(a_this, .inr (9, [.ref a_rules, .ref a_shelf, .ref a_tally, .ref a_act, .int v_acts, .int v_stoppedAt, .int v_why])), (a_act, .inr (0, [.int v_act_stone, .int v_act_kind, .int v_act_amount])), (a_rules, .inr (5, [.int v_rules_flat, .int v_rules_least, .ref a_rules_deep, .ref a_rules_fine, .ref a_rules_pay, .ref a_rules_hair])), (a_tally, .inr (8, [.int v_tally_pulled, .int v_tally_firstHaunted, .int v_tally_haunter, .ref a_tally_ofKind])), (a_rules_fine, .inl (cI, 8, .inl v_rules_fine)), (a_shelf_damp, .inl (cI, 5, .inl v_shelf_damp)), (a_tally_ofKind, .inl (cI, 5, .inl v_tally_ofKind)), (a_rules_deep, .inl (cI, 8, .inl v_rules_deep))] (wX9_carryOut cI cZ a_this a_rules a_shelf a_tally a_act a_shelf_thick a_shelf_hollow a_shelf_damp a_shelf_fresh a_shelf_pulls a_shelf_fats a_rules_deep a_rules_fine a_rules_pay a_rules_hair a_tally_ofKind v_acts v_stoppedAt v_why v_act_stone v_act_kind v_act_amount v_shelf_there v_rules_flat v_rules_least v_tally_pulled v_tally_firstHaunted v_tally_haunter v_5.1 v_5.2.2.1 v_rules_fine v_shelf_damp v_5.2.2.2.1 v_5.2.2.2.2 v_tally_ofKind v_5.2.1 v_rules_deep) C lk_RX9_133 (ctX6_grindOff a_shelf a_shelf_thick a_shelf_hollow a_shelf_damp a_shelf_fresh a_shelf_pulls a_shelf_fats v_act_stone v_act_amount (1 : Int32) v_shelf_there v_shelf_thick v_shelf_hollow v_shelf_fresh v_shelf_pulls v_shelf_fats hv_5) hW hl 6 rfl rfl rfl rfl rfl rfl rfl rfl rfl rfl ⟨rfl, rfl⟩ ⟨(Nat.le_of_ble_eq_true rfl), (Nat.le_of_ble_eq_true rfl)⟩ ⟨Nat.zero_le _, Nat.zero_le _⟩ rfl (Nat.le_of_ble_eq_true rfl) dX9_carryOut_93 (fun H locs hW => ?_)
      refine lv_goto (tgt := 166) hx hb dX9_carryOut_96 (by decide) ?_
      obtain rfl := Option.some.inj h
      exact hQ _ _ _ _ dX9_carryOut_166 hW
    · have h := in_h c_4 h
      by_cases c_6 : v_act_kind = (2 : Int32)
      · have h := ip_h c_6 h
        refine lv_tableIn (off := 84) (tgt := 99) hx hb dX9_carryOut_15 (by rw [c_6]; decide) (by rw [c_6]; decide) (by rw [c_6]; rfl) (by decide) ?_
        refine lv_aload_n hx hb dX9_carryOut_99 rfl (lv_at hl 1 rfl) ?_
        refine getW C fl_RX9_21 hW 0 rfl rfl dX9_carryOut_100 ?_
        refine lv_iload_n hx hb dX9_carryOut_103 rfl (lv_at hl 0 rfl) ?_
        refine lv_aload_n hx hb dX9_carryOut_104 rfl (lv_at hl 1 rfl) ?_
        refine getW C fl_RX9_35 hW 0 rfl rfl dX9_carryOut_105 ?_
        refine getW C fl_RX9_101 hW 1 rfl rfl dX9_carryOut_108 ?_
        refine lv_iconst (v := (0 : Int32)) hx hb dX9_carryOut_111 (by decide) ?_
        obtain ⟨v_7, hv_7, h⟩ := bd_h h
        refine callVVm [2, 5, 12, 6, 9, 10] [0, 1, 3, 4, 7, 8, 11, 13] [(a_this, .inr (9, [.ref a_rules, .ref a_shelf, .ref a_tally, .ref a_act, .int v_acts, .int v_stoppedAt, .int v_why])), (a_act, .inr (0, [.int v_act_stone, .int v_act_kind, .int v_act_amount])), (a_rules, .inr (5, [.int v_rules_flat, .int v_rules_least, .ref a_rules_deep, .ref a_rules_fine, .ref a_rules_pay, .ref a_rules_hair])), (a_tally, .inr (8, [.int v_tally_pulled, .int v_tally_firstHaunted, .int v_tally_haunter, .ref a_tally_ofKind])), (a_rules_fine, .inl (cI, 8, .inl v_rules_fine)), (a_shelf_damp, .inl (cI, 5, .inl v_shelf_damp)), (a_tally_ofKind, .inl (cI, 5, .inl v_tally_ofKind)), (a_rules_deep, .inl (cI, 8, .inl v_rules_deep))] (wX9_carryOut cI cZ a_this a_rules a_shelf a_tally a_act a_shelf_thick a_shelf_hollow a_shelf_damp a_shelf_fresh a_shelf_pulls a_shelf_fats a_rules_deep a_rules_fine a_rules_pay a_rules_hair a_tally_ofKind v_acts v_stoppedAt v_why v_act_stone v_act_kind v_act_amount v_shelf_there v_rules_flat v_rules_least v_tally_pulled v_tally_firstHaunted v_tally_haunter v_7.1 v_7.2.2.1 v_rules_fine v_shelf_damp v_7.2.2.2.1 v_7.2.2.2.2 v_tally_ofKind v_7.2.1 v_rules_deep) C lk_RX9_133 (ctX6_grindOff a_shelf a_shelf_thick a_shelf_hollow a_shelf_damp a_shelf_fresh a_shelf_pulls a_shelf_fats v_act_stone v_act_amount (0 : Int32) v_shelf_there v_shelf_thick v_shelf_hollow v_shelf_fresh v_shelf_pulls v_shelf_fats hv_7) hW hl 6 rfl rfl rfl rfl rfl rfl rfl rfl rfl rfl ⟨rfl, rfl⟩ ⟨(Nat.le_of_ble_eq_true rfl), (Nat.le_of_ble_eq_true rfl)⟩ ⟨Nat.zero_le _, Nat.zero_le _⟩ rfl (Nat.le_of_ble_eq_true rfl) dX9_carryOut_112 (fun H locs hW => ?_)
        refine lv_goto (tgt := 166) hx hb dX9_carryOut_115 (by decide) ?_
        obtain rfl := Option.some.inj h
        exact hQ _ _ _ _ dX9_carryOut_166 hW
      · have h := in_h c_6 h
        by_cases c_8 : v_act_kind = (3 : Int32)
        · have h := ip_h c_8 h
          refine lv_tableIn (off := 103) (tgt := 118) hx hb dX9_carryOut_15 (by rw [c_8]; decide) (by rw [c_8]; decide) (by rw [c_8]; rfl) (by decide) ?_
          refine lv_aload_n hx hb dX9_carryOut_118 rfl (lv_at hl 1 rfl) ?_
          refine getW C fl_RX9_21 hW 0 rfl rfl dX9_carryOut_119 ?_
          refine lv_iload_n hx hb dX9_carryOut_122 rfl (lv_at hl 0 rfl) ?_
          refine lv_aload_n hx hb dX9_carryOut_123 rfl (lv_at hl 1 rfl) ?_
          refine getW C fl_RX9_35 hW 0 rfl rfl dX9_carryOut_124 ?_
          refine getW C fl_RX9_101 hW 1 rfl rfl dX9_carryOut_127 ?_
          obtain ⟨v_9, hv_9, h⟩ := bd_h h
          refine callVVm [2, 8] [0, 1, 3, 4, 5, 6, 7, 9, 10, 11, 12, 13] [(a_this, .inr (9, [.ref a_rules, .ref a_shelf, .ref a_tally, .ref a_act, .int v_acts, .int v_stoppedAt, .int v_why])), (a_act, .inr (0, [.int v_act_stone, .int v_act_kind, .int v_act_amount])), (a_rules, .inr (5, [.int v_rules_flat, .int v_rules_least, .ref a_rules_deep, .ref a_rules_fine, .ref a_rules_pay, .ref a_rules_hair])), (a_tally, .inr (8, [.int v_tally_pulled, .int v_tally_firstHaunted, .int v_tally_haunter, .ref a_tally_ofKind])), (a_shelf_thick, .inl (cI, 5, .inl v_shelf_thick)), (a_shelf_fresh, .inl (cI, 5, .inl v_shelf_fresh)), (a_rules_fine, .inl (cI, 8, .inl v_rules_fine)), (a_shelf_pulls, .inl (cI, 5, .inl v_shelf_pulls)), (a_shelf_fats, .inl (cI, 40, .inl v_shelf_fats)), (a_tally_ofKind, .inl (cI, 5, .inl v_tally_ofKind)), (a_shelf_hollow, .inl (cI, 5, .inl v_shelf_hollow)), (a_rules_deep, .inl (cI, 8, .inl v_rules_deep))] (wX9_carryOut cI cZ a_this a_rules a_shelf a_tally a_act a_shelf_thick a_shelf_hollow a_shelf_damp a_shelf_fresh a_shelf_pulls a_shelf_fats a_rules_deep a_rules_fine a_rules_pay a_rules_hair a_tally_ofKind v_acts v_stoppedAt v_why v_act_stone v_act_kind v_act_amount v_shelf_there v_rules_flat v_rules_least v_tally_pulled v_tally_firstHaunted v_tally_haunter v_shelf_thick v_shelf_fresh v_rules_fine v_9 v_shelf_pulls v_shelf_fats v_tally_ofKind v_shelf_hollow v_rules_deep) C lk_RX9_137 (ctX6_wet a_shelf a_shelf_thick a_shelf_hollow a_shelf_damp a_shelf_fresh a_shelf_pulls a_shelf_fats v_act_stone v_act_amount v_shelf_there v_shelf_damp hv_9) hW hl 6 rfl rfl rfl rfl rfl rfl rfl rfl rfl rfl ⟨rfl, rfl⟩ ⟨(Nat.le_of_ble_eq_true rfl), (Nat.le_of_ble_eq_true rfl)⟩ ⟨Nat.zero_le _, Nat.zero_le _⟩ rfl (Nat.le_of_ble_eq_true rfl) dX9_carryOut_130 (fun H locs hW => ?_)
          refine lv_goto (tgt := 166) hx hb dX9_carryOut_133 (by decide) ?_
          obtain rfl := Option.some.inj h
          exact hQ _ _ _ _ dX9_carryOut_166 hW
        · have h := in_h c_8 h
          by_cases c_10 : v_act_kind = (4 : Int32)
          · have h := ip_h c_10 h
            refine lv_tableIn (off := 121) (tgt := 136) hx hb dX9_carryOut_15 (by rw [c_10]; decide) (by rw [c_10]; decide) (by rw [c_10]; rfl) (by decide) ?_
            refine lv_aload_n hx hb dX9_carryOut_136 rfl (lv_at hl 1 rfl) ?_
            refine lv_iload_n hx hb dX9_carryOut_137 rfl (lv_at hl 0 rfl) ?_
            refine lv_aload_n hx hb dX9_carryOut_138 rfl (lv_at hl 1 rfl) ?_
            refine getW C fl_RX9_35 hW 0 rfl rfl dX9_carryOut_139 ?_
            refine getW C fl_RX9_101 hW 1 rfl rfl dX9_carryOut_142 ?_
            obtain ⟨v_11, hv_11, h⟩ := bd_h h
            refine callVVm [0, 2, 3, 4, 6, 7, 8, 9, 10, 11] [1, 5, 12, 13] [(a_act, .inr (0, [.int v_act_stone, .int v_act_kind, .int v_act_amount])), (a_shelf_thick, .inl (cI, 5, .inl v_shelf_thick)), (a_shelf_hollow, .inl (cI, 5, .inl v_shelf_hollow)), (a_rules_deep, .inl (cI, 8, .inl v_rules_deep))] (wX9_carryOut cI cZ a_this a_rules a_shelf a_tally a_act a_shelf_thick a_shelf_hollow a_shelf_damp a_shelf_fresh a_shelf_pulls a_shelf_fats a_rules_deep a_rules_fine a_rules_pay a_rules_hair a_tally_ofKind v_acts v_stoppedAt v_why v_act_stone v_act_kind v_act_amount v_shelf_there v_rules_flat v_rules_least v_11.2.2.1 v_11.1 v_11.2.1 v_shelf_thick v_shelf_fresh v_rules_fine v_11.2.2.2.1 v_11.2.2.2.2.1 v_11.2.2.2.2.2.1 v_11.2.2.2.2.2.2 v_shelf_hollow v_rules_deep) C lk_RX9_141 (ctX9_pullSeveral a_this a_rules a_shelf a_tally a_act a_shelf_thick a_shelf_hollow a_shelf_damp a_shelf_fresh a_shelf_pulls a_shelf_fats a_rules_deep a_rules_fine a_rules_pay a_rules_hair a_tally_ofKind v_act_stone v_act_amount v_acts v_stoppedAt v_why v_shelf_there v_rules_flat v_rules_least v_tally_pulled v_tally_firstHaunted v_tally_haunter v_shelf_fresh v_rules_fine v_shelf_damp v_shelf_pulls v_shelf_fats v_tally_ofKind hv_11) hW hl 9 rfl rfl rfl rfl rfl rfl rfl rfl rfl rfl ⟨rfl, rfl⟩ ⟨(Nat.le_of_ble_eq_true rfl), (Nat.le_of_ble_eq_true rfl)⟩ ⟨Nat.zero_le _, Nat.zero_le _⟩ rfl (Nat.le_of_ble_eq_true rfl) dX9_carryOut_145 (fun H locs hW => ?_)
            refine lv_goto (tgt := 166) hx hb dX9_carryOut_148 (by decide) ?_
            obtain rfl := Option.some.inj h
            exact hQ _ _ _ _ dX9_carryOut_166 hW
          · have h := in_h c_10 h
            refine lv_tableOut (tgt := 151) hx hb dX9_carryOut_15 (by have t0 := ne_ti (j := 0) (by decide) c_1; have t1 := ne_ti (j := 1) (by decide) c_4; have t2 := ne_ti (j := 2) (by decide) c_6; have t3 := ne_ti (j := 3) (by decide) c_8; have t4 := ne_ti (j := 4) (by decide) c_10; omega) (by decide) ?_
            refine lv_aload_n hx hb dX9_carryOut_151 rfl (lv_at hl 1 rfl) ?_
            refine getW C fl_RX9_21 hW 0 rfl rfl dX9_carryOut_152 ?_
            refine lv_iload_n hx hb dX9_carryOut_155 rfl (lv_at hl 0 rfl) ?_
            refine lv_aload_n hx hb dX9_carryOut_156 rfl (lv_at hl 1 rfl) ?_
            refine getW C fl_RX9_35 hW 0 rfl rfl dX9_carryOut_157 ?_
            refine getW C fl_RX9_101 hW 1 rfl rfl dX9_carryOut_160 ?_
            obtain ⟨v_12, hv_12, h⟩ := bd_h h
            refine callVVm [2, 5] [0, 1, 3, 4, 6, 7, 8, 9, 10, 11, 12, 13] [(a_this, .inr (9, [.ref a_rules, .ref a_shelf, .ref a_tally, .ref a_act, .int v_acts, .int v_stoppedAt, .int v_why])), (a_act, .inr (0, [.int v_act_stone, .int v_act_kind, .int v_act_amount])), (a_rules, .inr (5, [.int v_rules_flat, .int v_rules_least, .ref a_rules_deep, .ref a_rules_fine, .ref a_rules_pay, .ref a_rules_hair])), (a_tally, .inr (8, [.int v_tally_pulled, .int v_tally_firstHaunted, .int v_tally_haunter, .ref a_tally_ofKind])), (a_shelf_fresh, .inl (cI, 5, .inl v_shelf_fresh)), (a_rules_fine, .inl (cI, 8, .inl v_rules_fine)), (a_shelf_damp, .inl (cI, 5, .inl v_shelf_damp)), (a_shelf_pulls, .inl (cI, 5, .inl v_shelf_pulls)), (a_shelf_fats, .inl (cI, 40, .inl v_shelf_fats)), (a_tally_ofKind, .inl (cI, 5, .inl v_tally_ofKind)), (a_shelf_hollow, .inl (cI, 5, .inl v_shelf_hollow)), (a_rules_deep, .inl (cI, 8, .inl v_rules_deep))] (wX9_carryOut cI cZ a_this a_rules a_shelf a_tally a_act a_shelf_thick a_shelf_hollow a_shelf_damp a_shelf_fresh a_shelf_pulls a_shelf_fats a_rules_deep a_rules_fine a_rules_pay a_rules_hair a_tally_ofKind v_acts v_stoppedAt v_why v_act_stone v_act_kind v_act_amount v_12.1 v_rules_flat v_rules_least v_tally_pulled v_tally_firstHaunted v_tally_haunter v_12.2 v_shelf_fresh v_rules_fine v_shelf_damp v_shelf_pulls v_shelf_fats v_tally_ofKind v_shelf_hollow v_rules_deep) C lk_RX9_144 (ctX6_glueBelow a_shelf a_shelf_thick a_shelf_hollow a_shelf_damp a_shelf_fresh a_shelf_pulls a_shelf_fats v_act_stone v_act_amount v_shelf_there v_shelf_thick hv_12) hW hl 6 rfl rfl rfl rfl rfl rfl rfl rfl rfl rfl ⟨rfl, rfl⟩ ⟨(Nat.le_of_ble_eq_true rfl), (Nat.le_of_ble_eq_true rfl)⟩ ⟨Nat.zero_le _, Nat.zero_le _⟩ rfl (Nat.le_of_ble_eq_true rfl) dX9_carryOut_163 (fun H locs hW => ?_)
            obtain rfl := Option.some.inj h
            exact hQ _ _ _ _ dX9_carryOut_166 hW
theorem ctX9_carryOut {l : Launch} {G : va_G} {cI cZ cO : ClassId} (a_this a_rules a_shelf a_tally a_act a_shelf_thick a_shelf_hollow a_shelf_damp a_shelf_fresh a_shelf_pulls a_shelf_fats a_rules_deep a_rules_fine a_rules_pay a_rules_hair a_tally_ofKind : Nat) (v_acts : Int32) (v_stoppedAt : Int32) (v_why : Int32) (v_act_stone : Int32) (v_act_kind : Int32) (v_act_amount : Int32) (v_shelf_there : Int32) (v_rules_flat : Int32) (v_rules_least : Int32) (v_tally_pulled : Int32) (v_tally_firstHaunted : Int32) (v_tally_haunter : Int32) (v_shelf_thick : Nat → Int32) (v_shelf_fresh : Nat → Int32) (v_rules_fine : Nat → Int32) (v_shelf_damp : Nat → Int32) (v_shelf_pulls : Nat → Int32) (v_shelf_fats : Nat → Int32) (v_tally_ofKind : Nat → Int32) (v_shelf_hollow : Nat → Int32) (v_rules_deep : Nat → Int32) {res : Int32 × Int32 × Int32 × Int32 × (Nat → Int32) × (Nat → Int32) × (Nat → Int32) × (Nat → Int32) × (Nat → Int32) × (Nat → Int32) × (Nat → Int32)} (h : fX9_carryOut v_act_stone v_act_kind v_act_amount v_shelf_there v_tally_pulled v_tally_firstHaunted v_tally_haunter v_shelf_thick v_shelf_fresh v_rules_fine v_shelf_damp v_shelf_pulls v_shelf_fats v_tally_ofKind v_shelf_hollow v_rules_deep = some res) : MV l G cI cZ cO yX9_carryOut cX9_carryOut 2 rX9_carryOut [.ref a_this] (wX9_carryOut cI cZ a_this a_rules a_shelf a_tally a_act a_shelf_thick a_shelf_hollow a_shelf_damp a_shelf_fresh a_shelf_pulls a_shelf_fats a_rules_deep a_rules_fine a_rules_pay a_rules_hair a_tally_ofKind v_acts v_stoppedAt v_why v_act_stone v_act_kind v_act_amount v_shelf_there v_rules_flat v_rules_least v_tally_pulled v_tally_firstHaunted v_tally_haunter v_shelf_thick v_shelf_fresh v_rules_fine v_shelf_damp v_shelf_pulls v_shelf_fats v_tally_ofKind v_shelf_hollow v_rules_deep) (wX9_carryOut cI cZ a_this a_rules a_shelf a_tally a_act a_shelf_thick a_shelf_hollow a_shelf_damp a_shelf_fresh a_shelf_pulls a_shelf_fats a_rules_deep a_rules_fine a_rules_pay a_rules_hair a_tally_ofKind v_acts v_stoppedAt v_why v_act_stone v_act_kind v_act_amount res.1 v_rules_flat v_rules_least res.2.2.2.1 res.2.1 res.2.2.1 res.2.2.2.2.1 res.2.2.2.2.2.1 v_rules_fine res.2.2.2.2.2.2.1 res.2.2.2.2.2.2.2.1 res.2.2.2.2.2.2.2.2.1 res.2.2.2.2.2.2.2.2.2.1 res.2.2.2.2.2.2.2.2.2.2 v_rules_deep) := by
  refine MV.of (by decide) (Nat.le_of_ble_eq_true rfl) ?_
  intro p e s m below meth c A Q C hW hQ ls hl
  exact uX9_carryOut_0 v_acts v_stoppedAt v_why v_act_stone v_act_kind v_act_amount v_shelf_there v_rules_flat v_rules_least v_tally_pulled v_tally_firstHaunted v_tally_haunter v_shelf_thick v_shelf_fresh v_rules_fine v_shelf_damp v_shelf_pulls v_shelf_fats v_tally_ofKind v_shelf_hollow v_rules_deep C hQ h _ _ hW _ hl
abbrev wX9_playPad (cI cZ : ClassId) (a_this a_rules a_shelf a_tally a_act a_shelf_thick a_shelf_hollow a_shelf_damp a_shelf_fresh a_shelf_pulls a_shelf_fats a_rules_deep a_rules_fine a_rules_pay a_rules_hair a_tally_ofKind a_arg1 a_arg1_signs : Nat) (v_acts : Int32) (v_stoppedAt : Int32) (v_why : Int32) (v_act_stone : Int32) (v_act_kind : Int32) (v_act_amount : Int32) (v_shelf_there : Int32) (v_rules_flat : Int32) (v_rules_least : Int32) (v_tally_pulled : Int32) (v_tally_firstHaunted : Int32) (v_tally_haunter : Int32) (v_shelf_fresh : Nat → Int32) (v_shelf_hollow : Nat → Int32) (v_shelf_thick : Nat → Int32) (v_rules_fine : Nat → Int32) (v_shelf_damp : Nat → Int32) (v_shelf_pulls : Nat → Int32) (v_shelf_fats : Nat → Int32) (v_tally_ofKind : Nat → Int32) (v_rules_deep : Nat → Int32) (v_arg1_size : Int32) (v_arg1_signs : Nat → Int32) : va_W := [(a_this, .inr (9, [.ref a_rules, .ref a_shelf, .ref a_tally, .ref a_act, .int v_acts, .int v_stoppedAt, .int v_why])), (a_act, .inr (0, [.int v_act_stone, .int v_act_kind, .int v_act_amount])), (a_shelf, .inr (6, [.int v_shelf_there, .ref a_shelf_thick, .ref a_shelf_hollow, .ref a_shelf_damp, .ref a_shelf_fresh, .ref a_shelf_pulls, .ref a_shelf_fats])), (a_rules, .inr (5, [.int v_rules_flat, .int v_rules_least, .ref a_rules_deep, .ref a_rules_fine, .ref a_rules_pay, .ref a_rules_hair])), (a_tally, .inr (8, [.int v_tally_pulled, .int v_tally_firstHaunted, .int v_tally_haunter, .ref a_tally_ofKind])), (a_shelf_fresh, .inl (cI, 5, .inl v_shelf_fresh)), (a_shelf_hollow, .inl (cI, 5, .inl v_shelf_hollow)), (a_shelf_thick, .inl (cI, 5, .inl v_shelf_thick)), (a_rules_fine, .inl (cI, 8, .inl v_rules_fine)), (a_shelf_damp, .inl (cI, 5, .inl v_shelf_damp)), (a_shelf_pulls, .inl (cI, 5, .inl v_shelf_pulls)), (a_shelf_fats, .inl (cI, 40, .inl v_shelf_fats)), (a_tally_ofKind, .inl (cI, 5, .inl v_tally_ofKind)), (a_rules_deep, .inl (cI, 8, .inl v_rules_deep)), (a_arg1, .inr (3, [.int v_arg1_size, .ref a_arg1_signs])), (a_arg1_signs, .inl (cI, 60, .inl v_arg1_signs))]
abbrev rX9_playPad : Room := { frames := 4, cells := 0, slots := 0, locals := 95 }
set_option maxRecDepth 20000 in
theorem uX9_playPad_2 {a_this a_rules a_shelf a_tally a_act a_shelf_thick a_shelf_hollow a_shelf_damp a_shelf_fresh a_shelf_pulls a_shelf_fats a_rules_deep a_rules_fine a_rules_pay a_rules_hair a_tally_ofKind a_arg1 a_arg1_signs : Nat} (x2 : Int32) (v_acts : Int32) (v_stoppedAt : Int32) (v_why : Int32) (v_act_stone : Int32) (v_act_kind : Int32) (v_act_amount : Int32) (v_shelf_there : Int32) (v_rules_flat : Int32) (v_rules_least : Int32) (v_tally_pulled : Int32) (v_tally_firstHaunted : Int32) (v_tally_haunter : Int32) (v_shelf_fresh : Nat → Int32) (v_shelf_hollow : Nat → Int32) (v_shelf_thick : Nat → Int32) (v_rules_fine : Nat → Int32) (v_shelf_damp : Nat → Int32) (v_shelf_pulls : Nat → Int32) (v_shelf_fats : Nat → Int32) (v_tally_ofKind : Nat → Int32) (v_rules_deep : Nat → Int32) (v_arg1_size : Int32) (v_arg1_signs : Nat → Int32) {res : Int32 × Int32 × Int32 × Int32 × Int32 × Int32 × Int32 × Int32 × Int32 × Int32 × (Nat → Int32) × (Nat → Int32) × (Nat → Int32) × (Nat → Int32) × (Nat → Int32) × (Nat → Int32) × (Nat → Int32)} (C : Cx p s m av meth c RX9 cX9_playPad 4 none G cI cZ cO A) (hQ : RV p l e rX9_playPad s m av below meth c G A cX9_playPad Q (wX9_playPad cI cZ a_this a_rules a_shelf a_tally a_act a_shelf_thick a_shelf_hollow a_shelf_damp a_shelf_fresh a_shelf_pulls a_shelf_fats a_rules_deep a_rules_fine a_rules_pay a_rules_hair a_tally_ofKind a_arg1 a_arg1_signs res.1 res.2.1 res.2.2.1 res.2.2.2.2.2.1 res.2.2.2.2.1 res.2.2.2.1 res.2.2.2.2.2.2.1 v_rules_flat v_rules_least res.2.2.2.2.2.2.2.2.2.1 res.2.2.2.2.2.2.2.1 res.2.2.2.2.2.2.2.2.1 res.2.2.2.2.2.2.2.2.2.2.1 res.2.2.2.2.2.2.2.2.2.2.2.1 res.2.2.2.2.2.2.2.2.2.2.2.2.1 v_rules_fine res.2.2.2.2.2.2.2.2.2.2.2.2.2.1 res.2.2.2.2.2.2.2.2.2.2.2.2.2.2.1 res.2.2.2.2.2.2.2.2.2.2.2.2.2.2.2.1 res.2.2.2.2.2.2.2.2.2.2.2.2.2.2.2.2 v_rules_deep v_arg1_size v_arg1_signs)) {k2 : (Int32) → (Int32) → (Int32) → (Int32) → (Int32) → (Int32) → (Int32) → (Int32) → (Int32) → (Nat → Int32) → (Nat → Int32) → (Nat → Int32) → (Nat → Int32) → (Nat → Int32) → (Nat → Int32) → (Nat → Int32) → Option (Int32 × Int32 × Int32 × Int32 × Int32 × Int32 × Int32 × Int32 × Int32 × Int32 × (Nat → Int32) × (Nat → Int32) × (Nat → Int32) × (Nat → Int32) × (Nat → Int32) × (Nat → Int32) × (Nat → Int32))} (hk2 : ∀ (x2 : Int32) (v_acts : Int32) (v_act_stone : Int32) (v_act_kind : Int32) (v_act_amount : Int32) (v_shelf_there : Int32) (v_tally_pulled : Int32) (v_tally_firstHaunted : Int32) (v_tally_haunter : Int32) (v_shelf_fresh : Nat → Int32) (v_shelf_hollow : Nat → Int32) (v_shelf_thick : Nat → Int32) (v_shelf_damp : Nat → Int32) (v_shelf_pulls : Nat → Int32) (v_shelf_fats : Nat → Int32) (v_tally_ofKind : Nat → Int32), k2 x2 v_acts v_act_stone v_act_kind v_act_amount v_shelf_there v_tally_pulled v_tally_firstHaunted v_tally_haunter v_shelf_fresh v_shelf_hollow v_shelf_thick v_shelf_damp v_shelf_pulls v_shelf_fats v_tally_ofKind = some res → ∀ (H : Heap) (locs : List Loc), HW G A s (wX9_playPad cI cZ a_this a_rules a_shelf a_tally a_act a_shelf_thick a_shelf_hollow a_shelf_damp a_shelf_fresh a_shelf_pulls a_shelf_fats a_rules_deep a_rules_fine a_rules_pay a_rules_hair a_tally_ofKind a_arg1 a_arg1_signs v_acts v_stoppedAt v_why v_act_stone v_act_kind v_act_amount v_shelf_there v_rules_flat v_rules_least v_tally_pulled v_tally_firstHaunted v_tally_haunter v_shelf_fresh v_shelf_hollow v_shelf_thick v_rules_fine v_shelf_damp v_shelf_pulls v_shelf_fats v_tally_ofKind v_rules_deep v_arg1_size v_arg1_signs) H locs → ∀ ls : Array Slot, lv_has ls 4 [(0, .ref a_this), (1, .ref a_arg1), (2, .int x2)] → W p l e rX9_playPad s m av below meth c H locs 0 0 Q (F0 m 2 ls [])) (h : FX9_playPad_2 v_stoppedAt v_why v_rules_flat v_rules_least v_rules_fine v_rules_deep v_arg1_size v_arg1_signs k2 x2 v_acts v_act_stone v_act_kind v_act_amount v_shelf_there v_tally_pulled v_tally_firstHaunted v_tally_haunter v_shelf_fresh v_shelf_hollow v_shelf_thick v_shelf_damp v_shelf_pulls v_shelf_fats v_tally_ofKind = some res) (H : Heap) (locs : List Loc) (hW : HW G A s (wX9_playPad cI cZ a_this a_rules a_shelf a_tally a_act a_shelf_thick a_shelf_hollow a_shelf_damp a_shelf_fresh a_shelf_pulls a_shelf_fats a_rules_deep a_rules_fine a_rules_pay a_rules_hair a_tally_ofKind a_arg1 a_arg1_signs v_acts v_stoppedAt v_why v_act_stone v_act_kind v_act_amount v_shelf_there v_rules_flat v_rules_least v_tally_pulled v_tally_firstHaunted v_tally_haunter v_shelf_fresh v_shelf_hollow v_shelf_thick v_rules_fine v_shelf_damp v_shelf_pulls v_shelf_fats v_tally_ofKind v_rules_deep v_arg1_size v_arg1_signs) H locs) (ls : Array Slot) (hl : lv_has ls 4 [(0, .ref a_this), (1, .ref a_arg1), (2, .int x2)]) : W p l e rX9_playPad s m av below meth c H locs 0 0 Q (F0 m 2 ls []) := by
  have hx := C.1
  have hb := C.2.1
  unfold FX9_playPad_2 at h
  refine lv_iload_n hx hb dX9_playPad_2 rfl (lv_at hl 2 rfl) ?_
  refine lv_aload_n hx hb dX9_playPad_3 rfl (lv_at hl 1 rfl) ?_
  refine getW C fl_RX9_63 hW 14 rfl rfl dX9_playPad_4 ?_
  refine lv_icmp_ge (tgt := 75) hx hb dX9_playPad_7 (by decide) (fun c_1 => ?_) (fun c_1 => ?_)
  · have h := ip_h c_1 h
    obtain rfl := Option.some.inj h
    exact hQ _ _ _ _ dX9_playPad_75 hW
  · have h := in_h c_1 h
    refine lv_aload_n hx hb dX9_playPad_10 rfl (lv_at hl 1 rfl) ?_
    refine lv_iload_n hx hb dX9_playPad_11 rfl (lv_at hl 2 rfl) ?_
    refine lv_aload_n hx hb dX9_playPad_12 rfl (lv_at hl 0 rfl) ?_
    refine getW C fl_RX9_35 hW 0 rfl rfl dX9_playPad_13 ?_
    obtain ⟨v_2, hv_2, h⟩ := bd_h h
    refine callVVm [14, 15, 1] [0, 2, 3, 4, 5, 6, 7, 8, 9, 10, 11, 12, 13] [(a_this, .inr (9, [.ref a_rules, .ref a_shelf, .ref a_tally, .ref a_act, .int v_acts, .int v_stoppedAt, .int v_why])), (a_shelf, .inr (6, [.int v_shelf_there, .ref a_shelf_thick, .ref a_shelf_hollow, .ref a_shelf_damp, .ref a_shelf_fresh, .ref a_shelf_pulls, .ref a_shelf_fats])), (a_rules, .inr (5, [.int v_rules_flat, .int v_rules_least, .ref a_rules_deep, .ref a_rules_fine, .ref a_rules_pay, .ref a_rules_hair])), (a_tally, .inr (8, [.int v_tally_pulled, .int v_tally_firstHaunted, .int v_tally_haunter, .ref a_tally_ofKind])), (a_shelf_fresh, .inl (cI, 5, .inl v_shelf_fresh)), (a_shelf_hollow, .inl (cI, 5, .inl v_shelf_hollow)), (a_shelf_thick, .inl (cI, 5, .inl v_shelf_thick)), (a_rules_fine, .inl (cI, 8, .inl v_rules_fine)), (a_shelf_damp, .inl (cI, 5, .inl v_shelf_damp)), (a_shelf_pulls, .inl (cI, 5, .inl v_shelf_pulls)), (a_shelf_fats, .inl (cI, 40, .inl v_shelf_fats)), (a_tally_ofKind, .inl (cI, 5, .inl v_tally_ofKind)), (a_rules_deep, .inl (cI, 8, .inl v_rules_deep))] (wX9_playPad cI cZ a_this a_rules a_shelf a_tally a_act a_shelf_thick a_shelf_hollow a_shelf_damp a_shelf_fresh a_shelf_pulls a_shelf_fats a_rules_deep a_rules_fine a_rules_pay a_rules_hair a_tally_ofKind a_arg1 a_arg1_signs v_acts v_stoppedAt v_why v_2.2.2 v_2.2.1 v_2.1 v_shelf_there v_rules_flat v_rules_least v_tally_pulled v_tally_firstHaunted v_tally_haunter v_shelf_fresh v_shelf_hollow v_shelf_thick v_rules_fine v_shelf_damp v_shelf_pulls v_shelf_fats v_tally_ofKind v_rules_deep v_arg1_size v_arg1_signs) C lk_RX9_68 (ctX3_readAct a_arg1 a_arg1_signs a_act x2 v_arg1_size v_arg1_signs v_act_stone v_act_kind v_act_amount hv_2) hW hl 3 rfl rfl rfl rfl rfl rfl rfl rfl rfl rfl ⟨rfl, rfl⟩ ⟨(Nat.le_of_ble_eq_true rfl), (Nat.le_of_ble_eq_true rfl)⟩ ⟨Nat.zero_le _, Nat.zero_le _⟩ rfl (Nat.le_of_ble_eq_true rfl) dX9_playPad_16 (fun H locs hW => ?_)
    refine lv_aload_n hx hb dX9_playPad_19 rfl (lv_at hl 0 rfl) ?_
    obtain ⟨v_3, hv_3, h⟩ := bd_h h
    refine callVIr [0, 1, 2, 3, 5, 6, 7] C lk_RX9_72 (ctX9_reasonAgainst a_this a_rules a_shelf a_tally a_act a_shelf_thick a_shelf_hollow a_shelf_damp a_shelf_fresh a_shelf_pulls a_shelf_fats a_rules_deep a_rules_fine a_rules_pay a_rules_hair v_acts v_stoppedAt v_why v_2.2.2 v_2.2.1 v_2.1 v_shelf_there v_rules_flat v_rules_least v_shelf_fresh v_shelf_hollow v_shelf_thick hv_3) hW hl 9 rfl rfl rfl rfl rfl ⟨rfl, rfl⟩ ⟨(Nat.le_of_ble_eq_true rfl), (Nat.le_of_ble_eq_true rfl)⟩ ⟨Nat.zero_le _, Nat.zero_le _⟩ rfl (Nat.le_of_ble_eq_true rfl) dX9_playPad_20 (fun H locs hW => ?_)
    refine lv_istore_n (lv' := [(3, .int v_3), (0, .ref a_this), (1, .ref a_arg1), (2, .int x2)]) hx hb dX9_playPad_23 rfl hl (Nat.le_of_ble_eq_true rfl) rfl (fun ls hl => ?_)
    refine lv_iload_n hx hb dX9_playPad_24 rfl (lv_at hl 0 rfl) ?_
    refine lv_if_eq (tgt := 42) hx hb dX9_playPad_25 (by decide) (fun c_4 => ?_) (fun c_4 => ?_)
    · have h := ip_h c_4 h
      refine lv_aload_n hx hb dX9_playPad_42 rfl (lv_at hl 1 rfl) ?_
      obtain ⟨v_5, hv_5, h⟩ := bd_h h
      refine callVVm [0, 1, 2, 3, 4, 7, 5, 8, 9, 10, 11, 12, 6, 13] [14, 15] [(a_arg1, .inr (3, [.int v_arg1_size, .ref a_arg1_signs])), (a_arg1_signs, .inl (cI, 60, .inl v_arg1_signs))] (wX9_playPad cI cZ a_this a_rules a_shelf a_tally a_act a_shelf_thick a_shelf_hollow a_shelf_damp a_shelf_fresh a_shelf_pulls a_shelf_fats a_rules_deep a_rules_fine a_rules_pay a_rules_hair a_tally_ofKind a_arg1 a_arg1_signs v_acts v_stoppedAt v_why v_2.2.2 v_2.2.1 v_2.1 v_5.1 v_rules_flat v_rules_least v_5.2.2.2.1 v_5.2.1 v_5.2.2.1 v_5.2.2.2.2.2.1 v_5.2.2.2.2.2.2.2.2.2.2 v_5.2.2.2.2.1 v_rules_fine v_5.2.2.2.2.2.2.1 v_5.2.2.2.2.2.2.2.1 v_5.2.2.2.2.2.2.2.2.1 v_5.2.2.2.2.2.2.2.2.2.1 v_rules_deep v_arg1_size v_arg1_signs) C lk_RX9_76 (ctX9_carryOut a_this a_rules a_shelf a_tally a_act a_shelf_thick a_shelf_hollow a_shelf_damp a_shelf_fresh a_shelf_pulls a_shelf_fats a_rules_deep a_rules_fine a_rules_pay a_rules_hair a_tally_ofKind v_acts v_stoppedAt v_why v_2.2.2 v_2.2.1 v_2.1 v_shelf_there v_rules_flat v_rules_least v_tally_pulled v_tally_firstHaunted v_tally_haunter v_shelf_thick v_shelf_fresh v_rules_fine v_shelf_damp v_shelf_pulls v_shelf_fats v_tally_ofKind v_shelf_hollow v_rules_deep hv_5) hW hl 9 rfl rfl rfl rfl rfl rfl rfl rfl rfl rfl ⟨rfl, rfl⟩ ⟨(Nat.le_of_ble_eq_true rfl), (Nat.le_of_ble_eq_true rfl)⟩ ⟨Nat.zero_le _, Nat.zero_le _⟩ rfl (Nat.le_of_ble_eq_true rfl) dX9_playPad_43 (fun H locs hW => ?_)
      refine lv_aload_n hx hb dX9_playPad_46 rfl (lv_at hl 1 rfl) ?_
      refine lv_dup hx hb dX9_playPad_47 rfl ?_
      refine getW C fl_RX9_53 hW 0 rfl rfl dX9_playPad_48 ?_
      refine lv_iconst (v := (1 : Int32)) hx hb dX9_playPad_51 (by decide) ?_
      refine lv_iadd hx hb dX9_playPad_52 ?_
      refine lv_topi (fun v_6 ev_6 => ?_)
      have h := lt_h ev_6 h
      refine putW C fp_RX9_53 hW 0 rfl rfl rfl (Nat.le_of_ble_eq_true rfl) dX9_playPad_53 (fun H locs hW => ?_)
      have hW : HW G A s (wX9_playPad cI cZ a_this a_rules a_shelf a_tally a_act a_shelf_thick a_shelf_hollow a_shelf_damp a_shelf_fresh a_shelf_pulls a_shelf_fats a_rules_deep a_rules_fine a_rules_pay a_rules_hair a_tally_ofKind a_arg1 a_arg1_signs v_6 v_stoppedAt v_why v_2.2.2 v_2.2.1 v_2.1 v_5.1 v_rules_flat v_rules_least v_5.2.2.2.1 v_5.2.1 v_5.2.2.1 v_5.2.2.2.2.2.1 v_5.2.2.2.2.2.2.2.2.2.2 v_5.2.2.2.2.1 v_rules_fine v_5.2.2.2.2.2.2.1 v_5.2.2.2.2.2.2.2.1 v_5.2.2.2.2.2.2.2.2.1 v_5.2.2.2.2.2.2.2.2.2.1 v_rules_deep v_arg1_size v_arg1_signs) H locs := hW
      refine lv_iload_n hx hb dX9_playPad_56 rfl (lv_at hl 3 rfl) ?_
      refine lv_aload_n hx hb dX9_playPad_57 rfl (lv_at hl 2 rfl) ?_
      refine lv_iload_n hx hb dX9_playPad_58 rfl (lv_at hl 3 rfl) ?_
      obtain ⟨v_7, hv_7, h⟩ := bd_h h
      refine callVIr [14, 15] C lk_RX9_79 (ctX3_hasThird a_arg1 a_arg1_signs x2 v_arg1_size v_arg1_signs hv_7) hW hl 3 rfl rfl rfl rfl rfl ⟨rfl, rfl⟩ ⟨(Nat.le_of_ble_eq_true rfl), (Nat.le_of_ble_eq_true rfl)⟩ ⟨Nat.zero_le _, Nat.zero_le _⟩ rfl (Nat.le_of_ble_eq_true rfl) dX9_playPad_59 (fun H locs hW => ?_)
      refine lv_if_eq (tgt := 69) hx hb dX9_playPad_62 (by decide) (fun c_8 => ?_) (fun c_8 => ?_)
      · have h := ip_h c_8 h
        refine lv_iconst (v := (2 : Int32)) hx hb dX9_playPad_69 (by decide) ?_
        refine lv_iadd hx hb dX9_playPad_70 ?_
        refine lv_topi (fun v_9 ev_9 => ?_)
        have h := lt_h ev_9 h
        refine lv_istore_n (lv' := [(2, .int v_9), (3, .int v_3), (0, .ref a_this), (1, .ref a_arg1)]) hx hb dX9_playPad_71 rfl hl (Nat.le_of_ble_eq_true rfl) rfl (fun ls hl => ?_)
        refine lv_goto (tgt := 2) hx hb dX9_playPad_72 (by decide) ?_
        exact hk2 v_9 v_6 v_2.2.2 v_2.2.1 v_2.1 v_5.1 v_5.2.2.2.1 v_5.2.1 v_5.2.2.1 v_5.2.2.2.2.2.1 v_5.2.2.2.2.2.2.2.2.2.2 v_5.2.2.2.2.1 v_5.2.2.2.2.2.2.1 v_5.2.2.2.2.2.2.2.1 v_5.2.2.2.2.2.2.2.2.1 v_5.2.2.2.2.2.2.2.2.2.1 h _ _ hW _ (lv_sub hl [2, 3, 0] rfl)
      · have h := in_h c_8 h
        refine lv_iconst (v := (3 : Int32)) hx hb dX9_playPad_65 (by decide) ?_
        refine lv_goto (tgt := 70) hx hb dX9_playPad_66 (by decide) ?_
        refine lv_iadd hx hb dX9_playPad_70 ?_
        refine lv_topi (fun v_10 ev_10 => ?_)
        have h := lt_h ev_10 h
        refine lv_istore_n (lv' := [(2, .int v_10), (3, .int v_3), (0, .ref a_this), (1, .ref a_arg1)]) hx hb dX9_playPad_71 rfl hl (Nat.le_of_ble_eq_true rfl) rfl (fun ls hl => ?_)
        refine lv_goto (tgt := 2) hx hb dX9_playPad_72 (by decide) ?_
        exact hk2 v_10 v_6 v_2.2.2 v_2.2.1 v_2.1 v_5.1 v_5.2.2.2.1 v_5.2.1 v_5.2.2.1 v_5.2.2.2.2.2.1 v_5.2.2.2.2.2.2.2.2.2.2 v_5.2.2.2.2.1 v_5.2.2.2.2.2.2.1 v_5.2.2.2.2.2.2.2.1 v_5.2.2.2.2.2.2.2.2.1 v_5.2.2.2.2.2.2.2.2.2.1 h _ _ hW _ (lv_sub hl [2, 3, 0] rfl)
    · have h := in_h c_4 h
      refine lv_aload_n hx hb dX9_playPad_28 rfl (lv_at hl 1 rfl) ?_
      refine lv_aload_n hx hb dX9_playPad_29 rfl (lv_at hl 1 rfl) ?_
      refine getW C fl_RX9_53 hW 0 rfl rfl dX9_playPad_30 ?_
      refine putW C fp_RX9_57 hW 0 rfl rfl rfl (Nat.le_of_ble_eq_true rfl) dX9_playPad_33 (fun H locs hW => ?_)
      have hW : HW G A s (wX9_playPad cI cZ a_this a_rules a_shelf a_tally a_act a_shelf_thick a_shelf_hollow a_shelf_damp a_shelf_fresh a_shelf_pulls a_shelf_fats a_rules_deep a_rules_fine a_rules_pay a_rules_hair a_tally_ofKind a_arg1 a_arg1_signs v_acts v_acts v_why v_2.2.2 v_2.2.1 v_2.1 v_shelf_there v_rules_flat v_rules_least v_tally_pulled v_tally_firstHaunted v_tally_haunter v_shelf_fresh v_shelf_hollow v_shelf_thick v_rules_fine v_shelf_damp v_shelf_pulls v_shelf_fats v_tally_ofKind v_rules_deep v_arg1_size v_arg1_signs) H locs := hW
      refine lv_aload_n hx hb dX9_playPad_36 rfl (lv_at hl 1 rfl) ?_
      refine lv_iload_n hx hb dX9_playPad_37 rfl (lv_at hl 0 rfl) ?_
      refine putW C fp_RX9_60 hW 0 rfl rfl rfl (Nat.le_of_ble_eq_true rfl) dX9_playPad_38 (fun H locs hW => ?_)
      have hW : HW G A s (wX9_playPad cI cZ a_this a_rules a_shelf a_tally a_act a_shelf_thick a_shelf_hollow a_shelf_damp a_shelf_fresh a_shelf_pulls a_shelf_fats a_rules_deep a_rules_fine a_rules_pay a_rules_hair a_tally_ofKind a_arg1 a_arg1_signs v_acts v_acts v_3 v_2.2.2 v_2.2.1 v_2.1 v_shelf_there v_rules_flat v_rules_least v_tally_pulled v_tally_firstHaunted v_tally_haunter v_shelf_fresh v_shelf_hollow v_shelf_thick v_rules_fine v_shelf_damp v_shelf_pulls v_shelf_fats v_tally_ofKind v_rules_deep v_arg1_size v_arg1_signs) H locs := hW
      obtain rfl := Option.some.inj h
      exact hQ _ _ _ _ dX9_playPad_41 hW
theorem wX9_playPad_2_ {a_this a_rules a_shelf a_tally a_act a_shelf_thick a_shelf_hollow a_shelf_damp a_shelf_fresh a_shelf_pulls a_shelf_fats a_rules_deep a_rules_fine a_rules_pay a_rules_hair a_tally_ofKind a_arg1 a_arg1_signs : Nat} (v_stoppedAt : Int32) (v_why : Int32) (v_rules_flat : Int32) (v_rules_least : Int32) (v_rules_fine : Nat → Int32) (v_rules_deep : Nat → Int32) (v_arg1_size : Int32) (v_arg1_signs : Nat → Int32) {res : Int32 × Int32 × Int32 × Int32 × Int32 × Int32 × Int32 × Int32 × Int32 × Int32 × (Nat → Int32) × (Nat → Int32) × (Nat → Int32) × (Nat → Int32) × (Nat → Int32) × (Nat → Int32) × (Nat → Int32)} (C : Cx p s m av meth c RX9 cX9_playPad 4 none G cI cZ cO A) (hQ : RV p l e rX9_playPad s m av below meth c G A cX9_playPad Q (wX9_playPad cI cZ a_this a_rules a_shelf a_tally a_act a_shelf_thick a_shelf_hollow a_shelf_damp a_shelf_fresh a_shelf_pulls a_shelf_fats a_rules_deep a_rules_fine a_rules_pay a_rules_hair a_tally_ofKind a_arg1 a_arg1_signs res.1 res.2.1 res.2.2.1 res.2.2.2.2.2.1 res.2.2.2.2.1 res.2.2.2.1 res.2.2.2.2.2.2.1 v_rules_flat v_rules_least res.2.2.2.2.2.2.2.2.2.1 res.2.2.2.2.2.2.2.1 res.2.2.2.2.2.2.2.2.1 res.2.2.2.2.2.2.2.2.2.2.1 res.2.2.2.2.2.2.2.2.2.2.2.1 res.2.2.2.2.2.2.2.2.2.2.2.2.1 v_rules_fine res.2.2.2.2.2.2.2.2.2.2.2.2.2.1 res.2.2.2.2.2.2.2.2.2.2.2.2.2.2.1 res.2.2.2.2.2.2.2.2.2.2.2.2.2.2.2.1 res.2.2.2.2.2.2.2.2.2.2.2.2.2.2.2.2 v_rules_deep v_arg1_size v_arg1_signs)) : ∀ (n : Nat) (x2 : Int32) (v_acts : Int32) (v_act_stone : Int32) (v_act_kind : Int32) (v_act_amount : Int32) (v_shelf_there : Int32) (v_tally_pulled : Int32) (v_tally_firstHaunted : Int32) (v_tally_haunter : Int32) (v_shelf_fresh : Nat → Int32) (v_shelf_hollow : Nat → Int32) (v_shelf_thick : Nat → Int32) (v_shelf_damp : Nat → Int32) (v_shelf_pulls : Nat → Int32) (v_shelf_fats : Nat → Int32) (v_tally_ofKind : Nat → Int32), LX9_playPad_2 v_stoppedAt v_why v_rules_flat v_rules_least v_rules_fine v_rules_deep v_arg1_size v_arg1_signs n x2 v_acts v_act_stone v_act_kind v_act_amount v_shelf_there v_tally_pulled v_tally_firstHaunted v_tally_haunter v_shelf_fresh v_shelf_hollow v_shelf_thick v_shelf_damp v_shelf_pulls v_shelf_fats v_tally_ofKind = some res → ∀ (H : Heap) (locs : List Loc), HW G A s (wX9_playPad cI cZ a_this a_rules a_shelf a_tally a_act a_shelf_thick a_shelf_hollow a_shelf_damp a_shelf_fresh a_shelf_pulls a_shelf_fats a_rules_deep a_rules_fine a_rules_pay a_rules_hair a_tally_ofKind a_arg1 a_arg1_signs v_acts v_stoppedAt v_why v_act_stone v_act_kind v_act_amount v_shelf_there v_rules_flat v_rules_least v_tally_pulled v_tally_firstHaunted v_tally_haunter v_shelf_fresh v_shelf_hollow v_shelf_thick v_rules_fine v_shelf_damp v_shelf_pulls v_shelf_fats v_tally_ofKind v_rules_deep v_arg1_size v_arg1_signs) H locs → ∀ ls : Array Slot, lv_has ls 4 [(0, .ref a_this), (1, .ref a_arg1), (2, .int x2)] → W p l e rX9_playPad s m av below meth c H locs 0 0 Q (F0 m 2 ls []) := by
  intro n
  induction n with
  | zero => intro x2 v_acts v_act_stone v_act_kind v_act_amount v_shelf_there v_tally_pulled v_tally_firstHaunted v_tally_haunter v_shelf_fresh v_shelf_hollow v_shelf_thick v_shelf_damp v_shelf_pulls v_shelf_fats v_tally_ofKind h; cases h
  | succ n ih =>
    intro x2 v_acts v_act_stone v_act_kind v_act_amount v_shelf_there v_tally_pulled v_tally_firstHaunted v_tally_haunter v_shelf_fresh v_shelf_hollow v_shelf_thick v_shelf_damp v_shelf_pulls v_shelf_fats v_tally_ofKind h H locs hW ls hl
    exact uX9_playPad_2 x2 v_acts v_stoppedAt v_why v_act_stone v_act_kind v_act_amount v_shelf_there v_rules_flat v_rules_least v_tally_pulled v_tally_firstHaunted v_tally_haunter v_shelf_fresh v_shelf_hollow v_shelf_thick v_rules_fine v_shelf_damp v_shelf_pulls v_shelf_fats v_tally_ofKind v_rules_deep v_arg1_size v_arg1_signs C hQ (k2 := LX9_playPad_2 v_stoppedAt v_why v_rules_flat v_rules_least v_rules_fine v_rules_deep v_arg1_size v_arg1_signs n) ih h H locs hW ls hl
set_option maxRecDepth 20000 in
theorem uX9_playPad_0 {a_this a_rules a_shelf a_tally a_act a_shelf_thick a_shelf_hollow a_shelf_damp a_shelf_fresh a_shelf_pulls a_shelf_fats a_rules_deep a_rules_fine a_rules_pay a_rules_hair a_tally_ofKind a_arg1 a_arg1_signs : Nat} (v_acts : Int32) (v_stoppedAt : Int32) (v_why : Int32) (v_act_stone : Int32) (v_act_kind : Int32) (v_act_amount : Int32) (v_shelf_there : Int32) (v_rules_flat : Int32) (v_rules_least : Int32) (v_tally_pulled : Int32) (v_tally_firstHaunted : Int32) (v_tally_haunter : Int32) (v_shelf_fresh : Nat → Int32) (v_shelf_hollow : Nat → Int32) (v_shelf_thick : Nat → Int32) (v_rules_fine : Nat → Int32) (v_shelf_damp : Nat → Int32) (v_shelf_pulls : Nat → Int32) (v_shelf_fats : Nat → Int32) (v_tally_ofKind : Nat → Int32) (v_rules_deep : Nat → Int32) (v_arg1_size : Int32) (v_arg1_signs : Nat → Int32) {res : Int32 × Int32 × Int32 × Int32 × Int32 × Int32 × Int32 × Int32 × Int32 × Int32 × (Nat → Int32) × (Nat → Int32) × (Nat → Int32) × (Nat → Int32) × (Nat → Int32) × (Nat → Int32) × (Nat → Int32)} (C : Cx p s m av meth c RX9 cX9_playPad 4 none G cI cZ cO A) (hQ : RV p l e rX9_playPad s m av below meth c G A cX9_playPad Q (wX9_playPad cI cZ a_this a_rules a_shelf a_tally a_act a_shelf_thick a_shelf_hollow a_shelf_damp a_shelf_fresh a_shelf_pulls a_shelf_fats a_rules_deep a_rules_fine a_rules_pay a_rules_hair a_tally_ofKind a_arg1 a_arg1_signs res.1 res.2.1 res.2.2.1 res.2.2.2.2.2.1 res.2.2.2.2.1 res.2.2.2.1 res.2.2.2.2.2.2.1 v_rules_flat v_rules_least res.2.2.2.2.2.2.2.2.2.1 res.2.2.2.2.2.2.2.1 res.2.2.2.2.2.2.2.2.1 res.2.2.2.2.2.2.2.2.2.2.1 res.2.2.2.2.2.2.2.2.2.2.2.1 res.2.2.2.2.2.2.2.2.2.2.2.2.1 v_rules_fine res.2.2.2.2.2.2.2.2.2.2.2.2.2.1 res.2.2.2.2.2.2.2.2.2.2.2.2.2.2.1 res.2.2.2.2.2.2.2.2.2.2.2.2.2.2.2.1 res.2.2.2.2.2.2.2.2.2.2.2.2.2.2.2.2 v_rules_deep v_arg1_size v_arg1_signs)) (h : fX9_playPad v_acts v_stoppedAt v_why v_act_stone v_act_kind v_act_amount v_shelf_there v_rules_flat v_rules_least v_tally_pulled v_tally_firstHaunted v_tally_haunter v_shelf_fresh v_shelf_hollow v_shelf_thick v_rules_fine v_shelf_damp v_shelf_pulls v_shelf_fats v_tally_ofKind v_rules_deep v_arg1_size v_arg1_signs = some res) (H : Heap) (locs : List Loc) (hW : HW G A s (wX9_playPad cI cZ a_this a_rules a_shelf a_tally a_act a_shelf_thick a_shelf_hollow a_shelf_damp a_shelf_fresh a_shelf_pulls a_shelf_fats a_rules_deep a_rules_fine a_rules_pay a_rules_hair a_tally_ofKind a_arg1 a_arg1_signs v_acts v_stoppedAt v_why v_act_stone v_act_kind v_act_amount v_shelf_there v_rules_flat v_rules_least v_tally_pulled v_tally_firstHaunted v_tally_haunter v_shelf_fresh v_shelf_hollow v_shelf_thick v_rules_fine v_shelf_damp v_shelf_pulls v_shelf_fats v_tally_ofKind v_rules_deep v_arg1_size v_arg1_signs) H locs) (ls : Array Slot) (hl : lv_has ls 4 [(0, .ref a_this), (1, .ref a_arg1)]) : W p l e rX9_playPad s m av below meth c H locs 0 0 Q (F0 m 0 ls []) := by
  have hx := C.1
  have hb := C.2.1
  unfold fX9_playPad at h
  refine lv_iconst (v := (0 : Int32)) hx hb dX9_playPad_0 (by decide) ?_
  refine lv_istore_n (lv' := [(2, .int (0 : Int32)), (0, .ref a_this), (1, .ref a_arg1)]) hx hb dX9_playPad_1 rfl hl (Nat.le_of_ble_eq_true rfl) rfl (fun ls hl => ?_)
  exact wX9_playPad_2_ v_stoppedAt v_why v_rules_flat v_rules_least v_rules_fine v_rules_deep v_arg1_size v_arg1_signs C hQ 2000 (0 : Int32) v_acts v_act_stone v_act_kind v_act_amount v_shelf_there v_tally_pulled v_tally_firstHaunted v_tally_haunter v_shelf_fresh v_shelf_hollow v_shelf_thick v_shelf_damp v_shelf_pulls v_shelf_fats v_tally_ofKind h _ _ hW _ (lv_sub hl [1, 2, 0] rfl)
theorem ctX9_playPad {l : Launch} {G : va_G} {cI cZ cO : ClassId} (a_this a_rules a_shelf a_tally a_act a_shelf_thick a_shelf_hollow a_shelf_damp a_shelf_fresh a_shelf_pulls a_shelf_fats a_rules_deep a_rules_fine a_rules_pay a_rules_hair a_tally_ofKind a_arg1 a_arg1_signs : Nat) (v_acts : Int32) (v_stoppedAt : Int32) (v_why : Int32) (v_act_stone : Int32) (v_act_kind : Int32) (v_act_amount : Int32) (v_shelf_there : Int32) (v_rules_flat : Int32) (v_rules_least : Int32) (v_tally_pulled : Int32) (v_tally_firstHaunted : Int32) (v_tally_haunter : Int32) (v_shelf_fresh : Nat → Int32) (v_shelf_hollow : Nat → Int32) (v_shelf_thick : Nat → Int32) (v_rules_fine : Nat → Int32) (v_shelf_damp : Nat → Int32) (v_shelf_pulls : Nat → Int32) (v_shelf_fats : Nat → Int32) (v_tally_ofKind : Nat → Int32) (v_rules_deep : Nat → Int32) (v_arg1_size : Int32) (v_arg1_signs : Nat → Int32) {res : Int32 × Int32 × Int32 × Int32 × Int32 × Int32 × Int32 × Int32 × Int32 × Int32 × (Nat → Int32) × (Nat → Int32) × (Nat → Int32) × (Nat → Int32) × (Nat → Int32) × (Nat → Int32) × (Nat → Int32)} (h : fX9_playPad v_acts v_stoppedAt v_why v_act_stone v_act_kind v_act_amount v_shelf_there v_rules_flat v_rules_least v_tally_pulled v_tally_firstHaunted v_tally_haunter v_shelf_fresh v_shelf_hollow v_shelf_thick v_rules_fine v_shelf_damp v_shelf_pulls v_shelf_fats v_tally_ofKind v_rules_deep v_arg1_size v_arg1_signs = some res) : MV l G cI cZ cO yX9_playPad cX9_playPad 4 rX9_playPad [.ref a_this, .ref a_arg1] (wX9_playPad cI cZ a_this a_rules a_shelf a_tally a_act a_shelf_thick a_shelf_hollow a_shelf_damp a_shelf_fresh a_shelf_pulls a_shelf_fats a_rules_deep a_rules_fine a_rules_pay a_rules_hair a_tally_ofKind a_arg1 a_arg1_signs v_acts v_stoppedAt v_why v_act_stone v_act_kind v_act_amount v_shelf_there v_rules_flat v_rules_least v_tally_pulled v_tally_firstHaunted v_tally_haunter v_shelf_fresh v_shelf_hollow v_shelf_thick v_rules_fine v_shelf_damp v_shelf_pulls v_shelf_fats v_tally_ofKind v_rules_deep v_arg1_size v_arg1_signs) (wX9_playPad cI cZ a_this a_rules a_shelf a_tally a_act a_shelf_thick a_shelf_hollow a_shelf_damp a_shelf_fresh a_shelf_pulls a_shelf_fats a_rules_deep a_rules_fine a_rules_pay a_rules_hair a_tally_ofKind a_arg1 a_arg1_signs res.1 res.2.1 res.2.2.1 res.2.2.2.2.2.1 res.2.2.2.2.1 res.2.2.2.1 res.2.2.2.2.2.2.1 v_rules_flat v_rules_least res.2.2.2.2.2.2.2.2.2.1 res.2.2.2.2.2.2.2.1 res.2.2.2.2.2.2.2.2.1 res.2.2.2.2.2.2.2.2.2.2.1 res.2.2.2.2.2.2.2.2.2.2.2.1 res.2.2.2.2.2.2.2.2.2.2.2.2.1 v_rules_fine res.2.2.2.2.2.2.2.2.2.2.2.2.2.1 res.2.2.2.2.2.2.2.2.2.2.2.2.2.2.1 res.2.2.2.2.2.2.2.2.2.2.2.2.2.2.2.1 res.2.2.2.2.2.2.2.2.2.2.2.2.2.2.2.2 v_rules_deep v_arg1_size v_arg1_signs) := by
  refine MV.of (by decide) (Nat.le_of_ble_eq_true rfl) ?_
  intro p e s m below meth c A Q C hW hQ ls hl
  exact uX9_playPad_0 v_acts v_stoppedAt v_why v_act_stone v_act_kind v_act_amount v_shelf_there v_rules_flat v_rules_least v_tally_pulled v_tally_firstHaunted v_tally_haunter v_shelf_fresh v_shelf_hollow v_shelf_thick v_rules_fine v_shelf_damp v_shelf_pulls v_shelf_fats v_tally_ofKind v_rules_deep v_arg1_size v_arg1_signs C hQ h _ _ hW _ hl
abbrev wX9_readDraw (cI cZ : ClassId) (a_this a_rules a_shelf a_tally a_act : Nat) (v_acts : Int32) (v_stoppedAt : Int32) (v_why : Int32) (v_act_stone : Int32) (v_act_kind : Int32) (v_act_amount : Int32) : va_W := [(a_this, .inr (9, [.ref a_rules, .ref a_shelf, .ref a_tally, .ref a_act, .int v_acts, .int v_stoppedAt, .int v_why])), (a_act, .inr (0, [.int v_act_stone, .int v_act_kind, .int v_act_amount]))]
abbrev rX9_readDraw : Room := { frames := 1, cells := 0, slots := 0, locals := 23 }
set_option maxRecDepth 20000 in
theorem uX9_readDraw_0 {a_this a_rules a_shelf a_tally a_act : Nat} (x1 : Int32) (v_acts : Int32) (v_stoppedAt : Int32) (v_why : Int32) (v_act_stone : Int32) (v_act_kind : Int32) (v_act_amount : Int32) {res : Int32 × Int32 × Int32} (C : Cx p s m av meth c RX9 cX9_readDraw 3 none G cI cZ cO A) (hQ : RV p l e rX9_readDraw s m av below meth c G A cX9_readDraw Q (wX9_readDraw cI cZ a_this a_rules a_shelf a_tally a_act v_acts v_stoppedAt v_why res.2.2 res.2.1 res.1)) (h : fX9_readDraw x1 = res) (H : Heap) (locs : List Loc) (hW : HW G A s (wX9_readDraw cI cZ a_this a_rules a_shelf a_tally a_act v_acts v_stoppedAt v_why v_act_stone v_act_kind v_act_amount) H locs) (ls : Array Slot) (hl : lv_has ls 3 [(0, .ref a_this), (1, .int x1)]) : W p l e rX9_readDraw s m av below meth c H locs 0 0 Q (F0 m 0 ls []) := by
  have hx := C.1
  have hb := C.2.1
  unfold fX9_readDraw at h
  refine lv_iconst (v := (1 : Int32)) hx hb dX9_readDraw_0 (by decide) ?_
  refine lv_iload_n hx hb dX9_readDraw_1 rfl (lv_at hl 1 rfl) ?_
  refine lv_bipush (v := (20 : Int32)) hx hb dX9_readDraw_2 (by decide) ?_
  refine lv_idiv hx hb dX9_readDraw_4 (by decide) ?_
  refine lv_bipush (v := (9 : Int32)) hx hb dX9_readDraw_5 (by decide) ?_
  refine lv_irem hx hb dX9_readDraw_7 (by decide) ?_
  refine lv_iadd hx hb dX9_readDraw_8 ?_
  refine lv_topi (fun v_1 ev_1 => ?_)
  have h := lt_h ev_1 h
  refine lv_istore_n (lv' := [(2, .int v_1), (0, .ref a_this), (1, .int x1)]) hx hb dX9_readDraw_9 rfl hl (Nat.le_of_ble_eq_true rfl) rfl (fun ls hl => ?_)
  refine lv_iload_n hx hb dX9_readDraw_10 rfl (lv_at hl 2 rfl) ?_
  refine lv_iconst (v := (5 : Int32)) hx hb dX9_readDraw_11 (by decide) ?_
  refine lv_idiv hx hb dX9_readDraw_12 (by decide) ?_
  refine lv_iconst (v := (4 : Int32)) hx hb dX9_readDraw_13 (by decide) ?_
  refine lv_irem hx hb dX9_readDraw_14 (by decide) ?_
  by_cases c_2 : ((x1 / (5 : Int32)) - (x1 / (5 : Int32)) / (4 : Int32) * (4 : Int32)) = (0 : Int32)
  · have h := ip_h c_2 h
    refine lv_tableIn (off := 25) (tgt := 40) hx hb dX9_readDraw_15 (by rw [c_2]; decide) (by rw [c_2]; decide) (by rw [c_2]; rfl) (by decide) ?_
    refine lv_aload_n hx hb dX9_readDraw_40 rfl (lv_at hl 1 rfl) ?_
    refine getW C fl_RX9_35 hW 0 rfl rfl dX9_readDraw_41 ?_
    refine lv_iload_n hx hb dX9_readDraw_44 rfl (lv_at hl 2 rfl) ?_
    refine lv_iconst (v := (5 : Int32)) hx hb dX9_readDraw_45 (by decide) ?_
    refine lv_irem hx hb dX9_readDraw_46 (by decide) ?_
    refine lv_iconst (v := (0 : Int32)) hx hb dX9_readDraw_47 (by decide) ?_
    refine lv_iload_n hx hb dX9_readDraw_48 rfl (lv_at hl 2 rfl) ?_
    refine lv_bipush (v := (20 : Int32)) hx hb dX9_readDraw_49 (by decide) ?_
    refine lv_idiv hx hb dX9_readDraw_51 (by decide) ?_
    refine lv_bipush (v := (8 : Int32)) hx hb dX9_readDraw_52 (by decide) ?_
    refine lv_irem hx hb dX9_readDraw_54 (by decide) ?_
    obtain ⟨v_3, ev_3⟩ : ∃ z, z = (fX0_become (x1 - x1 / (5 : Int32) * (5 : Int32)) (0 : Int32) ((x1 / (20 : Int32)) - (x1 / (20 : Int32)) / (8 : Int32) * (8 : Int32))) := ⟨_, rfl⟩
    have h := lt_h ev_3 h
    refine callVVm [1] [0] [(a_this, .inr (9, [.ref a_rules, .ref a_shelf, .ref a_tally, .ref a_act, .int v_acts, .int v_stoppedAt, .int v_why]))] (wX9_readDraw cI cZ a_this a_rules a_shelf a_tally a_act v_acts v_stoppedAt v_why v_3.2.2 v_3.2.1 v_3.1) C lk_RX9_88 (ctX0_become a_act (x1 - x1 / (5 : Int32) * (5 : Int32)) (0 : Int32) ((x1 / (20 : Int32)) - (x1 / (20 : Int32)) / (8 : Int32) * (8 : Int32)) v_act_stone v_act_kind v_act_amount ev_3.symm) hW hl 0 rfl rfl rfl rfl rfl rfl rfl rfl rfl rfl ⟨rfl, rfl⟩ ⟨(Nat.le_of_ble_eq_true rfl), (Nat.le_of_ble_eq_true rfl)⟩ ⟨Nat.zero_le _, Nat.zero_le _⟩ rfl (Nat.le_of_ble_eq_true rfl) dX9_readDraw_55 (fun H locs hW => ?_)
    refine lv_goto (tgt := 103) hx hb dX9_readDraw_58 (by decide) ?_
    subst h
    exact hQ _ _ _ _ dX9_readDraw_103 hW
  · have h := in_h c_2 h
    by_cases c_4 : ((x1 / (5 : Int32)) - (x1 / (5 : Int32)) / (4 : Int32) * (4 : Int32)) = (1 : Int32)
    · have h := ip_h c_4 h
      refine lv_tableIn (off := 46) (tgt := 61) hx hb dX9_readDraw_15 (by rw [c_4]; decide) (by rw [c_4]; decide) (by rw [c_4]; rfl) (by decide) ?_
      refine lv_aload_n hx hb dX9_readDraw_61 rfl (lv_at hl 1 rfl) ?_
      refine getW C fl_RX9_35 hW 0 rfl rfl dX9_readDraw_62 ?_
      refine lv_iload_n hx hb dX9_readDraw_65 rfl (lv_at hl 2 rfl) ?_
      refine lv_iconst (v := (5 : Int32)) hx hb dX9_readDraw_66 (by decide) ?_
      refine lv_irem hx hb dX9_readDraw_67 (by decide) ?_
      refine lv_iconst (v := (2 : Int32)) hx hb dX9_readDraw_68 (by decide) ?_
      refine lv_iload_n hx hb dX9_readDraw_69 rfl (lv_at hl 0 rfl) ?_
      obtain ⟨v_5, ev_5⟩ : ∃ z, z = (fX0_become (x1 - x1 / (5 : Int32) * (5 : Int32)) (2 : Int32) v_1) := ⟨_, rfl⟩
      have h := lt_h ev_5 h
      refine callVVm [1] [0] [(a_this, .inr (9, [.ref a_rules, .ref a_shelf, .ref a_tally, .ref a_act, .int v_acts, .int v_stoppedAt, .int v_why]))] (wX9_readDraw cI cZ a_this a_rules a_shelf a_tally a_act v_acts v_stoppedAt v_why v_5.2.2 v_5.2.1 v_5.1) C lk_RX9_88 (ctX0_become a_act (x1 - x1 / (5 : Int32) * (5 : Int32)) (2 : Int32) v_1 v_act_stone v_act_kind v_act_amount ev_5.symm) hW hl 0 rfl rfl rfl rfl rfl rfl rfl rfl rfl rfl ⟨rfl, rfl⟩ ⟨(Nat.le_of_ble_eq_true rfl), (Nat.le_of_ble_eq_true rfl)⟩ ⟨Nat.zero_le _, Nat.zero_le _⟩ rfl (Nat.le_of_ble_eq_true rfl) dX9_readDraw_70 (fun H locs hW => ?_)
      refine lv_goto (tgt := 103) hx hb dX9_readDraw_73 (by decide) ?_
      subst h
      exact hQ _ _ _ _ dX9_readDraw_103 hW
    · have h := in_h c_4 h
      by_cases c_6 : ((x1 / (5 : Int32)) - (x1 / (5 : Int32)) / (4 : Int32) * (4 : Int32)) = (2 : Int32)
      · have h := ip_h c_6 h
        refine lv_tableIn (off := 61) (tgt := 76) hx hb dX9_readDraw_15 (by rw [c_6]; decide) (by rw [c_6]; decide) (by rw [c_6]; rfl) (by decide) ?_
        refine lv_aload_n hx hb dX9_readDraw_76 rfl (lv_at hl 1 rfl) ?_
        refine getW C fl_RX9_35 hW 0 rfl rfl dX9_readDraw_77 ?_
        refine lv_iload_n hx hb dX9_readDraw_80 rfl (lv_at hl 2 rfl) ?_
        refine lv_iconst (v := (5 : Int32)) hx hb dX9_readDraw_81 (by decide) ?_
        refine lv_irem hx hb dX9_readDraw_82 (by decide) ?_
        refine lv_iconst (v := (3 : Int32)) hx hb dX9_readDraw_83 (by decide) ?_
        refine lv_iload_n hx hb dX9_readDraw_84 rfl (lv_at hl 0 rfl) ?_
        obtain ⟨v_7, ev_7⟩ : ∃ z, z = (fX0_become (x1 - x1 / (5 : Int32) * (5 : Int32)) (3 : Int32) v_1) := ⟨_, rfl⟩
        have h := lt_h ev_7 h
        refine callVVm [1] [0] [(a_this, .inr (9, [.ref a_rules, .ref a_shelf, .ref a_tally, .ref a_act, .int v_acts, .int v_stoppedAt, .int v_why]))] (wX9_readDraw cI cZ a_this a_rules a_shelf a_tally a_act v_acts v_stoppedAt v_why v_7.2.2 v_7.2.1 v_7.1) C lk_RX9_88 (ctX0_become a_act (x1 - x1 / (5 : Int32) * (5 : Int32)) (3 : Int32) v_1 v_act_stone v_act_kind v_act_amount ev_7.symm) hW hl 0 rfl rfl rfl rfl rfl rfl rfl rfl rfl rfl ⟨rfl, rfl⟩ ⟨(Nat.le_of_ble_eq_true rfl), (Nat.le_of_ble_eq_true rfl)⟩ ⟨Nat.zero_le _, Nat.zero_le _⟩ rfl (Nat.le_of_ble_eq_true rfl) dX9_readDraw_85 (fun H locs hW => ?_)
        refine lv_goto (tgt := 103) hx hb dX9_readDraw_88 (by decide) ?_
        subst h
        exact hQ _ _ _ _ dX9_readDraw_103 hW
      · have h := in_h c_6 h
        refine lv_tableOut (tgt := 91) hx hb dX9_readDraw_15 (by have t0 := ne_ti (j := 0) (by decide) c_2; have t1 := ne_ti (j := 1) (by decide) c_4; have t2 := ne_ti (j := 2) (by decide) c_6; omega) (by decide) ?_
        refine lv_aload_n hx hb dX9_readDraw_91 rfl (lv_at hl 1 rfl) ?_
        refine getW C fl_RX9_35 hW 0 rfl rfl dX9_readDraw_92 ?_
        refine lv_iload_n hx hb dX9_readDraw_95 rfl (lv_at hl 2 rfl) ?_
        refine lv_iconst (v := (5 : Int32)) hx hb dX9_readDraw_96 (by decide) ?_
        refine lv_irem hx hb dX9_readDraw_97 (by decide) ?_
        refine lv_iconst (v := (4 : Int32)) hx hb dX9_readDraw_98 (by decide) ?_
        refine lv_iload_n hx hb dX9_readDraw_99 rfl (lv_at hl 0 rfl) ?_
        obtain ⟨v_8, ev_8⟩ : ∃ z, z = (fX0_become (x1 - x1 / (5 : Int32) * (5 : Int32)) (4 : Int32) v_1) := ⟨_, rfl⟩
        have h := lt_h ev_8 h
        refine callVVm [1] [0] [(a_this, .inr (9, [.ref a_rules, .ref a_shelf, .ref a_tally, .ref a_act, .int v_acts, .int v_stoppedAt, .int v_why]))] (wX9_readDraw cI cZ a_this a_rules a_shelf a_tally a_act v_acts v_stoppedAt v_why v_8.2.2 v_8.2.1 v_8.1) C lk_RX9_88 (ctX0_become a_act (x1 - x1 / (5 : Int32) * (5 : Int32)) (4 : Int32) v_1 v_act_stone v_act_kind v_act_amount ev_8.symm) hW hl 0 rfl rfl rfl rfl rfl rfl rfl rfl rfl rfl ⟨rfl, rfl⟩ ⟨(Nat.le_of_ble_eq_true rfl), (Nat.le_of_ble_eq_true rfl)⟩ ⟨Nat.zero_le _, Nat.zero_le _⟩ rfl (Nat.le_of_ble_eq_true rfl) dX9_readDraw_100 (fun H locs hW => ?_)
        subst h
        exact hQ _ _ _ _ dX9_readDraw_103 hW
theorem ctX9_readDraw {l : Launch} {G : va_G} {cI cZ cO : ClassId} (a_this a_rules a_shelf a_tally a_act : Nat) (x1 : Int32) (v_acts : Int32) (v_stoppedAt : Int32) (v_why : Int32) (v_act_stone : Int32) (v_act_kind : Int32) (v_act_amount : Int32) {res : Int32 × Int32 × Int32} (h : fX9_readDraw x1 = res) : MV l G cI cZ cO yX9_readDraw cX9_readDraw 3 rX9_readDraw [.ref a_this, .int x1] (wX9_readDraw cI cZ a_this a_rules a_shelf a_tally a_act v_acts v_stoppedAt v_why v_act_stone v_act_kind v_act_amount) (wX9_readDraw cI cZ a_this a_rules a_shelf a_tally a_act v_acts v_stoppedAt v_why res.2.2 res.2.1 res.1) := by
  refine MV.of (by decide) (Nat.le_of_ble_eq_true rfl) ?_
  intro p e s m below meth c A Q C hW hQ ls hl
  exact uX9_readDraw_0 x1 v_acts v_stoppedAt v_why v_act_stone v_act_kind v_act_amount C hQ h _ _ hW _ hl
abbrev wX9_playYear (cI cZ : ClassId) (a_this a_rules a_shelf a_tally a_act a_shelf_thick a_shelf_hollow a_shelf_damp a_shelf_fresh a_shelf_pulls a_shelf_fats a_rules_deep a_rules_fine a_rules_pay a_rules_hair a_tally_ofKind : Nat) (v_acts : Int32) (v_stoppedAt : Int32) (v_why : Int32) (v_act_stone : Int32) (v_act_kind : Int32) (v_act_amount : Int32) (v_shelf_there : Int32) (v_rules_flat : Int32) (v_rules_least : Int32) (v_tally_pulled : Int32) (v_tally_firstHaunted : Int32) (v_tally_haunter : Int32) (v_shelf_fresh : Nat → Int32) (v_shelf_hollow : Nat → Int32) (v_shelf_thick : Nat → Int32) (v_rules_fine : Nat → Int32) (v_shelf_damp : Nat → Int32) (v_shelf_pulls : Nat → Int32) (v_shelf_fats : Nat → Int32) (v_tally_ofKind : Nat → Int32) (v_rules_deep : Nat → Int32) : va_W := [(a_this, .inr (9, [.ref a_rules, .ref a_shelf, .ref a_tally, .ref a_act, .int v_acts, .int v_stoppedAt, .int v_why])), (a_act, .inr (0, [.int v_act_stone, .int v_act_kind, .int v_act_amount])), (a_shelf, .inr (6, [.int v_shelf_there, .ref a_shelf_thick, .ref a_shelf_hollow, .ref a_shelf_damp, .ref a_shelf_fresh, .ref a_shelf_pulls, .ref a_shelf_fats])), (a_rules, .inr (5, [.int v_rules_flat, .int v_rules_least, .ref a_rules_deep, .ref a_rules_fine, .ref a_rules_pay, .ref a_rules_hair])), (a_tally, .inr (8, [.int v_tally_pulled, .int v_tally_firstHaunted, .int v_tally_haunter, .ref a_tally_ofKind])), (a_shelf_fresh, .inl (cI, 5, .inl v_shelf_fresh)), (a_shelf_hollow, .inl (cI, 5, .inl v_shelf_hollow)), (a_shelf_thick, .inl (cI, 5, .inl v_shelf_thick)), (a_rules_fine, .inl (cI, 8, .inl v_rules_fine)), (a_shelf_damp, .inl (cI, 5, .inl v_shelf_damp)), (a_shelf_pulls, .inl (cI, 5, .inl v_shelf_pulls)), (a_shelf_fats, .inl (cI, 40, .inl v_shelf_fats)), (a_tally_ofKind, .inl (cI, 5, .inl v_tally_ofKind)), (a_rules_deep, .inl (cI, 8, .inl v_rules_deep))]
abbrev rX9_playYear : Room := { frames := 4, cells := 0, slots := 0, locals := 95 }
set_option maxRecDepth 20000 in
theorem uX9_playYear_5 {a_this a_rules a_shelf a_tally a_act a_shelf_thick a_shelf_hollow a_shelf_damp a_shelf_fresh a_shelf_pulls a_shelf_fats a_rules_deep a_rules_fine a_rules_pay a_rules_hair a_tally_ofKind : Nat} (x2 : Int32) (x3 : Int32) (x4 : Int32) (v_acts : Int32) (v_stoppedAt : Int32) (v_why : Int32) (v_act_stone : Int32) (v_act_kind : Int32) (v_act_amount : Int32) (v_shelf_there : Int32) (v_rules_flat : Int32) (v_rules_least : Int32) (v_tally_pulled : Int32) (v_tally_firstHaunted : Int32) (v_tally_haunter : Int32) (v_shelf_fresh : Nat → Int32) (v_shelf_hollow : Nat → Int32) (v_shelf_thick : Nat → Int32) (v_rules_fine : Nat → Int32) (v_shelf_damp : Nat → Int32) (v_shelf_pulls : Nat → Int32) (v_shelf_fats : Nat → Int32) (v_tally_ofKind : Nat → Int32) (v_rules_deep : Nat → Int32) {res : Int32 × Int32 × Int32 × Int32 × Int32 × Int32 × Int32 × (Nat → Int32) × (Nat → Int32) × (Nat → Int32) × (Nat → Int32) × (Nat → Int32) × (Nat → Int32) × (Nat → Int32)} (C : Cx p s m av meth c RX9 cX9_playYear 5 none G cI cZ cO A) (hQ : RV p l e rX9_playYear s m av below meth c G A cX9_playYear Q (wX9_playYear cI cZ a_this a_rules a_shelf a_tally a_act a_shelf_thick a_shelf_hollow a_shelf_damp a_shelf_fresh a_shelf_pulls a_shelf_fats a_rules_deep a_rules_fine a_rules_pay a_rules_hair a_tally_ofKind v_acts v_stoppedAt v_why res.2.2.1 res.2.1 res.1 res.2.2.2.1 v_rules_flat v_rules_least res.2.2.2.2.2.2.1 res.2.2.2.2.1 res.2.2.2.2.2.1 res.2.2.2.2.2.2.2.1 res.2.2.2.2.2.2.2.2.1 res.2.2.2.2.2.2.2.2.2.1 v_rules_fine res.2.2.2.2.2.2.2.2.2.2.1 res.2.2.2.2.2.2.2.2.2.2.2.1 res.2.2.2.2.2.2.2.2.2.2.2.2.1 res.2.2.2.2.2.2.2.2.2.2.2.2.2 v_rules_deep)) {k5 : (Int32) → (Int32) → (Int32) → (Int32) → (Int32) → (Int32) → (Int32) → (Int32) → (Int32) → (Nat → Int32) → (Nat → Int32) → (Nat → Int32) → (Nat → Int32) → (Nat → Int32) → (Nat → Int32) → (Nat → Int32) → Option (Int32 × Int32 × Int32 × Int32 × Int32 × Int32 × Int32 × (Nat → Int32) × (Nat → Int32) × (Nat → Int32) × (Nat → Int32) × (Nat → Int32) × (Nat → Int32) × (Nat → Int32))} (hk5 : ∀ (x3 : Int32) (x4 : Int32) (v_act_stone : Int32) (v_act_kind : Int32) (v_act_amount : Int32) (v_shelf_there : Int32) (v_tally_pulled : Int32) (v_tally_firstHaunted : Int32) (v_tally_haunter : Int32) (v_shelf_fresh : Nat → Int32) (v_shelf_hollow : Nat → Int32) (v_shelf_thick : Nat → Int32) (v_shelf_damp : Nat → Int32) (v_shelf_pulls : Nat → Int32) (v_shelf_fats : Nat → Int32) (v_tally_ofKind : Nat → Int32), k5 x3 x4 v_act_stone v_act_kind v_act_amount v_shelf_there v_tally_pulled v_tally_firstHaunted v_tally_haunter v_shelf_fresh v_shelf_hollow v_shelf_thick v_shelf_damp v_shelf_pulls v_shelf_fats v_tally_ofKind = some res → ∀ (H : Heap) (locs : List Loc), HW G A s (wX9_playYear cI cZ a_this a_rules a_shelf a_tally a_act a_shelf_thick a_shelf_hollow a_shelf_damp a_shelf_fresh a_shelf_pulls a_shelf_fats a_rules_deep a_rules_fine a_rules_pay a_rules_hair a_tally_ofKind v_acts v_stoppedAt v_why v_act_stone v_act_kind v_act_amount v_shelf_there v_rules_flat v_rules_least v_tally_pulled v_tally_firstHaunted v_tally_haunter v_shelf_fresh v_shelf_hollow v_shelf_thick v_rules_fine v_shelf_damp v_shelf_pulls v_shelf_fats v_tally_ofKind v_rules_deep) H locs → ∀ ls : Array Slot, lv_has ls 5 [(0, .ref a_this), (2, .int x2), (3, .int x3), (4, .int x4)] → W p l e rX9_playYear s m av below meth c H locs 0 0 Q (F0 m 5 ls [])) (h : FX9_playYear_5 x2 v_rules_flat v_rules_least v_rules_fine v_rules_deep k5 x3 x4 v_act_stone v_act_kind v_act_amount v_shelf_there v_tally_pulled v_tally_firstHaunted v_tally_haunter v_shelf_fresh v_shelf_hollow v_shelf_thick v_shelf_damp v_shelf_pulls v_shelf_fats v_tally_ofKind = some res) (H : Heap) (locs : List Loc) (hW : HW G A s (wX9_playYear cI cZ a_this a_rules a_shelf a_tally a_act a_shelf_thick a_shelf_hollow a_shelf_damp a_shelf_fresh a_shelf_pulls a_shelf_fats a_rules_deep a_rules_fine a_rules_pay a_rules_hair a_tally_ofKind v_acts v_stoppedAt v_why v_act_stone v_act_kind v_act_amount v_shelf_there v_rules_flat v_rules_least v_tally_pulled v_tally_firstHaunted v_tally_haunter v_shelf_fresh v_shelf_hollow v_shelf_thick v_rules_fine v_shelf_damp v_shelf_pulls v_shelf_fats v_tally_ofKind v_rules_deep) H locs) (ls : Array Slot) (hl : lv_has ls 5 [(0, .ref a_this), (2, .int x2), (3, .int x3), (4, .int x4)]) : W p l e rX9_playYear s m av below meth c H locs 0 0 Q (F0 m 5 ls []) := by
  have hx := C.1
  have hb := C.2.1
  unfold FX9_playYear_5 at h
  refine lv_iload hx hb dX9_playYear_5 (lv_at hl 3 rfl) ?_
  refine lv_iload_n hx hb dX9_playYear_7 rfl (lv_at hl 1 rfl) ?_
  refine lv_icmp_ge (tgt := 44) hx hb dX9_playYear_8 (by decide) (fun c_1 => ?_) (fun c_1 => ?_)
  · have h := ip_h c_1 h
    obtain rfl := Option.some.inj h
    exact hQ _ _ _ _ dX9_playYear_44 hW
  · have h := in_h c_1 h
    refine lv_bipush (v := (75 : Int32)) hx hb dX9_playYear_11 (by decide) ?_
    refine lv_iload_n hx hb dX9_playYear_13 rfl (lv_at hl 2 rfl) ?_
    refine lv_imul hx hb dX9_playYear_14 ?_
    refine lv_bipush (v := (74 : Int32)) hx hb dX9_playYear_15 (by decide) ?_
    refine lv_iadd hx hb dX9_playYear_17 ?_
    refine lv_ldc (v := (65537 : Int32)) hx hb C.2.2.2.2.2.1 (C.2.2.2.2.1 _ wd_727) dX9_playYear_18 ?_
    refine lv_irem hx hb dX9_playYear_20 (by decide) ?_
    refine lv_topi (fun v_2 ev_2 => ?_)
    have h := lt_h ev_2 h
    refine lv_istore_n (lv' := [(3, .int v_2), (0, .ref a_this), (2, .int x2), (4, .int x4)]) hx hb dX9_playYear_21 rfl hl (Nat.le_of_ble_eq_true rfl) rfl (fun ls hl => ?_)
    refine lv_aload_n hx hb dX9_playYear_22 rfl (lv_at hl 1 rfl) ?_
    refine lv_iload_n hx hb dX9_playYear_23 rfl (lv_at hl 0 rfl) ?_
    obtain ⟨v_3, ev_3⟩ : ∃ z, z = (fX9_readDraw v_2) := ⟨_, rfl⟩
    have h := lt_h ev_3 h
    refine callVVm [0, 1] [2, 3, 4, 5, 6, 7, 8, 9, 10, 11, 12, 13] [(a_shelf, .inr (6, [.int v_shelf_there, .ref a_shelf_thick, .ref a_shelf_hollow, .ref a_shelf_damp, .ref a_shelf_fresh, .ref a_shelf_pulls, .ref a_shelf_fats])), (a_rules, .inr (5, [.int v_rules_flat, .int v_rules_least, .ref a_rules_deep, .ref a_rules_fine, .ref a_rules_pay, .ref a_rules_hair])), (a_tally, .inr (8, [.int v_tally_pulled, .int v_tally_firstHaunted, .int v_tally_haunter, .ref a_tally_ofKind])), (a_shelf_fresh, .inl (cI, 5, .inl v_shelf_fresh)), (a_shelf_hollow, .inl (cI, 5, .inl v_shelf_hollow)), (a_shelf_thick, .inl (cI, 5, .inl v_shelf_thick)), (a_rules_fine, .inl (cI, 8, .inl v_rules_fine)), (a_shelf_damp, .inl (cI, 5, .inl v_shelf_damp)), (a_shelf_pulls, .inl (cI, 5, .inl v_shelf_pulls)), (a_shelf_fats, .inl (cI, 40, .inl v_shelf_fats)), (a_tally_ofKind, .inl (cI, 5, .inl v_tally_ofKind)), (a_rules_deep, .inl (cI, 8, .inl v_rules_deep))] (wX9_playYear cI cZ a_this a_rules a_shelf a_tally a_act a_shelf_thick a_shelf_hollow a_shelf_damp a_shelf_fresh a_shelf_pulls a_shelf_fats a_rules_deep a_rules_fine a_rules_pay a_rules_hair a_tally_ofKind v_acts v_stoppedAt v_why v_3.2.2 v_3.2.1 v_3.1 v_shelf_there v_rules_flat v_rules_least v_tally_pulled v_tally_firstHaunted v_tally_haunter v_shelf_fresh v_shelf_hollow v_shelf_thick v_rules_fine v_shelf_damp v_shelf_pulls v_shelf_fats v_tally_ofKind v_rules_deep) C lk_RX9_84 (ctX9_readDraw a_this a_rules a_shelf a_tally a_act v_2 v_acts v_stoppedAt v_why v_act_stone v_act_kind v_act_amount ev_3.symm) hW hl 9 rfl rfl rfl rfl rfl rfl rfl rfl rfl rfl ⟨rfl, rfl⟩ ⟨(Nat.le_of_ble_eq_true rfl), (Nat.le_of_ble_eq_true rfl)⟩ ⟨Nat.zero_le _, Nat.zero_le _⟩ rfl (Nat.le_of_ble_eq_true rfl) dX9_playYear_24 (fun H locs hW => ?_)
    refine lv_aload_n hx hb dX9_playYear_27 rfl (lv_at hl 1 rfl) ?_
    obtain ⟨v_4, hv_4, h⟩ := bd_h h
    refine callVIr [0, 1, 2, 3, 5, 6, 7] C lk_RX9_72 (ctX9_reasonAgainst a_this a_rules a_shelf a_tally a_act a_shelf_thick a_shelf_hollow a_shelf_damp a_shelf_fresh a_shelf_pulls a_shelf_fats a_rules_deep a_rules_fine a_rules_pay a_rules_hair v_acts v_stoppedAt v_why v_3.2.2 v_3.2.1 v_3.1 v_shelf_there v_rules_flat v_rules_least v_shelf_fresh v_shelf_hollow v_shelf_thick hv_4) hW hl 9 rfl rfl rfl rfl rfl ⟨rfl, rfl⟩ ⟨(Nat.le_of_ble_eq_true rfl), (Nat.le_of_ble_eq_true rfl)⟩ ⟨Nat.zero_le _, Nat.zero_le _⟩ rfl (Nat.le_of_ble_eq_true rfl) dX9_playYear_28 (fun H locs hW => ?_)
    refine lv_if_ne (tgt := 38) hx hb dX9_playYear_31 (by decide) (fun c_5 => ?_) (fun c_5 => ?_)
    · have h := in_h c_5 h
      obtain ⟨v_6, ev_6⟩ : ∃ y : Int32, y = x4 + (1 : Int32) := ⟨_, rfl⟩
      have h := lt_h ev_6 h
      refine lv_iinc (v := v_6) (lv' := [(4, .int v_6), (3, .int v_2), (0, .ref a_this), (2, .int x2)]) hx hb dX9_playYear_38 hl (k := 3) rfl (by rw [ev_6]; rfl) (Nat.le_of_ble_eq_true rfl) rfl (fun ls hl => ?_)
      refine lv_goto (tgt := 5) hx hb dX9_playYear_41 (by decide) ?_
      exact hk5 v_2 v_6 v_3.2.2 v_3.2.1 v_3.1 v_shelf_there v_tally_pulled v_tally_firstHaunted v_tally_haunter v_shelf_fresh v_shelf_hollow v_shelf_thick v_shelf_damp v_shelf_pulls v_shelf_fats v_tally_ofKind h _ _ hW _ (lv_sub hl [2, 3, 1, 0] rfl)
    · have h := ip_h c_5 h
      refine lv_aload_n hx hb dX9_playYear_34 rfl (lv_at hl 1 rfl) ?_
      obtain ⟨v_7, hv_7, h⟩ := bd_h h
      refine callVVm [0, 1, 2, 3, 4, 7, 5, 8, 9, 10, 11, 12, 6, 13] [] [] (wX9_playYear cI cZ a_this a_rules a_shelf a_tally a_act a_shelf_thick a_shelf_hollow a_shelf_damp a_shelf_fresh a_shelf_pulls a_shelf_fats a_rules_deep a_rules_fine a_rules_pay a_rules_hair a_tally_ofKind v_acts v_stoppedAt v_why v_3.2.2 v_3.2.1 v_3.1 v_7.1 v_rules_flat v_rules_least v_7.2.2.2.1 v_7.2.1 v_7.2.2.1 v_7.2.2.2.2.2.1 v_7.2.2.2.2.2.2.2.2.2.2 v_7.2.2.2.2.1 v_rules_fine v_7.2.2.2.2.2.2.1 v_7.2.2.2.2.2.2.2.1 v_7.2.2.2.2.2.2.2.2.1 v_7.2.2.2.2.2.2.2.2.2.1 v_rules_deep) C lk_RX9_76 (ctX9_carryOut a_this a_rules a_shelf a_tally a_act a_shelf_thick a_shelf_hollow a_shelf_damp a_shelf_fresh a_shelf_pulls a_shelf_fats a_rules_deep a_rules_fine a_rules_pay a_rules_hair a_tally_ofKind v_acts v_stoppedAt v_why v_3.2.2 v_3.2.1 v_3.1 v_shelf_there v_rules_flat v_rules_least v_tally_pulled v_tally_firstHaunted v_tally_haunter v_shelf_thick v_shelf_fresh v_rules_fine v_shelf_damp v_shelf_pulls v_shelf_fats v_tally_ofKind v_shelf_hollow v_rules_deep hv_7) hW hl 9 rfl rfl rfl rfl rfl rfl rfl rfl rfl rfl ⟨rfl, rfl⟩ ⟨(Nat.le_of_ble_eq_true rfl), (Nat.le_of_ble_eq_true rfl)⟩ ⟨Nat.zero_le _, Nat.zero_le _⟩ rfl (Nat.le_of_ble_eq_true rfl) dX9_playYear_35 (fun H locs hW => ?_)
      obtain ⟨v_8, ev_8⟩ : ∃ y : Int32, y = x4 + (1 : Int32) := ⟨_, rfl⟩
      have h := lt_h ev_8 h
      refine lv_iinc (v := v_8) (lv' := [(4, .int v_8), (3, .int v_2), (0, .ref a_this), (2, .int x2)]) hx hb dX9_playYear_38 hl (k := 3) rfl (by rw [ev_8]; rfl) (Nat.le_of_ble_eq_true rfl) rfl (fun ls hl => ?_)
      refine lv_goto (tgt := 5) hx hb dX9_playYear_41 (by decide) ?_
      exact hk5 v_2 v_8 v_3.2.2 v_3.2.1 v_3.1 v_7.1 v_7.2.2.2.1 v_7.2.1 v_7.2.2.1 v_7.2.2.2.2.2.1 v_7.2.2.2.2.2.2.2.2.2.2 v_7.2.2.2.2.1 v_7.2.2.2.2.2.2.1 v_7.2.2.2.2.2.2.2.1 v_7.2.2.2.2.2.2.2.2.1 v_7.2.2.2.2.2.2.2.2.2.1 h _ _ hW _ (lv_sub hl [2, 3, 1, 0] rfl)
theorem wX9_playYear_5_ {a_this a_rules a_shelf a_tally a_act a_shelf_thick a_shelf_hollow a_shelf_damp a_shelf_fresh a_shelf_pulls a_shelf_fats a_rules_deep a_rules_fine a_rules_pay a_rules_hair a_tally_ofKind : Nat} (x2 : Int32) (v_acts : Int32) (v_stoppedAt : Int32) (v_why : Int32) (v_rules_flat : Int32) (v_rules_least : Int32) (v_rules_fine : Nat → Int32) (v_rules_deep : Nat → Int32) {res : Int32 × Int32 × Int32 × Int32 × Int32 × Int32 × Int32 × (Nat → Int32) × (Nat → Int32) × (Nat → Int32) × (Nat → Int32) × (Nat → Int32) × (Nat → Int32) × (Nat → Int32)} (C : Cx p s m av meth c RX9 cX9_playYear 5 none G cI cZ cO A) (hQ : RV p l e rX9_playYear s m av below meth c G A cX9_playYear Q (wX9_playYear cI cZ a_this a_rules a_shelf a_tally a_act a_shelf_thick a_shelf_hollow a_shelf_damp a_shelf_fresh a_shelf_pulls a_shelf_fats a_rules_deep a_rules_fine a_rules_pay a_rules_hair a_tally_ofKind v_acts v_stoppedAt v_why res.2.2.1 res.2.1 res.1 res.2.2.2.1 v_rules_flat v_rules_least res.2.2.2.2.2.2.1 res.2.2.2.2.1 res.2.2.2.2.2.1 res.2.2.2.2.2.2.2.1 res.2.2.2.2.2.2.2.2.1 res.2.2.2.2.2.2.2.2.2.1 v_rules_fine res.2.2.2.2.2.2.2.2.2.2.1 res.2.2.2.2.2.2.2.2.2.2.2.1 res.2.2.2.2.2.2.2.2.2.2.2.2.1 res.2.2.2.2.2.2.2.2.2.2.2.2.2 v_rules_deep)) : ∀ (n : Nat) (x3 : Int32) (x4 : Int32) (v_act_stone : Int32) (v_act_kind : Int32) (v_act_amount : Int32) (v_shelf_there : Int32) (v_tally_pulled : Int32) (v_tally_firstHaunted : Int32) (v_tally_haunter : Int32) (v_shelf_fresh : Nat → Int32) (v_shelf_hollow : Nat → Int32) (v_shelf_thick : Nat → Int32) (v_shelf_damp : Nat → Int32) (v_shelf_pulls : Nat → Int32) (v_shelf_fats : Nat → Int32) (v_tally_ofKind : Nat → Int32), LX9_playYear_5 x2 v_rules_flat v_rules_least v_rules_fine v_rules_deep n x3 x4 v_act_stone v_act_kind v_act_amount v_shelf_there v_tally_pulled v_tally_firstHaunted v_tally_haunter v_shelf_fresh v_shelf_hollow v_shelf_thick v_shelf_damp v_shelf_pulls v_shelf_fats v_tally_ofKind = some res → ∀ (H : Heap) (locs : List Loc), HW G A s (wX9_playYear cI cZ a_this a_rules a_shelf a_tally a_act a_shelf_thick a_shelf_hollow a_shelf_damp a_shelf_fresh a_shelf_pulls a_shelf_fats a_rules_deep a_rules_fine a_rules_pay a_rules_hair a_tally_ofKind v_acts v_stoppedAt v_why v_act_stone v_act_kind v_act_amount v_shelf_there v_rules_flat v_rules_least v_tally_pulled v_tally_firstHaunted v_tally_haunter v_shelf_fresh v_shelf_hollow v_shelf_thick v_rules_fine v_shelf_damp v_shelf_pulls v_shelf_fats v_tally_ofKind v_rules_deep) H locs → ∀ ls : Array Slot, lv_has ls 5 [(0, .ref a_this), (2, .int x2), (3, .int x3), (4, .int x4)] → W p l e rX9_playYear s m av below meth c H locs 0 0 Q (F0 m 5 ls []) := by
  intro n
  induction n with
  | zero => intro x3 x4 v_act_stone v_act_kind v_act_amount v_shelf_there v_tally_pulled v_tally_firstHaunted v_tally_haunter v_shelf_fresh v_shelf_hollow v_shelf_thick v_shelf_damp v_shelf_pulls v_shelf_fats v_tally_ofKind h; cases h
  | succ n ih =>
    intro x3 x4 v_act_stone v_act_kind v_act_amount v_shelf_there v_tally_pulled v_tally_firstHaunted v_tally_haunter v_shelf_fresh v_shelf_hollow v_shelf_thick v_shelf_damp v_shelf_pulls v_shelf_fats v_tally_ofKind h H locs hW ls hl
    exact uX9_playYear_5 x2 x3 x4 v_acts v_stoppedAt v_why v_act_stone v_act_kind v_act_amount v_shelf_there v_rules_flat v_rules_least v_tally_pulled v_tally_firstHaunted v_tally_haunter v_shelf_fresh v_shelf_hollow v_shelf_thick v_rules_fine v_shelf_damp v_shelf_pulls v_shelf_fats v_tally_ofKind v_rules_deep C hQ (k5 := LX9_playYear_5 x2 v_rules_flat v_rules_least v_rules_fine v_rules_deep n) ih h H locs hW ls hl
set_option maxRecDepth 20000 in
theorem uX9_playYear_0 {a_this a_rules a_shelf a_tally a_act a_shelf_thick a_shelf_hollow a_shelf_damp a_shelf_fresh a_shelf_pulls a_shelf_fats a_rules_deep a_rules_fine a_rules_pay a_rules_hair a_tally_ofKind : Nat} (x1 : Int32) (x2 : Int32) (v_acts : Int32) (v_stoppedAt : Int32) (v_why : Int32) (v_act_stone : Int32) (v_act_kind : Int32) (v_act_amount : Int32) (v_shelf_there : Int32) (v_rules_flat : Int32) (v_rules_least : Int32) (v_tally_pulled : Int32) (v_tally_firstHaunted : Int32) (v_tally_haunter : Int32) (v_shelf_fresh : Nat → Int32) (v_shelf_hollow : Nat → Int32) (v_shelf_thick : Nat → Int32) (v_rules_fine : Nat → Int32) (v_shelf_damp : Nat → Int32) (v_shelf_pulls : Nat → Int32) (v_shelf_fats : Nat → Int32) (v_tally_ofKind : Nat → Int32) (v_rules_deep : Nat → Int32) {res : Int32 × Int32 × Int32 × Int32 × Int32 × Int32 × Int32 × (Nat → Int32) × (Nat → Int32) × (Nat → Int32) × (Nat → Int32) × (Nat → Int32) × (Nat → Int32) × (Nat → Int32)} (C : Cx p s m av meth c RX9 cX9_playYear 5 none G cI cZ cO A) (hQ : RV p l e rX9_playYear s m av below meth c G A cX9_playYear Q (wX9_playYear cI cZ a_this a_rules a_shelf a_tally a_act a_shelf_thick a_shelf_hollow a_shelf_damp a_shelf_fresh a_shelf_pulls a_shelf_fats a_rules_deep a_rules_fine a_rules_pay a_rules_hair a_tally_ofKind v_acts v_stoppedAt v_why res.2.2.1 res.2.1 res.1 res.2.2.2.1 v_rules_flat v_rules_least res.2.2.2.2.2.2.1 res.2.2.2.2.1 res.2.2.2.2.2.1 res.2.2.2.2.2.2.2.1 res.2.2.2.2.2.2.2.2.1 res.2.2.2.2.2.2.2.2.2.1 v_rules_fine res.2.2.2.2.2.2.2.2.2.2.1 res.2.2.2.2.2.2.2.2.2.2.2.1 res.2.2.2.2.2.2.2.2.2.2.2.2.1 res.2.2.2.2.2.2.2.2.2.2.2.2.2 v_rules_deep)) (h : fX9_playYear x1 x2 v_act_stone v_act_kind v_act_amount v_shelf_there v_rules_flat v_rules_least v_tally_pulled v_tally_firstHaunted v_tally_haunter v_shelf_fresh v_shelf_hollow v_shelf_thick v_rules_fine v_shelf_damp v_shelf_pulls v_shelf_fats v_tally_ofKind v_rules_deep = some res) (H : Heap) (locs : List Loc) (hW : HW G A s (wX9_playYear cI cZ a_this a_rules a_shelf a_tally a_act a_shelf_thick a_shelf_hollow a_shelf_damp a_shelf_fresh a_shelf_pulls a_shelf_fats a_rules_deep a_rules_fine a_rules_pay a_rules_hair a_tally_ofKind v_acts v_stoppedAt v_why v_act_stone v_act_kind v_act_amount v_shelf_there v_rules_flat v_rules_least v_tally_pulled v_tally_firstHaunted v_tally_haunter v_shelf_fresh v_shelf_hollow v_shelf_thick v_rules_fine v_shelf_damp v_shelf_pulls v_shelf_fats v_tally_ofKind v_rules_deep) H locs) (ls : Array Slot) (hl : lv_has ls 5 [(0, .ref a_this), (1, .int x1), (2, .int x2)]) : W p l e rX9_playYear s m av below meth c H locs 0 0 Q (F0 m 0 ls []) := by
  have hx := C.1
  have hb := C.2.1
  unfold fX9_playYear at h
  refine lv_iload_n hx hb dX9_playYear_0 rfl (lv_at hl 1 rfl) ?_
  refine lv_istore_n (lv' := [(3, .int x1), (0, .ref a_this), (1, .int x1), (2, .int x2)]) hx hb dX9_playYear_1 rfl hl (Nat.le_of_ble_eq_true rfl) rfl (fun ls hl => ?_)
  refine lv_iconst (v := (0 : Int32)) hx hb dX9_playYear_2 (by decide) ?_
  refine lv_istore (lv' := [(4, .int (0 : Int32)), (3, .int x1), (0, .ref a_this), (1, .int x1), (2, .int x2)]) hx hb dX9_playYear_3 hl (Nat.le_of_ble_eq_true rfl) rfl (fun ls hl => ?_)
  exact wX9_playYear_5_ x2 v_acts v_stoppedAt v_why v_rules_flat v_rules_least v_rules_fine v_rules_deep C hQ 2000 x1 (0 : Int32) v_act_stone v_act_kind v_act_amount v_shelf_there v_tally_pulled v_tally_firstHaunted v_tally_haunter v_shelf_fresh v_shelf_hollow v_shelf_thick v_shelf_damp v_shelf_pulls v_shelf_fats v_tally_ofKind h _ _ hW _ (lv_sub hl [2, 4, 1, 0] rfl)
theorem ctX9_playYear {l : Launch} {G : va_G} {cI cZ cO : ClassId} (a_this a_rules a_shelf a_tally a_act a_shelf_thick a_shelf_hollow a_shelf_damp a_shelf_fresh a_shelf_pulls a_shelf_fats a_rules_deep a_rules_fine a_rules_pay a_rules_hair a_tally_ofKind : Nat) (x1 : Int32) (x2 : Int32) (v_acts : Int32) (v_stoppedAt : Int32) (v_why : Int32) (v_act_stone : Int32) (v_act_kind : Int32) (v_act_amount : Int32) (v_shelf_there : Int32) (v_rules_flat : Int32) (v_rules_least : Int32) (v_tally_pulled : Int32) (v_tally_firstHaunted : Int32) (v_tally_haunter : Int32) (v_shelf_fresh : Nat → Int32) (v_shelf_hollow : Nat → Int32) (v_shelf_thick : Nat → Int32) (v_rules_fine : Nat → Int32) (v_shelf_damp : Nat → Int32) (v_shelf_pulls : Nat → Int32) (v_shelf_fats : Nat → Int32) (v_tally_ofKind : Nat → Int32) (v_rules_deep : Nat → Int32) {res : Int32 × Int32 × Int32 × Int32 × Int32 × Int32 × Int32 × (Nat → Int32) × (Nat → Int32) × (Nat → Int32) × (Nat → Int32) × (Nat → Int32) × (Nat → Int32) × (Nat → Int32)} (h : fX9_playYear x1 x2 v_act_stone v_act_kind v_act_amount v_shelf_there v_rules_flat v_rules_least v_tally_pulled v_tally_firstHaunted v_tally_haunter v_shelf_fresh v_shelf_hollow v_shelf_thick v_rules_fine v_shelf_damp v_shelf_pulls v_shelf_fats v_tally_ofKind v_rules_deep = some res) : MV l G cI cZ cO yX9_playYear cX9_playYear 5 rX9_playYear [.ref a_this, .int x1, .int x2] (wX9_playYear cI cZ a_this a_rules a_shelf a_tally a_act a_shelf_thick a_shelf_hollow a_shelf_damp a_shelf_fresh a_shelf_pulls a_shelf_fats a_rules_deep a_rules_fine a_rules_pay a_rules_hair a_tally_ofKind v_acts v_stoppedAt v_why v_act_stone v_act_kind v_act_amount v_shelf_there v_rules_flat v_rules_least v_tally_pulled v_tally_firstHaunted v_tally_haunter v_shelf_fresh v_shelf_hollow v_shelf_thick v_rules_fine v_shelf_damp v_shelf_pulls v_shelf_fats v_tally_ofKind v_rules_deep) (wX9_playYear cI cZ a_this a_rules a_shelf a_tally a_act a_shelf_thick a_shelf_hollow a_shelf_damp a_shelf_fresh a_shelf_pulls a_shelf_fats a_rules_deep a_rules_fine a_rules_pay a_rules_hair a_tally_ofKind v_acts v_stoppedAt v_why res.2.2.1 res.2.1 res.1 res.2.2.2.1 v_rules_flat v_rules_least res.2.2.2.2.2.2.1 res.2.2.2.2.1 res.2.2.2.2.2.1 res.2.2.2.2.2.2.2.1 res.2.2.2.2.2.2.2.2.1 res.2.2.2.2.2.2.2.2.2.1 v_rules_fine res.2.2.2.2.2.2.2.2.2.2.1 res.2.2.2.2.2.2.2.2.2.2.2.1 res.2.2.2.2.2.2.2.2.2.2.2.2.1 res.2.2.2.2.2.2.2.2.2.2.2.2.2 v_rules_deep) := by
  refine MV.of (by decide) (Nat.le_of_ble_eq_true rfl) ?_
  intro p e s m below meth c A Q C hW hQ ls hl
  exact uX9_playYear_0 x1 x2 v_acts v_stoppedAt v_why v_act_stone v_act_kind v_act_amount v_shelf_there v_rules_flat v_rules_least v_tally_pulled v_tally_firstHaunted v_tally_haunter v_shelf_fresh v_shelf_hollow v_shelf_thick v_rules_fine v_shelf_damp v_shelf_pulls v_shelf_fats v_tally_ofKind v_rules_deep C hQ h _ _ hW _ hl
abbrev wX10_stone (cI cZ : ClassId) (a_this a_room a_pad a_trial a_orderTable a_colourTable a_images a_room_shelf a_room_rules a_room_sights a_room_shelf_thick a_room_shelf_hollow a_room_shelf_damp a_room_shelf_fresh a_room_shelf_pulls a_room_shelf_fats : Nat) (v_room_shelf_there : Int32) (v_room_shelf_thick : Nat → Int32) (v_room_shelf_hollow : Nat → Int32) (v_room_shelf_damp : Nat → Int32) (v_room_shelf_fresh : Nat → Int32) (v_room_shelf_pulls : Nat → Int32) (v_room_shelf_fats : Nat → Int32) : va_W := [(a_this, .inr (10, [.ref a_room, .ref a_pad, .ref a_trial, .ref a_orderTable, .ref a_colourTable, .ref a_images])), (a_room, .inr (4, [.ref a_room_shelf, .ref a_room_rules, .ref a_room_sights])), (a_room_shelf, .inr (6, [.int v_room_shelf_there, .ref a_room_shelf_thick, .ref a_room_shelf_hollow, .ref a_room_shelf_damp, .ref a_room_shelf_fresh, .ref a_room_shelf_pulls, .ref a_room_shelf_fats])), (a_room_shelf_thick, .inl (cI, 5, .inl v_room_shelf_thick)), (a_room_shelf_hollow, .inl (cI, 5, .inl v_room_shelf_hollow)), (a_room_shelf_damp, .inl (cI, 5, .inl v_room_shelf_damp)), (a_room_shelf_fresh, .inl (cI, 5, .inl v_room_shelf_fresh)), (a_room_shelf_pulls, .inl (cI, 5, .inl v_room_shelf_pulls)), (a_room_shelf_fats, .inl (cI, 40, .inl v_room_shelf_fats))]
abbrev rX10_stone : Room := { frames := 2, cells := 0, slots := 0, locals := 47 }
set_option maxRecDepth 20000 in
theorem uX10_stone_0 {a_this a_room a_pad a_trial a_orderTable a_colourTable a_images a_room_shelf a_room_rules a_room_sights a_room_shelf_thick a_room_shelf_hollow a_room_shelf_damp a_room_shelf_fresh a_room_shelf_pulls a_room_shelf_fats : Nat} (x1 : Int32) (x2 : Int32) (x3 : Int32) (x4 : Int32) (v_room_shelf_there : Int32) (v_room_shelf_thick : Nat → Int32) (v_room_shelf_hollow : Nat → Int32) (v_room_shelf_damp : Nat → Int32) (v_room_shelf_fresh : Nat → Int32) (v_room_shelf_pulls : Nat → Int32) (v_room_shelf_fats : Nat → Int32) {res : Int32 × Int32 × (Nat → Int32) × (Nat → Int32) × (Nat → Int32) × (Nat → Int32) × (Nat → Int32) × (Nat → Int32)} (C : Cx p s m av meth c RX10 cX10_stone 5 (some .int) G cI cZ cO A) (hQ : RI p l e rX10_stone s m av below meth c G A cX10_stone .int Q (res.1) (wX10_stone cI cZ a_this a_room a_pad a_trial a_orderTable a_colourTable a_images a_room_shelf a_room_rules a_room_sights a_room_shelf_thick a_room_shelf_hollow a_room_shelf_damp a_room_shelf_fresh a_room_shelf_pulls a_room_shelf_fats res.2.1 res.2.2.1 res.2.2.2.1 res.2.2.2.2.1 res.2.2.2.2.2.1 res.2.2.2.2.2.2.1 res.2.2.2.2.2.2.2)) (h : fX10_stone x1 x2 x3 x4 v_room_shelf_there v_room_shelf_thick v_room_shelf_hollow v_room_shelf_damp v_room_shelf_fresh v_room_shelf_pulls v_room_shelf_fats = some res) (H : Heap) (locs : List Loc) (hW : HW G A s (wX10_stone cI cZ a_this a_room a_pad a_trial a_orderTable a_colourTable a_images a_room_shelf a_room_rules a_room_sights a_room_shelf_thick a_room_shelf_hollow a_room_shelf_damp a_room_shelf_fresh a_room_shelf_pulls a_room_shelf_fats v_room_shelf_there v_room_shelf_thick v_room_shelf_hollow v_room_shelf_damp v_room_shelf_fresh v_room_shelf_pulls v_room_shelf_fats) H locs) (ls : Array Slot) (hl : lv_has ls 5 [(0, .ref a_this), (1, .int x1), (2, .int x2), (3, .int x3), (4, .int x4)]) : W p l e rX10_stone s m av below meth c H locs 0 0 Q (F0 m 0 ls []) := by
  have hx := C.1
  have hb := C.2.1
  unfold fX10_stone at h
  refine lv_iload_n hx hb dX10_stone_0 rfl (lv_at hl 1 rfl) ?_
  refine lv_iconst (v := (0 : Int32)) hx hb dX10_stone_1 (by decide) ?_
  refine lv_iconst (v := (4 : Int32)) hx hb dX10_stone_2 (by decide) ?_
  refine callSI0 C lk_RX10_48 (ctX10_inside x1 (0 : Int32) (4 : Int32) rfl) hW hl rfl ⟨rfl, rfl⟩ ⟨(Nat.le_of_ble_eq_true rfl), (Nat.le_of_ble_eq_true rfl)⟩ ⟨Nat.zero_le _, Nat.zero_le _⟩ rfl (Nat.le_of_ble_eq_true rfl) dX10_stone_3 (fun H locs hW => ?_)
  refine lv_if_ne (tgt := 11) hx hb dX10_stone_6 (by decide) (fun c_1 => ?_) (fun c_1 => ?_)
  · have h := in_h c_1 h
    refine lv_iload_n hx hb dX10_stone_11 rfl (lv_at hl 2 rfl) ?_
    refine lv_iconst (v := (0 : Int32)) hx hb dX10_stone_12 (by decide) ?_
    refine lv_sipush (v := (9999 : Int32)) hx hb dX10_stone_13 (by decide) ?_
    refine callSI0 C lk_RX10_48 (ctX10_inside x2 (0 : Int32) (9999 : Int32) rfl) hW hl rfl ⟨rfl, rfl⟩ ⟨(Nat.le_of_ble_eq_true rfl), (Nat.le_of_ble_eq_true rfl)⟩ ⟨Nat.zero_le _, Nat.zero_le _⟩ rfl (Nat.le_of_ble_eq_true rfl) dX10_stone_16 (fun H locs hW => ?_)
    refine lv_if_eq (tgt := 43) hx hb dX10_stone_19 (by decide) (fun c_2 => ?_) (fun c_2 => ?_)
    · have h := ip_h c_2 h
      refine lv_bipush (v := (-2 : Int32)) hx hb dX10_stone_43 (by decide) ?_
      obtain rfl := Option.some.inj h
      exact hQ rfl _ _ _ _ dX10_stone_45 hW
    · have h := in_h c_2 h
      refine lv_iload_n hx hb dX10_stone_22 rfl (lv_at hl 3 rfl) ?_
      refine lv_iconst (v := (0 : Int32)) hx hb dX10_stone_23 (by decide) ?_
      refine lv_bipush (v := (99 : Int32)) hx hb dX10_stone_24 (by decide) ?_
      refine callSI0 C lk_RX10_48 (ctX10_inside x3 (0 : Int32) (99 : Int32) rfl) hW hl rfl ⟨rfl, rfl⟩ ⟨(Nat.le_of_ble_eq_true rfl), (Nat.le_of_ble_eq_true rfl)⟩ ⟨Nat.zero_le _, Nat.zero_le _⟩ rfl (Nat.le_of_ble_eq_true rfl) dX10_stone_26 (fun H locs hW => ?_)
      refine lv_if_eq (tgt := 43) hx hb dX10_stone_29 (by decide) (fun c_3 => ?_) (fun c_3 => ?_)
      · have h := ip_h c_3 h
        refine lv_bipush (v := (-2 : Int32)) hx hb dX10_stone_43 (by decide) ?_
        obtain rfl := Option.some.inj h
        exact hQ rfl _ _ _ _ dX10_stone_45 hW
      · have h := in_h c_3 h
        refine lv_iload hx hb dX10_stone_32 (lv_at hl 4 rfl) ?_
        refine lv_iconst (v := (0 : Int32)) hx hb dX10_stone_34 (by decide) ?_
        refine lv_bipush (v := (20 : Int32)) hx hb dX10_stone_35 (by decide) ?_
        refine callSI0 C lk_RX10_48 (ctX10_inside x4 (0 : Int32) (20 : Int32) rfl) hW hl rfl ⟨rfl, rfl⟩ ⟨(Nat.le_of_ble_eq_true rfl), (Nat.le_of_ble_eq_true rfl)⟩ ⟨Nat.zero_le _, Nat.zero_le _⟩ rfl (Nat.le_of_ble_eq_true rfl) dX10_stone_37 (fun H locs hW => ?_)
        refine lv_if_ne (tgt := 46) hx hb dX10_stone_40 (by decide) (fun c_4 => ?_) (fun c_4 => ?_)
        · have h := in_h c_4 h
          refine lv_aload_n hx hb dX10_stone_46 rfl (lv_at hl 0 rfl) ?_
          refine getW C fl_RX10_12 hW 0 rfl rfl dX10_stone_47 ?_
          refine getW C fl_RX10_52 hW 1 rfl rfl dX10_stone_50 ?_
          refine lv_iload_n hx hb dX10_stone_53 rfl (lv_at hl 1 rfl) ?_
          refine lv_iload_n hx hb dX10_stone_54 rfl (lv_at hl 2 rfl) ?_
          refine lv_iload_n hx hb dX10_stone_55 rfl (lv_at hl 3 rfl) ?_
          refine lv_iload hx hb dX10_stone_56 (lv_at hl 4 rfl) ?_
          obtain ⟨v_5, hv_5, h⟩ := bd_h h
          refine callVVm [2, 3, 4, 5, 6, 7, 8] [0, 1] [(a_this, .inr (10, [.ref a_room, .ref a_pad, .ref a_trial, .ref a_orderTable, .ref a_colourTable, .ref a_images])), (a_room, .inr (4, [.ref a_room_shelf, .ref a_room_rules, .ref a_room_sights]))] (wX10_stone cI cZ a_this a_room a_pad a_trial a_orderTable a_colourTable a_images a_room_shelf a_room_rules a_room_sights a_room_shelf_thick a_room_shelf_hollow a_room_shelf_damp a_room_shelf_fresh a_room_shelf_pulls a_room_shelf_fats v_5.1 v_5.2.1 v_5.2.2.1 v_5.2.2.2.1 v_5.2.2.2.2.1 v_5.2.2.2.2.2.1 v_5.2.2.2.2.2.2) C lk_RX10_56 (ctX6_put a_room_shelf a_room_shelf_thick a_room_shelf_hollow a_room_shelf_damp a_room_shelf_fresh a_room_shelf_pulls a_room_shelf_fats x1 x2 x3 x4 v_room_shelf_there v_room_shelf_thick v_room_shelf_hollow v_room_shelf_damp v_room_shelf_fresh v_room_shelf_pulls v_room_shelf_fats hv_5) hW hl 6 rfl rfl rfl rfl rfl rfl rfl rfl rfl rfl ⟨rfl, rfl⟩ ⟨(Nat.le_of_ble_eq_true rfl), (Nat.le_of_ble_eq_true rfl)⟩ ⟨Nat.zero_le _, Nat.zero_le _⟩ rfl (Nat.le_of_ble_eq_true rfl) dX10_stone_58 (fun H locs hW => ?_)
          refine lv_aload_n hx hb dX10_stone_61 rfl (lv_at hl 0 rfl) ?_
          refine getW C fl_RX10_12 hW 0 rfl rfl dX10_stone_62 ?_
          refine getW C fl_RX10_52 hW 1 rfl rfl dX10_stone_65 ?_
          refine callVIr [2] C lk_RX10_62 (ctX6_count a_room_shelf a_room_shelf_thick a_room_shelf_hollow a_room_shelf_damp a_room_shelf_fresh a_room_shelf_pulls a_room_shelf_fats v_5.1 rfl) hW hl 6 rfl rfl rfl rfl rfl ⟨rfl, rfl⟩ ⟨(Nat.le_of_ble_eq_true rfl), (Nat.le_of_ble_eq_true rfl)⟩ ⟨Nat.zero_le _, Nat.zero_le _⟩ rfl (Nat.le_of_ble_eq_true rfl) dX10_stone_68 (fun H locs hW => ?_)
          obtain rfl := Option.some.inj h
          exact hQ rfl _ _ _ _ dX10_stone_71 hW
        · have h := ip_h c_4 h
          refine lv_bipush (v := (-2 : Int32)) hx hb dX10_stone_43 (by decide) ?_
          obtain rfl := Option.some.inj h
          exact hQ rfl _ _ _ _ dX10_stone_45 hW
  · have h := ip_h c_1 h
    refine lv_iconst (v := (-1 : Int32)) hx hb dX10_stone_9 (by decide) ?_
    obtain rfl := Option.some.inj h
    exact hQ rfl _ _ _ _ dX10_stone_10 hW
theorem ctX10_stone {l : Launch} {G : va_G} {cI cZ cO : ClassId} (a_this a_room a_pad a_trial a_orderTable a_colourTable a_images a_room_shelf a_room_rules a_room_sights a_room_shelf_thick a_room_shelf_hollow a_room_shelf_damp a_room_shelf_fresh a_room_shelf_pulls a_room_shelf_fats : Nat) (x1 : Int32) (x2 : Int32) (x3 : Int32) (x4 : Int32) (v_room_shelf_there : Int32) (v_room_shelf_thick : Nat → Int32) (v_room_shelf_hollow : Nat → Int32) (v_room_shelf_damp : Nat → Int32) (v_room_shelf_fresh : Nat → Int32) (v_room_shelf_pulls : Nat → Int32) (v_room_shelf_fats : Nat → Int32) {res : Int32 × Int32 × (Nat → Int32) × (Nat → Int32) × (Nat → Int32) × (Nat → Int32) × (Nat → Int32) × (Nat → Int32)} (h : fX10_stone x1 x2 x3 x4 v_room_shelf_there v_room_shelf_thick v_room_shelf_hollow v_room_shelf_damp v_room_shelf_fresh v_room_shelf_pulls v_room_shelf_fats = some res) : MI l G cI cZ cO yX10_stone cX10_stone 5 .int rX10_stone [.ref a_this, .int x1, .int x2, .int x3, .int x4] (wX10_stone cI cZ a_this a_room a_pad a_trial a_orderTable a_colourTable a_images a_room_shelf a_room_rules a_room_sights a_room_shelf_thick a_room_shelf_hollow a_room_shelf_damp a_room_shelf_fresh a_room_shelf_pulls a_room_shelf_fats v_room_shelf_there v_room_shelf_thick v_room_shelf_hollow v_room_shelf_damp v_room_shelf_fresh v_room_shelf_pulls v_room_shelf_fats) (res.1) (wX10_stone cI cZ a_this a_room a_pad a_trial a_orderTable a_colourTable a_images a_room_shelf a_room_rules a_room_sights a_room_shelf_thick a_room_shelf_hollow a_room_shelf_damp a_room_shelf_fresh a_room_shelf_pulls a_room_shelf_fats res.2.1 res.2.2.1 res.2.2.2.1 res.2.2.2.2.1 res.2.2.2.2.2.1 res.2.2.2.2.2.2.1 res.2.2.2.2.2.2.2) := by
  refine MI.of (by decide) (Nat.le_of_ble_eq_true rfl) ?_
  intro p e s m below meth c A Q C hW hQ ls hl
  exact uX10_stone_0 x1 x2 x3 x4 v_room_shelf_there v_room_shelf_thick v_room_shelf_hollow v_room_shelf_damp v_room_shelf_fresh v_room_shelf_pulls v_room_shelf_fats C hQ h _ _ hW _ hl
abbrev wX10_smash (cI cZ : ClassId) (a_this a_room a_pad a_trial a_orderTable a_colourTable a_images a_room_shelf a_room_rules a_room_sights a_room_shelf_thick a_room_shelf_hollow a_room_shelf_damp a_room_shelf_fresh a_room_shelf_pulls a_room_shelf_fats : Nat) (v_room_shelf_there : Int32) : va_W := [(a_this, .inr (10, [.ref a_room, .ref a_pad, .ref a_trial, .ref a_orderTable, .ref a_colourTable, .ref a_images])), (a_room, .inr (4, [.ref a_room_shelf, .ref a_room_rules, .ref a_room_sights])), (a_room_shelf, .inr (6, [.int v_room_shelf_there, .ref a_room_shelf_thick, .ref a_room_shelf_hollow, .ref a_room_shelf_damp, .ref a_room_shelf_fresh, .ref a_room_shelf_pulls, .ref a_room_shelf_fats]))]
abbrev rX10_smash : Room := { frames := 2, cells := 0, slots := 0, locals := 42 }
set_option maxRecDepth 20000 in
theorem uX10_smash_0 {a_this a_room a_pad a_trial a_orderTable a_colourTable a_images a_room_shelf a_room_rules a_room_sights a_room_shelf_thick a_room_shelf_hollow a_room_shelf_damp a_room_shelf_fresh a_room_shelf_pulls a_room_shelf_fats : Nat} (x1 : Int32) (v_room_shelf_there : Int32) {res : Int32 × Int32} (C : Cx p s m av meth c RX10 cX10_smash 2 (some .int) G cI cZ cO A) (hQ : RI p l e rX10_smash s m av below meth c G A cX10_smash .int Q (res.1) (wX10_smash cI cZ a_this a_room a_pad a_trial a_orderTable a_colourTable a_images a_room_shelf a_room_rules a_room_sights a_room_shelf_thick a_room_shelf_hollow a_room_shelf_damp a_room_shelf_fresh a_room_shelf_pulls a_room_shelf_fats res.2)) (h : fX10_smash x1 v_room_shelf_there = res) (H : Heap) (locs : List Loc) (hW : HW G A s (wX10_smash cI cZ a_this a_room a_pad a_trial a_orderTable a_colourTable a_images a_room_shelf a_room_rules a_room_sights a_room_shelf_thick a_room_shelf_hollow a_room_shelf_damp a_room_shelf_fresh a_room_shelf_pulls a_room_shelf_fats v_room_shelf_there) H locs) (ls : Array Slot) (hl : lv_has ls 2 [(0, .ref a_this), (1, .int x1)]) : W p l e rX10_smash s m av below meth c H locs 0 0 Q (F0 m 0 ls []) := by
  have hx := C.1
  have hb := C.2.1
  unfold fX10_smash at h
  refine lv_aload_n hx hb dX10_smash_0 rfl (lv_at hl 0 rfl) ?_
  refine getW C fl_RX10_12 hW 0 rfl rfl dX10_smash_1 ?_
  refine getW C fl_RX10_52 hW 1 rfl rfl dX10_smash_4 ?_
  refine lv_iload_n hx hb dX10_smash_7 rfl (lv_at hl 1 rfl) ?_
  refine callVIr [2] C lk_RX10_66 (ctX6_has a_room_shelf a_room_shelf_thick a_room_shelf_hollow a_room_shelf_damp a_room_shelf_fresh a_room_shelf_pulls a_room_shelf_fats x1 v_room_shelf_there rfl) hW hl 6 rfl rfl rfl rfl rfl ⟨rfl, rfl⟩ ⟨(Nat.le_of_ble_eq_true rfl), (Nat.le_of_ble_eq_true rfl)⟩ ⟨Nat.zero_le _, Nat.zero_le _⟩ rfl (Nat.le_of_ble_eq_true rfl) dX10_smash_8 (fun H locs hW => ?_)
  refine lv_if_ne (tgt := 16) hx hb dX10_smash_11 (by decide) (fun c_1 => ?_) (fun c_1 => ?_)
  · have h := in_h c_1 h
    refine lv_aload_n hx hb dX10_smash_16 rfl (lv_at hl 0 rfl) ?_
    refine getW C fl_RX10_12 hW 0 rfl rfl dX10_smash_17 ?_
    refine getW C fl_RX10_52 hW 1 rfl rfl dX10_smash_20 ?_
    refine lv_iload_n hx hb dX10_smash_23 rfl (lv_at hl 1 rfl) ?_
    obtain ⟨v_2, ev_2⟩ : ∃ z, z = (fX6_take x1 v_room_shelf_there) := ⟨_, rfl⟩
    have h := lt_h ev_2 h
    refine callVVm [2] [0, 1] [(a_this, .inr (10, [.ref a_room, .ref a_pad, .ref a_trial, .ref a_orderTable, .ref a_colourTable, .ref a_images])), (a_room, .inr (4, [.ref a_room_shelf, .ref a_room_rules, .ref a_room_sights]))] (wX10_smash cI cZ a_this a_room a_pad a_trial a_orderTable a_colourTable a_images a_room_shelf a_room_rules a_room_sights a_room_shelf_thick a_room_shelf_hollow a_room_shelf_damp a_room_shelf_fresh a_room_shelf_pulls a_room_shelf_fats v_2) C lk_RX10_70 (ctX6_take a_room_shelf a_room_shelf_thick a_room_shelf_hollow a_room_shelf_damp a_room_shelf_fresh a_room_shelf_pulls a_room_shelf_fats x1 v_room_shelf_there ev_2.symm) hW hl 6 rfl rfl rfl rfl rfl rfl rfl rfl rfl rfl ⟨rfl, rfl⟩ ⟨(Nat.le_of_ble_eq_true rfl), (Nat.le_of_ble_eq_true rfl)⟩ ⟨Nat.zero_le _, Nat.zero_le _⟩ rfl (Nat.le_of_ble_eq_true rfl) dX10_smash_24 (fun H locs hW => ?_)
    refine lv_aload_n hx hb dX10_smash_27 rfl (lv_at hl 0 rfl) ?_
    refine getW C fl_RX10_12 hW 0 rfl rfl dX10_smash_28 ?_
    refine getW C fl_RX10_52 hW 1 rfl rfl dX10_smash_31 ?_
    refine callVIr [2] C lk_RX10_62 (ctX6_count a_room_shelf a_room_shelf_thick a_room_shelf_hollow a_room_shelf_damp a_room_shelf_fresh a_room_shelf_pulls a_room_shelf_fats v_2 rfl) hW hl 6 rfl rfl rfl rfl rfl ⟨rfl, rfl⟩ ⟨(Nat.le_of_ble_eq_true rfl), (Nat.le_of_ble_eq_true rfl)⟩ ⟨Nat.zero_le _, Nat.zero_le _⟩ rfl (Nat.le_of_ble_eq_true rfl) dX10_smash_34 (fun H locs hW => ?_)
    subst h
    exact hQ rfl _ _ _ _ dX10_smash_37 hW
  · have h := ip_h c_1 h
    refine lv_iconst (v := (-1 : Int32)) hx hb dX10_smash_14 (by decide) ?_
    subst h
    exact hQ rfl _ _ _ _ dX10_smash_15 hW
theorem ctX10_smash {l : Launch} {G : va_G} {cI cZ cO : ClassId} (a_this a_room a_pad a_trial a_orderTable a_colourTable a_images a_room_shelf a_room_rules a_room_sights a_room_shelf_thick a_room_shelf_hollow a_room_shelf_damp a_room_shelf_fresh a_room_shelf_pulls a_room_shelf_fats : Nat) (x1 : Int32) (v_room_shelf_there : Int32) {res : Int32 × Int32} (h : fX10_smash x1 v_room_shelf_there = res) : MI l G cI cZ cO yX10_smash cX10_smash 2 .int rX10_smash [.ref a_this, .int x1] (wX10_smash cI cZ a_this a_room a_pad a_trial a_orderTable a_colourTable a_images a_room_shelf a_room_rules a_room_sights a_room_shelf_thick a_room_shelf_hollow a_room_shelf_damp a_room_shelf_fresh a_room_shelf_pulls a_room_shelf_fats v_room_shelf_there) (res.1) (wX10_smash cI cZ a_this a_room a_pad a_trial a_orderTable a_colourTable a_images a_room_shelf a_room_rules a_room_sights a_room_shelf_thick a_room_shelf_hollow a_room_shelf_damp a_room_shelf_fresh a_room_shelf_pulls a_room_shelf_fats res.2) := by
  refine MI.of (by decide) (Nat.le_of_ble_eq_true rfl) ?_
  intro p e s m below meth c A Q C hW hQ ls hl
  exact uX10_smash_0 x1 v_room_shelf_there C hQ h _ _ hW _ hl
abbrev wX10_picture (cI cZ : ClassId) (a_this a_room a_pad a_trial a_orderTable a_colourTable a_images a_room_shelf a_room_rules a_room_sights a_room_rules_deep a_room_rules_fine a_room_rules_pay a_room_rules_hair : Nat) (v_room_rules_flat : Int32) (v_room_rules_least : Int32) (v_room_rules_deep : Nat → Int32) (v_room_rules_fine : Nat → Int32) (v_room_rules_pay : Nat → Int32) : va_W := [(a_this, .inr (10, [.ref a_room, .ref a_pad, .ref a_trial, .ref a_orderTable, .ref a_colourTable, .ref a_images])), (a_room, .inr (4, [.ref a_room_shelf, .ref a_room_rules, .ref a_room_sights])), (a_room_rules, .inr (5, [.int v_room_rules_flat, .int v_room_rules_least, .ref a_room_rules_deep, .ref a_room_rules_fine, .ref a_room_rules_pay, .ref a_room_rules_hair])), (a_room_rules_deep, .inl (cI, 8, .inl v_room_rules_deep)), (a_room_rules_fine, .inl (cI, 8, .inl v_room_rules_fine)), (a_room_rules_pay, .inl (cI, 8, .inl v_room_rules_pay))]
abbrev rX10_picture : Room := { frames := 1, cells := 0, slots := 0, locals := 22 }
set_option maxRecDepth 20000 in
theorem uX10_picture_0 {a_this a_room a_pad a_trial a_orderTable a_colourTable a_images a_room_shelf a_room_rules a_room_sights a_room_rules_deep a_room_rules_fine a_room_rules_pay a_room_rules_hair : Nat} (x1 : Int32) (x2 : Int32) (x3 : Int32) (x4 : Int32) (v_room_rules_flat : Int32) (v_room_rules_least : Int32) (v_room_rules_deep : Nat → Int32) (v_room_rules_fine : Nat → Int32) (v_room_rules_pay : Nat → Int32) {res : Int32 × (Nat → Int32) × (Nat → Int32) × (Nat → Int32)} (C : Cx p s m av meth c RX10 cX10_picture 6 (some .int) G cI cZ cO A) (hQ : RI p l e rX10_picture s m av below meth c G A cX10_picture .int Q (res.1) (wX10_picture cI cZ a_this a_room a_pad a_trial a_orderTable a_colourTable a_images a_room_shelf a_room_rules a_room_sights a_room_rules_deep a_room_rules_fine a_room_rules_pay a_room_rules_hair v_room_rules_flat v_room_rules_least res.2.1 res.2.2.1 res.2.2.2)) (h : fX10_picture x1 x2 x3 x4 v_room_rules_deep v_room_rules_fine v_room_rules_pay = some res) (H : Heap) (locs : List Loc) (hW : HW G A s (wX10_picture cI cZ a_this a_room a_pad a_trial a_orderTable a_colourTable a_images a_room_shelf a_room_rules a_room_sights a_room_rules_deep a_room_rules_fine a_room_rules_pay a_room_rules_hair v_room_rules_flat v_room_rules_least v_room_rules_deep v_room_rules_fine v_room_rules_pay) H locs) (ls : Array Slot) (hl : lv_has ls 6 [(0, .ref a_this), (1, .int x1), (2, .int x2), (3, .int x3), (4, .int x4)]) : W p l e rX10_picture s m av below meth c H locs 0 0 Q (F0 m 0 ls []) := by
  have hx := C.1
  have hb := C.2.1
  unfold fX10_picture at h
  refine lv_iload_n hx hb dX10_picture_0 rfl (lv_at hl 1 rfl) ?_
  refine lv_iconst (v := (0 : Int32)) hx hb dX10_picture_1 (by decide) ?_
  refine lv_bipush (v := (7 : Int32)) hx hb dX10_picture_2 (by decide) ?_
  refine callSI0 C lk_RX10_48 (ctX10_inside x1 (0 : Int32) (7 : Int32) rfl) hW hl rfl ⟨rfl, rfl⟩ ⟨(Nat.le_of_ble_eq_true rfl), (Nat.le_of_ble_eq_true rfl)⟩ ⟨Nat.zero_le _, Nat.zero_le _⟩ rfl (Nat.le_of_ble_eq_true rfl) dX10_picture_4 (fun H locs hW => ?_)
  refine lv_if_ne (tgt := 12) hx hb dX10_picture_7 (by decide) (fun c_1 => ?_) (fun c_1 => ?_)
  · have h := in_h c_1 h
    refine lv_iload_n hx hb dX10_picture_12 rfl (lv_at hl 2 rfl) ?_
    refine lv_iconst (v := (1 : Int32)) hx hb dX10_picture_13 (by decide) ?_
    refine lv_bipush (v := (60 : Int32)) hx hb dX10_picture_14 (by decide) ?_
    refine callSI0 C lk_RX10_48 (ctX10_inside x2 (1 : Int32) (60 : Int32) rfl) hW hl rfl ⟨rfl, rfl⟩ ⟨(Nat.le_of_ble_eq_true rfl), (Nat.le_of_ble_eq_true rfl)⟩ ⟨Nat.zero_le _, Nat.zero_le _⟩ rfl (Nat.le_of_ble_eq_true rfl) dX10_picture_16 (fun H locs hW => ?_)
    refine lv_if_eq (tgt := 44) hx hb dX10_picture_19 (by decide) (fun c_2 => ?_) (fun c_2 => ?_)
    · have h := ip_h c_2 h
      refine lv_bipush (v := (-2 : Int32)) hx hb dX10_picture_44 (by decide) ?_
      obtain rfl := Option.some.inj h
      exact hQ rfl _ _ _ _ dX10_picture_46 hW
    · have h := in_h c_2 h
      refine lv_iload_n hx hb dX10_picture_22 rfl (lv_at hl 3 rfl) ?_
      refine lv_iconst (v := (1 : Int32)) hx hb dX10_picture_23 (by decide) ?_
      refine lv_bipush (v := (9 : Int32)) hx hb dX10_picture_24 (by decide) ?_
      refine callSI0 C lk_RX10_48 (ctX10_inside x3 (1 : Int32) (9 : Int32) rfl) hW hl rfl ⟨rfl, rfl⟩ ⟨(Nat.le_of_ble_eq_true rfl), (Nat.le_of_ble_eq_true rfl)⟩ ⟨Nat.zero_le _, Nat.zero_le _⟩ rfl (Nat.le_of_ble_eq_true rfl) dX10_picture_26 (fun H locs hW => ?_)
      refine lv_if_eq (tgt := 44) hx hb dX10_picture_29 (by decide) (fun c_3 => ?_) (fun c_3 => ?_)
      · have h := ip_h c_3 h
        refine lv_bipush (v := (-2 : Int32)) hx hb dX10_picture_44 (by decide) ?_
        obtain rfl := Option.some.inj h
        exact hQ rfl _ _ _ _ dX10_picture_46 hW
      · have h := in_h c_3 h
        refine lv_iload hx hb dX10_picture_32 (lv_at hl 4 rfl) ?_
        refine lv_iconst (v := (0 : Int32)) hx hb dX10_picture_34 (by decide) ?_
        refine lv_sipush (v := (999 : Int32)) hx hb dX10_picture_35 (by decide) ?_
        refine callSI0 C lk_RX10_48 (ctX10_inside x4 (0 : Int32) (999 : Int32) rfl) hW hl rfl ⟨rfl, rfl⟩ ⟨(Nat.le_of_ble_eq_true rfl), (Nat.le_of_ble_eq_true rfl)⟩ ⟨Nat.zero_le _, Nat.zero_le _⟩ rfl (Nat.le_of_ble_eq_true rfl) dX10_picture_38 (fun H locs hW => ?_)
        refine lv_if_ne (tgt := 47) hx hb dX10_picture_41 (by decide) (fun c_4 => ?_) (fun c_4 => ?_)
        · have h := in_h c_4 h
          refine lv_aload_n hx hb dX10_picture_47 rfl (lv_at hl 0 rfl) ?_
          refine getW C fl_RX10_12 hW 0 rfl rfl dX10_picture_48 ?_
          refine getW C fl_RX10_74 hW 1 rfl rfl dX10_picture_51 ?_
          refine getW C fl_RX10_78 hW 2 rfl rfl dX10_picture_54 ?_
          refine lv_iload_n hx hb dX10_picture_57 rfl (lv_at hl 1 rfl) ?_
          obtain ⟨g_5, h⟩ := gd_h h
          refine ialdW C hW 3 rfl g_5 dX10_picture_58 ?_
          refine lv_topi (fun v_6 ev_6 => ?_)
          have h := lt_h ev_6 h
          refine lv_istore (lv' := [(5, .int v_6), (0, .ref a_this), (1, .int x1), (2, .int x2), (3, .int x3), (4, .int x4)]) hx hb dX10_picture_59 hl (Nat.le_of_ble_eq_true rfl) rfl (fun ls hl => ?_)
          refine lv_aload_n hx hb dX10_picture_61 rfl (lv_at hl 1 rfl) ?_
          refine getW C fl_RX10_12 hW 0 rfl rfl dX10_picture_62 ?_
          refine getW C fl_RX10_74 hW 1 rfl rfl dX10_picture_65 ?_
          refine getW C fl_RX10_78 hW 2 rfl rfl dX10_picture_68 ?_
          refine lv_iload_n hx hb dX10_picture_71 rfl (lv_at hl 2 rfl) ?_
          refine lv_iload_n hx hb dX10_picture_72 rfl (lv_at hl 3 rfl) ?_
          refine iastW C hW 3 rfl g_5 dX10_picture_73 (fun H locs hW => ?_)
          have hW : HW G A s (wX10_picture cI cZ a_this a_room a_pad a_trial a_orderTable a_colourTable a_images a_room_shelf a_room_rules a_room_sights a_room_rules_deep a_room_rules_fine a_room_rules_pay a_room_rules_hair v_room_rules_flat v_room_rules_least (upd v_room_rules_deep (Int32.toNatClampNeg x1) x2) v_room_rules_fine v_room_rules_pay) H locs := hW
          refine lv_aload_n hx hb dX10_picture_74 rfl (lv_at hl 1 rfl) ?_
          refine getW C fl_RX10_12 hW 0 rfl rfl dX10_picture_75 ?_
          refine getW C fl_RX10_74 hW 1 rfl rfl dX10_picture_78 ?_
          refine getW C fl_RX10_84 hW 2 rfl rfl dX10_picture_81 ?_
          refine lv_iload_n hx hb dX10_picture_84 rfl (lv_at hl 2 rfl) ?_
          refine lv_iload_n hx hb dX10_picture_85 rfl (lv_at hl 4 rfl) ?_
          refine iastW C hW 4 rfl g_5 dX10_picture_86 (fun H locs hW => ?_)
          have hW : HW G A s (wX10_picture cI cZ a_this a_room a_pad a_trial a_orderTable a_colourTable a_images a_room_shelf a_room_rules a_room_sights a_room_rules_deep a_room_rules_fine a_room_rules_pay a_room_rules_hair v_room_rules_flat v_room_rules_least (upd v_room_rules_deep (Int32.toNatClampNeg x1) x2) (upd v_room_rules_fine (Int32.toNatClampNeg x1) x3) v_room_rules_pay) H locs := hW
          refine lv_aload_n hx hb dX10_picture_87 rfl (lv_at hl 1 rfl) ?_
          refine getW C fl_RX10_12 hW 0 rfl rfl dX10_picture_88 ?_
          refine getW C fl_RX10_74 hW 1 rfl rfl dX10_picture_91 ?_
          refine getW C fl_RX10_87 hW 2 rfl rfl dX10_picture_94 ?_
          refine lv_iload_n hx hb dX10_picture_97 rfl (lv_at hl 2 rfl) ?_
          refine lv_iload hx hb dX10_picture_98 (lv_at hl 5 rfl) ?_
          refine iastW C hW 5 rfl g_5 dX10_picture_100 (fun H locs hW => ?_)
          have hW : HW G A s (wX10_picture cI cZ a_this a_room a_pad a_trial a_orderTable a_colourTable a_images a_room_shelf a_room_rules a_room_sights a_room_rules_deep a_room_rules_fine a_room_rules_pay a_room_rules_hair v_room_rules_flat v_room_rules_least (upd v_room_rules_deep (Int32.toNatClampNeg x1) x2) (upd v_room_rules_fine (Int32.toNatClampNeg x1) x3) (upd v_room_rules_pay (Int32.toNatClampNeg x1) x4)) H locs := hW
          refine lv_iload hx hb dX10_picture_101 (lv_at hl 0 rfl) ?_
          obtain rfl := Option.some.inj h
          exact hQ rfl _ _ _ _ dX10_picture_103 hW
        · have h := ip_h c_4 h
          refine lv_bipush (v := (-2 : Int32)) hx hb dX10_picture_44 (by decide) ?_
          obtain rfl := Option.some.inj h
          exact hQ rfl _ _ _ _ dX10_picture_46 hW
  · have h := ip_h c_1 h
    refine lv_iconst (v := (-1 : Int32)) hx hb dX10_picture_10 (by decide) ?_
    obtain rfl := Option.some.inj h
    exact hQ rfl _ _ _ _ dX10_picture_11 hW
theorem ctX10_picture {l : Launch} {G : va_G} {cI cZ cO : ClassId} (a_this a_room a_pad a_trial a_orderTable a_colourTable a_images a_room_shelf a_room_rules a_room_sights a_room_rules_deep a_room_rules_fine a_room_rules_pay a_room_rules_hair : Nat) (x1 : Int32) (x2 : Int32) (x3 : Int32) (x4 : Int32) (v_room_rules_flat : Int32) (v_room_rules_least : Int32) (v_room_rules_deep : Nat → Int32) (v_room_rules_fine : Nat → Int32) (v_room_rules_pay : Nat → Int32) {res : Int32 × (Nat → Int32) × (Nat → Int32) × (Nat → Int32)} (h : fX10_picture x1 x2 x3 x4 v_room_rules_deep v_room_rules_fine v_room_rules_pay = some res) : MI l G cI cZ cO yX10_picture cX10_picture 6 .int rX10_picture [.ref a_this, .int x1, .int x2, .int x3, .int x4] (wX10_picture cI cZ a_this a_room a_pad a_trial a_orderTable a_colourTable a_images a_room_shelf a_room_rules a_room_sights a_room_rules_deep a_room_rules_fine a_room_rules_pay a_room_rules_hair v_room_rules_flat v_room_rules_least v_room_rules_deep v_room_rules_fine v_room_rules_pay) (res.1) (wX10_picture cI cZ a_this a_room a_pad a_trial a_orderTable a_colourTable a_images a_room_shelf a_room_rules a_room_sights a_room_rules_deep a_room_rules_fine a_room_rules_pay a_room_rules_hair v_room_rules_flat v_room_rules_least res.2.1 res.2.2.1 res.2.2.2) := by
  refine MI.of (by decide) (Nat.le_of_ble_eq_true rfl) ?_
  intro p e s m below meth c A Q C hW hQ ls hl
  exact uX10_picture_0 x1 x2 x3 x4 v_room_rules_flat v_room_rules_least v_room_rules_deep v_room_rules_fine v_room_rules_pay C hQ h _ _ hW _ hl
abbrev wX10_set (cI cZ : ClassId) (a_this a_room a_pad a_trial a_orderTable a_colourTable a_images a_room_shelf a_room_rules a_room_sights a_room_rules_deep a_room_rules_fine a_room_rules_pay a_room_rules_hair : Nat) (v_room_rules_flat : Int32) (v_room_rules_least : Int32) : va_W := [(a_this, .inr (10, [.ref a_room, .ref a_pad, .ref a_trial, .ref a_orderTable, .ref a_colourTable, .ref a_images])), (a_room, .inr (4, [.ref a_room_shelf, .ref a_room_rules, .ref a_room_sights])), (a_room_rules, .inr (5, [.int v_room_rules_flat, .int v_room_rules_least, .ref a_room_rules_deep, .ref a_room_rules_fine, .ref a_room_rules_pay, .ref a_room_rules_hair]))]
abbrev rX10_set : Room := { frames := 1, cells := 0, slots := 0, locals := 22 }
set_option maxRecDepth 20000 in
theorem uX10_set_38 {a_this a_room a_pad a_trial a_orderTable a_colourTable a_images a_room_shelf a_room_rules a_room_sights a_room_rules_deep a_room_rules_fine a_room_rules_pay a_room_rules_hair : Nat} (x1 : Int32) (x2 : Int32) (v_room_rules_flat : Int32) (v_room_rules_least : Int32) {res : Int32 × Int32 × Int32} (C : Cx p s m av meth c RX10 cX10_set 4 (some .int) G cI cZ cO A) (hQ : RI p l e rX10_set s m av below meth c G A cX10_set .int Q (res.1) (wX10_set cI cZ a_this a_room a_pad a_trial a_orderTable a_colourTable a_images a_room_shelf a_room_rules a_room_sights a_room_rules_deep a_room_rules_fine a_room_rules_pay a_room_rules_hair res.2.1 res.2.2)) (h : fX10_set_38 x1 x2 v_room_rules_flat v_room_rules_least = res) (H : Heap) (locs : List Loc) (hW : HW G A s (wX10_set cI cZ a_this a_room a_pad a_trial a_orderTable a_colourTable a_images a_room_shelf a_room_rules a_room_sights a_room_rules_deep a_room_rules_fine a_room_rules_pay a_room_rules_hair v_room_rules_flat v_room_rules_least) H locs) (ls : Array Slot) (hl : lv_has ls 4 [(0, .ref a_this), (1, .int x1), (2, .int x2)]) : W p l e rX10_set s m av below meth c H locs 0 0 Q (F0 m 38 ls []) := by
  have hx := C.1
  have hb := C.2.1
  unfold fX10_set_38 at h
  refine lv_iload_n hx hb dX10_set_38 rfl (lv_at hl 1 rfl) ?_
  refine lv_iconst (v := (1 : Int32)) hx hb dX10_set_39 (by decide) ?_
  refine lv_icmp_ne (tgt := 78) hx hb dX10_set_40 (by decide) (fun c_2 => ?_) (fun c_2 => ?_)
  · have h := in_h c_2 h
    refine lv_bipush (v := (-2 : Int32)) hx hb dX10_set_78 (by decide) ?_
    subst h
    exact hQ rfl _ _ _ _ dX10_set_80 hW
  · have h := ip_h c_2 h
    refine lv_iload_n hx hb dX10_set_43 rfl (lv_at hl 2 rfl) ?_
    refine lv_iconst (v := (0 : Int32)) hx hb dX10_set_44 (by decide) ?_
    refine lv_sipush (v := (9999 : Int32)) hx hb dX10_set_45 (by decide) ?_
    refine callSI0 C lk_RX10_48 (ctX10_inside x2 (0 : Int32) (9999 : Int32) rfl) hW hl rfl ⟨rfl, rfl⟩ ⟨(Nat.le_of_ble_eq_true rfl), (Nat.le_of_ble_eq_true rfl)⟩ ⟨Nat.zero_le _, Nat.zero_le _⟩ rfl (Nat.le_of_ble_eq_true rfl) dX10_set_48 (fun H locs hW => ?_)
    refine lv_if_eq (tgt := 78) hx hb dX10_set_51 (by decide) (fun c_3 => ?_) (fun c_3 => ?_)
    · have h := ip_h c_3 h
      refine lv_bipush (v := (-2 : Int32)) hx hb dX10_set_78 (by decide) ?_
      subst h
      exact hQ rfl _ _ _ _ dX10_set_80 hW
    · have h := in_h c_3 h
      refine lv_aload_n hx hb dX10_set_54 rfl (lv_at hl 0 rfl) ?_
      refine getW C fl_RX10_12 hW 0 rfl rfl dX10_set_55 ?_
      refine getW C fl_RX10_74 hW 1 rfl rfl dX10_set_58 ?_
      refine getW C fl_RX10_94 hW 2 rfl rfl dX10_set_61 ?_
      refine lv_istore_n (lv' := [(3, .int v_room_rules_least), (0, .ref a_this), (1, .int x1), (2, .int x2)]) hx hb dX10_set_64 rfl hl (Nat.le_of_ble_eq_true rfl) rfl (fun ls hl => ?_)
      refine lv_aload_n hx hb dX10_set_65 rfl (lv_at hl 1 rfl) ?_
      refine getW C fl_RX10_12 hW 0 rfl rfl dX10_set_66 ?_
      refine getW C fl_RX10_74 hW 1 rfl rfl dX10_set_69 ?_
      refine lv_iload_n hx hb dX10_set_72 rfl (lv_at hl 3 rfl) ?_
      refine putW C fp_RX10_94 hW 2 rfl rfl rfl (Nat.le_of_ble_eq_true rfl) dX10_set_73 (fun H locs hW => ?_)
      have hW : HW G A s (wX10_set cI cZ a_this a_room a_pad a_trial a_orderTable a_colourTable a_images a_room_shelf a_room_rules a_room_sights a_room_rules_deep a_room_rules_fine a_room_rules_pay a_room_rules_hair v_room_rules_flat x2) H locs := hW
      refine lv_iload_n hx hb dX10_set_76 rfl (lv_at hl 0 rfl) ?_
      subst h
      exact hQ rfl _ _ _ _ dX10_set_77 hW
set_option maxRecDepth 20000 in
theorem uX10_set_0 {a_this a_room a_pad a_trial a_orderTable a_colourTable a_images a_room_shelf a_room_rules a_room_sights a_room_rules_deep a_room_rules_fine a_room_rules_pay a_room_rules_hair : Nat} (x1 : Int32) (x2 : Int32) (v_room_rules_flat : Int32) (v_room_rules_least : Int32) {res : Int32 × Int32 × Int32} (C : Cx p s m av meth c RX10 cX10_set 4 (some .int) G cI cZ cO A) (hQ : RI p l e rX10_set s m av below meth c G A cX10_set .int Q (res.1) (wX10_set cI cZ a_this a_room a_pad a_trial a_orderTable a_colourTable a_images a_room_shelf a_room_rules a_room_sights a_room_rules_deep a_room_rules_fine a_room_rules_pay a_room_rules_hair res.2.1 res.2.2)) (h : fX10_set x1 x2 v_room_rules_flat v_room_rules_least = res) (H : Heap) (locs : List Loc) (hW : HW G A s (wX10_set cI cZ a_this a_room a_pad a_trial a_orderTable a_colourTable a_images a_room_shelf a_room_rules a_room_sights a_room_rules_deep a_room_rules_fine a_room_rules_pay a_room_rules_hair v_room_rules_flat v_room_rules_least) H locs) (ls : Array Slot) (hl : lv_has ls 4 [(0, .ref a_this), (1, .int x1), (2, .int x2)]) : W p l e rX10_set s m av below meth c H locs 0 0 Q (F0 m 0 ls []) := by
  have hx := C.1
  have hb := C.2.1
  unfold fX10_set at h
  refine lv_iload_n hx hb dX10_set_0 rfl (lv_at hl 1 rfl) ?_
  refine lv_if_ne (tgt := 38) hx hb dX10_set_1 (by decide) (fun c_1 => ?_) (fun c_1 => ?_)
  · have h := in_h c_1 h
    exact uX10_set_38 x1 x2 v_room_rules_flat v_room_rules_least C hQ h _ _ hW _ (lv_sub hl [0, 1, 2] rfl)
  · have h := ip_h c_1 h
    refine lv_iload_n hx hb dX10_set_4 rfl (lv_at hl 2 rfl) ?_
    refine lv_iconst (v := (0 : Int32)) hx hb dX10_set_5 (by decide) ?_
    refine lv_bipush (v := (99 : Int32)) hx hb dX10_set_6 (by decide) ?_
    refine callSI0 C lk_RX10_48 (ctX10_inside x2 (0 : Int32) (99 : Int32) rfl) hW hl rfl ⟨rfl, rfl⟩ ⟨(Nat.le_of_ble_eq_true rfl), (Nat.le_of_ble_eq_true rfl)⟩ ⟨Nat.zero_le _, Nat.zero_le _⟩ rfl (Nat.le_of_ble_eq_true rfl) dX10_set_8 (fun H locs hW => ?_)
    refine lv_if_eq (tgt := 38) hx hb dX10_set_11 (by decide) (fun c_4 => ?_) (fun c_4 => ?_)
    · have h := ip_h c_4 h
      exact uX10_set_38 x1 x2 v_room_rules_flat v_room_rules_least C hQ h _ _ hW _ (lv_sub hl [0, 1, 2] rfl)
    · have h := in_h c_4 h
      refine lv_aload_n hx hb dX10_set_14 rfl (lv_at hl 0 rfl) ?_
      refine getW C fl_RX10_12 hW 0 rfl rfl dX10_set_15 ?_
      refine getW C fl_RX10_74 hW 1 rfl rfl dX10_set_18 ?_
      refine getW C fl_RX10_90 hW 2 rfl rfl dX10_set_21 ?_
      refine lv_istore_n (lv' := [(3, .int v_room_rules_flat), (0, .ref a_this), (1, .int x1), (2, .int x2)]) hx hb dX10_set_24 rfl hl (Nat.le_of_ble_eq_true rfl) rfl (fun ls hl => ?_)
      refine lv_aload_n hx hb dX10_set_25 rfl (lv_at hl 1 rfl) ?_
      refine getW C fl_RX10_12 hW 0 rfl rfl dX10_set_26 ?_
      refine getW C fl_RX10_74 hW 1 rfl rfl dX10_set_29 ?_
      refine lv_iload_n hx hb dX10_set_32 rfl (lv_at hl 3 rfl) ?_
      refine putW C fp_RX10_90 hW 2 rfl rfl rfl (Nat.le_of_ble_eq_true rfl) dX10_set_33 (fun H locs hW => ?_)
      have hW : HW G A s (wX10_set cI cZ a_this a_room a_pad a_trial a_orderTable a_colourTable a_images a_room_shelf a_room_rules a_room_sights a_room_rules_deep a_room_rules_fine a_room_rules_pay a_room_rules_hair x2 v_room_rules_least) H locs := hW
      refine lv_iload_n hx hb dX10_set_36 rfl (lv_at hl 0 rfl) ?_
      subst h
      exact hQ rfl _ _ _ _ dX10_set_37 hW
theorem ctX10_set {l : Launch} {G : va_G} {cI cZ cO : ClassId} (a_this a_room a_pad a_trial a_orderTable a_colourTable a_images a_room_shelf a_room_rules a_room_sights a_room_rules_deep a_room_rules_fine a_room_rules_pay a_room_rules_hair : Nat) (x1 : Int32) (x2 : Int32) (v_room_rules_flat : Int32) (v_room_rules_least : Int32) {res : Int32 × Int32 × Int32} (h : fX10_set x1 x2 v_room_rules_flat v_room_rules_least = res) : MI l G cI cZ cO yX10_set cX10_set 4 .int rX10_set [.ref a_this, .int x1, .int x2] (wX10_set cI cZ a_this a_room a_pad a_trial a_orderTable a_colourTable a_images a_room_shelf a_room_rules a_room_sights a_room_rules_deep a_room_rules_fine a_room_rules_pay a_room_rules_hair v_room_rules_flat v_room_rules_least) (res.1) (wX10_set cI cZ a_this a_room a_pad a_trial a_orderTable a_colourTable a_images a_room_shelf a_room_rules a_room_sights a_room_rules_deep a_room_rules_fine a_room_rules_pay a_room_rules_hair res.2.1 res.2.2) := by
  refine MI.of (by decide) (Nat.le_of_ble_eq_true rfl) ?_
  intro p e s m below meth c A Q C hW hQ ls hl
  exact uX10_set_0 x1 x2 v_room_rules_flat v_room_rules_least C hQ h _ _ hW _ hl
abbrev wX10_hairs (cI cZ : ClassId) (a_this a_room a_pad a_trial a_orderTable a_colourTable a_images a_room_shelf a_room_rules a_room_sights a_room_rules_deep a_room_rules_fine a_room_rules_pay a_room_rules_hair : Nat) (v_room_rules_flat : Int32) (v_room_rules_least : Int32) (v_room_rules_hair : Nat → Int32) : va_W := [(a_this, .inr (10, [.ref a_room, .ref a_pad, .ref a_trial, .ref a_orderTable, .ref a_colourTable, .ref a_images])), (a_room, .inr (4, [.ref a_room_shelf, .ref a_room_rules, .ref a_room_sights])), (a_room_rules, .inr (5, [.int v_room_rules_flat, .int v_room_rules_least, .ref a_room_rules_deep, .ref a_room_rules_fine, .ref a_room_rules_pay, .ref a_room_rules_hair])), (a_room_rules_hair, .inl (cI, 6, .inl v_room_rules_hair))]
abbrev rX10_hairs : Room := { frames := 1, cells := 0, slots := 0, locals := 22 }
set_option maxRecDepth 20000 in
theorem uX10_hairs_0 {a_this a_room a_pad a_trial a_orderTable a_colourTable a_images a_room_shelf a_room_rules a_room_sights a_room_rules_deep a_room_rules_fine a_room_rules_pay a_room_rules_hair : Nat} (x1 : Int32) (x2 : Int32) (v_room_rules_flat : Int32) (v_room_rules_least : Int32) (v_room_rules_hair : Nat → Int32) {res : Int32 × (Nat → Int32)} (C : Cx p s m av meth c RX10 cX10_hairs 4 (some .int) G cI cZ cO A) (hQ : RI p l e rX10_hairs s m av below meth c G A cX10_hairs .int Q (res.1) (wX10_hairs cI cZ a_this a_room a_pad a_trial a_orderTable a_colourTable a_images a_room_shelf a_room_rules a_room_sights a_room_rules_deep a_room_rules_fine a_room_rules_pay a_room_rules_hair v_room_rules_flat v_room_rules_least res.2)) (h : fX10_hairs x1 x2 v_room_rules_hair = some res) (H : Heap) (locs : List Loc) (hW : HW G A s (wX10_hairs cI cZ a_this a_room a_pad a_trial a_orderTable a_colourTable a_images a_room_shelf a_room_rules a_room_sights a_room_rules_deep a_room_rules_fine a_room_rules_pay a_room_rules_hair v_room_rules_flat v_room_rules_least v_room_rules_hair) H locs) (ls : Array Slot) (hl : lv_has ls 4 [(0, .ref a_this), (1, .int x1), (2, .int x2)]) : W p l e rX10_hairs s m av below meth c H locs 0 0 Q (F0 m 0 ls []) := by
  have hx := C.1
  have hb := C.2.1
  unfold fX10_hairs at h
  refine lv_iload_n hx hb dX10_hairs_0 rfl (lv_at hl 1 rfl) ?_
  refine lv_iconst (v := (0 : Int32)) hx hb dX10_hairs_1 (by decide) ?_
  refine lv_iconst (v := (5 : Int32)) hx hb dX10_hairs_2 (by decide) ?_
  refine callSI0 C lk_RX10_48 (ctX10_inside x1 (0 : Int32) (5 : Int32) rfl) hW hl rfl ⟨rfl, rfl⟩ ⟨(Nat.le_of_ble_eq_true rfl), (Nat.le_of_ble_eq_true rfl)⟩ ⟨Nat.zero_le _, Nat.zero_le _⟩ rfl (Nat.le_of_ble_eq_true rfl) dX10_hairs_3 (fun H locs hW => ?_)
  refine lv_if_eq (tgt := 20) hx hb dX10_hairs_6 (by decide) (fun c_1 => ?_) (fun c_1 => ?_)
  · have h := ip_h c_1 h
    refine lv_bipush (v := (-2 : Int32)) hx hb dX10_hairs_20 (by decide) ?_
    obtain rfl := Option.some.inj h
    exact hQ rfl _ _ _ _ dX10_hairs_22 hW
  · have h := in_h c_1 h
    refine lv_iload_n hx hb dX10_hairs_9 rfl (lv_at hl 2 rfl) ?_
    refine lv_bipush (v := (-9 : Int32)) hx hb dX10_hairs_10 (by decide) ?_
    refine lv_bipush (v := (9 : Int32)) hx hb dX10_hairs_12 (by decide) ?_
    refine callSI0 C lk_RX10_48 (ctX10_inside x2 (-9 : Int32) (9 : Int32) rfl) hW hl rfl ⟨rfl, rfl⟩ ⟨(Nat.le_of_ble_eq_true rfl), (Nat.le_of_ble_eq_true rfl)⟩ ⟨Nat.zero_le _, Nat.zero_le _⟩ rfl (Nat.le_of_ble_eq_true rfl) dX10_hairs_14 (fun H locs hW => ?_)
    refine lv_if_ne (tgt := 23) hx hb dX10_hairs_17 (by decide) (fun c_2 => ?_) (fun c_2 => ?_)
    · have h := in_h c_2 h
      refine lv_aload_n hx hb dX10_hairs_23 rfl (lv_at hl 0 rfl) ?_
      refine getW C fl_RX10_12 hW 0 rfl rfl dX10_hairs_24 ?_
      refine getW C fl_RX10_74 hW 1 rfl rfl dX10_hairs_27 ?_
      refine getW C fl_RX10_97 hW 2 rfl rfl dX10_hairs_30 ?_
      refine lv_iload_n hx hb dX10_hairs_33 rfl (lv_at hl 1 rfl) ?_
      obtain ⟨g_3, h⟩ := gd_h h
      refine ialdW C hW 3 rfl g_3 dX10_hairs_34 ?_
      refine lv_topi (fun v_4 ev_4 => ?_)
      have h := lt_h ev_4 h
      refine lv_istore_n (lv' := [(3, .int v_4), (0, .ref a_this), (1, .int x1), (2, .int x2)]) hx hb dX10_hairs_35 rfl hl (Nat.le_of_ble_eq_true rfl) rfl (fun ls hl => ?_)
      refine lv_aload_n hx hb dX10_hairs_36 rfl (lv_at hl 1 rfl) ?_
      refine getW C fl_RX10_12 hW 0 rfl rfl dX10_hairs_37 ?_
      refine getW C fl_RX10_74 hW 1 rfl rfl dX10_hairs_40 ?_
      refine getW C fl_RX10_97 hW 2 rfl rfl dX10_hairs_43 ?_
      refine lv_iload_n hx hb dX10_hairs_46 rfl (lv_at hl 2 rfl) ?_
      refine lv_iload_n hx hb dX10_hairs_47 rfl (lv_at hl 3 rfl) ?_
      refine iastW C hW 3 rfl g_3 dX10_hairs_48 (fun H locs hW => ?_)
      have hW : HW G A s (wX10_hairs cI cZ a_this a_room a_pad a_trial a_orderTable a_colourTable a_images a_room_shelf a_room_rules a_room_sights a_room_rules_deep a_room_rules_fine a_room_rules_pay a_room_rules_hair v_room_rules_flat v_room_rules_least (upd v_room_rules_hair (Int32.toNatClampNeg x1) x2)) H locs := hW
      refine lv_iload_n hx hb dX10_hairs_49 rfl (lv_at hl 0 rfl) ?_
      refine lv_bipush (v := (9 : Int32)) hx hb dX10_hairs_50 (by decide) ?_
      refine lv_iadd hx hb dX10_hairs_52 ?_
      obtain rfl := Option.some.inj h
      exact hQ rfl _ _ _ _ dX10_hairs_53 hW
    · have h := ip_h c_2 h
      refine lv_bipush (v := (-2 : Int32)) hx hb dX10_hairs_20 (by decide) ?_
      obtain rfl := Option.some.inj h
      exact hQ rfl _ _ _ _ dX10_hairs_22 hW
theorem ctX10_hairs {l : Launch} {G : va_G} {cI cZ cO : ClassId} (a_this a_room a_pad a_trial a_orderTable a_colourTable a_images a_room_shelf a_room_rules a_room_sights a_room_rules_deep a_room_rules_fine a_room_rules_pay a_room_rules_hair : Nat) (x1 : Int32) (x2 : Int32) (v_room_rules_flat : Int32) (v_room_rules_least : Int32) (v_room_rules_hair : Nat → Int32) {res : Int32 × (Nat → Int32)} (h : fX10_hairs x1 x2 v_room_rules_hair = some res) : MI l G cI cZ cO yX10_hairs cX10_hairs 4 .int rX10_hairs [.ref a_this, .int x1, .int x2] (wX10_hairs cI cZ a_this a_room a_pad a_trial a_orderTable a_colourTable a_images a_room_shelf a_room_rules a_room_sights a_room_rules_deep a_room_rules_fine a_room_rules_pay a_room_rules_hair v_room_rules_flat v_room_rules_least v_room_rules_hair) (res.1) (wX10_hairs cI cZ a_this a_room a_pad a_trial a_orderTable a_colourTable a_images a_room_shelf a_room_rules a_room_sights a_room_rules_deep a_room_rules_fine a_room_rules_pay a_room_rules_hair v_room_rules_flat v_room_rules_least res.2) := by
  refine MI.of (by decide) (Nat.le_of_ble_eq_true rfl) ?_
  intro p e s m below meth c A Q C hW hQ ls hl
  exact uX10_hairs_0 x1 x2 v_room_rules_flat v_room_rules_least v_room_rules_hair C hQ h _ _ hW _ hl
abbrev wX10_say (cI cZ : ClassId) (a_this a_room a_pad a_trial a_orderTable a_colourTable a_images a_pad_signs : Nat) (v_pad_size : Int32) (v_pad_signs : Nat → Int32) : va_W := [(a_this, .inr (10, [.ref a_room, .ref a_pad, .ref a_trial, .ref a_orderTable, .ref a_colourTable, .ref a_images])), (a_pad, .inr (3, [.int v_pad_size, .ref a_pad_signs])), (a_pad_signs, .inl (cI, 60, .inl v_pad_signs))]
abbrev rX10_say : Room := { frames := 2, cells := 0, slots := 0, locals := 43 }
set_option maxRecDepth 20000 in
theorem uX10_say_0 {a_this a_room a_pad a_trial a_orderTable a_colourTable a_images a_pad_signs : Nat} (x1 : Int32) (v_pad_size : Int32) (v_pad_signs : Nat → Int32) {res : Int32 × Int32 × (Nat → Int32)} (C : Cx p s m av meth c RX10 cX10_say 2 (some .int) G cI cZ cO A) (hQ : RI p l e rX10_say s m av below meth c G A cX10_say .int Q (res.1) (wX10_say cI cZ a_this a_room a_pad a_trial a_orderTable a_colourTable a_images a_pad_signs res.2.1 res.2.2)) (h : fX10_say x1 v_pad_size v_pad_signs = some res) (H : Heap) (locs : List Loc) (hW : HW G A s (wX10_say cI cZ a_this a_room a_pad a_trial a_orderTable a_colourTable a_images a_pad_signs v_pad_size v_pad_signs) H locs) (ls : Array Slot) (hl : lv_has ls 2 [(0, .ref a_this), (1, .int x1)]) : W p l e rX10_say s m av below meth c H locs 0 0 Q (F0 m 0 ls []) := by
  have hx := C.1
  have hb := C.2.1
  unfold fX10_say at h
  refine lv_iload_n hx hb dX10_say_0 rfl (lv_at hl 1 rfl) ?_
  refine lv_bipush (v := (33 : Int32)) hx hb dX10_say_1 (by decide) ?_
  refine lv_bipush (v := (126 : Int32)) hx hb dX10_say_3 (by decide) ?_
  refine callSI0 C lk_RX10_48 (ctX10_inside x1 (33 : Int32) (126 : Int32) rfl) hW hl rfl ⟨rfl, rfl⟩ ⟨(Nat.le_of_ble_eq_true rfl), (Nat.le_of_ble_eq_true rfl)⟩ ⟨Nat.zero_le _, Nat.zero_le _⟩ rfl (Nat.le_of_ble_eq_true rfl) dX10_say_5 (fun H locs hW => ?_)
  refine lv_if_ne (tgt := 14) hx hb dX10_say_8 (by decide) (fun c_1 => ?_) (fun c_1 => ?_)
  · have h := in_h c_1 h
    refine lv_aload_n hx hb dX10_say_14 rfl (lv_at hl 0 rfl) ?_
    refine getW C fl_RX10_19 hW 0 rfl rfl dX10_say_15 ?_
    refine lv_iload_n hx hb dX10_say_18 rfl (lv_at hl 1 rfl) ?_
    obtain ⟨v_2, hv_2, h⟩ := bd_h h
    refine callVIm [1, 2] [0] [(a_this, .inr (10, [.ref a_room, .ref a_pad, .ref a_trial, .ref a_orderTable, .ref a_colourTable, .ref a_images]))] (wX10_say cI cZ a_this a_room a_pad a_trial a_orderTable a_colourTable a_images a_pad_signs v_2.2.1 v_2.2.2) C lk_RX10_100 (ctX3_write a_pad a_pad_signs x1 v_pad_size v_pad_signs hv_2) hW hl 3 rfl rfl rfl rfl rfl rfl rfl rfl rfl rfl ⟨rfl, rfl⟩ ⟨(Nat.le_of_ble_eq_true rfl), (Nat.le_of_ble_eq_true rfl)⟩ ⟨Nat.zero_le _, Nat.zero_le _⟩ rfl (Nat.le_of_ble_eq_true rfl) dX10_say_19 (fun H locs hW => ?_)
    refine lv_if_eq (tgt := 35) hx hb dX10_say_22 (by decide) (fun c_3 => ?_) (fun c_3 => ?_)
    · have h := ip_h c_3 h
      refine lv_bipush (v := (-4 : Int32)) hx hb dX10_say_35 (by decide) ?_
      obtain rfl := Option.some.inj h
      exact hQ rfl _ _ _ _ dX10_say_37 hW
    · have h := in_h c_3 h
      refine lv_aload_n hx hb dX10_say_25 rfl (lv_at hl 0 rfl) ?_
      refine getW C fl_RX10_19 hW 0 rfl rfl dX10_say_26 ?_
      refine getW C fl_RX10_103 hW 1 rfl rfl dX10_say_29 ?_
      refine lv_goto (tgt := 37) hx hb dX10_say_32 (by decide) ?_
      obtain rfl := Option.some.inj h
      exact hQ rfl _ _ _ _ dX10_say_37 hW
  · have h := ip_h c_1 h
    refine lv_bipush (v := (-2 : Int32)) hx hb dX10_say_11 (by decide) ?_
    obtain rfl := Option.some.inj h
    exact hQ rfl _ _ _ _ dX10_say_13 hW
theorem ctX10_say {l : Launch} {G : va_G} {cI cZ cO : ClassId} (a_this a_room a_pad a_trial a_orderTable a_colourTable a_images a_pad_signs : Nat) (x1 : Int32) (v_pad_size : Int32) (v_pad_signs : Nat → Int32) {res : Int32 × Int32 × (Nat → Int32)} (h : fX10_say x1 v_pad_size v_pad_signs = some res) : MI l G cI cZ cO yX10_say cX10_say 2 .int rX10_say [.ref a_this, .int x1] (wX10_say cI cZ a_this a_room a_pad a_trial a_orderTable a_colourTable a_images a_pad_signs v_pad_size v_pad_signs) (res.1) (wX10_say cI cZ a_this a_room a_pad a_trial a_orderTable a_colourTable a_images a_pad_signs res.2.1 res.2.2) := by
  refine MI.of (by decide) (Nat.le_of_ble_eq_true rfl) ?_
  intro p e s m below meth c A Q C hW hQ ls hl
  exact uX10_say_0 x1 v_pad_size v_pad_signs C hQ h _ _ hW _ hl
abbrev wX10_wipe (cI cZ : ClassId) (a_this a_room a_pad a_trial a_orderTable a_colourTable a_images a_pad_signs : Nat) (v_pad_size : Int32) : va_W := [(a_this, .inr (10, [.ref a_room, .ref a_pad, .ref a_trial, .ref a_orderTable, .ref a_colourTable, .ref a_images])), (a_pad, .inr (3, [.int v_pad_size, .ref a_pad_signs]))]
abbrev rX10_wipe : Room := { frames := 0, cells := 0, slots := 0, locals := 0 }
set_option maxRecDepth 20000 in
theorem uX10_wipe_0 {a_this a_room a_pad a_trial a_orderTable a_colourTable a_images a_pad_signs : Nat} (v_pad_size : Int32) {res : Int32 × Int32} (C : Cx p s m av meth c RX10 cX10_wipe 2 (some .int) G cI cZ cO A) (hQ : RI p l e rX10_wipe s m av below meth c G A cX10_wipe .int Q (res.1) (wX10_wipe cI cZ a_this a_room a_pad a_trial a_orderTable a_colourTable a_images a_pad_signs res.2)) (h : fX10_wipe v_pad_size = res) (H : Heap) (locs : List Loc) (hW : HW G A s (wX10_wipe cI cZ a_this a_room a_pad a_trial a_orderTable a_colourTable a_images a_pad_signs v_pad_size) H locs) (ls : Array Slot) (hl : lv_has ls 2 [(0, .ref a_this)]) : W p l e rX10_wipe s m av below meth c H locs 0 0 Q (F0 m 0 ls []) := by
  have hx := C.1
  have hb := C.2.1
  unfold fX10_wipe at h
  refine lv_aload_n hx hb dX10_wipe_0 rfl (lv_at hl 0 rfl) ?_
  refine getW C fl_RX10_19 hW 0 rfl rfl dX10_wipe_1 ?_
  refine getW C fl_RX10_103 hW 1 rfl rfl dX10_wipe_4 ?_
  refine lv_istore_n (lv' := [(1, .int v_pad_size), (0, .ref a_this)]) hx hb dX10_wipe_7 rfl hl (Nat.le_of_ble_eq_true rfl) rfl (fun ls hl => ?_)
  refine lv_aload_n hx hb dX10_wipe_8 rfl (lv_at hl 1 rfl) ?_
  refine getW C fl_RX10_19 hW 0 rfl rfl dX10_wipe_9 ?_
  refine lv_iconst (v := (0 : Int32)) hx hb dX10_wipe_12 (by decide) ?_
  refine putW C fp_RX10_103 hW 1 rfl rfl rfl (Nat.le_of_ble_eq_true rfl) dX10_wipe_13 (fun H locs hW => ?_)
  have hW : HW G A s (wX10_wipe cI cZ a_this a_room a_pad a_trial a_orderTable a_colourTable a_images a_pad_signs (0 : Int32)) H locs := hW
  refine lv_iload_n hx hb dX10_wipe_16 rfl (lv_at hl 0 rfl) ?_
  subst h
  exact hQ rfl _ _ _ _ dX10_wipe_17 hW
theorem ctX10_wipe {l : Launch} {G : va_G} {cI cZ cO : ClassId} (a_this a_room a_pad a_trial a_orderTable a_colourTable a_images a_pad_signs : Nat) (v_pad_size : Int32) {res : Int32 × Int32} (h : fX10_wipe v_pad_size = res) : MI l G cI cZ cO yX10_wipe cX10_wipe 2 .int rX10_wipe [.ref a_this] (wX10_wipe cI cZ a_this a_room a_pad a_trial a_orderTable a_colourTable a_images a_pad_signs v_pad_size) (res.1) (wX10_wipe cI cZ a_this a_room a_pad a_trial a_orderTable a_colourTable a_images a_pad_signs res.2) := by
  refine MI.of (by decide) (Nat.le_of_ble_eq_true rfl) ?_
  intro p e s m below meth c A Q C hW hQ ls hl
  exact uX10_wipe_0 v_pad_size C hQ h _ _ hW _ hl
abbrev wX10_fault (cI cZ : ClassId) (a_this a_room a_pad a_trial a_orderTable a_colourTable a_images a_pad_signs : Nat) (v_pad_size : Int32) (v_pad_signs : Nat → Int32) : va_W := [(a_this, .inr (10, [.ref a_room, .ref a_pad, .ref a_trial, .ref a_orderTable, .ref a_colourTable, .ref a_images])), (a_pad, .inr (3, [.int v_pad_size, .ref a_pad_signs])), (a_pad_signs, .inl (cI, 60, .inl v_pad_signs))]
abbrev rX10_fault : Room := { frames := 3, cells := 0, slots := 0, locals := 66 }
set_option maxRecDepth 20000 in
theorem uX10_fault_0 {a_this a_room a_pad a_trial a_orderTable a_colourTable a_images a_pad_signs : Nat} (v_pad_size : Int32) (v_pad_signs : Nat → Int32) {res : Int32} (C : Cx p s m av meth c RX10 cX10_fault 1 (some .int) G cI cZ cO A) (hQ : RI p l e rX10_fault s m av below meth c G A cX10_fault .int Q (res) (wX10_fault cI cZ a_this a_room a_pad a_trial a_orderTable a_colourTable a_images a_pad_signs v_pad_size v_pad_signs)) (h : fX10_fault v_pad_size v_pad_signs = some res) (H : Heap) (locs : List Loc) (hW : HW G A s (wX10_fault cI cZ a_this a_room a_pad a_trial a_orderTable a_colourTable a_images a_pad_signs v_pad_size v_pad_signs) H locs) (ls : Array Slot) (hl : lv_has ls 1 [(0, .ref a_this)]) : W p l e rX10_fault s m av below meth c H locs 0 0 Q (F0 m 0 ls []) := by
  have hx := C.1
  have hb := C.2.1
  unfold fX10_fault at h
  refine lv_aload_n hx hb dX10_fault_0 rfl (lv_at hl 0 rfl) ?_
  refine getW C fl_RX10_19 hW 0 rfl rfl dX10_fault_1 ?_
  obtain ⟨v_1, hv_1, h⟩ := bd_h h
  refine callVIr [1, 2] C lk_RX10_106 (ctX3_firstFault a_pad a_pad_signs v_pad_size v_pad_signs hv_1) hW hl 3 rfl rfl rfl rfl rfl ⟨rfl, rfl⟩ ⟨(Nat.le_of_ble_eq_true rfl), (Nat.le_of_ble_eq_true rfl)⟩ ⟨Nat.zero_le _, Nat.zero_le _⟩ rfl (Nat.le_of_ble_eq_true rfl) dX10_fault_4 (fun H locs hW => ?_)
  obtain rfl := Option.some.inj h
  exact hQ rfl _ _ _ _ dX10_fault_7 hW
theorem ctX10_fault {l : Launch} {G : va_G} {cI cZ cO : ClassId} (a_this a_room a_pad a_trial a_orderTable a_colourTable a_images a_pad_signs : Nat) (v_pad_size : Int32) (v_pad_signs : Nat → Int32) {res : Int32} (h : fX10_fault v_pad_size v_pad_signs = some res) : MI l G cI cZ cO yX10_fault cX10_fault 1 .int rX10_fault [.ref a_this] (wX10_fault cI cZ a_this a_room a_pad a_trial a_orderTable a_colourTable a_images a_pad_signs v_pad_size v_pad_signs) (res) (wX10_fault cI cZ a_this a_room a_pad a_trial a_orderTable a_colourTable a_images a_pad_signs v_pad_size v_pad_signs) := by
  refine MI.of (by decide) (Nat.le_of_ble_eq_true rfl) ?_
  intro p e s m below meth c A Q C hW hQ ls hl
  exact uX10_fault_0 v_pad_size v_pad_signs C hQ h _ _ hW _ hl
