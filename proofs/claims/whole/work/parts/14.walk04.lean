variable {p : Program} {l : Launch} {e : Env} {s : State} {m : MethodId} {av : Array Value} {below : List Frame} {meth : Method} {c : Code} {Q : State → Prop} {G : va_G} {cI cZ cO : ClassId} {A : Nat → Prop}
abbrev wX11_happen (cI cZ : ClassId) (a_this a_thick a_hollow a_damp a_fresh a_pulls a_fats a_deep a_fine a_pay a_hair a_sightPicture a_sightPull a_sightShows a_pad a_act a_where a_much a_kindMany a_had a_leaves a_mostPay a_canLast a_leastMissed a_kept a_isKept : Nat) (v_stones : Int32) (v_flat : Int32) (v_leastThick : Int32) (v_sights : Int32) (v_padMany : Int32) (v_acts : Int32) (v_pulled : Int32) (v_skyPull : Int32) (v_skyWhose : Int32) (v_badAct : Int32) (v_badWhy : Int32) (v_keptAt : Int32) (v_isWriting : Int32) (v_thick : Nat → Int32) (v_fresh : Nat → Int32) (v_pulls : Nat → Int32) (v_hollow : Nat → Int32) (v_fats : Nat → Int32) (v_damp : Nat → Int32) (v_kindMany : Nat → Int32) (v_fine : Nat → Int32) (v_deep : Nat → Int32) : va_W := [(a_this, .inr (11, [.int v_stones, .int v_flat, .int v_leastThick, .ref a_thick, .ref a_hollow, .ref a_damp, .ref a_fresh, .ref a_pulls, .ref a_fats, .ref a_deep, .ref a_fine, .ref a_pay, .ref a_hair, .ref a_sightPicture, .ref a_sightPull, .ref a_sightShows, .int v_sights, .ref a_pad, .int v_padMany, .ref a_act, .ref a_where, .ref a_much, .int v_acts, .int v_pulled, .ref a_kindMany, .int v_skyPull, .int v_skyWhose, .ref a_had, .ref a_leaves, .int v_badAct, .int v_badWhy, .ref a_mostPay, .ref a_canLast, .ref a_leastMissed, .ref a_kept, .ref a_isKept, .int v_keptAt, .int v_isWriting])), (a_thick, .inl (cI, 5, .inl v_thick)), (a_fresh, .inl (cI, 5, .inl v_fresh)), (a_pulls, .inl (cI, 5, .inl v_pulls)), (a_hollow, .inl (cI, 5, .inl v_hollow)), (a_fats, .inl (cI, 40, .inl v_fats)), (a_damp, .inl (cI, 5, .inl v_damp)), (a_kindMany, .inl (cI, 5, .inl v_kindMany)), (a_fine, .inl (cI, 8, .inl v_fine)), (a_deep, .inl (cI, 8, .inl v_deep))]
abbrev rX11_happen : Room := { frames := 4, cells := 0, slots := 0, locals := 93 }
set_option maxRecDepth 20000 in
theorem uX11_happen_111 {a_this a_thick a_hollow a_damp a_fresh a_pulls a_fats a_deep a_fine a_pay a_hair a_sightPicture a_sightPull a_sightShows a_pad a_act a_where a_much a_kindMany a_had a_leaves a_mostPay a_canLast a_leastMissed a_kept a_isKept : Nat} (x2 : Int32) (x3 : Int32) (x4 : Int32) (v_stones : Int32) (v_flat : Int32) (v_leastThick : Int32) (v_sights : Int32) (v_padMany : Int32) (v_acts : Int32) (v_pulled : Int32) (v_skyPull : Int32) (v_skyWhose : Int32) (v_badAct : Int32) (v_badWhy : Int32) (v_keptAt : Int32) (v_isWriting : Int32) (v_thick : Nat → Int32) (v_fresh : Nat → Int32) (v_pulls : Nat → Int32) (v_hollow : Nat → Int32) (v_fats : Nat → Int32) (v_damp : Nat → Int32) (v_kindMany : Nat → Int32) (v_fine : Nat → Int32) (v_deep : Nat → Int32) {res : Int32 × Int32 × Int32 × Int32 × (Nat → Int32) × (Nat → Int32) × (Nat → Int32) × (Nat → Int32) × (Nat → Int32) × (Nat → Int32) × (Nat → Int32)} (C : Cx p s m av meth c RX11 cX11_happen 5 none G cI cZ cO A) (hQ : RV p l e rX11_happen s m av below meth c G A cX11_happen Q (wX11_happen cI cZ a_this a_thick a_hollow a_damp a_fresh a_pulls a_fats a_deep a_fine a_pay a_hair a_sightPicture a_sightPull a_sightShows a_pad a_act a_where a_much a_kindMany a_had a_leaves a_mostPay a_canLast a_leastMissed a_kept a_isKept res.2.2.2.1 v_flat v_leastThick v_sights v_padMany v_acts res.1 res.2.1 res.2.2.1 v_badAct v_badWhy v_keptAt v_isWriting res.2.2.2.2.1 res.2.2.2.2.2.1 res.2.2.2.2.2.2.1 res.2.2.2.2.2.2.2.1 res.2.2.2.2.2.2.2.2.1 res.2.2.2.2.2.2.2.2.2.1 res.2.2.2.2.2.2.2.2.2.2 v_fine v_deep)) {k111 : (Int32) → (Int32) → (Int32) → (Int32) → (Nat → Int32) → (Nat → Int32) → (Nat → Int32) → (Nat → Int32) → Option (Int32 × Int32 × Int32 × Int32 × (Nat → Int32) × (Nat → Int32) × (Nat → Int32) × (Nat → Int32) × (Nat → Int32) × (Nat → Int32) × (Nat → Int32))} (hk111 : ∀ (x4 : Int32) (v_pulled : Int32) (v_skyPull : Int32) (v_skyWhose : Int32) (v_pulls : Nat → Int32) (v_fats : Nat → Int32) (v_damp : Nat → Int32) (v_kindMany : Nat → Int32), k111 x4 v_pulled v_skyPull v_skyWhose v_pulls v_fats v_damp v_kindMany = some res → ∀ (H : Heap) (locs : List Loc), HW G A s (wX11_happen cI cZ a_this a_thick a_hollow a_damp a_fresh a_pulls a_fats a_deep a_fine a_pay a_hair a_sightPicture a_sightPull a_sightShows a_pad a_act a_where a_much a_kindMany a_had a_leaves a_mostPay a_canLast a_leastMissed a_kept a_isKept v_stones v_flat v_leastThick v_sights v_padMany v_acts v_pulled v_skyPull v_skyWhose v_badAct v_badWhy v_keptAt v_isWriting v_thick v_fresh v_pulls v_hollow v_fats v_damp v_kindMany v_fine v_deep) H locs → ∀ ls : Array Slot, lv_has ls 5 [(0, .ref a_this), (2, .int x2), (3, .int x3), (4, .int x4)] → W p l e rX11_happen s m av below meth c H locs 0 0 Q (F0 m 111 ls [])) (h : FX11_happen_111 x2 x3 v_stones v_thick v_fresh v_hollow v_fine k111 x4 v_pulled v_skyPull v_skyWhose v_pulls v_fats v_damp v_kindMany = some res) (H : Heap) (locs : List Loc) (hW : HW G A s (wX11_happen cI cZ a_this a_thick a_hollow a_damp a_fresh a_pulls a_fats a_deep a_fine a_pay a_hair a_sightPicture a_sightPull a_sightShows a_pad a_act a_where a_much a_kindMany a_had a_leaves a_mostPay a_canLast a_leastMissed a_kept a_isKept v_stones v_flat v_leastThick v_sights v_padMany v_acts v_pulled v_skyPull v_skyWhose v_badAct v_badWhy v_keptAt v_isWriting v_thick v_fresh v_pulls v_hollow v_fats v_damp v_kindMany v_fine v_deep) H locs) (ls : Array Slot) (hl : lv_has ls 5 [(0, .ref a_this), (2, .int x2), (3, .int x3), (4, .int x4)]) : W p l e rX11_happen s m av below meth c H locs 0 0 Q (F0 m 111 ls []) := by
  have hx := C.1
  have hb := C.2.1
  unfold FX11_happen_111 at h
  refine lv_iload hx hb dX11_happen_111 (lv_at hl 3 rfl) ?_
  refine lv_iload_n hx hb dX11_happen_113 rfl (lv_at hl 2 rfl) ?_
  refine lv_icmp_ge (tgt := 128) hx hb dX11_happen_114 (by decide) (fun c_15 => ?_) (fun c_15 => ?_)
  · have h := ip_h c_15 h
    refine lv_goto (tgt := 199) hx hb dX11_happen_128 (by decide) ?_
    obtain rfl := Option.some.inj h
    exact hQ _ _ _ _ dX11_happen_199 hW
  · have h := in_h c_15 h
    refine lv_aload_n hx hb dX11_happen_117 rfl (lv_at hl 0 rfl) ?_
    refine lv_iload_n hx hb dX11_happen_118 rfl (lv_at hl 1 rfl) ?_
    obtain ⟨v_16, hv_16, h⟩ := bd_h h
    refine callVVm [0, 2, 6, 3, 5, 7, 8] [1, 4, 9] (wX11_happen cI cZ a_this a_thick a_hollow a_damp a_fresh a_pulls a_fats a_deep a_fine a_pay a_hair a_sightPicture a_sightPull a_sightShows a_pad a_act a_where a_much a_kindMany a_had a_leaves a_mostPay a_canLast a_leastMissed a_kept a_isKept v_stones v_flat v_leastThick v_sights v_padMany v_acts v_16.1 v_16.2.1 v_16.2.2.1 v_badAct v_badWhy v_keptAt v_isWriting v_thick v_fresh v_16.2.2.2.2.1 v_hollow v_16.2.2.2.2.2.1 v_16.2.2.2.1 v_16.2.2.2.2.2.2 v_fine v_deep) C lk_RX11_187 (ctX11_pullOnce a_this a_thick a_hollow a_damp a_fresh a_pulls a_fats a_deep a_fine a_pay a_hair a_sightPicture a_sightPull a_sightShows a_pad a_act a_where a_much a_kindMany a_had a_leaves a_mostPay a_canLast a_leastMissed a_kept a_isKept x2 v_stones v_flat v_leastThick v_sights v_padMany v_acts v_pulled v_skyPull v_skyWhose v_badAct v_badWhy v_keptAt v_isWriting v_fresh v_damp v_pulls v_fats v_kindMany v_fine hv_16) hW hl 11 rfl rfl rfl rfl rfl rfl rfl rfl rfl ⟨rfl, rfl⟩ ⟨(Nat.le_of_ble_eq_true rfl), (Nat.le_of_ble_eq_true rfl)⟩ ⟨Nat.zero_le _, Nat.zero_le _⟩ rfl (Nat.le_of_ble_eq_true rfl) dX11_happen_119 (fun H locs hW => ?_)
    obtain ⟨v_17, ev_17⟩ : ∃ y : Int32, y = x4 + (1 : Int32) := ⟨_, rfl⟩
    have h := lt_h ev_17 h
    refine lv_iinc (v := v_17) (lv' := [(4, .int v_17), (0, .ref a_this), (2, .int x2), (3, .int x3)]) hx hb dX11_happen_122 hl (k := 3) rfl (by rw [ev_17]; rfl) (Nat.le_of_ble_eq_true rfl) rfl (fun ls hl => ?_)
    refine lv_goto (tgt := 111) hx hb dX11_happen_125 (by decide) ?_
    exact hk111 v_17 v_16.1 v_16.2.1 v_16.2.2.1 v_16.2.2.2.2.1 v_16.2.2.2.2.2.1 v_16.2.2.2.1 v_16.2.2.2.2.2.2 h _ _ hW _ (lv_sub hl [1, 2, 3, 0] rfl)
theorem wX11_happen_111_ {a_this a_thick a_hollow a_damp a_fresh a_pulls a_fats a_deep a_fine a_pay a_hair a_sightPicture a_sightPull a_sightShows a_pad a_act a_where a_much a_kindMany a_had a_leaves a_mostPay a_canLast a_leastMissed a_kept a_isKept : Nat} (x2 : Int32) (x3 : Int32) (v_stones : Int32) (v_flat : Int32) (v_leastThick : Int32) (v_sights : Int32) (v_padMany : Int32) (v_acts : Int32) (v_badAct : Int32) (v_badWhy : Int32) (v_keptAt : Int32) (v_isWriting : Int32) (v_thick : Nat → Int32) (v_fresh : Nat → Int32) (v_hollow : Nat → Int32) (v_fine : Nat → Int32) (v_deep : Nat → Int32) {res : Int32 × Int32 × Int32 × Int32 × (Nat → Int32) × (Nat → Int32) × (Nat → Int32) × (Nat → Int32) × (Nat → Int32) × (Nat → Int32) × (Nat → Int32)} (C : Cx p s m av meth c RX11 cX11_happen 5 none G cI cZ cO A) (hQ : RV p l e rX11_happen s m av below meth c G A cX11_happen Q (wX11_happen cI cZ a_this a_thick a_hollow a_damp a_fresh a_pulls a_fats a_deep a_fine a_pay a_hair a_sightPicture a_sightPull a_sightShows a_pad a_act a_where a_much a_kindMany a_had a_leaves a_mostPay a_canLast a_leastMissed a_kept a_isKept res.2.2.2.1 v_flat v_leastThick v_sights v_padMany v_acts res.1 res.2.1 res.2.2.1 v_badAct v_badWhy v_keptAt v_isWriting res.2.2.2.2.1 res.2.2.2.2.2.1 res.2.2.2.2.2.2.1 res.2.2.2.2.2.2.2.1 res.2.2.2.2.2.2.2.2.1 res.2.2.2.2.2.2.2.2.2.1 res.2.2.2.2.2.2.2.2.2.2 v_fine v_deep)) : ∀ (n : Nat) (x4 : Int32) (v_pulled : Int32) (v_skyPull : Int32) (v_skyWhose : Int32) (v_pulls : Nat → Int32) (v_fats : Nat → Int32) (v_damp : Nat → Int32) (v_kindMany : Nat → Int32), LX11_happen_111 x2 x3 v_stones v_thick v_fresh v_hollow v_fine n x4 v_pulled v_skyPull v_skyWhose v_pulls v_fats v_damp v_kindMany = some res → ∀ (H : Heap) (locs : List Loc), HW G A s (wX11_happen cI cZ a_this a_thick a_hollow a_damp a_fresh a_pulls a_fats a_deep a_fine a_pay a_hair a_sightPicture a_sightPull a_sightShows a_pad a_act a_where a_much a_kindMany a_had a_leaves a_mostPay a_canLast a_leastMissed a_kept a_isKept v_stones v_flat v_leastThick v_sights v_padMany v_acts v_pulled v_skyPull v_skyWhose v_badAct v_badWhy v_keptAt v_isWriting v_thick v_fresh v_pulls v_hollow v_fats v_damp v_kindMany v_fine v_deep) H locs → ∀ ls : Array Slot, lv_has ls 5 [(0, .ref a_this), (2, .int x2), (3, .int x3), (4, .int x4)] → W p l e rX11_happen s m av below meth c H locs 0 0 Q (F0 m 111 ls []) := by
  intro n
  induction n with
  | zero => intro x4 v_pulled v_skyPull v_skyWhose v_pulls v_fats v_damp v_kindMany h; cases h
  | succ n ih =>
    intro x4 v_pulled v_skyPull v_skyWhose v_pulls v_fats v_damp v_kindMany h H locs hW ls hl
    exact uX11_happen_111 x2 x3 x4 v_stones v_flat v_leastThick v_sights v_padMany v_acts v_pulled v_skyPull v_skyWhose v_badAct v_badWhy v_keptAt v_isWriting v_thick v_fresh v_pulls v_hollow v_fats v_damp v_kindMany v_fine v_deep C hQ (k111 := LX11_happen_111 x2 x3 v_stones v_thick v_fresh v_hollow v_fine n) ih h H locs hW ls hl
set_option maxRecDepth 20000 in
theorem uX11_happen_0 {a_this a_thick a_hollow a_damp a_fresh a_pulls a_fats a_deep a_fine a_pay a_hair a_sightPicture a_sightPull a_sightShows a_pad a_act a_where a_much a_kindMany a_had a_leaves a_mostPay a_canLast a_leastMissed a_kept a_isKept : Nat} (x1 : Int32) (x2 : Int32) (x3 : Int32) (v_stones : Int32) (v_flat : Int32) (v_leastThick : Int32) (v_sights : Int32) (v_padMany : Int32) (v_acts : Int32) (v_pulled : Int32) (v_skyPull : Int32) (v_skyWhose : Int32) (v_badAct : Int32) (v_badWhy : Int32) (v_keptAt : Int32) (v_isWriting : Int32) (v_thick : Nat → Int32) (v_fresh : Nat → Int32) (v_pulls : Nat → Int32) (v_hollow : Nat → Int32) (v_fats : Nat → Int32) (v_damp : Nat → Int32) (v_kindMany : Nat → Int32) (v_fine : Nat → Int32) (v_deep : Nat → Int32) {res : Int32 × Int32 × Int32 × Int32 × (Nat → Int32) × (Nat → Int32) × (Nat → Int32) × (Nat → Int32) × (Nat → Int32) × (Nat → Int32) × (Nat → Int32)} (C : Cx p s m av meth c RX11 cX11_happen 5 none G cI cZ cO A) (hQ : RV p l e rX11_happen s m av below meth c G A cX11_happen Q (wX11_happen cI cZ a_this a_thick a_hollow a_damp a_fresh a_pulls a_fats a_deep a_fine a_pay a_hair a_sightPicture a_sightPull a_sightShows a_pad a_act a_where a_much a_kindMany a_had a_leaves a_mostPay a_canLast a_leastMissed a_kept a_isKept res.2.2.2.1 v_flat v_leastThick v_sights v_padMany v_acts res.1 res.2.1 res.2.2.1 v_badAct v_badWhy v_keptAt v_isWriting res.2.2.2.2.1 res.2.2.2.2.2.1 res.2.2.2.2.2.2.1 res.2.2.2.2.2.2.2.1 res.2.2.2.2.2.2.2.2.1 res.2.2.2.2.2.2.2.2.2.1 res.2.2.2.2.2.2.2.2.2.2 v_fine v_deep)) (h : fX11_happen x1 x2 x3 v_stones v_pulled v_skyPull v_skyWhose v_thick v_fresh v_pulls v_hollow v_fats v_damp v_kindMany v_fine v_deep = some res) (H : Heap) (locs : List Loc) (hW : HW G A s (wX11_happen cI cZ a_this a_thick a_hollow a_damp a_fresh a_pulls a_fats a_deep a_fine a_pay a_hair a_sightPicture a_sightPull a_sightShows a_pad a_act a_where a_much a_kindMany a_had a_leaves a_mostPay a_canLast a_leastMissed a_kept a_isKept v_stones v_flat v_leastThick v_sights v_padMany v_acts v_pulled v_skyPull v_skyWhose v_badAct v_badWhy v_keptAt v_isWriting v_thick v_fresh v_pulls v_hollow v_fats v_damp v_kindMany v_fine v_deep) H locs) (ls : Array Slot) (hl : lv_has ls 5 [(0, .ref a_this), (1, .int x1), (2, .int x2), (3, .int x3)]) : W p l e rX11_happen s m av below meth c H locs 0 0 Q (F0 m 0 ls []) := by
  have hx := C.1
  have hb := C.2.1
  unfold fX11_happen at h
  refine lv_iload_n hx hb dX11_happen_0 rfl (lv_at hl 1 rfl) ?_
  by_cases c_1 : x1 = (0 : Int32)
  · have h := ip_h c_1 h
    refine lv_tableIn (off := 39) (tgt := 40) hx hb dX11_happen_1 (by rw [c_1]; decide) (by rw [c_1]; decide) (by rw [c_1]; rfl) (by decide) ?_
    refine lv_aload_n hx hb dX11_happen_40 rfl (lv_at hl 0 rfl) ?_
    refine getW C fl_RX11_25 hW 0 rfl rfl dX11_happen_41 ?_
    refine lv_iload_n hx hb dX11_happen_44 rfl (lv_at hl 2 rfl) ?_
    refine lv_iload_n hx hb dX11_happen_45 rfl (lv_at hl 3 rfl) ?_
    refine callSI0 C lk_RX11_110 (ctX11_at x2 x3 rfl) hW hl rfl ⟨rfl, rfl⟩ ⟨(Nat.le_of_ble_eq_true rfl), (Nat.le_of_ble_eq_true rfl)⟩ ⟨Nat.zero_le _, Nat.zero_le _⟩ rfl (Nat.le_of_ble_eq_true rfl) dX11_happen_46 (fun H locs hW => ?_)
    refine lv_aload_n hx hb dX11_happen_49 rfl (lv_at hl 0 rfl) ?_
    refine getW C fl_RX11_28 hW 0 rfl rfl dX11_happen_50 ?_
    refine lv_iload_n hx hb dX11_happen_53 rfl (lv_at hl 3 rfl) ?_
    obtain ⟨g_2, h⟩ := gd_h h
    refine ialdW C hW 9 rfl g_2 dX11_happen_54 ?_
    refine lv_topi (fun v_3 ev_3 => ?_)
    have h := lt_h ev_3 h
    obtain ⟨g_4, h⟩ := gd_h h
    refine iastW C hW 5 rfl g_4 dX11_happen_55 (fun H locs hW => ?_)
    have hW : HW G A s (wX11_happen cI cZ a_this a_thick a_hollow a_damp a_fresh a_pulls a_fats a_deep a_fine a_pay a_hair a_sightPicture a_sightPull a_sightShows a_pad a_act a_where a_much a_kindMany a_had a_leaves a_mostPay a_canLast a_leastMissed a_kept a_isKept v_stones v_flat v_leastThick v_sights v_padMany v_acts v_pulled v_skyPull v_skyWhose v_badAct v_badWhy v_keptAt v_isWriting v_thick v_fresh v_pulls v_hollow (upd v_fats (Int32.toNatClampNeg (fX11_at x2 x3)) v_3) v_damp v_kindMany v_fine v_deep) H locs := hW
    refine lv_aload_n hx hb dX11_happen_56 rfl (lv_at hl 0 rfl) ?_
    refine getW C fl_RX11_19 hW 0 rfl rfl dX11_happen_57 ?_
    refine lv_iload_n hx hb dX11_happen_60 rfl (lv_at hl 2 rfl) ?_
    refine lv_iload_n hx hb dX11_happen_61 rfl (lv_at hl 3 rfl) ?_
    obtain ⟨g_5, h⟩ := gd_h h
    refine iastW C hW 2 rfl g_5 dX11_happen_62 (fun H locs hW => ?_)
    have hW : HW G A s (wX11_happen cI cZ a_this a_thick a_hollow a_damp a_fresh a_pulls a_fats a_deep a_fine a_pay a_hair a_sightPicture a_sightPull a_sightShows a_pad a_act a_where a_much a_kindMany a_had a_leaves a_mostPay a_canLast a_leastMissed a_kept a_isKept v_stones v_flat v_leastThick v_sights v_padMany v_acts v_pulled v_skyPull v_skyWhose v_badAct v_badWhy v_keptAt v_isWriting v_thick (upd v_fresh (Int32.toNatClampNeg x2) x3) v_pulls v_hollow (upd v_fats (Int32.toNatClampNeg (fX11_at x2 x3)) v_3) v_damp v_kindMany v_fine v_deep) H locs := hW
    refine lv_aload_n hx hb dX11_happen_63 rfl (lv_at hl 0 rfl) ?_
    refine getW C fl_RX11_22 hW 0 rfl rfl dX11_happen_64 ?_
    refine lv_iload_n hx hb dX11_happen_67 rfl (lv_at hl 2 rfl) ?_
    refine lv_iconst (v := (0 : Int32)) hx hb dX11_happen_68 (by decide) ?_
    refine iastW C hW 3 rfl g_5 dX11_happen_69 (fun H locs hW => ?_)
    have hW : HW G A s (wX11_happen cI cZ a_this a_thick a_hollow a_damp a_fresh a_pulls a_fats a_deep a_fine a_pay a_hair a_sightPicture a_sightPull a_sightShows a_pad a_act a_where a_much a_kindMany a_had a_leaves a_mostPay a_canLast a_leastMissed a_kept a_isKept v_stones v_flat v_leastThick v_sights v_padMany v_acts v_pulled v_skyPull v_skyWhose v_badAct v_badWhy v_keptAt v_isWriting v_thick (upd v_fresh (Int32.toNatClampNeg x2) x3) (upd v_pulls (Int32.toNatClampNeg x2) (0 : Int32)) v_hollow (upd v_fats (Int32.toNatClampNeg (fX11_at x2 x3)) v_3) v_damp v_kindMany v_fine v_deep) H locs := hW
    refine lv_goto (tgt := 199) hx hb dX11_happen_70 (by decide) ?_
    obtain rfl := Option.some.inj h
    exact hQ _ _ _ _ dX11_happen_199 hW
  · have h := in_h c_1 h
    by_cases c_6 : x1 = (1 : Int32)
    · have h := ip_h c_6 h
      refine lv_tableIn (off := 191) (tgt := 192) hx hb dX11_happen_1 (by rw [c_6]; decide) (by rw [c_6]; decide) (by rw [c_6]; rfl) (by decide) ?_
      refine lv_aload_n hx hb dX11_happen_192 rfl (lv_at hl 0 rfl) ?_
      refine lv_iload_n hx hb dX11_happen_193 rfl (lv_at hl 1 rfl) ?_
      refine lv_iload_n hx hb dX11_happen_194 rfl (lv_at hl 2 rfl) ?_
      refine lv_iload_n hx hb dX11_happen_195 rfl (lv_at hl 3 rfl) ?_
      obtain ⟨v_7, hv_7, h⟩ := bd_h h
      refine callVVm [0, 1, 2, 3, 4, 5] [6, 7, 8, 9] (wX11_happen cI cZ a_this a_thick a_hollow a_damp a_fresh a_pulls a_fats a_deep a_fine a_pay a_hair a_sightPicture a_sightPull a_sightShows a_pad a_act a_where a_much a_kindMany a_had a_leaves a_mostPay a_canLast a_leastMissed a_kept a_isKept v_stones v_flat v_leastThick v_sights v_padMany v_acts v_pulled v_skyPull v_skyWhose v_badAct v_badWhy v_keptAt v_isWriting v_7.1 v_7.2.1 v_7.2.2.1 v_7.2.2.2.1 v_7.2.2.2.2 v_damp v_kindMany v_fine v_deep) C lk_RX11_191 (ctX11_grindFor a_this a_thick a_hollow a_damp a_fresh a_pulls a_fats a_deep a_fine a_pay a_hair a_sightPicture a_sightPull a_sightShows a_pad a_act a_where a_much a_kindMany a_had a_leaves a_mostPay a_canLast a_leastMissed a_kept a_isKept x1 x2 x3 v_stones v_flat v_leastThick v_sights v_padMany v_acts v_pulled v_skyPull v_skyWhose v_badAct v_badWhy v_keptAt v_isWriting v_thick v_fresh v_pulls v_hollow v_fats hv_7) hW hl 11 rfl rfl rfl rfl rfl rfl rfl rfl rfl ⟨rfl, rfl⟩ ⟨(Nat.le_of_ble_eq_true rfl), (Nat.le_of_ble_eq_true rfl)⟩ ⟨Nat.zero_le _, Nat.zero_le _⟩ rfl (Nat.le_of_ble_eq_true rfl) dX11_happen_196 (fun H locs hW => ?_)
      obtain rfl := Option.some.inj h
      exact hQ _ _ _ _ dX11_happen_199 hW
    · have h := in_h c_6 h
      by_cases c_8 : x1 = (2 : Int32)
      · have h := ip_h c_8 h
        refine lv_tableIn (off := 191) (tgt := 192) hx hb dX11_happen_1 (by rw [c_8]; decide) (by rw [c_8]; decide) (by rw [c_8]; rfl) (by decide) ?_
        refine lv_aload_n hx hb dX11_happen_192 rfl (lv_at hl 0 rfl) ?_
        refine lv_iload_n hx hb dX11_happen_193 rfl (lv_at hl 1 rfl) ?_
        refine lv_iload_n hx hb dX11_happen_194 rfl (lv_at hl 2 rfl) ?_
        refine lv_iload_n hx hb dX11_happen_195 rfl (lv_at hl 3 rfl) ?_
        obtain ⟨v_9, hv_9, h⟩ := bd_h h
        refine callVVm [0, 1, 2, 3, 4, 5] [6, 7, 8, 9] (wX11_happen cI cZ a_this a_thick a_hollow a_damp a_fresh a_pulls a_fats a_deep a_fine a_pay a_hair a_sightPicture a_sightPull a_sightShows a_pad a_act a_where a_much a_kindMany a_had a_leaves a_mostPay a_canLast a_leastMissed a_kept a_isKept v_stones v_flat v_leastThick v_sights v_padMany v_acts v_pulled v_skyPull v_skyWhose v_badAct v_badWhy v_keptAt v_isWriting v_9.1 v_9.2.1 v_9.2.2.1 v_9.2.2.2.1 v_9.2.2.2.2 v_damp v_kindMany v_fine v_deep) C lk_RX11_191 (ctX11_grindFor a_this a_thick a_hollow a_damp a_fresh a_pulls a_fats a_deep a_fine a_pay a_hair a_sightPicture a_sightPull a_sightShows a_pad a_act a_where a_much a_kindMany a_had a_leaves a_mostPay a_canLast a_leastMissed a_kept a_isKept x1 x2 x3 v_stones v_flat v_leastThick v_sights v_padMany v_acts v_pulled v_skyPull v_skyWhose v_badAct v_badWhy v_keptAt v_isWriting v_thick v_fresh v_pulls v_hollow v_fats hv_9) hW hl 11 rfl rfl rfl rfl rfl rfl rfl rfl rfl ⟨rfl, rfl⟩ ⟨(Nat.le_of_ble_eq_true rfl), (Nat.le_of_ble_eq_true rfl)⟩ ⟨Nat.zero_le _, Nat.zero_le _⟩ rfl (Nat.le_of_ble_eq_true rfl) dX11_happen_196 (fun H locs hW => ?_)
        obtain rfl := Option.some.inj h
        exact hQ _ _ _ _ dX11_happen_199 hW
      · have h := in_h c_8 h
        by_cases c_10 : x1 = (3 : Int32)
        · have h := ip_h c_10 h
          refine lv_tableIn (off := 72) (tgt := 73) hx hb dX11_happen_1 (by rw [c_10]; decide) (by rw [c_10]; decide) (by rw [c_10]; rfl) (by decide) ?_
          refine lv_aload_n hx hb dX11_happen_73 rfl (lv_at hl 0 rfl) ?_
          refine getW C fl_RX11_16 hW 0 rfl rfl dX11_happen_74 ?_
          refine lv_iload_n hx hb dX11_happen_77 rfl (lv_at hl 2 rfl) ?_
          refine lv_aload_n hx hb dX11_happen_78 rfl (lv_at hl 0 rfl) ?_
          refine getW C fl_RX11_16 hW 0 rfl rfl dX11_happen_79 ?_
          refine lv_iload_n hx hb dX11_happen_82 rfl (lv_at hl 2 rfl) ?_
          obtain ⟨g_11, h⟩ := gd_h h
          refine ialdW C hW 6 rfl g_11 dX11_happen_83 ?_
          refine lv_iload_n hx hb dX11_happen_84 rfl (lv_at hl 3 rfl) ?_
          refine lv_iadd hx hb dX11_happen_85 ?_
          refine lv_bipush (v := (20 : Int32)) hx hb dX11_happen_86 (by decide) ?_
          refine lv_icmp_le (tgt := 96) hx hb dX11_happen_88 (by decide) (fun c_12 => ?_) (fun c_12 => ?_)
          · have h := ip_h c_12 h
            refine lv_aload_n hx hb dX11_happen_96 rfl (lv_at hl 0 rfl) ?_
            refine getW C fl_RX11_16 hW 0 rfl rfl dX11_happen_97 ?_
            refine lv_iload_n hx hb dX11_happen_100 rfl (lv_at hl 2 rfl) ?_
            refine ialdW C hW 6 rfl g_11 dX11_happen_101 ?_
            refine lv_iload_n hx hb dX11_happen_102 rfl (lv_at hl 3 rfl) ?_
            refine lv_iadd hx hb dX11_happen_103 ?_
            refine lv_topi (fun v_13 ev_13 => ?_)
            have h := lt_h ev_13 h
            refine iastW C hW 6 rfl g_11 dX11_happen_104 (fun H locs hW => ?_)
            have hW : HW G A s (wX11_happen cI cZ a_this a_thick a_hollow a_damp a_fresh a_pulls a_fats a_deep a_fine a_pay a_hair a_sightPicture a_sightPull a_sightShows a_pad a_act a_where a_much a_kindMany a_had a_leaves a_mostPay a_canLast a_leastMissed a_kept a_isKept v_stones v_flat v_leastThick v_sights v_padMany v_acts v_pulled v_skyPull v_skyWhose v_badAct v_badWhy v_keptAt v_isWriting v_thick v_fresh v_pulls v_hollow v_fats (upd v_damp (Int32.toNatClampNeg x2) v_13) v_kindMany v_fine v_deep) H locs := hW
            refine lv_goto (tgt := 199) hx hb dX11_happen_105 (by decide) ?_
            obtain rfl := Option.some.inj h
            exact hQ _ _ _ _ dX11_happen_199 hW
          · have h := in_h c_12 h
            refine lv_bipush (v := (20 : Int32)) hx hb dX11_happen_91 (by decide) ?_
            refine lv_goto (tgt := 104) hx hb dX11_happen_93 (by decide) ?_
            refine iastW C hW 6 rfl g_11 dX11_happen_104 (fun H locs hW => ?_)
            have hW : HW G A s (wX11_happen cI cZ a_this a_thick a_hollow a_damp a_fresh a_pulls a_fats a_deep a_fine a_pay a_hair a_sightPicture a_sightPull a_sightShows a_pad a_act a_where a_much a_kindMany a_had a_leaves a_mostPay a_canLast a_leastMissed a_kept a_isKept v_stones v_flat v_leastThick v_sights v_padMany v_acts v_pulled v_skyPull v_skyWhose v_badAct v_badWhy v_keptAt v_isWriting v_thick v_fresh v_pulls v_hollow v_fats (upd v_damp (Int32.toNatClampNeg x2) (20 : Int32)) v_kindMany v_fine v_deep) H locs := hW
            refine lv_goto (tgt := 199) hx hb dX11_happen_105 (by decide) ?_
            obtain rfl := Option.some.inj h
            exact hQ _ _ _ _ dX11_happen_199 hW
        · have h := in_h c_10 h
          by_cases c_14 : x1 = (4 : Int32)
          · have h := ip_h c_14 h
            refine lv_tableIn (off := 107) (tgt := 108) hx hb dX11_happen_1 (by rw [c_14]; decide) (by rw [c_14]; decide) (by rw [c_14]; rfl) (by decide) ?_
            refine lv_iconst (v := (0 : Int32)) hx hb dX11_happen_108 (by decide) ?_
            refine lv_istore (lv' := [(4, .int (0 : Int32)), (0, .ref a_this), (1, .int x1), (2, .int x2), (3, .int x3)]) hx hb dX11_happen_109 hl (Nat.le_of_ble_eq_true rfl) rfl (fun ls hl => ?_)
            exact wX11_happen_111_ x2 x3 v_stones v_flat v_leastThick v_sights v_padMany v_acts v_badAct v_badWhy v_keptAt v_isWriting v_thick v_fresh v_hollow v_fine v_deep C hQ 2000 (0 : Int32) v_pulled v_skyPull v_skyWhose v_pulls v_fats v_damp v_kindMany h _ _ hW _ (lv_sub hl [1, 3, 4, 0] rfl)
          · have h := in_h c_14 h
            by_cases c_18 : x1 = (5 : Int32)
            · have h := ip_h c_18 h
              refine lv_tableIn (off := 130) (tgt := 131) hx hb dX11_happen_1 (by rw [c_18]; decide) (by rw [c_18]; decide) (by rw [c_18]; rfl) (by decide) ?_
              refine lv_aload_n hx hb dX11_happen_131 rfl (lv_at hl 0 rfl) ?_
              refine getW C fl_RX11_7 hW 0 rfl rfl dX11_happen_132 ?_
              refine lv_iload_n hx hb dX11_happen_135 rfl (lv_at hl 2 rfl) ?_
              refine lv_aload_n hx hb dX11_happen_136 rfl (lv_at hl 0 rfl) ?_
              refine getW C fl_RX11_7 hW 0 rfl rfl dX11_happen_137 ?_
              refine lv_iload_n hx hb dX11_happen_140 rfl (lv_at hl 2 rfl) ?_
              obtain ⟨g_19, h⟩ := gd_h h
              refine ialdW C hW 1 rfl g_19 dX11_happen_141 ?_
              refine lv_aload_n hx hb dX11_happen_142 rfl (lv_at hl 0 rfl) ?_
              refine getW C fl_RX11_7 hW 0 rfl rfl dX11_happen_143 ?_
              refine lv_iload_n hx hb dX11_happen_146 rfl (lv_at hl 3 rfl) ?_
              obtain ⟨g_20, h⟩ := gd_h h
              refine ialdW C hW 1 rfl g_20 dX11_happen_147 ?_
              refine lv_iadd hx hb dX11_happen_148 ?_
              refine lv_sipush (v := (9999 : Int32)) hx hb dX11_happen_149 (by decide) ?_
              refine lv_icmp_le (tgt := 161) hx hb dX11_happen_152 (by decide) (fun c_21 => ?_) (fun c_21 => ?_)
              · have h := ip_h c_21 h
                refine lv_aload_n hx hb dX11_happen_161 rfl (lv_at hl 0 rfl) ?_
                refine getW C fl_RX11_7 hW 0 rfl rfl dX11_happen_162 ?_
                refine lv_iload_n hx hb dX11_happen_165 rfl (lv_at hl 2 rfl) ?_
                refine ialdW C hW 1 rfl g_19 dX11_happen_166 ?_
                refine lv_aload_n hx hb dX11_happen_167 rfl (lv_at hl 0 rfl) ?_
                refine getW C fl_RX11_7 hW 0 rfl rfl dX11_happen_168 ?_
                refine lv_iload_n hx hb dX11_happen_171 rfl (lv_at hl 3 rfl) ?_
                refine ialdW C hW 1 rfl g_20 dX11_happen_172 ?_
                refine lv_iadd hx hb dX11_happen_173 ?_
                refine lv_topi (fun v_22 ev_22 => ?_)
                have h := lt_h ev_22 h
                refine iastW C hW 1 rfl g_19 dX11_happen_174 (fun H locs hW => ?_)
                have hW : HW G A s (wX11_happen cI cZ a_this a_thick a_hollow a_damp a_fresh a_pulls a_fats a_deep a_fine a_pay a_hair a_sightPicture a_sightPull a_sightShows a_pad a_act a_where a_much a_kindMany a_had a_leaves a_mostPay a_canLast a_leastMissed a_kept a_isKept v_stones v_flat v_leastThick v_sights v_padMany v_acts v_pulled v_skyPull v_skyWhose v_badAct v_badWhy v_keptAt v_isWriting (upd v_thick (Int32.toNatClampNeg x2) v_22) v_fresh v_pulls v_hollow v_fats v_damp v_kindMany v_fine v_deep) H locs := hW
                refine lv_aload_n hx hb dX11_happen_175 rfl (lv_at hl 0 rfl) ?_
                refine lv_dup hx hb dX11_happen_176 rfl ?_
                refine getW C fl_RX11_99 hW 0 rfl rfl dX11_happen_177 ?_
                refine lv_iconst (v := (1 : Int32)) hx hb dX11_happen_180 (by decide) ?_
                refine lv_iload_n hx hb dX11_happen_181 rfl (lv_at hl 3 rfl) ?_
                refine lv_ishl hx hb dX11_happen_182 ?_
                refine lv_iconst (v := (-1 : Int32)) hx hb dX11_happen_183 (by decide) ?_
                refine lv_ixor hx hb dX11_happen_184 ?_
                refine lv_iand hx hb dX11_happen_185 ?_
                refine lv_topi (fun v_23 ev_23 => ?_)
                have h := lt_h ev_23 h
                refine putW C fp_RX11_99 hW 0 rfl rfl rfl (Nat.le_of_ble_eq_true rfl) dX11_happen_186 (fun H locs hW => ?_)
                have hW : HW G A s (wX11_happen cI cZ a_this a_thick a_hollow a_damp a_fresh a_pulls a_fats a_deep a_fine a_pay a_hair a_sightPicture a_sightPull a_sightShows a_pad a_act a_where a_much a_kindMany a_had a_leaves a_mostPay a_canLast a_leastMissed a_kept a_isKept v_23 v_flat v_leastThick v_sights v_padMany v_acts v_pulled v_skyPull v_skyWhose v_badAct v_badWhy v_keptAt v_isWriting (upd v_thick (Int32.toNatClampNeg x2) v_22) v_fresh v_pulls v_hollow v_fats v_damp v_kindMany v_fine v_deep) H locs := hW
                refine lv_goto (tgt := 199) hx hb dX11_happen_189 (by decide) ?_
                obtain rfl := Option.some.inj h
                exact hQ _ _ _ _ dX11_happen_199 hW
              · have h := in_h c_21 h
                refine lv_sipush (v := (9999 : Int32)) hx hb dX11_happen_155 (by decide) ?_
                refine lv_goto (tgt := 174) hx hb dX11_happen_158 (by decide) ?_
                refine iastW C hW 1 rfl g_19 dX11_happen_174 (fun H locs hW => ?_)
                have hW : HW G A s (wX11_happen cI cZ a_this a_thick a_hollow a_damp a_fresh a_pulls a_fats a_deep a_fine a_pay a_hair a_sightPicture a_sightPull a_sightShows a_pad a_act a_where a_much a_kindMany a_had a_leaves a_mostPay a_canLast a_leastMissed a_kept a_isKept v_stones v_flat v_leastThick v_sights v_padMany v_acts v_pulled v_skyPull v_skyWhose v_badAct v_badWhy v_keptAt v_isWriting (upd v_thick (Int32.toNatClampNeg x2) (9999 : Int32)) v_fresh v_pulls v_hollow v_fats v_damp v_kindMany v_fine v_deep) H locs := hW
                refine lv_aload_n hx hb dX11_happen_175 rfl (lv_at hl 0 rfl) ?_
                refine lv_dup hx hb dX11_happen_176 rfl ?_
                refine getW C fl_RX11_99 hW 0 rfl rfl dX11_happen_177 ?_
                refine lv_iconst (v := (1 : Int32)) hx hb dX11_happen_180 (by decide) ?_
                refine lv_iload_n hx hb dX11_happen_181 rfl (lv_at hl 3 rfl) ?_
                refine lv_ishl hx hb dX11_happen_182 ?_
                refine lv_iconst (v := (-1 : Int32)) hx hb dX11_happen_183 (by decide) ?_
                refine lv_ixor hx hb dX11_happen_184 ?_
                refine lv_iand hx hb dX11_happen_185 ?_
                refine lv_topi (fun v_24 ev_24 => ?_)
                have h := lt_h ev_24 h
                refine putW C fp_RX11_99 hW 0 rfl rfl rfl (Nat.le_of_ble_eq_true rfl) dX11_happen_186 (fun H locs hW => ?_)
                have hW : HW G A s (wX11_happen cI cZ a_this a_thick a_hollow a_damp a_fresh a_pulls a_fats a_deep a_fine a_pay a_hair a_sightPicture a_sightPull a_sightShows a_pad a_act a_where a_much a_kindMany a_had a_leaves a_mostPay a_canLast a_leastMissed a_kept a_isKept v_24 v_flat v_leastThick v_sights v_padMany v_acts v_pulled v_skyPull v_skyWhose v_badAct v_badWhy v_keptAt v_isWriting (upd v_thick (Int32.toNatClampNeg x2) (9999 : Int32)) v_fresh v_pulls v_hollow v_fats v_damp v_kindMany v_fine v_deep) H locs := hW
                refine lv_goto (tgt := 199) hx hb dX11_happen_189 (by decide) ?_
                obtain rfl := Option.some.inj h
                exact hQ _ _ _ _ dX11_happen_199 hW
            · have h := in_h c_18 h
              refine lv_tableOut (tgt := 192) hx hb dX11_happen_1 (by have t0 := ne_ti (j := 0) (by decide) c_1; have t1 := ne_ti (j := 1) (by decide) c_6; have t2 := ne_ti (j := 2) (by decide) c_8; have t3 := ne_ti (j := 3) (by decide) c_10; have t4 := ne_ti (j := 4) (by decide) c_14; have t5 := ne_ti (j := 5) (by decide) c_18; omega) (by decide) ?_
              refine lv_aload_n hx hb dX11_happen_192 rfl (lv_at hl 0 rfl) ?_
              refine lv_iload_n hx hb dX11_happen_193 rfl (lv_at hl 1 rfl) ?_
              refine lv_iload_n hx hb dX11_happen_194 rfl (lv_at hl 2 rfl) ?_
              refine lv_iload_n hx hb dX11_happen_195 rfl (lv_at hl 3 rfl) ?_
              obtain ⟨v_25, hv_25, h⟩ := bd_h h
              refine callVVm [0, 1, 2, 3, 4, 5] [6, 7, 8, 9] (wX11_happen cI cZ a_this a_thick a_hollow a_damp a_fresh a_pulls a_fats a_deep a_fine a_pay a_hair a_sightPicture a_sightPull a_sightShows a_pad a_act a_where a_much a_kindMany a_had a_leaves a_mostPay a_canLast a_leastMissed a_kept a_isKept v_stones v_flat v_leastThick v_sights v_padMany v_acts v_pulled v_skyPull v_skyWhose v_badAct v_badWhy v_keptAt v_isWriting v_25.1 v_25.2.1 v_25.2.2.1 v_25.2.2.2.1 v_25.2.2.2.2 v_damp v_kindMany v_fine v_deep) C lk_RX11_191 (ctX11_grindFor a_this a_thick a_hollow a_damp a_fresh a_pulls a_fats a_deep a_fine a_pay a_hair a_sightPicture a_sightPull a_sightShows a_pad a_act a_where a_much a_kindMany a_had a_leaves a_mostPay a_canLast a_leastMissed a_kept a_isKept x1 x2 x3 v_stones v_flat v_leastThick v_sights v_padMany v_acts v_pulled v_skyPull v_skyWhose v_badAct v_badWhy v_keptAt v_isWriting v_thick v_fresh v_pulls v_hollow v_fats hv_25) hW hl 11 rfl rfl rfl rfl rfl rfl rfl rfl rfl ⟨rfl, rfl⟩ ⟨(Nat.le_of_ble_eq_true rfl), (Nat.le_of_ble_eq_true rfl)⟩ ⟨Nat.zero_le _, Nat.zero_le _⟩ rfl (Nat.le_of_ble_eq_true rfl) dX11_happen_196 (fun H locs hW => ?_)
              obtain rfl := Option.some.inj h
              exact hQ _ _ _ _ dX11_happen_199 hW
theorem ctX11_happen {l : Launch} {G : va_G} {cI cZ cO : ClassId} (a_this a_thick a_hollow a_damp a_fresh a_pulls a_fats a_deep a_fine a_pay a_hair a_sightPicture a_sightPull a_sightShows a_pad a_act a_where a_much a_kindMany a_had a_leaves a_mostPay a_canLast a_leastMissed a_kept a_isKept : Nat) (x1 : Int32) (x2 : Int32) (x3 : Int32) (v_stones : Int32) (v_flat : Int32) (v_leastThick : Int32) (v_sights : Int32) (v_padMany : Int32) (v_acts : Int32) (v_pulled : Int32) (v_skyPull : Int32) (v_skyWhose : Int32) (v_badAct : Int32) (v_badWhy : Int32) (v_keptAt : Int32) (v_isWriting : Int32) (v_thick : Nat → Int32) (v_fresh : Nat → Int32) (v_pulls : Nat → Int32) (v_hollow : Nat → Int32) (v_fats : Nat → Int32) (v_damp : Nat → Int32) (v_kindMany : Nat → Int32) (v_fine : Nat → Int32) (v_deep : Nat → Int32) {res : Int32 × Int32 × Int32 × Int32 × (Nat → Int32) × (Nat → Int32) × (Nat → Int32) × (Nat → Int32) × (Nat → Int32) × (Nat → Int32) × (Nat → Int32)} (h : fX11_happen x1 x2 x3 v_stones v_pulled v_skyPull v_skyWhose v_thick v_fresh v_pulls v_hollow v_fats v_damp v_kindMany v_fine v_deep = some res) : MV l G cI cZ cO yX11_happen cX11_happen 5 rX11_happen [.ref a_this, .int x1, .int x2, .int x3] (wX11_happen cI cZ a_this a_thick a_hollow a_damp a_fresh a_pulls a_fats a_deep a_fine a_pay a_hair a_sightPicture a_sightPull a_sightShows a_pad a_act a_where a_much a_kindMany a_had a_leaves a_mostPay a_canLast a_leastMissed a_kept a_isKept v_stones v_flat v_leastThick v_sights v_padMany v_acts v_pulled v_skyPull v_skyWhose v_badAct v_badWhy v_keptAt v_isWriting v_thick v_fresh v_pulls v_hollow v_fats v_damp v_kindMany v_fine v_deep) (wX11_happen cI cZ a_this a_thick a_hollow a_damp a_fresh a_pulls a_fats a_deep a_fine a_pay a_hair a_sightPicture a_sightPull a_sightShows a_pad a_act a_where a_much a_kindMany a_had a_leaves a_mostPay a_canLast a_leastMissed a_kept a_isKept res.2.2.2.1 v_flat v_leastThick v_sights v_padMany v_acts res.1 res.2.1 res.2.2.1 v_badAct v_badWhy v_keptAt v_isWriting res.2.2.2.2.1 res.2.2.2.2.2.1 res.2.2.2.2.2.2.1 res.2.2.2.2.2.2.2.1 res.2.2.2.2.2.2.2.2.1 res.2.2.2.2.2.2.2.2.2.1 res.2.2.2.2.2.2.2.2.2.2 v_fine v_deep) := by
  refine MV.of (by decide) (Nat.le_of_ble_eq_true rfl) ?_
  intro p e s m below meth c A Q C hW hQ ls hl
  exact uX11_happen_0 x1 x2 x3 v_stones v_flat v_leastThick v_sights v_padMany v_acts v_pulled v_skyPull v_skyWhose v_badAct v_badWhy v_keptAt v_isWriting v_thick v_fresh v_pulls v_hollow v_fats v_damp v_kindMany v_fine v_deep C hQ h _ _ hW _ hl
abbrev wX11_store (cI cZ : ClassId) (a_this a_thick a_hollow a_damp a_fresh a_pulls a_fats a_deep a_fine a_pay a_hair a_sightPicture a_sightPull a_sightShows a_pad a_act a_where a_much a_kindMany a_had a_leaves a_mostPay a_canLast a_leastMissed a_kept a_isKept a_arg1 : Nat) (v_stones : Int32) (v_flat : Int32) (v_leastThick : Int32) (v_sights : Int32) (v_padMany : Int32) (v_acts : Int32) (v_pulled : Int32) (v_skyPull : Int32) (v_skyWhose : Int32) (v_badAct : Int32) (v_badWhy : Int32) (v_keptAt : Int32) (v_isWriting : Int32) (v_fats : Nat → Int32) (v_thick : Nat → Int32) (v_hollow : Nat → Int32) (v_damp : Nat → Int32) (v_fresh : Nat → Int32) (v_pulls : Nat → Int32) (v_arg1 : Nat → Int32) : va_W := [(a_this, .inr (11, [.int v_stones, .int v_flat, .int v_leastThick, .ref a_thick, .ref a_hollow, .ref a_damp, .ref a_fresh, .ref a_pulls, .ref a_fats, .ref a_deep, .ref a_fine, .ref a_pay, .ref a_hair, .ref a_sightPicture, .ref a_sightPull, .ref a_sightShows, .int v_sights, .ref a_pad, .int v_padMany, .ref a_act, .ref a_where, .ref a_much, .int v_acts, .int v_pulled, .ref a_kindMany, .int v_skyPull, .int v_skyWhose, .ref a_had, .ref a_leaves, .int v_badAct, .int v_badWhy, .ref a_mostPay, .ref a_canLast, .ref a_leastMissed, .ref a_kept, .ref a_isKept, .int v_keptAt, .int v_isWriting])), (a_fats, .inl (cI, 40, .inl v_fats)), (a_thick, .inl (cI, 5, .inl v_thick)), (a_hollow, .inl (cI, 5, .inl v_hollow)), (a_damp, .inl (cI, 5, .inl v_damp)), (a_fresh, .inl (cI, 5, .inl v_fresh)), (a_pulls, .inl (cI, 5, .inl v_pulls)), (a_arg1, .inl (cI, 66, .inl v_arg1))]
abbrev rX11_store : Room := { frames := 0, cells := 0, slots := 0, locals := 0 }
set_option maxRecDepth 20000 in
theorem uX11_store_71 {a_this a_thick a_hollow a_damp a_fresh a_pulls a_fats a_deep a_fine a_pay a_hair a_sightPicture a_sightPull a_sightShows a_pad a_act a_where a_much a_kindMany a_had a_leaves a_mostPay a_canLast a_leastMissed a_kept a_isKept a_arg1 : Nat} (x2 : Int32) (v_stones : Int32) (v_flat : Int32) (v_leastThick : Int32) (v_sights : Int32) (v_padMany : Int32) (v_acts : Int32) (v_pulled : Int32) (v_skyPull : Int32) (v_skyWhose : Int32) (v_badAct : Int32) (v_badWhy : Int32) (v_keptAt : Int32) (v_isWriting : Int32) (v_fats : Nat → Int32) (v_thick : Nat → Int32) (v_hollow : Nat → Int32) (v_damp : Nat → Int32) (v_fresh : Nat → Int32) (v_pulls : Nat → Int32) (v_arg1 : Nat → Int32) {res : (Nat → Int32)} (C : Cx p s m av meth c RX11 cX11_store 3 none G cI cZ cO A) (hQ : RV p l e rX11_store s m av below meth c G A cX11_store Q (wX11_store cI cZ a_this a_thick a_hollow a_damp a_fresh a_pulls a_fats a_deep a_fine a_pay a_hair a_sightPicture a_sightPull a_sightShows a_pad a_act a_where a_much a_kindMany a_had a_leaves a_mostPay a_canLast a_leastMissed a_kept a_isKept a_arg1 v_stones v_flat v_leastThick v_sights v_padMany v_acts v_pulled v_skyPull v_skyWhose v_badAct v_badWhy v_keptAt v_isWriting v_fats v_thick v_hollow v_damp v_fresh v_pulls res)) {k71 : (Int32) → (Nat → Int32) → Option ((Nat → Int32))} (hk71 : ∀ (x2 : Int32) (v_arg1 : Nat → Int32), k71 x2 v_arg1 = some res → ∀ (H : Heap) (locs : List Loc), HW G A s (wX11_store cI cZ a_this a_thick a_hollow a_damp a_fresh a_pulls a_fats a_deep a_fine a_pay a_hair a_sightPicture a_sightPull a_sightShows a_pad a_act a_where a_much a_kindMany a_had a_leaves a_mostPay a_canLast a_leastMissed a_kept a_isKept a_arg1 v_stones v_flat v_leastThick v_sights v_padMany v_acts v_pulled v_skyPull v_skyWhose v_badAct v_badWhy v_keptAt v_isWriting v_fats v_thick v_hollow v_damp v_fresh v_pulls v_arg1) H locs → ∀ ls : Array Slot, lv_has ls 3 [(0, .ref a_this), (1, .ref a_arg1), (2, .int x2)] → W p l e rX11_store s m av below meth c H locs 0 0 Q (F0 m 71 ls [])) (h : FX11_store_71 v_stones v_fats k71 x2 v_arg1 = some res) (H : Heap) (locs : List Loc) (hW : HW G A s (wX11_store cI cZ a_this a_thick a_hollow a_damp a_fresh a_pulls a_fats a_deep a_fine a_pay a_hair a_sightPicture a_sightPull a_sightShows a_pad a_act a_where a_much a_kindMany a_had a_leaves a_mostPay a_canLast a_leastMissed a_kept a_isKept a_arg1 v_stones v_flat v_leastThick v_sights v_padMany v_acts v_pulled v_skyPull v_skyWhose v_badAct v_badWhy v_keptAt v_isWriting v_fats v_thick v_hollow v_damp v_fresh v_pulls v_arg1) H locs) (ls : Array Slot) (hl : lv_has ls 3 [(0, .ref a_this), (1, .ref a_arg1), (2, .int x2)]) : W p l e rX11_store s m av below meth c H locs 0 0 Q (F0 m 71 ls []) := by
  have hx := C.1
  have hb := C.2.1
  unfold FX11_store_71 at h
  refine lv_iload_n hx hb dX11_store_71 rfl (lv_at hl 2 rfl) ?_
  refine lv_bipush (v := (40 : Int32)) hx hb dX11_store_72 (by decide) ?_
  refine lv_icmp_ge (tgt := 95) hx hb dX11_store_74 (by decide) (fun c_2 => ?_) (fun c_2 => ?_)
  · have h := ip_h c_2 h
    refine lv_aload_n hx hb dX11_store_95 rfl (lv_at hl 1 rfl) ?_
    refine lv_bipush (v := (65 : Int32)) hx hb dX11_store_96 (by decide) ?_
    refine lv_aload_n hx hb dX11_store_98 rfl (lv_at hl 0 rfl) ?_
    refine getW C fl_RX11_99 hW 0 rfl rfl dX11_store_99 ?_
    refine iastW C hW 7 rfl (show ¬ ((65 : Int32) < 0 ∨ 66 ≤ Int32.toNatClampNeg (65 : Int32)) by decide) dX11_store_102 (fun H locs hW => ?_)
    have hW : HW G A s (wX11_store cI cZ a_this a_thick a_hollow a_damp a_fresh a_pulls a_fats a_deep a_fine a_pay a_hair a_sightPicture a_sightPull a_sightShows a_pad a_act a_where a_much a_kindMany a_had a_leaves a_mostPay a_canLast a_leastMissed a_kept a_isKept a_arg1 v_stones v_flat v_leastThick v_sights v_padMany v_acts v_pulled v_skyPull v_skyWhose v_badAct v_badWhy v_keptAt v_isWriting v_fats v_thick v_hollow v_damp v_fresh v_pulls (upd v_arg1 (Int32.toNatClampNeg (65 : Int32)) v_stones)) H locs := hW
    obtain rfl := Option.some.inj h
    exact hQ _ _ _ _ dX11_store_103 hW
  · have h := in_h c_2 h
    refine lv_aload_n hx hb dX11_store_77 rfl (lv_at hl 1 rfl) ?_
    refine lv_bipush (v := (25 : Int32)) hx hb dX11_store_78 (by decide) ?_
    refine lv_iload_n hx hb dX11_store_80 rfl (lv_at hl 2 rfl) ?_
    refine lv_iadd hx hb dX11_store_81 ?_
    refine lv_aload_n hx hb dX11_store_82 rfl (lv_at hl 0 rfl) ?_
    refine getW C fl_RX11_25 hW 0 rfl rfl dX11_store_83 ?_
    refine lv_iload_n hx hb dX11_store_86 rfl (lv_at hl 2 rfl) ?_
    obtain ⟨g_3, h⟩ := gd_h h
    refine ialdW C hW 1 rfl g_3 dX11_store_87 ?_
    refine lv_topi (fun v_4 ev_4 => ?_)
    have h := lt_h ev_4 h
    obtain ⟨g_5, h⟩ := gd_h h
    refine iastW C hW 7 rfl g_5 dX11_store_88 (fun H locs hW => ?_)
    have hW : HW G A s (wX11_store cI cZ a_this a_thick a_hollow a_damp a_fresh a_pulls a_fats a_deep a_fine a_pay a_hair a_sightPicture a_sightPull a_sightShows a_pad a_act a_where a_much a_kindMany a_had a_leaves a_mostPay a_canLast a_leastMissed a_kept a_isKept a_arg1 v_stones v_flat v_leastThick v_sights v_padMany v_acts v_pulled v_skyPull v_skyWhose v_badAct v_badWhy v_keptAt v_isWriting v_fats v_thick v_hollow v_damp v_fresh v_pulls (upd v_arg1 (Int32.toNatClampNeg ((25 : Int32) + x2)) v_4)) H locs := hW
    obtain ⟨v_6, ev_6⟩ : ∃ y : Int32, y = x2 + (1 : Int32) := ⟨_, rfl⟩
    have h := lt_h ev_6 h
    refine lv_iinc (v := v_6) (lv' := [(2, .int v_6), (0, .ref a_this), (1, .ref a_arg1)]) hx hb dX11_store_89 hl (k := 2) rfl (by rw [ev_6]; rfl) (Nat.le_of_ble_eq_true rfl) rfl (fun ls hl => ?_)
    refine lv_goto (tgt := 71) hx hb dX11_store_92 (by decide) ?_
    exact hk71 v_6 (upd v_arg1 (Int32.toNatClampNeg ((25 : Int32) + x2)) v_4) h _ _ hW _ (lv_sub hl [1, 2, 0] rfl)
theorem wX11_store_71_ {a_this a_thick a_hollow a_damp a_fresh a_pulls a_fats a_deep a_fine a_pay a_hair a_sightPicture a_sightPull a_sightShows a_pad a_act a_where a_much a_kindMany a_had a_leaves a_mostPay a_canLast a_leastMissed a_kept a_isKept a_arg1 : Nat} (v_stones : Int32) (v_flat : Int32) (v_leastThick : Int32) (v_sights : Int32) (v_padMany : Int32) (v_acts : Int32) (v_pulled : Int32) (v_skyPull : Int32) (v_skyWhose : Int32) (v_badAct : Int32) (v_badWhy : Int32) (v_keptAt : Int32) (v_isWriting : Int32) (v_fats : Nat → Int32) (v_thick : Nat → Int32) (v_hollow : Nat → Int32) (v_damp : Nat → Int32) (v_fresh : Nat → Int32) (v_pulls : Nat → Int32) {res : (Nat → Int32)} (C : Cx p s m av meth c RX11 cX11_store 3 none G cI cZ cO A) (hQ : RV p l e rX11_store s m av below meth c G A cX11_store Q (wX11_store cI cZ a_this a_thick a_hollow a_damp a_fresh a_pulls a_fats a_deep a_fine a_pay a_hair a_sightPicture a_sightPull a_sightShows a_pad a_act a_where a_much a_kindMany a_had a_leaves a_mostPay a_canLast a_leastMissed a_kept a_isKept a_arg1 v_stones v_flat v_leastThick v_sights v_padMany v_acts v_pulled v_skyPull v_skyWhose v_badAct v_badWhy v_keptAt v_isWriting v_fats v_thick v_hollow v_damp v_fresh v_pulls res)) : ∀ (n : Nat) (x2 : Int32) (v_arg1 : Nat → Int32), LX11_store_71 v_stones v_fats n x2 v_arg1 = some res → ∀ (H : Heap) (locs : List Loc), HW G A s (wX11_store cI cZ a_this a_thick a_hollow a_damp a_fresh a_pulls a_fats a_deep a_fine a_pay a_hair a_sightPicture a_sightPull a_sightShows a_pad a_act a_where a_much a_kindMany a_had a_leaves a_mostPay a_canLast a_leastMissed a_kept a_isKept a_arg1 v_stones v_flat v_leastThick v_sights v_padMany v_acts v_pulled v_skyPull v_skyWhose v_badAct v_badWhy v_keptAt v_isWriting v_fats v_thick v_hollow v_damp v_fresh v_pulls v_arg1) H locs → ∀ ls : Array Slot, lv_has ls 3 [(0, .ref a_this), (1, .ref a_arg1), (2, .int x2)] → W p l e rX11_store s m av below meth c H locs 0 0 Q (F0 m 71 ls []) := by
  intro n
  induction n with
  | zero => intro x2 v_arg1 h; cases h
  | succ n ih =>
    intro x2 v_arg1 h H locs hW ls hl
    exact uX11_store_71 x2 v_stones v_flat v_leastThick v_sights v_padMany v_acts v_pulled v_skyPull v_skyWhose v_badAct v_badWhy v_keptAt v_isWriting v_fats v_thick v_hollow v_damp v_fresh v_pulls v_arg1 C hQ (k71 := LX11_store_71 v_stones v_fats n) ih h H locs hW ls hl
set_option maxRecDepth 20000 in
theorem uX11_store_2 {a_this a_thick a_hollow a_damp a_fresh a_pulls a_fats a_deep a_fine a_pay a_hair a_sightPicture a_sightPull a_sightShows a_pad a_act a_where a_much a_kindMany a_had a_leaves a_mostPay a_canLast a_leastMissed a_kept a_isKept a_arg1 : Nat} (x2 : Int32) (v_stones : Int32) (v_flat : Int32) (v_leastThick : Int32) (v_sights : Int32) (v_padMany : Int32) (v_acts : Int32) (v_pulled : Int32) (v_skyPull : Int32) (v_skyWhose : Int32) (v_badAct : Int32) (v_badWhy : Int32) (v_keptAt : Int32) (v_isWriting : Int32) (v_fats : Nat → Int32) (v_thick : Nat → Int32) (v_hollow : Nat → Int32) (v_damp : Nat → Int32) (v_fresh : Nat → Int32) (v_pulls : Nat → Int32) (v_arg1 : Nat → Int32) {res : (Nat → Int32)} (C : Cx p s m av meth c RX11 cX11_store 3 none G cI cZ cO A) (hQ : RV p l e rX11_store s m av below meth c G A cX11_store Q (wX11_store cI cZ a_this a_thick a_hollow a_damp a_fresh a_pulls a_fats a_deep a_fine a_pay a_hair a_sightPicture a_sightPull a_sightShows a_pad a_act a_where a_much a_kindMany a_had a_leaves a_mostPay a_canLast a_leastMissed a_kept a_isKept a_arg1 v_stones v_flat v_leastThick v_sights v_padMany v_acts v_pulled v_skyPull v_skyWhose v_badAct v_badWhy v_keptAt v_isWriting v_fats v_thick v_hollow v_damp v_fresh v_pulls res)) {k2 : (Int32) → (Nat → Int32) → Option ((Nat → Int32))} (hk2 : ∀ (x2 : Int32) (v_arg1 : Nat → Int32), k2 x2 v_arg1 = some res → ∀ (H : Heap) (locs : List Loc), HW G A s (wX11_store cI cZ a_this a_thick a_hollow a_damp a_fresh a_pulls a_fats a_deep a_fine a_pay a_hair a_sightPicture a_sightPull a_sightShows a_pad a_act a_where a_much a_kindMany a_had a_leaves a_mostPay a_canLast a_leastMissed a_kept a_isKept a_arg1 v_stones v_flat v_leastThick v_sights v_padMany v_acts v_pulled v_skyPull v_skyWhose v_badAct v_badWhy v_keptAt v_isWriting v_fats v_thick v_hollow v_damp v_fresh v_pulls v_arg1) H locs → ∀ ls : Array Slot, lv_has ls 3 [(0, .ref a_this), (1, .ref a_arg1), (2, .int x2)] → W p l e rX11_store s m av below meth c H locs 0 0 Q (F0 m 2 ls [])) (h : FX11_store_2 v_stones v_fats v_thick v_hollow v_damp v_fresh v_pulls k2 x2 v_arg1 = some res) (H : Heap) (locs : List Loc) (hW : HW G A s (wX11_store cI cZ a_this a_thick a_hollow a_damp a_fresh a_pulls a_fats a_deep a_fine a_pay a_hair a_sightPicture a_sightPull a_sightShows a_pad a_act a_where a_much a_kindMany a_had a_leaves a_mostPay a_canLast a_leastMissed a_kept a_isKept a_arg1 v_stones v_flat v_leastThick v_sights v_padMany v_acts v_pulled v_skyPull v_skyWhose v_badAct v_badWhy v_keptAt v_isWriting v_fats v_thick v_hollow v_damp v_fresh v_pulls v_arg1) H locs) (ls : Array Slot) (hl : lv_has ls 3 [(0, .ref a_this), (1, .ref a_arg1), (2, .int x2)]) : W p l e rX11_store s m av below meth c H locs 0 0 Q (F0 m 2 ls []) := by
  have hx := C.1
  have hb := C.2.1
  unfold FX11_store_2 at h
  refine lv_iload_n hx hb dX11_store_2 rfl (lv_at hl 2 rfl) ?_
  refine lv_iconst (v := (5 : Int32)) hx hb dX11_store_3 (by decide) ?_
  refine lv_icmp_ge (tgt := 69) hx hb dX11_store_4 (by decide) (fun c_1 => ?_) (fun c_1 => ?_)
  · have h := ip_h c_1 h
    refine lv_iconst (v := (0 : Int32)) hx hb dX11_store_69 (by decide) ?_
    refine lv_istore_n (lv' := [(2, .int (0 : Int32)), (0, .ref a_this), (1, .ref a_arg1)]) hx hb dX11_store_70 rfl hl (Nat.le_of_ble_eq_true rfl) rfl (fun ls hl => ?_)
    exact wX11_store_71_ v_stones v_flat v_leastThick v_sights v_padMany v_acts v_pulled v_skyPull v_skyWhose v_badAct v_badWhy v_keptAt v_isWriting v_fats v_thick v_hollow v_damp v_fresh v_pulls C hQ 2000 (0 : Int32) v_arg1 h _ _ hW _ (lv_sub hl [1, 2, 0] rfl)
  · have h := in_h c_1 h
    refine lv_aload_n hx hb dX11_store_7 rfl (lv_at hl 1 rfl) ?_
    refine lv_iload_n hx hb dX11_store_8 rfl (lv_at hl 2 rfl) ?_
    refine lv_aload_n hx hb dX11_store_9 rfl (lv_at hl 0 rfl) ?_
    refine getW C fl_RX11_7 hW 0 rfl rfl dX11_store_10 ?_
    refine lv_iload_n hx hb dX11_store_13 rfl (lv_at hl 2 rfl) ?_
    obtain ⟨g_7, h⟩ := gd_h h
    refine ialdW C hW 2 rfl g_7 dX11_store_14 ?_
    refine lv_topi (fun v_8 ev_8 => ?_)
    have h := lt_h ev_8 h
    obtain ⟨g_9, h⟩ := gd_h h
    refine iastW C hW 7 rfl g_9 dX11_store_15 (fun H locs hW => ?_)
    have hW : HW G A s (wX11_store cI cZ a_this a_thick a_hollow a_damp a_fresh a_pulls a_fats a_deep a_fine a_pay a_hair a_sightPicture a_sightPull a_sightShows a_pad a_act a_where a_much a_kindMany a_had a_leaves a_mostPay a_canLast a_leastMissed a_kept a_isKept a_arg1 v_stones v_flat v_leastThick v_sights v_padMany v_acts v_pulled v_skyPull v_skyWhose v_badAct v_badWhy v_keptAt v_isWriting v_fats v_thick v_hollow v_damp v_fresh v_pulls (upd v_arg1 (Int32.toNatClampNeg x2) v_8)) H locs := hW
    refine lv_aload_n hx hb dX11_store_16 rfl (lv_at hl 1 rfl) ?_
    refine lv_iconst (v := (5 : Int32)) hx hb dX11_store_17 (by decide) ?_
    refine lv_iload_n hx hb dX11_store_18 rfl (lv_at hl 2 rfl) ?_
    refine lv_iadd hx hb dX11_store_19 ?_
    refine lv_aload_n hx hb dX11_store_20 rfl (lv_at hl 0 rfl) ?_
    refine getW C fl_RX11_13 hW 0 rfl rfl dX11_store_21 ?_
    refine lv_iload_n hx hb dX11_store_24 rfl (lv_at hl 2 rfl) ?_
    refine ialdW C hW 3 rfl g_7 dX11_store_25 ?_
    refine lv_topi (fun v_10 ev_10 => ?_)
    have h := lt_h ev_10 h
    obtain ⟨g_11, h⟩ := gd_h h
    refine iastW C hW 7 rfl g_11 dX11_store_26 (fun H locs hW => ?_)
    have hW : HW G A s (wX11_store cI cZ a_this a_thick a_hollow a_damp a_fresh a_pulls a_fats a_deep a_fine a_pay a_hair a_sightPicture a_sightPull a_sightShows a_pad a_act a_where a_much a_kindMany a_had a_leaves a_mostPay a_canLast a_leastMissed a_kept a_isKept a_arg1 v_stones v_flat v_leastThick v_sights v_padMany v_acts v_pulled v_skyPull v_skyWhose v_badAct v_badWhy v_keptAt v_isWriting v_fats v_thick v_hollow v_damp v_fresh v_pulls (upd (upd v_arg1 (Int32.toNatClampNeg x2) v_8) (Int32.toNatClampNeg ((5 : Int32) + x2)) v_10)) H locs := hW
    refine lv_aload_n hx hb dX11_store_27 rfl (lv_at hl 1 rfl) ?_
    refine lv_bipush (v := (10 : Int32)) hx hb dX11_store_28 (by decide) ?_
    refine lv_iload_n hx hb dX11_store_30 rfl (lv_at hl 2 rfl) ?_
    refine lv_iadd hx hb dX11_store_31 ?_
    refine lv_aload_n hx hb dX11_store_32 rfl (lv_at hl 0 rfl) ?_
    refine getW C fl_RX11_16 hW 0 rfl rfl dX11_store_33 ?_
    refine lv_iload_n hx hb dX11_store_36 rfl (lv_at hl 2 rfl) ?_
    refine ialdW C hW 4 rfl g_7 dX11_store_37 ?_
    refine lv_topi (fun v_12 ev_12 => ?_)
    have h := lt_h ev_12 h
    obtain ⟨g_13, h⟩ := gd_h h
    refine iastW C hW 7 rfl g_13 dX11_store_38 (fun H locs hW => ?_)
    have hW : HW G A s (wX11_store cI cZ a_this a_thick a_hollow a_damp a_fresh a_pulls a_fats a_deep a_fine a_pay a_hair a_sightPicture a_sightPull a_sightShows a_pad a_act a_where a_much a_kindMany a_had a_leaves a_mostPay a_canLast a_leastMissed a_kept a_isKept a_arg1 v_stones v_flat v_leastThick v_sights v_padMany v_acts v_pulled v_skyPull v_skyWhose v_badAct v_badWhy v_keptAt v_isWriting v_fats v_thick v_hollow v_damp v_fresh v_pulls (upd (upd (upd v_arg1 (Int32.toNatClampNeg x2) v_8) (Int32.toNatClampNeg ((5 : Int32) + x2)) v_10) (Int32.toNatClampNeg ((10 : Int32) + x2)) v_12)) H locs := hW
    refine lv_aload_n hx hb dX11_store_39 rfl (lv_at hl 1 rfl) ?_
    refine lv_bipush (v := (15 : Int32)) hx hb dX11_store_40 (by decide) ?_
    refine lv_iload_n hx hb dX11_store_42 rfl (lv_at hl 2 rfl) ?_
    refine lv_iadd hx hb dX11_store_43 ?_
    refine lv_aload_n hx hb dX11_store_44 rfl (lv_at hl 0 rfl) ?_
    refine getW C fl_RX11_19 hW 0 rfl rfl dX11_store_45 ?_
    refine lv_iload_n hx hb dX11_store_48 rfl (lv_at hl 2 rfl) ?_
    refine ialdW C hW 5 rfl g_7 dX11_store_49 ?_
    refine lv_topi (fun v_14 ev_14 => ?_)
    have h := lt_h ev_14 h
    obtain ⟨g_15, h⟩ := gd_h h
    refine iastW C hW 7 rfl g_15 dX11_store_50 (fun H locs hW => ?_)
    have hW : HW G A s (wX11_store cI cZ a_this a_thick a_hollow a_damp a_fresh a_pulls a_fats a_deep a_fine a_pay a_hair a_sightPicture a_sightPull a_sightShows a_pad a_act a_where a_much a_kindMany a_had a_leaves a_mostPay a_canLast a_leastMissed a_kept a_isKept a_arg1 v_stones v_flat v_leastThick v_sights v_padMany v_acts v_pulled v_skyPull v_skyWhose v_badAct v_badWhy v_keptAt v_isWriting v_fats v_thick v_hollow v_damp v_fresh v_pulls (upd (upd (upd (upd v_arg1 (Int32.toNatClampNeg x2) v_8) (Int32.toNatClampNeg ((5 : Int32) + x2)) v_10) (Int32.toNatClampNeg ((10 : Int32) + x2)) v_12) (Int32.toNatClampNeg ((15 : Int32) + x2)) v_14)) H locs := hW
    refine lv_aload_n hx hb dX11_store_51 rfl (lv_at hl 1 rfl) ?_
    refine lv_bipush (v := (20 : Int32)) hx hb dX11_store_52 (by decide) ?_
    refine lv_iload_n hx hb dX11_store_54 rfl (lv_at hl 2 rfl) ?_
    refine lv_iadd hx hb dX11_store_55 ?_
    refine lv_aload_n hx hb dX11_store_56 rfl (lv_at hl 0 rfl) ?_
    refine getW C fl_RX11_22 hW 0 rfl rfl dX11_store_57 ?_
    refine lv_iload_n hx hb dX11_store_60 rfl (lv_at hl 2 rfl) ?_
    refine ialdW C hW 6 rfl g_7 dX11_store_61 ?_
    refine lv_topi (fun v_16 ev_16 => ?_)
    have h := lt_h ev_16 h
    obtain ⟨g_17, h⟩ := gd_h h
    refine iastW C hW 7 rfl g_17 dX11_store_62 (fun H locs hW => ?_)
    have hW : HW G A s (wX11_store cI cZ a_this a_thick a_hollow a_damp a_fresh a_pulls a_fats a_deep a_fine a_pay a_hair a_sightPicture a_sightPull a_sightShows a_pad a_act a_where a_much a_kindMany a_had a_leaves a_mostPay a_canLast a_leastMissed a_kept a_isKept a_arg1 v_stones v_flat v_leastThick v_sights v_padMany v_acts v_pulled v_skyPull v_skyWhose v_badAct v_badWhy v_keptAt v_isWriting v_fats v_thick v_hollow v_damp v_fresh v_pulls (upd (upd (upd (upd (upd v_arg1 (Int32.toNatClampNeg x2) v_8) (Int32.toNatClampNeg ((5 : Int32) + x2)) v_10) (Int32.toNatClampNeg ((10 : Int32) + x2)) v_12) (Int32.toNatClampNeg ((15 : Int32) + x2)) v_14) (Int32.toNatClampNeg ((20 : Int32) + x2)) v_16)) H locs := hW
    obtain ⟨v_18, ev_18⟩ : ∃ y : Int32, y = x2 + (1 : Int32) := ⟨_, rfl⟩
    have h := lt_h ev_18 h
    refine lv_iinc (v := v_18) (lv' := [(2, .int v_18), (0, .ref a_this), (1, .ref a_arg1)]) hx hb dX11_store_63 hl (k := 2) rfl (by rw [ev_18]; rfl) (Nat.le_of_ble_eq_true rfl) rfl (fun ls hl => ?_)
    refine lv_goto (tgt := 2) hx hb dX11_store_66 (by decide) ?_
    exact hk2 v_18 (upd (upd (upd (upd (upd v_arg1 (Int32.toNatClampNeg x2) v_8) (Int32.toNatClampNeg ((5 : Int32) + x2)) v_10) (Int32.toNatClampNeg ((10 : Int32) + x2)) v_12) (Int32.toNatClampNeg ((15 : Int32) + x2)) v_14) (Int32.toNatClampNeg ((20 : Int32) + x2)) v_16) h _ _ hW _ (lv_sub hl [1, 2, 0] rfl)
theorem wX11_store_2_ {a_this a_thick a_hollow a_damp a_fresh a_pulls a_fats a_deep a_fine a_pay a_hair a_sightPicture a_sightPull a_sightShows a_pad a_act a_where a_much a_kindMany a_had a_leaves a_mostPay a_canLast a_leastMissed a_kept a_isKept a_arg1 : Nat} (v_stones : Int32) (v_flat : Int32) (v_leastThick : Int32) (v_sights : Int32) (v_padMany : Int32) (v_acts : Int32) (v_pulled : Int32) (v_skyPull : Int32) (v_skyWhose : Int32) (v_badAct : Int32) (v_badWhy : Int32) (v_keptAt : Int32) (v_isWriting : Int32) (v_fats : Nat → Int32) (v_thick : Nat → Int32) (v_hollow : Nat → Int32) (v_damp : Nat → Int32) (v_fresh : Nat → Int32) (v_pulls : Nat → Int32) {res : (Nat → Int32)} (C : Cx p s m av meth c RX11 cX11_store 3 none G cI cZ cO A) (hQ : RV p l e rX11_store s m av below meth c G A cX11_store Q (wX11_store cI cZ a_this a_thick a_hollow a_damp a_fresh a_pulls a_fats a_deep a_fine a_pay a_hair a_sightPicture a_sightPull a_sightShows a_pad a_act a_where a_much a_kindMany a_had a_leaves a_mostPay a_canLast a_leastMissed a_kept a_isKept a_arg1 v_stones v_flat v_leastThick v_sights v_padMany v_acts v_pulled v_skyPull v_skyWhose v_badAct v_badWhy v_keptAt v_isWriting v_fats v_thick v_hollow v_damp v_fresh v_pulls res)) : ∀ (n : Nat) (x2 : Int32) (v_arg1 : Nat → Int32), LX11_store_2 v_stones v_fats v_thick v_hollow v_damp v_fresh v_pulls n x2 v_arg1 = some res → ∀ (H : Heap) (locs : List Loc), HW G A s (wX11_store cI cZ a_this a_thick a_hollow a_damp a_fresh a_pulls a_fats a_deep a_fine a_pay a_hair a_sightPicture a_sightPull a_sightShows a_pad a_act a_where a_much a_kindMany a_had a_leaves a_mostPay a_canLast a_leastMissed a_kept a_isKept a_arg1 v_stones v_flat v_leastThick v_sights v_padMany v_acts v_pulled v_skyPull v_skyWhose v_badAct v_badWhy v_keptAt v_isWriting v_fats v_thick v_hollow v_damp v_fresh v_pulls v_arg1) H locs → ∀ ls : Array Slot, lv_has ls 3 [(0, .ref a_this), (1, .ref a_arg1), (2, .int x2)] → W p l e rX11_store s m av below meth c H locs 0 0 Q (F0 m 2 ls []) := by
  intro n
  induction n with
  | zero => intro x2 v_arg1 h; cases h
  | succ n ih =>
    intro x2 v_arg1 h H locs hW ls hl
    exact uX11_store_2 x2 v_stones v_flat v_leastThick v_sights v_padMany v_acts v_pulled v_skyPull v_skyWhose v_badAct v_badWhy v_keptAt v_isWriting v_fats v_thick v_hollow v_damp v_fresh v_pulls v_arg1 C hQ (k2 := LX11_store_2 v_stones v_fats v_thick v_hollow v_damp v_fresh v_pulls n) ih h H locs hW ls hl
set_option maxRecDepth 20000 in
theorem uX11_store_0 {a_this a_thick a_hollow a_damp a_fresh a_pulls a_fats a_deep a_fine a_pay a_hair a_sightPicture a_sightPull a_sightShows a_pad a_act a_where a_much a_kindMany a_had a_leaves a_mostPay a_canLast a_leastMissed a_kept a_isKept a_arg1 : Nat} (v_stones : Int32) (v_flat : Int32) (v_leastThick : Int32) (v_sights : Int32) (v_padMany : Int32) (v_acts : Int32) (v_pulled : Int32) (v_skyPull : Int32) (v_skyWhose : Int32) (v_badAct : Int32) (v_badWhy : Int32) (v_keptAt : Int32) (v_isWriting : Int32) (v_fats : Nat → Int32) (v_thick : Nat → Int32) (v_hollow : Nat → Int32) (v_damp : Nat → Int32) (v_fresh : Nat → Int32) (v_pulls : Nat → Int32) (v_arg1 : Nat → Int32) {res : (Nat → Int32)} (C : Cx p s m av meth c RX11 cX11_store 3 none G cI cZ cO A) (hQ : RV p l e rX11_store s m av below meth c G A cX11_store Q (wX11_store cI cZ a_this a_thick a_hollow a_damp a_fresh a_pulls a_fats a_deep a_fine a_pay a_hair a_sightPicture a_sightPull a_sightShows a_pad a_act a_where a_much a_kindMany a_had a_leaves a_mostPay a_canLast a_leastMissed a_kept a_isKept a_arg1 v_stones v_flat v_leastThick v_sights v_padMany v_acts v_pulled v_skyPull v_skyWhose v_badAct v_badWhy v_keptAt v_isWriting v_fats v_thick v_hollow v_damp v_fresh v_pulls res)) (h : fX11_store v_stones v_fats v_thick v_hollow v_damp v_fresh v_pulls v_arg1 = some res) (H : Heap) (locs : List Loc) (hW : HW G A s (wX11_store cI cZ a_this a_thick a_hollow a_damp a_fresh a_pulls a_fats a_deep a_fine a_pay a_hair a_sightPicture a_sightPull a_sightShows a_pad a_act a_where a_much a_kindMany a_had a_leaves a_mostPay a_canLast a_leastMissed a_kept a_isKept a_arg1 v_stones v_flat v_leastThick v_sights v_padMany v_acts v_pulled v_skyPull v_skyWhose v_badAct v_badWhy v_keptAt v_isWriting v_fats v_thick v_hollow v_damp v_fresh v_pulls v_arg1) H locs) (ls : Array Slot) (hl : lv_has ls 3 [(0, .ref a_this), (1, .ref a_arg1)]) : W p l e rX11_store s m av below meth c H locs 0 0 Q (F0 m 0 ls []) := by
  have hx := C.1
  have hb := C.2.1
  unfold fX11_store at h
  refine lv_iconst (v := (0 : Int32)) hx hb dX11_store_0 (by decide) ?_
  refine lv_istore_n (lv' := [(2, .int (0 : Int32)), (0, .ref a_this), (1, .ref a_arg1)]) hx hb dX11_store_1 rfl hl (Nat.le_of_ble_eq_true rfl) rfl (fun ls hl => ?_)
  exact wX11_store_2_ v_stones v_flat v_leastThick v_sights v_padMany v_acts v_pulled v_skyPull v_skyWhose v_badAct v_badWhy v_keptAt v_isWriting v_fats v_thick v_hollow v_damp v_fresh v_pulls C hQ 2000 (0 : Int32) v_arg1 h _ _ hW _ (lv_sub hl [1, 2, 0] rfl)
theorem ctX11_store {l : Launch} {G : va_G} {cI cZ cO : ClassId} (a_this a_thick a_hollow a_damp a_fresh a_pulls a_fats a_deep a_fine a_pay a_hair a_sightPicture a_sightPull a_sightShows a_pad a_act a_where a_much a_kindMany a_had a_leaves a_mostPay a_canLast a_leastMissed a_kept a_isKept a_arg1 : Nat) (v_stones : Int32) (v_flat : Int32) (v_leastThick : Int32) (v_sights : Int32) (v_padMany : Int32) (v_acts : Int32) (v_pulled : Int32) (v_skyPull : Int32) (v_skyWhose : Int32) (v_badAct : Int32) (v_badWhy : Int32) (v_keptAt : Int32) (v_isWriting : Int32) (v_fats : Nat → Int32) (v_thick : Nat → Int32) (v_hollow : Nat → Int32) (v_damp : Nat → Int32) (v_fresh : Nat → Int32) (v_pulls : Nat → Int32) (v_arg1 : Nat → Int32) {res : (Nat → Int32)} (h : fX11_store v_stones v_fats v_thick v_hollow v_damp v_fresh v_pulls v_arg1 = some res) : MV l G cI cZ cO yX11_store cX11_store 3 rX11_store [.ref a_this, .ref a_arg1] (wX11_store cI cZ a_this a_thick a_hollow a_damp a_fresh a_pulls a_fats a_deep a_fine a_pay a_hair a_sightPicture a_sightPull a_sightShows a_pad a_act a_where a_much a_kindMany a_had a_leaves a_mostPay a_canLast a_leastMissed a_kept a_isKept a_arg1 v_stones v_flat v_leastThick v_sights v_padMany v_acts v_pulled v_skyPull v_skyWhose v_badAct v_badWhy v_keptAt v_isWriting v_fats v_thick v_hollow v_damp v_fresh v_pulls v_arg1) (wX11_store cI cZ a_this a_thick a_hollow a_damp a_fresh a_pulls a_fats a_deep a_fine a_pay a_hair a_sightPicture a_sightPull a_sightShows a_pad a_act a_where a_much a_kindMany a_had a_leaves a_mostPay a_canLast a_leastMissed a_kept a_isKept a_arg1 v_stones v_flat v_leastThick v_sights v_padMany v_acts v_pulled v_skyPull v_skyWhose v_badAct v_badWhy v_keptAt v_isWriting v_fats v_thick v_hollow v_damp v_fresh v_pulls res) := by
  refine MV.of (by decide) (Nat.le_of_ble_eq_true rfl) ?_
  intro p e s m below meth c A Q C hW hQ ls hl
  exact uX11_store_0 v_stones v_flat v_leastThick v_sights v_padMany v_acts v_pulled v_skyPull v_skyWhose v_badAct v_badWhy v_keptAt v_isWriting v_fats v_thick v_hollow v_damp v_fresh v_pulls v_arg1 C hQ h _ _ hW _ hl
abbrev wX11_putBack (cI cZ : ClassId) (a_this a_thick a_hollow a_damp a_fresh a_pulls a_fats a_deep a_fine a_pay a_hair a_sightPicture a_sightPull a_sightShows a_pad a_act a_where a_much a_kindMany a_had a_leaves a_mostPay a_canLast a_leastMissed a_kept a_isKept : Nat) (v_stones : Int32) (v_flat : Int32) (v_leastThick : Int32) (v_sights : Int32) (v_padMany : Int32) (v_acts : Int32) (v_pulled : Int32) (v_skyPull : Int32) (v_skyWhose : Int32) (v_badAct : Int32) (v_badWhy : Int32) (v_keptAt : Int32) (v_isWriting : Int32) (v_had : Nat → Int32) (v_fats : Nat → Int32) (v_thick : Nat → Int32) (v_hollow : Nat → Int32) (v_damp : Nat → Int32) (v_fresh : Nat → Int32) (v_pulls : Nat → Int32) : va_W := [(a_this, .inr (11, [.int v_stones, .int v_flat, .int v_leastThick, .ref a_thick, .ref a_hollow, .ref a_damp, .ref a_fresh, .ref a_pulls, .ref a_fats, .ref a_deep, .ref a_fine, .ref a_pay, .ref a_hair, .ref a_sightPicture, .ref a_sightPull, .ref a_sightShows, .int v_sights, .ref a_pad, .int v_padMany, .ref a_act, .ref a_where, .ref a_much, .int v_acts, .int v_pulled, .ref a_kindMany, .int v_skyPull, .int v_skyWhose, .ref a_had, .ref a_leaves, .int v_badAct, .int v_badWhy, .ref a_mostPay, .ref a_canLast, .ref a_leastMissed, .ref a_kept, .ref a_isKept, .int v_keptAt, .int v_isWriting])), (a_had, .inl (cI, 66, .inl v_had)), (a_fats, .inl (cI, 40, .inl v_fats)), (a_thick, .inl (cI, 5, .inl v_thick)), (a_hollow, .inl (cI, 5, .inl v_hollow)), (a_damp, .inl (cI, 5, .inl v_damp)), (a_fresh, .inl (cI, 5, .inl v_fresh)), (a_pulls, .inl (cI, 5, .inl v_pulls))]
abbrev rX11_putBack : Room := { frames := 0, cells := 0, slots := 0, locals := 0 }
set_option maxRecDepth 20000 in
theorem uX11_putBack_86 {a_this a_thick a_hollow a_damp a_fresh a_pulls a_fats a_deep a_fine a_pay a_hair a_sightPicture a_sightPull a_sightShows a_pad a_act a_where a_much a_kindMany a_had a_leaves a_mostPay a_canLast a_leastMissed a_kept a_isKept : Nat} (x1 : Int32) (v_stones : Int32) (v_flat : Int32) (v_leastThick : Int32) (v_sights : Int32) (v_padMany : Int32) (v_acts : Int32) (v_pulled : Int32) (v_skyPull : Int32) (v_skyWhose : Int32) (v_badAct : Int32) (v_badWhy : Int32) (v_keptAt : Int32) (v_isWriting : Int32) (v_had : Nat → Int32) (v_fats : Nat → Int32) (v_thick : Nat → Int32) (v_hollow : Nat → Int32) (v_damp : Nat → Int32) (v_fresh : Nat → Int32) (v_pulls : Nat → Int32) {res : Int32 × (Nat → Int32) × (Nat → Int32) × (Nat → Int32) × (Nat → Int32) × (Nat → Int32) × (Nat → Int32)} (C : Cx p s m av meth c RX11 cX11_putBack 2 none G cI cZ cO A) (hQ : RV p l e rX11_putBack s m av below meth c G A cX11_putBack Q (wX11_putBack cI cZ a_this a_thick a_hollow a_damp a_fresh a_pulls a_fats a_deep a_fine a_pay a_hair a_sightPicture a_sightPull a_sightShows a_pad a_act a_where a_much a_kindMany a_had a_leaves a_mostPay a_canLast a_leastMissed a_kept a_isKept res.1 v_flat v_leastThick v_sights v_padMany v_acts v_pulled v_skyPull v_skyWhose v_badAct v_badWhy v_keptAt v_isWriting v_had res.2.1 res.2.2.1 res.2.2.2.1 res.2.2.2.2.1 res.2.2.2.2.2.1 res.2.2.2.2.2.2)) {k86 : (Int32) → (Nat → Int32) → Option (Int32 × (Nat → Int32) × (Nat → Int32) × (Nat → Int32) × (Nat → Int32) × (Nat → Int32) × (Nat → Int32))} (hk86 : ∀ (x1 : Int32) (v_fats : Nat → Int32), k86 x1 v_fats = some res → ∀ (H : Heap) (locs : List Loc), HW G A s (wX11_putBack cI cZ a_this a_thick a_hollow a_damp a_fresh a_pulls a_fats a_deep a_fine a_pay a_hair a_sightPicture a_sightPull a_sightShows a_pad a_act a_where a_much a_kindMany a_had a_leaves a_mostPay a_canLast a_leastMissed a_kept a_isKept v_stones v_flat v_leastThick v_sights v_padMany v_acts v_pulled v_skyPull v_skyWhose v_badAct v_badWhy v_keptAt v_isWriting v_had v_fats v_thick v_hollow v_damp v_fresh v_pulls) H locs → ∀ ls : Array Slot, lv_has ls 2 [(0, .ref a_this), (1, .int x1)] → W p l e rX11_putBack s m av below meth c H locs 0 0 Q (F0 m 86 ls [])) (h : FX11_putBack_86 v_had v_thick v_hollow v_damp v_fresh v_pulls k86 x1 v_fats = some res) (H : Heap) (locs : List Loc) (hW : HW G A s (wX11_putBack cI cZ a_this a_thick a_hollow a_damp a_fresh a_pulls a_fats a_deep a_fine a_pay a_hair a_sightPicture a_sightPull a_sightShows a_pad a_act a_where a_much a_kindMany a_had a_leaves a_mostPay a_canLast a_leastMissed a_kept a_isKept v_stones v_flat v_leastThick v_sights v_padMany v_acts v_pulled v_skyPull v_skyWhose v_badAct v_badWhy v_keptAt v_isWriting v_had v_fats v_thick v_hollow v_damp v_fresh v_pulls) H locs) (ls : Array Slot) (hl : lv_has ls 2 [(0, .ref a_this), (1, .int x1)]) : W p l e rX11_putBack s m av below meth c H locs 0 0 Q (F0 m 86 ls []) := by
  have hx := C.1
  have hb := C.2.1
  unfold FX11_putBack_86 at h
  refine lv_iload_n hx hb dX11_putBack_86 rfl (lv_at hl 1 rfl) ?_
  refine lv_bipush (v := (40 : Int32)) hx hb dX11_putBack_87 (by decide) ?_
  refine lv_icmp_ge (tgt := 113) hx hb dX11_putBack_89 (by decide) (fun c_2 => ?_) (fun c_2 => ?_)
  · have h := ip_h c_2 h
    refine lv_aload_n hx hb dX11_putBack_113 rfl (lv_at hl 0 rfl) ?_
    refine lv_aload_n hx hb dX11_putBack_114 rfl (lv_at hl 0 rfl) ?_
    refine getW C fl_RX11_64 hW 0 rfl rfl dX11_putBack_115 ?_
    refine lv_bipush (v := (65 : Int32)) hx hb dX11_putBack_118 (by decide) ?_
    refine ialdW C hW 1 rfl (show ¬ ((65 : Int32) < 0 ∨ 66 ≤ Int32.toNatClampNeg (65 : Int32)) by decide) dX11_putBack_120 ?_
    refine lv_topi (fun v_3 ev_3 => ?_)
    have h := lt_h ev_3 h
    refine putW C fp_RX11_99 hW 0 rfl rfl rfl (Nat.le_of_ble_eq_true rfl) dX11_putBack_121 (fun H locs hW => ?_)
    have hW : HW G A s (wX11_putBack cI cZ a_this a_thick a_hollow a_damp a_fresh a_pulls a_fats a_deep a_fine a_pay a_hair a_sightPicture a_sightPull a_sightShows a_pad a_act a_where a_much a_kindMany a_had a_leaves a_mostPay a_canLast a_leastMissed a_kept a_isKept v_3 v_flat v_leastThick v_sights v_padMany v_acts v_pulled v_skyPull v_skyWhose v_badAct v_badWhy v_keptAt v_isWriting v_had v_fats v_thick v_hollow v_damp v_fresh v_pulls) H locs := hW
    obtain rfl := Option.some.inj h
    exact hQ _ _ _ _ dX11_putBack_124 hW
  · have h := in_h c_2 h
    refine lv_aload_n hx hb dX11_putBack_92 rfl (lv_at hl 0 rfl) ?_
    refine getW C fl_RX11_25 hW 0 rfl rfl dX11_putBack_93 ?_
    refine lv_iload_n hx hb dX11_putBack_96 rfl (lv_at hl 1 rfl) ?_
    refine lv_aload_n hx hb dX11_putBack_97 rfl (lv_at hl 0 rfl) ?_
    refine getW C fl_RX11_64 hW 0 rfl rfl dX11_putBack_98 ?_
    refine lv_bipush (v := (25 : Int32)) hx hb dX11_putBack_101 (by decide) ?_
    refine lv_iload_n hx hb dX11_putBack_103 rfl (lv_at hl 1 rfl) ?_
    refine lv_iadd hx hb dX11_putBack_104 ?_
    obtain ⟨g_4, h⟩ := gd_h h
    refine ialdW C hW 1 rfl g_4 dX11_putBack_105 ?_
    refine lv_topi (fun v_5 ev_5 => ?_)
    have h := lt_h ev_5 h
    obtain ⟨g_6, h⟩ := gd_h h
    refine iastW C hW 2 rfl g_6 dX11_putBack_106 (fun H locs hW => ?_)
    have hW : HW G A s (wX11_putBack cI cZ a_this a_thick a_hollow a_damp a_fresh a_pulls a_fats a_deep a_fine a_pay a_hair a_sightPicture a_sightPull a_sightShows a_pad a_act a_where a_much a_kindMany a_had a_leaves a_mostPay a_canLast a_leastMissed a_kept a_isKept v_stones v_flat v_leastThick v_sights v_padMany v_acts v_pulled v_skyPull v_skyWhose v_badAct v_badWhy v_keptAt v_isWriting v_had (upd v_fats (Int32.toNatClampNeg x1) v_5) v_thick v_hollow v_damp v_fresh v_pulls) H locs := hW
    obtain ⟨v_7, ev_7⟩ : ∃ y : Int32, y = x1 + (1 : Int32) := ⟨_, rfl⟩
    have h := lt_h ev_7 h
    refine lv_iinc (v := v_7) (lv' := [(1, .int v_7), (0, .ref a_this)]) hx hb dX11_putBack_107 hl (k := 1) rfl (by rw [ev_7]; rfl) (Nat.le_of_ble_eq_true rfl) rfl (fun ls hl => ?_)
    refine lv_goto (tgt := 86) hx hb dX11_putBack_110 (by decide) ?_
    exact hk86 v_7 (upd v_fats (Int32.toNatClampNeg x1) v_5) h _ _ hW _ (lv_sub hl [1, 0] rfl)
theorem wX11_putBack_86_ {a_this a_thick a_hollow a_damp a_fresh a_pulls a_fats a_deep a_fine a_pay a_hair a_sightPicture a_sightPull a_sightShows a_pad a_act a_where a_much a_kindMany a_had a_leaves a_mostPay a_canLast a_leastMissed a_kept a_isKept : Nat} (v_stones : Int32) (v_flat : Int32) (v_leastThick : Int32) (v_sights : Int32) (v_padMany : Int32) (v_acts : Int32) (v_pulled : Int32) (v_skyPull : Int32) (v_skyWhose : Int32) (v_badAct : Int32) (v_badWhy : Int32) (v_keptAt : Int32) (v_isWriting : Int32) (v_had : Nat → Int32) (v_thick : Nat → Int32) (v_hollow : Nat → Int32) (v_damp : Nat → Int32) (v_fresh : Nat → Int32) (v_pulls : Nat → Int32) {res : Int32 × (Nat → Int32) × (Nat → Int32) × (Nat → Int32) × (Nat → Int32) × (Nat → Int32) × (Nat → Int32)} (C : Cx p s m av meth c RX11 cX11_putBack 2 none G cI cZ cO A) (hQ : RV p l e rX11_putBack s m av below meth c G A cX11_putBack Q (wX11_putBack cI cZ a_this a_thick a_hollow a_damp a_fresh a_pulls a_fats a_deep a_fine a_pay a_hair a_sightPicture a_sightPull a_sightShows a_pad a_act a_where a_much a_kindMany a_had a_leaves a_mostPay a_canLast a_leastMissed a_kept a_isKept res.1 v_flat v_leastThick v_sights v_padMany v_acts v_pulled v_skyPull v_skyWhose v_badAct v_badWhy v_keptAt v_isWriting v_had res.2.1 res.2.2.1 res.2.2.2.1 res.2.2.2.2.1 res.2.2.2.2.2.1 res.2.2.2.2.2.2)) : ∀ (n : Nat) (x1 : Int32) (v_fats : Nat → Int32), LX11_putBack_86 v_had v_thick v_hollow v_damp v_fresh v_pulls n x1 v_fats = some res → ∀ (H : Heap) (locs : List Loc), HW G A s (wX11_putBack cI cZ a_this a_thick a_hollow a_damp a_fresh a_pulls a_fats a_deep a_fine a_pay a_hair a_sightPicture a_sightPull a_sightShows a_pad a_act a_where a_much a_kindMany a_had a_leaves a_mostPay a_canLast a_leastMissed a_kept a_isKept v_stones v_flat v_leastThick v_sights v_padMany v_acts v_pulled v_skyPull v_skyWhose v_badAct v_badWhy v_keptAt v_isWriting v_had v_fats v_thick v_hollow v_damp v_fresh v_pulls) H locs → ∀ ls : Array Slot, lv_has ls 2 [(0, .ref a_this), (1, .int x1)] → W p l e rX11_putBack s m av below meth c H locs 0 0 Q (F0 m 86 ls []) := by
  intro n
  induction n with
  | zero => intro x1 v_fats h; cases h
  | succ n ih =>
    intro x1 v_fats h H locs hW ls hl
    exact uX11_putBack_86 x1 v_stones v_flat v_leastThick v_sights v_padMany v_acts v_pulled v_skyPull v_skyWhose v_badAct v_badWhy v_keptAt v_isWriting v_had v_fats v_thick v_hollow v_damp v_fresh v_pulls C hQ (k86 := LX11_putBack_86 v_had v_thick v_hollow v_damp v_fresh v_pulls n) ih h H locs hW ls hl
set_option maxRecDepth 20000 in
theorem uX11_putBack_2 {a_this a_thick a_hollow a_damp a_fresh a_pulls a_fats a_deep a_fine a_pay a_hair a_sightPicture a_sightPull a_sightShows a_pad a_act a_where a_much a_kindMany a_had a_leaves a_mostPay a_canLast a_leastMissed a_kept a_isKept : Nat} (x1 : Int32) (v_stones : Int32) (v_flat : Int32) (v_leastThick : Int32) (v_sights : Int32) (v_padMany : Int32) (v_acts : Int32) (v_pulled : Int32) (v_skyPull : Int32) (v_skyWhose : Int32) (v_badAct : Int32) (v_badWhy : Int32) (v_keptAt : Int32) (v_isWriting : Int32) (v_had : Nat → Int32) (v_fats : Nat → Int32) (v_thick : Nat → Int32) (v_hollow : Nat → Int32) (v_damp : Nat → Int32) (v_fresh : Nat → Int32) (v_pulls : Nat → Int32) {res : Int32 × (Nat → Int32) × (Nat → Int32) × (Nat → Int32) × (Nat → Int32) × (Nat → Int32) × (Nat → Int32)} (C : Cx p s m av meth c RX11 cX11_putBack 2 none G cI cZ cO A) (hQ : RV p l e rX11_putBack s m av below meth c G A cX11_putBack Q (wX11_putBack cI cZ a_this a_thick a_hollow a_damp a_fresh a_pulls a_fats a_deep a_fine a_pay a_hair a_sightPicture a_sightPull a_sightShows a_pad a_act a_where a_much a_kindMany a_had a_leaves a_mostPay a_canLast a_leastMissed a_kept a_isKept res.1 v_flat v_leastThick v_sights v_padMany v_acts v_pulled v_skyPull v_skyWhose v_badAct v_badWhy v_keptAt v_isWriting v_had res.2.1 res.2.2.1 res.2.2.2.1 res.2.2.2.2.1 res.2.2.2.2.2.1 res.2.2.2.2.2.2)) {k2 : (Int32) → (Nat → Int32) → (Nat → Int32) → (Nat → Int32) → (Nat → Int32) → (Nat → Int32) → Option (Int32 × (Nat → Int32) × (Nat → Int32) × (Nat → Int32) × (Nat → Int32) × (Nat → Int32) × (Nat → Int32))} (hk2 : ∀ (x1 : Int32) (v_thick : Nat → Int32) (v_hollow : Nat → Int32) (v_damp : Nat → Int32) (v_fresh : Nat → Int32) (v_pulls : Nat → Int32), k2 x1 v_thick v_hollow v_damp v_fresh v_pulls = some res → ∀ (H : Heap) (locs : List Loc), HW G A s (wX11_putBack cI cZ a_this a_thick a_hollow a_damp a_fresh a_pulls a_fats a_deep a_fine a_pay a_hair a_sightPicture a_sightPull a_sightShows a_pad a_act a_where a_much a_kindMany a_had a_leaves a_mostPay a_canLast a_leastMissed a_kept a_isKept v_stones v_flat v_leastThick v_sights v_padMany v_acts v_pulled v_skyPull v_skyWhose v_badAct v_badWhy v_keptAt v_isWriting v_had v_fats v_thick v_hollow v_damp v_fresh v_pulls) H locs → ∀ ls : Array Slot, lv_has ls 2 [(0, .ref a_this), (1, .int x1)] → W p l e rX11_putBack s m av below meth c H locs 0 0 Q (F0 m 2 ls [])) (h : FX11_putBack_2 v_had v_fats k2 x1 v_thick v_hollow v_damp v_fresh v_pulls = some res) (H : Heap) (locs : List Loc) (hW : HW G A s (wX11_putBack cI cZ a_this a_thick a_hollow a_damp a_fresh a_pulls a_fats a_deep a_fine a_pay a_hair a_sightPicture a_sightPull a_sightShows a_pad a_act a_where a_much a_kindMany a_had a_leaves a_mostPay a_canLast a_leastMissed a_kept a_isKept v_stones v_flat v_leastThick v_sights v_padMany v_acts v_pulled v_skyPull v_skyWhose v_badAct v_badWhy v_keptAt v_isWriting v_had v_fats v_thick v_hollow v_damp v_fresh v_pulls) H locs) (ls : Array Slot) (hl : lv_has ls 2 [(0, .ref a_this), (1, .int x1)]) : W p l e rX11_putBack s m av below meth c H locs 0 0 Q (F0 m 2 ls []) := by
  have hx := C.1
  have hb := C.2.1
  unfold FX11_putBack_2 at h
  refine lv_iload_n hx hb dX11_putBack_2 rfl (lv_at hl 1 rfl) ?_
  refine lv_iconst (v := (5 : Int32)) hx hb dX11_putBack_3 (by decide) ?_
  refine lv_icmp_ge (tgt := 84) hx hb dX11_putBack_4 (by decide) (fun c_1 => ?_) (fun c_1 => ?_)
  · have h := ip_h c_1 h
    refine lv_iconst (v := (0 : Int32)) hx hb dX11_putBack_84 (by decide) ?_
    refine lv_istore_n (lv' := [(1, .int (0 : Int32)), (0, .ref a_this)]) hx hb dX11_putBack_85 rfl hl (Nat.le_of_ble_eq_true rfl) rfl (fun ls hl => ?_)
    exact wX11_putBack_86_ v_stones v_flat v_leastThick v_sights v_padMany v_acts v_pulled v_skyPull v_skyWhose v_badAct v_badWhy v_keptAt v_isWriting v_had v_thick v_hollow v_damp v_fresh v_pulls C hQ 2000 (0 : Int32) v_fats h _ _ hW _ (lv_sub hl [1, 0] rfl)
  · have h := in_h c_1 h
    refine lv_aload_n hx hb dX11_putBack_7 rfl (lv_at hl 0 rfl) ?_
    refine getW C fl_RX11_7 hW 0 rfl rfl dX11_putBack_8 ?_
    refine lv_iload_n hx hb dX11_putBack_11 rfl (lv_at hl 1 rfl) ?_
    refine lv_aload_n hx hb dX11_putBack_12 rfl (lv_at hl 0 rfl) ?_
    refine getW C fl_RX11_64 hW 0 rfl rfl dX11_putBack_13 ?_
    refine lv_iload_n hx hb dX11_putBack_16 rfl (lv_at hl 1 rfl) ?_
    obtain ⟨g_8, h⟩ := gd_h h
    refine ialdW C hW 1 rfl g_8 dX11_putBack_17 ?_
    refine lv_topi (fun v_9 ev_9 => ?_)
    have h := lt_h ev_9 h
    obtain ⟨g_10, h⟩ := gd_h h
    refine iastW C hW 3 rfl g_10 dX11_putBack_18 (fun H locs hW => ?_)
    have hW : HW G A s (wX11_putBack cI cZ a_this a_thick a_hollow a_damp a_fresh a_pulls a_fats a_deep a_fine a_pay a_hair a_sightPicture a_sightPull a_sightShows a_pad a_act a_where a_much a_kindMany a_had a_leaves a_mostPay a_canLast a_leastMissed a_kept a_isKept v_stones v_flat v_leastThick v_sights v_padMany v_acts v_pulled v_skyPull v_skyWhose v_badAct v_badWhy v_keptAt v_isWriting v_had v_fats (upd v_thick (Int32.toNatClampNeg x1) v_9) v_hollow v_damp v_fresh v_pulls) H locs := hW
    refine lv_aload_n hx hb dX11_putBack_19 rfl (lv_at hl 0 rfl) ?_
    refine getW C fl_RX11_13 hW 0 rfl rfl dX11_putBack_20 ?_
    refine lv_iload_n hx hb dX11_putBack_23 rfl (lv_at hl 1 rfl) ?_
    refine lv_aload_n hx hb dX11_putBack_24 rfl (lv_at hl 0 rfl) ?_
    refine getW C fl_RX11_64 hW 0 rfl rfl dX11_putBack_25 ?_
    refine lv_iconst (v := (5 : Int32)) hx hb dX11_putBack_28 (by decide) ?_
    refine lv_iload_n hx hb dX11_putBack_29 rfl (lv_at hl 1 rfl) ?_
    refine lv_iadd hx hb dX11_putBack_30 ?_
    obtain ⟨g_11, h⟩ := gd_h h
    refine ialdW C hW 1 rfl g_11 dX11_putBack_31 ?_
    refine lv_topi (fun v_12 ev_12 => ?_)
    have h := lt_h ev_12 h
    refine iastW C hW 4 rfl g_10 dX11_putBack_32 (fun H locs hW => ?_)
    have hW : HW G A s (wX11_putBack cI cZ a_this a_thick a_hollow a_damp a_fresh a_pulls a_fats a_deep a_fine a_pay a_hair a_sightPicture a_sightPull a_sightShows a_pad a_act a_where a_much a_kindMany a_had a_leaves a_mostPay a_canLast a_leastMissed a_kept a_isKept v_stones v_flat v_leastThick v_sights v_padMany v_acts v_pulled v_skyPull v_skyWhose v_badAct v_badWhy v_keptAt v_isWriting v_had v_fats (upd v_thick (Int32.toNatClampNeg x1) v_9) (upd v_hollow (Int32.toNatClampNeg x1) v_12) v_damp v_fresh v_pulls) H locs := hW
    refine lv_aload_n hx hb dX11_putBack_33 rfl (lv_at hl 0 rfl) ?_
    refine getW C fl_RX11_16 hW 0 rfl rfl dX11_putBack_34 ?_
    refine lv_iload_n hx hb dX11_putBack_37 rfl (lv_at hl 1 rfl) ?_
    refine lv_aload_n hx hb dX11_putBack_38 rfl (lv_at hl 0 rfl) ?_
    refine getW C fl_RX11_64 hW 0 rfl rfl dX11_putBack_39 ?_
    refine lv_bipush (v := (10 : Int32)) hx hb dX11_putBack_42 (by decide) ?_
    refine lv_iload_n hx hb dX11_putBack_44 rfl (lv_at hl 1 rfl) ?_
    refine lv_iadd hx hb dX11_putBack_45 ?_
    obtain ⟨g_13, h⟩ := gd_h h
    refine ialdW C hW 1 rfl g_13 dX11_putBack_46 ?_
    refine lv_topi (fun v_14 ev_14 => ?_)
    have h := lt_h ev_14 h
    refine iastW C hW 5 rfl g_10 dX11_putBack_47 (fun H locs hW => ?_)
    have hW : HW G A s (wX11_putBack cI cZ a_this a_thick a_hollow a_damp a_fresh a_pulls a_fats a_deep a_fine a_pay a_hair a_sightPicture a_sightPull a_sightShows a_pad a_act a_where a_much a_kindMany a_had a_leaves a_mostPay a_canLast a_leastMissed a_kept a_isKept v_stones v_flat v_leastThick v_sights v_padMany v_acts v_pulled v_skyPull v_skyWhose v_badAct v_badWhy v_keptAt v_isWriting v_had v_fats (upd v_thick (Int32.toNatClampNeg x1) v_9) (upd v_hollow (Int32.toNatClampNeg x1) v_12) (upd v_damp (Int32.toNatClampNeg x1) v_14) v_fresh v_pulls) H locs := hW
    refine lv_aload_n hx hb dX11_putBack_48 rfl (lv_at hl 0 rfl) ?_
    refine getW C fl_RX11_19 hW 0 rfl rfl dX11_putBack_49 ?_
    refine lv_iload_n hx hb dX11_putBack_52 rfl (lv_at hl 1 rfl) ?_
    refine lv_aload_n hx hb dX11_putBack_53 rfl (lv_at hl 0 rfl) ?_
    refine getW C fl_RX11_64 hW 0 rfl rfl dX11_putBack_54 ?_
    refine lv_bipush (v := (15 : Int32)) hx hb dX11_putBack_57 (by decide) ?_
    refine lv_iload_n hx hb dX11_putBack_59 rfl (lv_at hl 1 rfl) ?_
    refine lv_iadd hx hb dX11_putBack_60 ?_
    obtain ⟨g_15, h⟩ := gd_h h
    refine ialdW C hW 1 rfl g_15 dX11_putBack_61 ?_
    refine lv_topi (fun v_16 ev_16 => ?_)
    have h := lt_h ev_16 h
    refine iastW C hW 6 rfl g_10 dX11_putBack_62 (fun H locs hW => ?_)
    have hW : HW G A s (wX11_putBack cI cZ a_this a_thick a_hollow a_damp a_fresh a_pulls a_fats a_deep a_fine a_pay a_hair a_sightPicture a_sightPull a_sightShows a_pad a_act a_where a_much a_kindMany a_had a_leaves a_mostPay a_canLast a_leastMissed a_kept a_isKept v_stones v_flat v_leastThick v_sights v_padMany v_acts v_pulled v_skyPull v_skyWhose v_badAct v_badWhy v_keptAt v_isWriting v_had v_fats (upd v_thick (Int32.toNatClampNeg x1) v_9) (upd v_hollow (Int32.toNatClampNeg x1) v_12) (upd v_damp (Int32.toNatClampNeg x1) v_14) (upd v_fresh (Int32.toNatClampNeg x1) v_16) v_pulls) H locs := hW
    refine lv_aload_n hx hb dX11_putBack_63 rfl (lv_at hl 0 rfl) ?_
    refine getW C fl_RX11_22 hW 0 rfl rfl dX11_putBack_64 ?_
    refine lv_iload_n hx hb dX11_putBack_67 rfl (lv_at hl 1 rfl) ?_
    refine lv_aload_n hx hb dX11_putBack_68 rfl (lv_at hl 0 rfl) ?_
    refine getW C fl_RX11_64 hW 0 rfl rfl dX11_putBack_69 ?_
    refine lv_bipush (v := (20 : Int32)) hx hb dX11_putBack_72 (by decide) ?_
    refine lv_iload_n hx hb dX11_putBack_74 rfl (lv_at hl 1 rfl) ?_
    refine lv_iadd hx hb dX11_putBack_75 ?_
    obtain ⟨g_17, h⟩ := gd_h h
    refine ialdW C hW 1 rfl g_17 dX11_putBack_76 ?_
    refine lv_topi (fun v_18 ev_18 => ?_)
    have h := lt_h ev_18 h
    refine iastW C hW 7 rfl g_10 dX11_putBack_77 (fun H locs hW => ?_)
    have hW : HW G A s (wX11_putBack cI cZ a_this a_thick a_hollow a_damp a_fresh a_pulls a_fats a_deep a_fine a_pay a_hair a_sightPicture a_sightPull a_sightShows a_pad a_act a_where a_much a_kindMany a_had a_leaves a_mostPay a_canLast a_leastMissed a_kept a_isKept v_stones v_flat v_leastThick v_sights v_padMany v_acts v_pulled v_skyPull v_skyWhose v_badAct v_badWhy v_keptAt v_isWriting v_had v_fats (upd v_thick (Int32.toNatClampNeg x1) v_9) (upd v_hollow (Int32.toNatClampNeg x1) v_12) (upd v_damp (Int32.toNatClampNeg x1) v_14) (upd v_fresh (Int32.toNatClampNeg x1) v_16) (upd v_pulls (Int32.toNatClampNeg x1) v_18)) H locs := hW
    obtain ⟨v_19, ev_19⟩ : ∃ y : Int32, y = x1 + (1 : Int32) := ⟨_, rfl⟩
    have h := lt_h ev_19 h
    refine lv_iinc (v := v_19) (lv' := [(1, .int v_19), (0, .ref a_this)]) hx hb dX11_putBack_78 hl (k := 1) rfl (by rw [ev_19]; rfl) (Nat.le_of_ble_eq_true rfl) rfl (fun ls hl => ?_)
    refine lv_goto (tgt := 2) hx hb dX11_putBack_81 (by decide) ?_
    exact hk2 v_19 (upd v_thick (Int32.toNatClampNeg x1) v_9) (upd v_hollow (Int32.toNatClampNeg x1) v_12) (upd v_damp (Int32.toNatClampNeg x1) v_14) (upd v_fresh (Int32.toNatClampNeg x1) v_16) (upd v_pulls (Int32.toNatClampNeg x1) v_18) h _ _ hW _ (lv_sub hl [1, 0] rfl)
theorem wX11_putBack_2_ {a_this a_thick a_hollow a_damp a_fresh a_pulls a_fats a_deep a_fine a_pay a_hair a_sightPicture a_sightPull a_sightShows a_pad a_act a_where a_much a_kindMany a_had a_leaves a_mostPay a_canLast a_leastMissed a_kept a_isKept : Nat} (v_stones : Int32) (v_flat : Int32) (v_leastThick : Int32) (v_sights : Int32) (v_padMany : Int32) (v_acts : Int32) (v_pulled : Int32) (v_skyPull : Int32) (v_skyWhose : Int32) (v_badAct : Int32) (v_badWhy : Int32) (v_keptAt : Int32) (v_isWriting : Int32) (v_had : Nat → Int32) (v_fats : Nat → Int32) {res : Int32 × (Nat → Int32) × (Nat → Int32) × (Nat → Int32) × (Nat → Int32) × (Nat → Int32) × (Nat → Int32)} (C : Cx p s m av meth c RX11 cX11_putBack 2 none G cI cZ cO A) (hQ : RV p l e rX11_putBack s m av below meth c G A cX11_putBack Q (wX11_putBack cI cZ a_this a_thick a_hollow a_damp a_fresh a_pulls a_fats a_deep a_fine a_pay a_hair a_sightPicture a_sightPull a_sightShows a_pad a_act a_where a_much a_kindMany a_had a_leaves a_mostPay a_canLast a_leastMissed a_kept a_isKept res.1 v_flat v_leastThick v_sights v_padMany v_acts v_pulled v_skyPull v_skyWhose v_badAct v_badWhy v_keptAt v_isWriting v_had res.2.1 res.2.2.1 res.2.2.2.1 res.2.2.2.2.1 res.2.2.2.2.2.1 res.2.2.2.2.2.2)) : ∀ (n : Nat) (x1 : Int32) (v_thick : Nat → Int32) (v_hollow : Nat → Int32) (v_damp : Nat → Int32) (v_fresh : Nat → Int32) (v_pulls : Nat → Int32), LX11_putBack_2 v_had v_fats n x1 v_thick v_hollow v_damp v_fresh v_pulls = some res → ∀ (H : Heap) (locs : List Loc), HW G A s (wX11_putBack cI cZ a_this a_thick a_hollow a_damp a_fresh a_pulls a_fats a_deep a_fine a_pay a_hair a_sightPicture a_sightPull a_sightShows a_pad a_act a_where a_much a_kindMany a_had a_leaves a_mostPay a_canLast a_leastMissed a_kept a_isKept v_stones v_flat v_leastThick v_sights v_padMany v_acts v_pulled v_skyPull v_skyWhose v_badAct v_badWhy v_keptAt v_isWriting v_had v_fats v_thick v_hollow v_damp v_fresh v_pulls) H locs → ∀ ls : Array Slot, lv_has ls 2 [(0, .ref a_this), (1, .int x1)] → W p l e rX11_putBack s m av below meth c H locs 0 0 Q (F0 m 2 ls []) := by
  intro n
  induction n with
  | zero => intro x1 v_thick v_hollow v_damp v_fresh v_pulls h; cases h
  | succ n ih =>
    intro x1 v_thick v_hollow v_damp v_fresh v_pulls h H locs hW ls hl
    exact uX11_putBack_2 x1 v_stones v_flat v_leastThick v_sights v_padMany v_acts v_pulled v_skyPull v_skyWhose v_badAct v_badWhy v_keptAt v_isWriting v_had v_fats v_thick v_hollow v_damp v_fresh v_pulls C hQ (k2 := LX11_putBack_2 v_had v_fats n) ih h H locs hW ls hl
set_option maxRecDepth 20000 in
theorem uX11_putBack_0 {a_this a_thick a_hollow a_damp a_fresh a_pulls a_fats a_deep a_fine a_pay a_hair a_sightPicture a_sightPull a_sightShows a_pad a_act a_where a_much a_kindMany a_had a_leaves a_mostPay a_canLast a_leastMissed a_kept a_isKept : Nat} (v_stones : Int32) (v_flat : Int32) (v_leastThick : Int32) (v_sights : Int32) (v_padMany : Int32) (v_acts : Int32) (v_pulled : Int32) (v_skyPull : Int32) (v_skyWhose : Int32) (v_badAct : Int32) (v_badWhy : Int32) (v_keptAt : Int32) (v_isWriting : Int32) (v_had : Nat → Int32) (v_fats : Nat → Int32) (v_thick : Nat → Int32) (v_hollow : Nat → Int32) (v_damp : Nat → Int32) (v_fresh : Nat → Int32) (v_pulls : Nat → Int32) {res : Int32 × (Nat → Int32) × (Nat → Int32) × (Nat → Int32) × (Nat → Int32) × (Nat → Int32) × (Nat → Int32)} (C : Cx p s m av meth c RX11 cX11_putBack 2 none G cI cZ cO A) (hQ : RV p l e rX11_putBack s m av below meth c G A cX11_putBack Q (wX11_putBack cI cZ a_this a_thick a_hollow a_damp a_fresh a_pulls a_fats a_deep a_fine a_pay a_hair a_sightPicture a_sightPull a_sightShows a_pad a_act a_where a_much a_kindMany a_had a_leaves a_mostPay a_canLast a_leastMissed a_kept a_isKept res.1 v_flat v_leastThick v_sights v_padMany v_acts v_pulled v_skyPull v_skyWhose v_badAct v_badWhy v_keptAt v_isWriting v_had res.2.1 res.2.2.1 res.2.2.2.1 res.2.2.2.2.1 res.2.2.2.2.2.1 res.2.2.2.2.2.2)) (h : fX11_putBack v_had v_fats v_thick v_hollow v_damp v_fresh v_pulls = some res) (H : Heap) (locs : List Loc) (hW : HW G A s (wX11_putBack cI cZ a_this a_thick a_hollow a_damp a_fresh a_pulls a_fats a_deep a_fine a_pay a_hair a_sightPicture a_sightPull a_sightShows a_pad a_act a_where a_much a_kindMany a_had a_leaves a_mostPay a_canLast a_leastMissed a_kept a_isKept v_stones v_flat v_leastThick v_sights v_padMany v_acts v_pulled v_skyPull v_skyWhose v_badAct v_badWhy v_keptAt v_isWriting v_had v_fats v_thick v_hollow v_damp v_fresh v_pulls) H locs) (ls : Array Slot) (hl : lv_has ls 2 [(0, .ref a_this)]) : W p l e rX11_putBack s m av below meth c H locs 0 0 Q (F0 m 0 ls []) := by
  have hx := C.1
  have hb := C.2.1
  unfold fX11_putBack at h
  refine lv_iconst (v := (0 : Int32)) hx hb dX11_putBack_0 (by decide) ?_
  refine lv_istore_n (lv' := [(1, .int (0 : Int32)), (0, .ref a_this)]) hx hb dX11_putBack_1 rfl hl (Nat.le_of_ble_eq_true rfl) rfl (fun ls hl => ?_)
  exact wX11_putBack_2_ v_stones v_flat v_leastThick v_sights v_padMany v_acts v_pulled v_skyPull v_skyWhose v_badAct v_badWhy v_keptAt v_isWriting v_had v_fats C hQ 2000 (0 : Int32) v_thick v_hollow v_damp v_fresh v_pulls h _ _ hW _ (lv_sub hl [1, 0] rfl)
theorem ctX11_putBack {l : Launch} {G : va_G} {cI cZ cO : ClassId} (a_this a_thick a_hollow a_damp a_fresh a_pulls a_fats a_deep a_fine a_pay a_hair a_sightPicture a_sightPull a_sightShows a_pad a_act a_where a_much a_kindMany a_had a_leaves a_mostPay a_canLast a_leastMissed a_kept a_isKept : Nat) (v_stones : Int32) (v_flat : Int32) (v_leastThick : Int32) (v_sights : Int32) (v_padMany : Int32) (v_acts : Int32) (v_pulled : Int32) (v_skyPull : Int32) (v_skyWhose : Int32) (v_badAct : Int32) (v_badWhy : Int32) (v_keptAt : Int32) (v_isWriting : Int32) (v_had : Nat → Int32) (v_fats : Nat → Int32) (v_thick : Nat → Int32) (v_hollow : Nat → Int32) (v_damp : Nat → Int32) (v_fresh : Nat → Int32) (v_pulls : Nat → Int32) {res : Int32 × (Nat → Int32) × (Nat → Int32) × (Nat → Int32) × (Nat → Int32) × (Nat → Int32) × (Nat → Int32)} (h : fX11_putBack v_had v_fats v_thick v_hollow v_damp v_fresh v_pulls = some res) : MV l G cI cZ cO yX11_putBack cX11_putBack 2 rX11_putBack [.ref a_this] (wX11_putBack cI cZ a_this a_thick a_hollow a_damp a_fresh a_pulls a_fats a_deep a_fine a_pay a_hair a_sightPicture a_sightPull a_sightShows a_pad a_act a_where a_much a_kindMany a_had a_leaves a_mostPay a_canLast a_leastMissed a_kept a_isKept v_stones v_flat v_leastThick v_sights v_padMany v_acts v_pulled v_skyPull v_skyWhose v_badAct v_badWhy v_keptAt v_isWriting v_had v_fats v_thick v_hollow v_damp v_fresh v_pulls) (wX11_putBack cI cZ a_this a_thick a_hollow a_damp a_fresh a_pulls a_fats a_deep a_fine a_pay a_hair a_sightPicture a_sightPull a_sightShows a_pad a_act a_where a_much a_kindMany a_had a_leaves a_mostPay a_canLast a_leastMissed a_kept a_isKept res.1 v_flat v_leastThick v_sights v_padMany v_acts v_pulled v_skyPull v_skyWhose v_badAct v_badWhy v_keptAt v_isWriting v_had res.2.1 res.2.2.1 res.2.2.2.1 res.2.2.2.2.1 res.2.2.2.2.2.1 res.2.2.2.2.2.2) := by
  refine MV.of (by decide) (Nat.le_of_ble_eq_true rfl) ?_
  intro p e s m below meth c A Q C hW hQ ls hl
  exact uX11_putBack_0 v_stones v_flat v_leastThick v_sights v_padMany v_acts v_pulled v_skyPull v_skyWhose v_badAct v_badWhy v_keptAt v_isWriting v_had v_fats v_thick v_hollow v_damp v_fresh v_pulls C hQ h _ _ hW _ hl
abbrev wX11_beginCount (cI cZ : ClassId) (a_this a_thick a_hollow a_damp a_fresh a_pulls a_fats a_deep a_fine a_pay a_hair a_sightPicture a_sightPull a_sightShows a_pad a_act a_where a_much a_kindMany a_had a_leaves a_mostPay a_canLast a_leastMissed a_kept a_isKept : Nat) (v_stones : Int32) (v_flat : Int32) (v_leastThick : Int32) (v_sights : Int32) (v_padMany : Int32) (v_acts : Int32) (v_pulled : Int32) (v_skyPull : Int32) (v_skyWhose : Int32) (v_badAct : Int32) (v_badWhy : Int32) (v_keptAt : Int32) (v_isWriting : Int32) (v_kindMany : Nat → Int32) : va_W := [(a_this, .inr (11, [.int v_stones, .int v_flat, .int v_leastThick, .ref a_thick, .ref a_hollow, .ref a_damp, .ref a_fresh, .ref a_pulls, .ref a_fats, .ref a_deep, .ref a_fine, .ref a_pay, .ref a_hair, .ref a_sightPicture, .ref a_sightPull, .ref a_sightShows, .int v_sights, .ref a_pad, .int v_padMany, .ref a_act, .ref a_where, .ref a_much, .int v_acts, .int v_pulled, .ref a_kindMany, .int v_skyPull, .int v_skyWhose, .ref a_had, .ref a_leaves, .int v_badAct, .int v_badWhy, .ref a_mostPay, .ref a_canLast, .ref a_leastMissed, .ref a_kept, .ref a_isKept, .int v_keptAt, .int v_isWriting])), (a_kindMany, .inl (cI, 5, .inl v_kindMany))]
abbrev rX11_beginCount : Room := { frames := 0, cells := 0, slots := 0, locals := 0 }
set_option maxRecDepth 20000 in
theorem uX11_beginCount_19 {a_this a_thick a_hollow a_damp a_fresh a_pulls a_fats a_deep a_fine a_pay a_hair a_sightPicture a_sightPull a_sightShows a_pad a_act a_where a_much a_kindMany a_had a_leaves a_mostPay a_canLast a_leastMissed a_kept a_isKept : Nat} (x1 : Int32) (v_stones : Int32) (v_flat : Int32) (v_leastThick : Int32) (v_sights : Int32) (v_padMany : Int32) (v_acts : Int32) (v_pulled : Int32) (v_skyPull : Int32) (v_skyWhose : Int32) (v_badAct : Int32) (v_badWhy : Int32) (v_keptAt : Int32) (v_isWriting : Int32) (v_kindMany : Nat → Int32) {res : Int32 × Int32 × Int32 × (Nat → Int32)} (C : Cx p s m av meth c RX11 cX11_beginCount 2 none G cI cZ cO A) (hQ : RV p l e rX11_beginCount s m av below meth c G A cX11_beginCount Q (wX11_beginCount cI cZ a_this a_thick a_hollow a_damp a_fresh a_pulls a_fats a_deep a_fine a_pay a_hair a_sightPicture a_sightPull a_sightShows a_pad a_act a_where a_much a_kindMany a_had a_leaves a_mostPay a_canLast a_leastMissed a_kept a_isKept v_stones v_flat v_leastThick v_sights v_padMany v_acts res.1 res.2.1 res.2.2.1 v_badAct v_badWhy v_keptAt v_isWriting res.2.2.2)) {k19 : (Int32) → (Nat → Int32) → Option (Int32 × Int32 × Int32 × (Nat → Int32))} (hk19 : ∀ (x1 : Int32) (v_kindMany : Nat → Int32), k19 x1 v_kindMany = some res → ∀ (H : Heap) (locs : List Loc), HW G A s (wX11_beginCount cI cZ a_this a_thick a_hollow a_damp a_fresh a_pulls a_fats a_deep a_fine a_pay a_hair a_sightPicture a_sightPull a_sightShows a_pad a_act a_where a_much a_kindMany a_had a_leaves a_mostPay a_canLast a_leastMissed a_kept a_isKept v_stones v_flat v_leastThick v_sights v_padMany v_acts v_pulled v_skyPull v_skyWhose v_badAct v_badWhy v_keptAt v_isWriting v_kindMany) H locs → ∀ ls : Array Slot, lv_has ls 2 [(0, .ref a_this), (1, .int x1)] → W p l e rX11_beginCount s m av below meth c H locs 0 0 Q (F0 m 19 ls [])) (h : FX11_beginCount_19 v_pulled v_skyPull v_skyWhose k19 x1 v_kindMany = some res) (H : Heap) (locs : List Loc) (hW : HW G A s (wX11_beginCount cI cZ a_this a_thick a_hollow a_damp a_fresh a_pulls a_fats a_deep a_fine a_pay a_hair a_sightPicture a_sightPull a_sightShows a_pad a_act a_where a_much a_kindMany a_had a_leaves a_mostPay a_canLast a_leastMissed a_kept a_isKept v_stones v_flat v_leastThick v_sights v_padMany v_acts v_pulled v_skyPull v_skyWhose v_badAct v_badWhy v_keptAt v_isWriting v_kindMany) H locs) (ls : Array Slot) (hl : lv_has ls 2 [(0, .ref a_this), (1, .int x1)]) : W p l e rX11_beginCount s m av below meth c H locs 0 0 Q (F0 m 19 ls []) := by
  have hx := C.1
  have hb := C.2.1
  unfold FX11_beginCount_19 at h
  refine lv_iload_n hx hb dX11_beginCount_19 rfl (lv_at hl 1 rfl) ?_
  refine lv_iconst (v := (5 : Int32)) hx hb dX11_beginCount_20 (by decide) ?_
  refine lv_icmp_ge (tgt := 37) hx hb dX11_beginCount_21 (by decide) (fun c_1 => ?_) (fun c_1 => ?_)
  · have h := ip_h c_1 h
    obtain rfl := Option.some.inj h
    exact hQ _ _ _ _ dX11_beginCount_37 hW
  · have h := in_h c_1 h
    refine lv_aload_n hx hb dX11_beginCount_24 rfl (lv_at hl 0 rfl) ?_
    refine getW C fl_RX11_61 hW 0 rfl rfl dX11_beginCount_25 ?_
    refine lv_iload_n hx hb dX11_beginCount_28 rfl (lv_at hl 1 rfl) ?_
    refine lv_iconst (v := (0 : Int32)) hx hb dX11_beginCount_29 (by decide) ?_
    obtain ⟨g_2, h⟩ := gd_h h
    refine iastW C hW 1 rfl g_2 dX11_beginCount_30 (fun H locs hW => ?_)
    have hW : HW G A s (wX11_beginCount cI cZ a_this a_thick a_hollow a_damp a_fresh a_pulls a_fats a_deep a_fine a_pay a_hair a_sightPicture a_sightPull a_sightShows a_pad a_act a_where a_much a_kindMany a_had a_leaves a_mostPay a_canLast a_leastMissed a_kept a_isKept v_stones v_flat v_leastThick v_sights v_padMany v_acts v_pulled v_skyPull v_skyWhose v_badAct v_badWhy v_keptAt v_isWriting (upd v_kindMany (Int32.toNatClampNeg x1) (0 : Int32))) H locs := hW
    obtain ⟨v_3, ev_3⟩ : ∃ y : Int32, y = x1 + (1 : Int32) := ⟨_, rfl⟩
    have h := lt_h ev_3 h
    refine lv_iinc (v := v_3) (lv' := [(1, .int v_3), (0, .ref a_this)]) hx hb dX11_beginCount_31 hl (k := 1) rfl (by rw [ev_3]; rfl) (Nat.le_of_ble_eq_true rfl) rfl (fun ls hl => ?_)
    refine lv_goto (tgt := 19) hx hb dX11_beginCount_34 (by decide) ?_
    exact hk19 v_3 (upd v_kindMany (Int32.toNatClampNeg x1) (0 : Int32)) h _ _ hW _ (lv_sub hl [1, 0] rfl)
theorem wX11_beginCount_19_ {a_this a_thick a_hollow a_damp a_fresh a_pulls a_fats a_deep a_fine a_pay a_hair a_sightPicture a_sightPull a_sightShows a_pad a_act a_where a_much a_kindMany a_had a_leaves a_mostPay a_canLast a_leastMissed a_kept a_isKept : Nat} (v_stones : Int32) (v_flat : Int32) (v_leastThick : Int32) (v_sights : Int32) (v_padMany : Int32) (v_acts : Int32) (v_pulled : Int32) (v_skyPull : Int32) (v_skyWhose : Int32) (v_badAct : Int32) (v_badWhy : Int32) (v_keptAt : Int32) (v_isWriting : Int32) {res : Int32 × Int32 × Int32 × (Nat → Int32)} (C : Cx p s m av meth c RX11 cX11_beginCount 2 none G cI cZ cO A) (hQ : RV p l e rX11_beginCount s m av below meth c G A cX11_beginCount Q (wX11_beginCount cI cZ a_this a_thick a_hollow a_damp a_fresh a_pulls a_fats a_deep a_fine a_pay a_hair a_sightPicture a_sightPull a_sightShows a_pad a_act a_where a_much a_kindMany a_had a_leaves a_mostPay a_canLast a_leastMissed a_kept a_isKept v_stones v_flat v_leastThick v_sights v_padMany v_acts res.1 res.2.1 res.2.2.1 v_badAct v_badWhy v_keptAt v_isWriting res.2.2.2)) : ∀ (n : Nat) (x1 : Int32) (v_kindMany : Nat → Int32), LX11_beginCount_19 v_pulled v_skyPull v_skyWhose n x1 v_kindMany = some res → ∀ (H : Heap) (locs : List Loc), HW G A s (wX11_beginCount cI cZ a_this a_thick a_hollow a_damp a_fresh a_pulls a_fats a_deep a_fine a_pay a_hair a_sightPicture a_sightPull a_sightShows a_pad a_act a_where a_much a_kindMany a_had a_leaves a_mostPay a_canLast a_leastMissed a_kept a_isKept v_stones v_flat v_leastThick v_sights v_padMany v_acts v_pulled v_skyPull v_skyWhose v_badAct v_badWhy v_keptAt v_isWriting v_kindMany) H locs → ∀ ls : Array Slot, lv_has ls 2 [(0, .ref a_this), (1, .int x1)] → W p l e rX11_beginCount s m av below meth c H locs 0 0 Q (F0 m 19 ls []) := by
  intro n
  induction n with
  | zero => intro x1 v_kindMany h; cases h
  | succ n ih =>
    intro x1 v_kindMany h H locs hW ls hl
    exact uX11_beginCount_19 x1 v_stones v_flat v_leastThick v_sights v_padMany v_acts v_pulled v_skyPull v_skyWhose v_badAct v_badWhy v_keptAt v_isWriting v_kindMany C hQ (k19 := LX11_beginCount_19 v_pulled v_skyPull v_skyWhose n) ih h H locs hW ls hl
set_option maxRecDepth 20000 in
theorem uX11_beginCount_0 {a_this a_thick a_hollow a_damp a_fresh a_pulls a_fats a_deep a_fine a_pay a_hair a_sightPicture a_sightPull a_sightShows a_pad a_act a_where a_much a_kindMany a_had a_leaves a_mostPay a_canLast a_leastMissed a_kept a_isKept : Nat} (v_stones : Int32) (v_flat : Int32) (v_leastThick : Int32) (v_sights : Int32) (v_padMany : Int32) (v_acts : Int32) (v_pulled : Int32) (v_skyPull : Int32) (v_skyWhose : Int32) (v_badAct : Int32) (v_badWhy : Int32) (v_keptAt : Int32) (v_isWriting : Int32) (v_kindMany : Nat → Int32) {res : Int32 × Int32 × Int32 × (Nat → Int32)} (C : Cx p s m av meth c RX11 cX11_beginCount 2 none G cI cZ cO A) (hQ : RV p l e rX11_beginCount s m av below meth c G A cX11_beginCount Q (wX11_beginCount cI cZ a_this a_thick a_hollow a_damp a_fresh a_pulls a_fats a_deep a_fine a_pay a_hair a_sightPicture a_sightPull a_sightShows a_pad a_act a_where a_much a_kindMany a_had a_leaves a_mostPay a_canLast a_leastMissed a_kept a_isKept v_stones v_flat v_leastThick v_sights v_padMany v_acts res.1 res.2.1 res.2.2.1 v_badAct v_badWhy v_keptAt v_isWriting res.2.2.2)) (h : fX11_beginCount v_kindMany = some res) (H : Heap) (locs : List Loc) (hW : HW G A s (wX11_beginCount cI cZ a_this a_thick a_hollow a_damp a_fresh a_pulls a_fats a_deep a_fine a_pay a_hair a_sightPicture a_sightPull a_sightShows a_pad a_act a_where a_much a_kindMany a_had a_leaves a_mostPay a_canLast a_leastMissed a_kept a_isKept v_stones v_flat v_leastThick v_sights v_padMany v_acts v_pulled v_skyPull v_skyWhose v_badAct v_badWhy v_keptAt v_isWriting v_kindMany) H locs) (ls : Array Slot) (hl : lv_has ls 2 [(0, .ref a_this)]) : W p l e rX11_beginCount s m av below meth c H locs 0 0 Q (F0 m 0 ls []) := by
  have hx := C.1
  have hb := C.2.1
  unfold fX11_beginCount at h
  refine lv_aload_n hx hb dX11_beginCount_0 rfl (lv_at hl 0 rfl) ?_
  refine lv_iconst (v := (0 : Int32)) hx hb dX11_beginCount_1 (by decide) ?_
  refine putW C fp_RX11_178 hW 0 rfl rfl rfl (Nat.le_of_ble_eq_true rfl) dX11_beginCount_2 (fun H locs hW => ?_)
  have hW : HW G A s (wX11_beginCount cI cZ a_this a_thick a_hollow a_damp a_fresh a_pulls a_fats a_deep a_fine a_pay a_hair a_sightPicture a_sightPull a_sightShows a_pad a_act a_where a_much a_kindMany a_had a_leaves a_mostPay a_canLast a_leastMissed a_kept a_isKept v_stones v_flat v_leastThick v_sights v_padMany v_acts (0 : Int32) v_skyPull v_skyWhose v_badAct v_badWhy v_keptAt v_isWriting v_kindMany) H locs := hW
  refine lv_aload_n hx hb dX11_beginCount_5 rfl (lv_at hl 0 rfl) ?_
  refine lv_bipush (v := (-6 : Int32)) hx hb dX11_beginCount_6 (by decide) ?_
  refine putW C fp_RX11_181 hW 0 rfl rfl rfl (Nat.le_of_ble_eq_true rfl) dX11_beginCount_8 (fun H locs hW => ?_)
  have hW : HW G A s (wX11_beginCount cI cZ a_this a_thick a_hollow a_damp a_fresh a_pulls a_fats a_deep a_fine a_pay a_hair a_sightPicture a_sightPull a_sightShows a_pad a_act a_where a_much a_kindMany a_had a_leaves a_mostPay a_canLast a_leastMissed a_kept a_isKept v_stones v_flat v_leastThick v_sights v_padMany v_acts (0 : Int32) (-6 : Int32) v_skyWhose v_badAct v_badWhy v_keptAt v_isWriting v_kindMany) H locs := hW
  refine lv_aload_n hx hb dX11_beginCount_11 rfl (lv_at hl 0 rfl) ?_
  refine lv_bipush (v := (-6 : Int32)) hx hb dX11_beginCount_12 (by decide) ?_
  refine putW C fp_RX11_184 hW 0 rfl rfl rfl (Nat.le_of_ble_eq_true rfl) dX11_beginCount_14 (fun H locs hW => ?_)
  have hW : HW G A s (wX11_beginCount cI cZ a_this a_thick a_hollow a_damp a_fresh a_pulls a_fats a_deep a_fine a_pay a_hair a_sightPicture a_sightPull a_sightShows a_pad a_act a_where a_much a_kindMany a_had a_leaves a_mostPay a_canLast a_leastMissed a_kept a_isKept v_stones v_flat v_leastThick v_sights v_padMany v_acts (0 : Int32) (-6 : Int32) (-6 : Int32) v_badAct v_badWhy v_keptAt v_isWriting v_kindMany) H locs := hW
  refine lv_iconst (v := (0 : Int32)) hx hb dX11_beginCount_17 (by decide) ?_
  refine lv_istore_n (lv' := [(1, .int (0 : Int32)), (0, .ref a_this)]) hx hb dX11_beginCount_18 rfl hl (Nat.le_of_ble_eq_true rfl) rfl (fun ls hl => ?_)
  exact wX11_beginCount_19_ v_stones v_flat v_leastThick v_sights v_padMany v_acts (0 : Int32) (-6 : Int32) (-6 : Int32) v_badAct v_badWhy v_keptAt v_isWriting C hQ 2000 (0 : Int32) v_kindMany h _ _ hW _ (lv_sub hl [1, 0] rfl)
theorem ctX11_beginCount {l : Launch} {G : va_G} {cI cZ cO : ClassId} (a_this a_thick a_hollow a_damp a_fresh a_pulls a_fats a_deep a_fine a_pay a_hair a_sightPicture a_sightPull a_sightShows a_pad a_act a_where a_much a_kindMany a_had a_leaves a_mostPay a_canLast a_leastMissed a_kept a_isKept : Nat) (v_stones : Int32) (v_flat : Int32) (v_leastThick : Int32) (v_sights : Int32) (v_padMany : Int32) (v_acts : Int32) (v_pulled : Int32) (v_skyPull : Int32) (v_skyWhose : Int32) (v_badAct : Int32) (v_badWhy : Int32) (v_keptAt : Int32) (v_isWriting : Int32) (v_kindMany : Nat → Int32) {res : Int32 × Int32 × Int32 × (Nat → Int32)} (h : fX11_beginCount v_kindMany = some res) : MV l G cI cZ cO yX11_beginCount cX11_beginCount 2 rX11_beginCount [.ref a_this] (wX11_beginCount cI cZ a_this a_thick a_hollow a_damp a_fresh a_pulls a_fats a_deep a_fine a_pay a_hair a_sightPicture a_sightPull a_sightShows a_pad a_act a_where a_much a_kindMany a_had a_leaves a_mostPay a_canLast a_leastMissed a_kept a_isKept v_stones v_flat v_leastThick v_sights v_padMany v_acts v_pulled v_skyPull v_skyWhose v_badAct v_badWhy v_keptAt v_isWriting v_kindMany) (wX11_beginCount cI cZ a_this a_thick a_hollow a_damp a_fresh a_pulls a_fats a_deep a_fine a_pay a_hair a_sightPicture a_sightPull a_sightShows a_pad a_act a_where a_much a_kindMany a_had a_leaves a_mostPay a_canLast a_leastMissed a_kept a_isKept v_stones v_flat v_leastThick v_sights v_padMany v_acts res.1 res.2.1 res.2.2.1 v_badAct v_badWhy v_keptAt v_isWriting res.2.2.2) := by
  refine MV.of (by decide) (Nat.le_of_ble_eq_true rfl) ?_
  intro p e s m below meth c A Q C hW hQ ls hl
  exact uX11_beginCount_0 v_stones v_flat v_leastThick v_sights v_padMany v_acts v_pulled v_skyPull v_skyWhose v_badAct v_badWhy v_keptAt v_isWriting v_kindMany C hQ h _ _ hW _ hl
abbrev wX11_goShop (cI cZ : ClassId) (a_this a_thick a_hollow a_damp a_fresh a_pulls a_fats a_deep a_fine a_pay a_hair a_sightPicture a_sightPull a_sightShows a_pad a_act a_where a_much a_kindMany a_had a_leaves a_mostPay a_canLast a_leastMissed a_kept a_isKept : Nat) (v_stones : Int32) (v_flat : Int32) (v_leastThick : Int32) (v_sights : Int32) (v_padMany : Int32) (v_acts : Int32) (v_pulled : Int32) (v_skyPull : Int32) (v_skyWhose : Int32) (v_badAct : Int32) (v_badWhy : Int32) (v_keptAt : Int32) (v_isWriting : Int32) (v_kindMany : Nat → Int32) (v_act : Nat → Int32) (v_where : Nat → Int32) (v_much : Nat → Int32) (v_hollow : Nat → Int32) (v_thick : Nat → Int32) (v_fresh : Nat → Int32) (v_pulls : Nat → Int32) (v_fats : Nat → Int32) (v_damp : Nat → Int32) (v_fine : Nat → Int32) (v_deep : Nat → Int32) : va_W := [(a_this, .inr (11, [.int v_stones, .int v_flat, .int v_leastThick, .ref a_thick, .ref a_hollow, .ref a_damp, .ref a_fresh, .ref a_pulls, .ref a_fats, .ref a_deep, .ref a_fine, .ref a_pay, .ref a_hair, .ref a_sightPicture, .ref a_sightPull, .ref a_sightShows, .int v_sights, .ref a_pad, .int v_padMany, .ref a_act, .ref a_where, .ref a_much, .int v_acts, .int v_pulled, .ref a_kindMany, .int v_skyPull, .int v_skyWhose, .ref a_had, .ref a_leaves, .int v_badAct, .int v_badWhy, .ref a_mostPay, .ref a_canLast, .ref a_leastMissed, .ref a_kept, .ref a_isKept, .int v_keptAt, .int v_isWriting])), (a_kindMany, .inl (cI, 5, .inl v_kindMany)), (a_act, .inl (cI, 60, .inl v_act)), (a_where, .inl (cI, 60, .inl v_where)), (a_much, .inl (cI, 60, .inl v_much)), (a_hollow, .inl (cI, 5, .inl v_hollow)), (a_thick, .inl (cI, 5, .inl v_thick)), (a_fresh, .inl (cI, 5, .inl v_fresh)), (a_pulls, .inl (cI, 5, .inl v_pulls)), (a_fats, .inl (cI, 40, .inl v_fats)), (a_damp, .inl (cI, 5, .inl v_damp)), (a_fine, .inl (cI, 8, .inl v_fine)), (a_deep, .inl (cI, 8, .inl v_deep))]
abbrev rX11_goShop : Room := { frames := 5, cells := 0, slots := 0, locals := 117 }
set_option maxRecDepth 20000 in
theorem uX11_goShop_81 {a_this a_thick a_hollow a_damp a_fresh a_pulls a_fats a_deep a_fine a_pay a_hair a_sightPicture a_sightPull a_sightShows a_pad a_act a_where a_much a_kindMany a_had a_leaves a_mostPay a_canLast a_leastMissed a_kept a_isKept : Nat} (x1 : Int32) (x2 : Int32) (s1 : Int32) (v_stones : Int32) (v_flat : Int32) (v_leastThick : Int32) (v_sights : Int32) (v_padMany : Int32) (v_acts : Int32) (v_pulled : Int32) (v_skyPull : Int32) (v_skyWhose : Int32) (v_badAct : Int32) (v_badWhy : Int32) (v_keptAt : Int32) (v_isWriting : Int32) (v_kindMany : Nat → Int32) (v_act : Nat → Int32) (v_where : Nat → Int32) (v_much : Nat → Int32) (v_hollow : Nat → Int32) (v_thick : Nat → Int32) (v_fresh : Nat → Int32) (v_pulls : Nat → Int32) (v_fats : Nat → Int32) (v_damp : Nat → Int32) (v_fine : Nat → Int32) (v_deep : Nat → Int32) {res : Int32 × Int32 × Int32 × Int32 × Int32 × Int32 × (Nat → Int32) × (Nat → Int32) × (Nat → Int32) × (Nat → Int32) × (Nat → Int32) × (Nat → Int32) × (Nat → Int32)} (C : Cx p s m av meth c RX11 cX11_goShop 3 none G cI cZ cO A) (hQ : RV p l e rX11_goShop s m av below meth c G A cX11_goShop Q (wX11_goShop cI cZ a_this a_thick a_hollow a_damp a_fresh a_pulls a_fats a_deep a_fine a_pay a_hair a_sightPicture a_sightPull a_sightShows a_pad a_act a_where a_much a_kindMany a_had a_leaves a_mostPay a_canLast a_leastMissed a_kept a_isKept res.2.2.2.2.2.1 v_flat v_leastThick v_sights v_padMany v_acts res.2.2.1 res.2.2.2.1 res.2.2.2.2.1 res.1 res.2.1 v_keptAt v_isWriting res.2.2.2.2.2.2.1 v_act v_where v_much res.2.2.2.2.2.2.2.1 res.2.2.2.2.2.2.2.2.1 res.2.2.2.2.2.2.2.2.2.1 res.2.2.2.2.2.2.2.2.2.2.1 res.2.2.2.2.2.2.2.2.2.2.2.1 res.2.2.2.2.2.2.2.2.2.2.2.2 v_fine v_deep)) {k18 : (Int32) → (Int32) → (Int32) → (Int32) → (Int32) → (Int32) → (Int32) → (Nat → Int32) → (Nat → Int32) → (Nat → Int32) → (Nat → Int32) → (Nat → Int32) → (Nat → Int32) → (Nat → Int32) → Option (Int32 × Int32 × Int32 × Int32 × Int32 × Int32 × (Nat → Int32) × (Nat → Int32) × (Nat → Int32) × (Nat → Int32) × (Nat → Int32) × (Nat → Int32) × (Nat → Int32))} (hk18 : ∀ (x1 : Int32) (v_stones : Int32) (v_pulled : Int32) (v_skyPull : Int32) (v_skyWhose : Int32) (v_badAct : Int32) (v_badWhy : Int32) (v_kindMany : Nat → Int32) (v_hollow : Nat → Int32) (v_thick : Nat → Int32) (v_fresh : Nat → Int32) (v_pulls : Nat → Int32) (v_fats : Nat → Int32) (v_damp : Nat → Int32), k18 x1 v_stones v_pulled v_skyPull v_skyWhose v_badAct v_badWhy v_kindMany v_hollow v_thick v_fresh v_pulls v_fats v_damp = some res → ∀ (H : Heap) (locs : List Loc), HW G A s (wX11_goShop cI cZ a_this a_thick a_hollow a_damp a_fresh a_pulls a_fats a_deep a_fine a_pay a_hair a_sightPicture a_sightPull a_sightShows a_pad a_act a_where a_much a_kindMany a_had a_leaves a_mostPay a_canLast a_leastMissed a_kept a_isKept v_stones v_flat v_leastThick v_sights v_padMany v_acts v_pulled v_skyPull v_skyWhose v_badAct v_badWhy v_keptAt v_isWriting v_kindMany v_act v_where v_much v_hollow v_thick v_fresh v_pulls v_fats v_damp v_fine v_deep) H locs → ∀ ls : Array Slot, lv_has ls 3 [(0, .ref a_this), (1, .int x1)] → W p l e rX11_goShop s m av below meth c H locs 0 0 Q (F0 m 18 ls [])) (h : fX11_goShop_81 x1 x2 s1 v_stones v_pulled v_skyPull v_skyWhose v_badAct v_kindMany v_act v_where v_much v_hollow v_thick v_fresh v_pulls v_fats v_damp v_fine v_deep k18 = some res) (H : Heap) (locs : List Loc) (hW : HW G A s (wX11_goShop cI cZ a_this a_thick a_hollow a_damp a_fresh a_pulls a_fats a_deep a_fine a_pay a_hair a_sightPicture a_sightPull a_sightShows a_pad a_act a_where a_much a_kindMany a_had a_leaves a_mostPay a_canLast a_leastMissed a_kept a_isKept v_stones v_flat v_leastThick v_sights v_padMany v_acts v_pulled v_skyPull v_skyWhose v_badAct v_badWhy v_keptAt v_isWriting v_kindMany v_act v_where v_much v_hollow v_thick v_fresh v_pulls v_fats v_damp v_fine v_deep) H locs) (ls : Array Slot) (hl : lv_has ls 3 [(0, .ref a_this), (1, .int x1), (2, .int x2)]) : W p l e rX11_goShop s m av below meth c H locs 0 0 Q (F0 m 81 ls [.int s1, .ref a_this]) := by
  have hx := C.1
  have hb := C.2.1
  unfold fX11_goShop_81 at h
  refine putW C fp_RX11_201 hW 0 rfl rfl rfl (Nat.le_of_ble_eq_true rfl) dX11_goShop_81 (fun H locs hW => ?_)
  have hW : HW G A s (wX11_goShop cI cZ a_this a_thick a_hollow a_damp a_fresh a_pulls a_fats a_deep a_fine a_pay a_hair a_sightPicture a_sightPull a_sightShows a_pad a_act a_where a_much a_kindMany a_had a_leaves a_mostPay a_canLast a_leastMissed a_kept a_isKept v_stones v_flat v_leastThick v_sights v_padMany v_acts v_pulled v_skyPull v_skyWhose v_badAct s1 v_keptAt v_isWriting v_kindMany v_act v_where v_much v_hollow v_thick v_fresh v_pulls v_fats v_damp v_fine v_deep) H locs := hW
  refine lv_iload_n hx hb dX11_goShop_84 rfl (lv_at hl 2 rfl) ?_
  refine lv_if_ne (tgt := 110) hx hb dX11_goShop_85 (by decide) (fun c_8 => ?_) (fun c_8 => ?_)
  · have h := in_h c_8 h
    obtain ⟨v_9, ev_9⟩ : ∃ y : Int32, y = x1 + (1 : Int32) := ⟨_, rfl⟩
    have h := lt_h ev_9 h
    refine lv_iinc (v := v_9) (lv' := [(1, .int v_9), (0, .ref a_this), (2, .int x2)]) hx hb dX11_goShop_110 hl (k := 1) rfl (by rw [ev_9]; rfl) (Nat.le_of_ble_eq_true rfl) rfl (fun ls hl => ?_)
    refine lv_goto (tgt := 18) hx hb dX11_goShop_113 (by decide) ?_
    exact hk18 v_9 v_stones v_pulled v_skyPull v_skyWhose v_badAct s1 v_kindMany v_hollow v_thick v_fresh v_pulls v_fats v_damp h _ _ hW _ (lv_sub hl [1, 0] rfl)
  · have h := ip_h c_8 h
    refine lv_aload_n hx hb dX11_goShop_88 rfl (lv_at hl 0 rfl) ?_
    refine lv_aload_n hx hb dX11_goShop_89 rfl (lv_at hl 0 rfl) ?_
    refine getW C fl_RX11_52 hW 0 rfl rfl dX11_goShop_90 ?_
    refine lv_iload_n hx hb dX11_goShop_93 rfl (lv_at hl 1 rfl) ?_
    obtain ⟨g_10, h⟩ := gd_h h
    refine ialdW C hW 2 rfl g_10 dX11_goShop_94 ?_
    refine lv_aload_n hx hb dX11_goShop_95 rfl (lv_at hl 0 rfl) ?_
    refine getW C fl_RX11_55 hW 0 rfl rfl dX11_goShop_96 ?_
    refine lv_iload_n hx hb dX11_goShop_99 rfl (lv_at hl 1 rfl) ?_
    refine ialdW C hW 3 rfl g_10 dX11_goShop_100 ?_
    refine lv_aload_n hx hb dX11_goShop_101 rfl (lv_at hl 0 rfl) ?_
    refine getW C fl_RX11_58 hW 0 rfl rfl dX11_goShop_102 ?_
    refine lv_iload_n hx hb dX11_goShop_105 rfl (lv_at hl 1 rfl) ?_
    refine ialdW C hW 4 rfl g_10 dX11_goShop_106 ?_
    obtain ⟨v_11, hv_11, h⟩ := bd_h h
    refine callVVm [0, 6, 7, 8, 5, 9, 10, 1, 11, 12] [2, 3, 4] (wX11_goShop cI cZ a_this a_thick a_hollow a_damp a_fresh a_pulls a_fats a_deep a_fine a_pay a_hair a_sightPicture a_sightPull a_sightShows a_pad a_act a_where a_much a_kindMany a_had a_leaves a_mostPay a_canLast a_leastMissed a_kept a_isKept v_11.2.2.2.1 v_flat v_leastThick v_sights v_padMany v_acts v_11.1 v_11.2.1 v_11.2.2.1 v_badAct s1 v_keptAt v_isWriting v_11.2.2.2.2.2.2.2.2.2.2 v_act v_where v_much v_11.2.2.2.2.2.2.2.1 v_11.2.2.2.2.1 v_11.2.2.2.2.2.1 v_11.2.2.2.2.2.2.1 v_11.2.2.2.2.2.2.2.2.1 v_11.2.2.2.2.2.2.2.2.2.1 v_fine v_deep) C lk_RX11_208 (ctX11_happen a_this a_thick a_hollow a_damp a_fresh a_pulls a_fats a_deep a_fine a_pay a_hair a_sightPicture a_sightPull a_sightShows a_pad a_act a_where a_much a_kindMany a_had a_leaves a_mostPay a_canLast a_leastMissed a_kept a_isKept (v_act (Int32.toNatClampNeg x1)) (v_where (Int32.toNatClampNeg x1)) (v_much (Int32.toNatClampNeg x1)) v_stones v_flat v_leastThick v_sights v_padMany v_acts v_pulled v_skyPull v_skyWhose v_badAct s1 v_keptAt v_isWriting v_thick v_fresh v_pulls v_hollow v_fats v_damp v_kindMany v_fine v_deep hv_11) hW hl 11 rfl rfl rfl rfl rfl rfl rfl rfl rfl ⟨rfl, rfl⟩ ⟨(Nat.le_of_ble_eq_true rfl), (Nat.le_of_ble_eq_true rfl)⟩ ⟨Nat.zero_le _, Nat.zero_le _⟩ rfl (Nat.le_of_ble_eq_true rfl) dX11_goShop_107 (fun H locs hW => ?_)
    obtain ⟨v_12, ev_12⟩ : ∃ y : Int32, y = x1 + (1 : Int32) := ⟨_, rfl⟩
    have h := lt_h ev_12 h
    refine lv_iinc (v := v_12) (lv' := [(1, .int v_12), (0, .ref a_this), (2, .int x2)]) hx hb dX11_goShop_110 hl (k := 1) rfl (by rw [ev_12]; rfl) (Nat.le_of_ble_eq_true rfl) rfl (fun ls hl => ?_)
    refine lv_goto (tgt := 18) hx hb dX11_goShop_113 (by decide) ?_
    exact hk18 v_12 v_11.2.2.2.1 v_11.1 v_11.2.1 v_11.2.2.1 v_badAct s1 v_11.2.2.2.2.2.2.2.2.2.2 v_11.2.2.2.2.2.2.2.1 v_11.2.2.2.2.1 v_11.2.2.2.2.2.1 v_11.2.2.2.2.2.2.1 v_11.2.2.2.2.2.2.2.2.1 v_11.2.2.2.2.2.2.2.2.2.1 h _ _ hW _ (lv_sub hl [1, 0] rfl)
set_option maxRecDepth 20000 in
theorem uX11_goShop_18 {a_this a_thick a_hollow a_damp a_fresh a_pulls a_fats a_deep a_fine a_pay a_hair a_sightPicture a_sightPull a_sightShows a_pad a_act a_where a_much a_kindMany a_had a_leaves a_mostPay a_canLast a_leastMissed a_kept a_isKept : Nat} (x1 : Int32) (v_stones : Int32) (v_flat : Int32) (v_leastThick : Int32) (v_sights : Int32) (v_padMany : Int32) (v_acts : Int32) (v_pulled : Int32) (v_skyPull : Int32) (v_skyWhose : Int32) (v_badAct : Int32) (v_badWhy : Int32) (v_keptAt : Int32) (v_isWriting : Int32) (v_kindMany : Nat → Int32) (v_act : Nat → Int32) (v_where : Nat → Int32) (v_much : Nat → Int32) (v_hollow : Nat → Int32) (v_thick : Nat → Int32) (v_fresh : Nat → Int32) (v_pulls : Nat → Int32) (v_fats : Nat → Int32) (v_damp : Nat → Int32) (v_fine : Nat → Int32) (v_deep : Nat → Int32) {res : Int32 × Int32 × Int32 × Int32 × Int32 × Int32 × (Nat → Int32) × (Nat → Int32) × (Nat → Int32) × (Nat → Int32) × (Nat → Int32) × (Nat → Int32) × (Nat → Int32)} (C : Cx p s m av meth c RX11 cX11_goShop 3 none G cI cZ cO A) (hQ : RV p l e rX11_goShop s m av below meth c G A cX11_goShop Q (wX11_goShop cI cZ a_this a_thick a_hollow a_damp a_fresh a_pulls a_fats a_deep a_fine a_pay a_hair a_sightPicture a_sightPull a_sightShows a_pad a_act a_where a_much a_kindMany a_had a_leaves a_mostPay a_canLast a_leastMissed a_kept a_isKept res.2.2.2.2.2.1 v_flat v_leastThick v_sights v_padMany v_acts res.2.2.1 res.2.2.2.1 res.2.2.2.2.1 res.1 res.2.1 v_keptAt v_isWriting res.2.2.2.2.2.2.1 v_act v_where v_much res.2.2.2.2.2.2.2.1 res.2.2.2.2.2.2.2.2.1 res.2.2.2.2.2.2.2.2.2.1 res.2.2.2.2.2.2.2.2.2.2.1 res.2.2.2.2.2.2.2.2.2.2.2.1 res.2.2.2.2.2.2.2.2.2.2.2.2 v_fine v_deep)) {k18 : (Int32) → (Int32) → (Int32) → (Int32) → (Int32) → (Int32) → (Int32) → (Nat → Int32) → (Nat → Int32) → (Nat → Int32) → (Nat → Int32) → (Nat → Int32) → (Nat → Int32) → (Nat → Int32) → Option (Int32 × Int32 × Int32 × Int32 × Int32 × Int32 × (Nat → Int32) × (Nat → Int32) × (Nat → Int32) × (Nat → Int32) × (Nat → Int32) × (Nat → Int32) × (Nat → Int32))} (hk18 : ∀ (x1 : Int32) (v_stones : Int32) (v_pulled : Int32) (v_skyPull : Int32) (v_skyWhose : Int32) (v_badAct : Int32) (v_badWhy : Int32) (v_kindMany : Nat → Int32) (v_hollow : Nat → Int32) (v_thick : Nat → Int32) (v_fresh : Nat → Int32) (v_pulls : Nat → Int32) (v_fats : Nat → Int32) (v_damp : Nat → Int32), k18 x1 v_stones v_pulled v_skyPull v_skyWhose v_badAct v_badWhy v_kindMany v_hollow v_thick v_fresh v_pulls v_fats v_damp = some res → ∀ (H : Heap) (locs : List Loc), HW G A s (wX11_goShop cI cZ a_this a_thick a_hollow a_damp a_fresh a_pulls a_fats a_deep a_fine a_pay a_hair a_sightPicture a_sightPull a_sightShows a_pad a_act a_where a_much a_kindMany a_had a_leaves a_mostPay a_canLast a_leastMissed a_kept a_isKept v_stones v_flat v_leastThick v_sights v_padMany v_acts v_pulled v_skyPull v_skyWhose v_badAct v_badWhy v_keptAt v_isWriting v_kindMany v_act v_where v_much v_hollow v_thick v_fresh v_pulls v_fats v_damp v_fine v_deep) H locs → ∀ ls : Array Slot, lv_has ls 3 [(0, .ref a_this), (1, .int x1)] → W p l e rX11_goShop s m av below meth c H locs 0 0 Q (F0 m 18 ls [])) (h : FX11_goShop_18 v_flat v_leastThick v_acts v_act v_where v_much v_fine v_deep k18 x1 v_stones v_pulled v_skyPull v_skyWhose v_badAct v_badWhy v_kindMany v_hollow v_thick v_fresh v_pulls v_fats v_damp = some res) (H : Heap) (locs : List Loc) (hW : HW G A s (wX11_goShop cI cZ a_this a_thick a_hollow a_damp a_fresh a_pulls a_fats a_deep a_fine a_pay a_hair a_sightPicture a_sightPull a_sightShows a_pad a_act a_where a_much a_kindMany a_had a_leaves a_mostPay a_canLast a_leastMissed a_kept a_isKept v_stones v_flat v_leastThick v_sights v_padMany v_acts v_pulled v_skyPull v_skyWhose v_badAct v_badWhy v_keptAt v_isWriting v_kindMany v_act v_where v_much v_hollow v_thick v_fresh v_pulls v_fats v_damp v_fine v_deep) H locs) (ls : Array Slot) (hl : lv_has ls 3 [(0, .ref a_this), (1, .int x1)]) : W p l e rX11_goShop s m av below meth c H locs 0 0 Q (F0 m 18 ls []) := by
  have hx := C.1
  have hb := C.2.1
  unfold FX11_goShop_18 at h
  refine lv_iload_n hx hb dX11_goShop_18 rfl (lv_at hl 1 rfl) ?_
  refine lv_aload_n hx hb dX11_goShop_19 rfl (lv_at hl 0 rfl) ?_
  refine getW C fl_RX11_146 hW 0 rfl rfl dX11_goShop_20 ?_
  refine lv_icmp_ge (tgt := 116) hx hb dX11_goShop_23 (by decide) (fun c_2 => ?_) (fun c_2 => ?_)
  · have h := ip_h c_2 h
    obtain rfl := Option.some.inj h
    exact hQ _ _ _ _ dX11_goShop_116 hW
  · have h := in_h c_2 h
    refine lv_aload_n hx hb dX11_goShop_26 rfl (lv_at hl 0 rfl) ?_
    refine getW C fl_RX11_198 hW 0 rfl rfl dX11_goShop_27 ?_
    refine lv_if_ge (tgt := 116) hx hb dX11_goShop_30 (by decide) (fun c_3 => ?_) (fun c_3 => ?_)
    · have h := ip_h c_3 h
      obtain rfl := Option.some.inj h
      exact hQ _ _ _ _ dX11_goShop_116 hW
    · have h := in_h c_3 h
      refine lv_aload_n hx hb dX11_goShop_33 rfl (lv_at hl 0 rfl) ?_
      refine lv_aload_n hx hb dX11_goShop_34 rfl (lv_at hl 0 rfl) ?_
      refine getW C fl_RX11_52 hW 0 rfl rfl dX11_goShop_35 ?_
      refine lv_iload_n hx hb dX11_goShop_38 rfl (lv_at hl 1 rfl) ?_
      obtain ⟨g_4, h⟩ := gd_h h
      refine ialdW C hW 2 rfl g_4 dX11_goShop_39 ?_
      refine lv_aload_n hx hb dX11_goShop_40 rfl (lv_at hl 0 rfl) ?_
      refine getW C fl_RX11_55 hW 0 rfl rfl dX11_goShop_41 ?_
      refine lv_iload_n hx hb dX11_goShop_44 rfl (lv_at hl 1 rfl) ?_
      refine ialdW C hW 3 rfl g_4 dX11_goShop_45 ?_
      refine lv_aload_n hx hb dX11_goShop_46 rfl (lv_at hl 0 rfl) ?_
      refine getW C fl_RX11_58 hW 0 rfl rfl dX11_goShop_47 ?_
      refine lv_iload_n hx hb dX11_goShop_50 rfl (lv_at hl 1 rfl) ?_
      refine ialdW C hW 4 rfl g_4 dX11_goShop_51 ?_
      obtain ⟨v_5, hv_5, h⟩ := bd_h h
      refine callVIr [0, 5, 6, 7] C lk_RX11_204 (ctX11_whyNot a_this a_thick a_hollow a_damp a_fresh a_pulls a_fats a_deep a_fine a_pay a_hair a_sightPicture a_sightPull a_sightShows a_pad a_act a_where a_much a_kindMany a_had a_leaves a_mostPay a_canLast a_leastMissed a_kept a_isKept (v_act (Int32.toNatClampNeg x1)) (v_where (Int32.toNatClampNeg x1)) (v_much (Int32.toNatClampNeg x1)) v_stones v_flat v_leastThick v_sights v_padMany v_acts v_pulled v_skyPull v_skyWhose v_badAct v_badWhy v_keptAt v_isWriting v_hollow v_thick v_fresh hv_5) hW hl 11 rfl rfl rfl rfl rfl ⟨rfl, rfl⟩ ⟨(Nat.le_of_ble_eq_true rfl), (Nat.le_of_ble_eq_true rfl)⟩ ⟨Nat.zero_le _, Nat.zero_le _⟩ rfl (Nat.le_of_ble_eq_true rfl) dX11_goShop_52 (fun H locs hW => ?_)
      refine lv_istore_n (lv' := [(2, .int v_5), (0, .ref a_this), (1, .int x1)]) hx hb dX11_goShop_55 rfl hl (Nat.le_of_ble_eq_true rfl) rfl (fun ls hl => ?_)
      refine lv_aload_n hx hb dX11_goShop_56 rfl (lv_at hl 1 rfl) ?_
      refine lv_iload_n hx hb dX11_goShop_57 rfl (lv_at hl 0 rfl) ?_
      refine lv_if_le (tgt := 65) hx hb dX11_goShop_58 (by decide) (fun c_6 => ?_) (fun c_6 => ?_)
      · have h := ip_h c_6 h
        refine lv_bipush (v := (-6 : Int32)) hx hb dX11_goShop_65 (by decide) ?_
        refine putW C fp_RX11_198 hW 0 rfl rfl rfl (Nat.le_of_ble_eq_true rfl) dX11_goShop_67 (fun H locs hW => ?_)
        have hW : HW G A s (wX11_goShop cI cZ a_this a_thick a_hollow a_damp a_fresh a_pulls a_fats a_deep a_fine a_pay a_hair a_sightPicture a_sightPull a_sightShows a_pad a_act a_where a_much a_kindMany a_had a_leaves a_mostPay a_canLast a_leastMissed a_kept a_isKept v_stones v_flat v_leastThick v_sights v_padMany v_acts v_pulled v_skyPull v_skyWhose (-6 : Int32) v_badWhy v_keptAt v_isWriting v_kindMany v_act v_where v_much v_hollow v_thick v_fresh v_pulls v_fats v_damp v_fine v_deep) H locs := hW
        refine lv_aload_n hx hb dX11_goShop_70 rfl (lv_at hl 1 rfl) ?_
        refine lv_iload_n hx hb dX11_goShop_71 rfl (lv_at hl 0 rfl) ?_
        refine lv_if_le (tgt := 79) hx hb dX11_goShop_72 (by decide) (fun c_7 => ?_) (fun c_7 => ?_)
        · have h := ip_h c_7 h
          refine lv_bipush (v := (-6 : Int32)) hx hb dX11_goShop_79 (by decide) ?_
          exact uX11_goShop_81 x1 v_5 (-6 : Int32) v_stones v_flat v_leastThick v_sights v_padMany v_acts v_pulled v_skyPull v_skyWhose (-6 : Int32) v_badWhy v_keptAt v_isWriting v_kindMany v_act v_where v_much v_hollow v_thick v_fresh v_pulls v_fats v_damp v_fine v_deep C hQ hk18 h _ _ hW _ (lv_sub hl [1, 2, 0] rfl)
        · have h := in_h c_7 h
          refine lv_iload_n hx hb dX11_goShop_75 rfl (lv_at hl 0 rfl) ?_
          refine lv_goto (tgt := 81) hx hb dX11_goShop_76 (by decide) ?_
          exact uX11_goShop_81 x1 v_5 v_5 v_stones v_flat v_leastThick v_sights v_padMany v_acts v_pulled v_skyPull v_skyWhose (-6 : Int32) v_badWhy v_keptAt v_isWriting v_kindMany v_act v_where v_much v_hollow v_thick v_fresh v_pulls v_fats v_damp v_fine v_deep C hQ hk18 h _ _ hW _ (lv_sub hl [1, 2, 0] rfl)
      · have h := in_h c_6 h
        refine lv_iload_n hx hb dX11_goShop_61 rfl (lv_at hl 2 rfl) ?_
        refine lv_goto (tgt := 67) hx hb dX11_goShop_62 (by decide) ?_
        refine putW C fp_RX11_198 hW 0 rfl rfl rfl (Nat.le_of_ble_eq_true rfl) dX11_goShop_67 (fun H locs hW => ?_)
        have hW : HW G A s (wX11_goShop cI cZ a_this a_thick a_hollow a_damp a_fresh a_pulls a_fats a_deep a_fine a_pay a_hair a_sightPicture a_sightPull a_sightShows a_pad a_act a_where a_much a_kindMany a_had a_leaves a_mostPay a_canLast a_leastMissed a_kept a_isKept v_stones v_flat v_leastThick v_sights v_padMany v_acts v_pulled v_skyPull v_skyWhose x1 v_badWhy v_keptAt v_isWriting v_kindMany v_act v_where v_much v_hollow v_thick v_fresh v_pulls v_fats v_damp v_fine v_deep) H locs := hW
        refine lv_aload_n hx hb dX11_goShop_70 rfl (lv_at hl 1 rfl) ?_
        refine lv_iload_n hx hb dX11_goShop_71 rfl (lv_at hl 0 rfl) ?_
        refine lv_if_le (tgt := 79) hx hb dX11_goShop_72 (by decide) (fun c_13 => ?_) (fun c_13 => ?_)
        · have h := ip_h c_13 h
          refine lv_bipush (v := (-6 : Int32)) hx hb dX11_goShop_79 (by decide) ?_
          exact uX11_goShop_81 x1 v_5 (-6 : Int32) v_stones v_flat v_leastThick v_sights v_padMany v_acts v_pulled v_skyPull v_skyWhose x1 v_badWhy v_keptAt v_isWriting v_kindMany v_act v_where v_much v_hollow v_thick v_fresh v_pulls v_fats v_damp v_fine v_deep C hQ hk18 h _ _ hW _ (lv_sub hl [1, 2, 0] rfl)
        · have h := in_h c_13 h
          refine lv_iload_n hx hb dX11_goShop_75 rfl (lv_at hl 0 rfl) ?_
          refine lv_goto (tgt := 81) hx hb dX11_goShop_76 (by decide) ?_
          exact uX11_goShop_81 x1 v_5 v_5 v_stones v_flat v_leastThick v_sights v_padMany v_acts v_pulled v_skyPull v_skyWhose x1 v_badWhy v_keptAt v_isWriting v_kindMany v_act v_where v_much v_hollow v_thick v_fresh v_pulls v_fats v_damp v_fine v_deep C hQ hk18 h _ _ hW _ (lv_sub hl [1, 2, 0] rfl)
theorem wX11_goShop_18_ {a_this a_thick a_hollow a_damp a_fresh a_pulls a_fats a_deep a_fine a_pay a_hair a_sightPicture a_sightPull a_sightShows a_pad a_act a_where a_much a_kindMany a_had a_leaves a_mostPay a_canLast a_leastMissed a_kept a_isKept : Nat} (v_flat : Int32) (v_leastThick : Int32) (v_sights : Int32) (v_padMany : Int32) (v_acts : Int32) (v_keptAt : Int32) (v_isWriting : Int32) (v_act : Nat → Int32) (v_where : Nat → Int32) (v_much : Nat → Int32) (v_fine : Nat → Int32) (v_deep : Nat → Int32) {res : Int32 × Int32 × Int32 × Int32 × Int32 × Int32 × (Nat → Int32) × (Nat → Int32) × (Nat → Int32) × (Nat → Int32) × (Nat → Int32) × (Nat → Int32) × (Nat → Int32)} (C : Cx p s m av meth c RX11 cX11_goShop 3 none G cI cZ cO A) (hQ : RV p l e rX11_goShop s m av below meth c G A cX11_goShop Q (wX11_goShop cI cZ a_this a_thick a_hollow a_damp a_fresh a_pulls a_fats a_deep a_fine a_pay a_hair a_sightPicture a_sightPull a_sightShows a_pad a_act a_where a_much a_kindMany a_had a_leaves a_mostPay a_canLast a_leastMissed a_kept a_isKept res.2.2.2.2.2.1 v_flat v_leastThick v_sights v_padMany v_acts res.2.2.1 res.2.2.2.1 res.2.2.2.2.1 res.1 res.2.1 v_keptAt v_isWriting res.2.2.2.2.2.2.1 v_act v_where v_much res.2.2.2.2.2.2.2.1 res.2.2.2.2.2.2.2.2.1 res.2.2.2.2.2.2.2.2.2.1 res.2.2.2.2.2.2.2.2.2.2.1 res.2.2.2.2.2.2.2.2.2.2.2.1 res.2.2.2.2.2.2.2.2.2.2.2.2 v_fine v_deep)) : ∀ (n : Nat) (x1 : Int32) (v_stones : Int32) (v_pulled : Int32) (v_skyPull : Int32) (v_skyWhose : Int32) (v_badAct : Int32) (v_badWhy : Int32) (v_kindMany : Nat → Int32) (v_hollow : Nat → Int32) (v_thick : Nat → Int32) (v_fresh : Nat → Int32) (v_pulls : Nat → Int32) (v_fats : Nat → Int32) (v_damp : Nat → Int32), LX11_goShop_18 v_flat v_leastThick v_acts v_act v_where v_much v_fine v_deep n x1 v_stones v_pulled v_skyPull v_skyWhose v_badAct v_badWhy v_kindMany v_hollow v_thick v_fresh v_pulls v_fats v_damp = some res → ∀ (H : Heap) (locs : List Loc), HW G A s (wX11_goShop cI cZ a_this a_thick a_hollow a_damp a_fresh a_pulls a_fats a_deep a_fine a_pay a_hair a_sightPicture a_sightPull a_sightShows a_pad a_act a_where a_much a_kindMany a_had a_leaves a_mostPay a_canLast a_leastMissed a_kept a_isKept v_stones v_flat v_leastThick v_sights v_padMany v_acts v_pulled v_skyPull v_skyWhose v_badAct v_badWhy v_keptAt v_isWriting v_kindMany v_act v_where v_much v_hollow v_thick v_fresh v_pulls v_fats v_damp v_fine v_deep) H locs → ∀ ls : Array Slot, lv_has ls 3 [(0, .ref a_this), (1, .int x1)] → W p l e rX11_goShop s m av below meth c H locs 0 0 Q (F0 m 18 ls []) := by
  intro n
  induction n with
  | zero => intro x1 v_stones v_pulled v_skyPull v_skyWhose v_badAct v_badWhy v_kindMany v_hollow v_thick v_fresh v_pulls v_fats v_damp h; cases h
  | succ n ih =>
    intro x1 v_stones v_pulled v_skyPull v_skyWhose v_badAct v_badWhy v_kindMany v_hollow v_thick v_fresh v_pulls v_fats v_damp h H locs hW ls hl
    exact uX11_goShop_18 x1 v_stones v_flat v_leastThick v_sights v_padMany v_acts v_pulled v_skyPull v_skyWhose v_badAct v_badWhy v_keptAt v_isWriting v_kindMany v_act v_where v_much v_hollow v_thick v_fresh v_pulls v_fats v_damp v_fine v_deep C hQ (k18 := LX11_goShop_18 v_flat v_leastThick v_acts v_act v_where v_much v_fine v_deep n) ih h H locs hW ls hl
set_option maxRecDepth 20000 in
theorem uX11_goShop_0 {a_this a_thick a_hollow a_damp a_fresh a_pulls a_fats a_deep a_fine a_pay a_hair a_sightPicture a_sightPull a_sightShows a_pad a_act a_where a_much a_kindMany a_had a_leaves a_mostPay a_canLast a_leastMissed a_kept a_isKept : Nat} (v_stones : Int32) (v_flat : Int32) (v_leastThick : Int32) (v_sights : Int32) (v_padMany : Int32) (v_acts : Int32) (v_pulled : Int32) (v_skyPull : Int32) (v_skyWhose : Int32) (v_badAct : Int32) (v_badWhy : Int32) (v_keptAt : Int32) (v_isWriting : Int32) (v_kindMany : Nat → Int32) (v_act : Nat → Int32) (v_where : Nat → Int32) (v_much : Nat → Int32) (v_hollow : Nat → Int32) (v_thick : Nat → Int32) (v_fresh : Nat → Int32) (v_pulls : Nat → Int32) (v_fats : Nat → Int32) (v_damp : Nat → Int32) (v_fine : Nat → Int32) (v_deep : Nat → Int32) {res : Int32 × Int32 × Int32 × Int32 × Int32 × Int32 × (Nat → Int32) × (Nat → Int32) × (Nat → Int32) × (Nat → Int32) × (Nat → Int32) × (Nat → Int32) × (Nat → Int32)} (C : Cx p s m av meth c RX11 cX11_goShop 3 none G cI cZ cO A) (hQ : RV p l e rX11_goShop s m av below meth c G A cX11_goShop Q (wX11_goShop cI cZ a_this a_thick a_hollow a_damp a_fresh a_pulls a_fats a_deep a_fine a_pay a_hair a_sightPicture a_sightPull a_sightShows a_pad a_act a_where a_much a_kindMany a_had a_leaves a_mostPay a_canLast a_leastMissed a_kept a_isKept res.2.2.2.2.2.1 v_flat v_leastThick v_sights v_padMany v_acts res.2.2.1 res.2.2.2.1 res.2.2.2.2.1 res.1 res.2.1 v_keptAt v_isWriting res.2.2.2.2.2.2.1 v_act v_where v_much res.2.2.2.2.2.2.2.1 res.2.2.2.2.2.2.2.2.1 res.2.2.2.2.2.2.2.2.2.1 res.2.2.2.2.2.2.2.2.2.2.1 res.2.2.2.2.2.2.2.2.2.2.2.1 res.2.2.2.2.2.2.2.2.2.2.2.2 v_fine v_deep)) (h : fX11_goShop v_stones v_flat v_leastThick v_acts v_kindMany v_act v_where v_much v_hollow v_thick v_fresh v_pulls v_fats v_damp v_fine v_deep = some res) (H : Heap) (locs : List Loc) (hW : HW G A s (wX11_goShop cI cZ a_this a_thick a_hollow a_damp a_fresh a_pulls a_fats a_deep a_fine a_pay a_hair a_sightPicture a_sightPull a_sightShows a_pad a_act a_where a_much a_kindMany a_had a_leaves a_mostPay a_canLast a_leastMissed a_kept a_isKept v_stones v_flat v_leastThick v_sights v_padMany v_acts v_pulled v_skyPull v_skyWhose v_badAct v_badWhy v_keptAt v_isWriting v_kindMany v_act v_where v_much v_hollow v_thick v_fresh v_pulls v_fats v_damp v_fine v_deep) H locs) (ls : Array Slot) (hl : lv_has ls 3 [(0, .ref a_this)]) : W p l e rX11_goShop s m av below meth c H locs 0 0 Q (F0 m 0 ls []) := by
  have hx := C.1
  have hb := C.2.1
  unfold fX11_goShop at h
  refine lv_aload_n hx hb dX11_goShop_0 rfl (lv_at hl 0 rfl) ?_
  obtain ⟨v_1, hv_1, h⟩ := bd_h h
  refine callVVm [0, 1] [2, 3, 4, 5, 6, 7, 8, 9, 10, 11, 12] (wX11_goShop cI cZ a_this a_thick a_hollow a_damp a_fresh a_pulls a_fats a_deep a_fine a_pay a_hair a_sightPicture a_sightPull a_sightShows a_pad a_act a_where a_much a_kindMany a_had a_leaves a_mostPay a_canLast a_leastMissed a_kept a_isKept v_stones v_flat v_leastThick v_sights v_padMany v_acts v_1.1 v_1.2.1 v_1.2.2.1 v_badAct v_badWhy v_keptAt v_isWriting v_1.2.2.2 v_act v_where v_much v_hollow v_thick v_fresh v_pulls v_fats v_damp v_fine v_deep) C lk_RX11_195 (ctX11_beginCount a_this a_thick a_hollow a_damp a_fresh a_pulls a_fats a_deep a_fine a_pay a_hair a_sightPicture a_sightPull a_sightShows a_pad a_act a_where a_much a_kindMany a_had a_leaves a_mostPay a_canLast a_leastMissed a_kept a_isKept v_stones v_flat v_leastThick v_sights v_padMany v_acts v_pulled v_skyPull v_skyWhose v_badAct v_badWhy v_keptAt v_isWriting v_kindMany hv_1) hW hl 11 rfl rfl rfl rfl rfl rfl rfl rfl rfl ⟨rfl, rfl⟩ ⟨(Nat.le_of_ble_eq_true rfl), (Nat.le_of_ble_eq_true rfl)⟩ ⟨Nat.zero_le _, Nat.zero_le _⟩ rfl (Nat.le_of_ble_eq_true rfl) dX11_goShop_1 (fun H locs hW => ?_)
  refine lv_aload_n hx hb dX11_goShop_4 rfl (lv_at hl 0 rfl) ?_
  refine lv_bipush (v := (-6 : Int32)) hx hb dX11_goShop_5 (by decide) ?_
  refine putW C fp_RX11_198 hW 0 rfl rfl rfl (Nat.le_of_ble_eq_true rfl) dX11_goShop_7 (fun H locs hW => ?_)
  have hW : HW G A s (wX11_goShop cI cZ a_this a_thick a_hollow a_damp a_fresh a_pulls a_fats a_deep a_fine a_pay a_hair a_sightPicture a_sightPull a_sightShows a_pad a_act a_where a_much a_kindMany a_had a_leaves a_mostPay a_canLast a_leastMissed a_kept a_isKept v_stones v_flat v_leastThick v_sights v_padMany v_acts v_1.1 v_1.2.1 v_1.2.2.1 (-6 : Int32) v_badWhy v_keptAt v_isWriting v_1.2.2.2 v_act v_where v_much v_hollow v_thick v_fresh v_pulls v_fats v_damp v_fine v_deep) H locs := hW
  refine lv_aload_n hx hb dX11_goShop_10 rfl (lv_at hl 0 rfl) ?_
  refine lv_bipush (v := (-6 : Int32)) hx hb dX11_goShop_11 (by decide) ?_
  refine putW C fp_RX11_201 hW 0 rfl rfl rfl (Nat.le_of_ble_eq_true rfl) dX11_goShop_13 (fun H locs hW => ?_)
  have hW : HW G A s (wX11_goShop cI cZ a_this a_thick a_hollow a_damp a_fresh a_pulls a_fats a_deep a_fine a_pay a_hair a_sightPicture a_sightPull a_sightShows a_pad a_act a_where a_much a_kindMany a_had a_leaves a_mostPay a_canLast a_leastMissed a_kept a_isKept v_stones v_flat v_leastThick v_sights v_padMany v_acts v_1.1 v_1.2.1 v_1.2.2.1 (-6 : Int32) (-6 : Int32) v_keptAt v_isWriting v_1.2.2.2 v_act v_where v_much v_hollow v_thick v_fresh v_pulls v_fats v_damp v_fine v_deep) H locs := hW
  refine lv_iconst (v := (0 : Int32)) hx hb dX11_goShop_16 (by decide) ?_
  refine lv_istore_n (lv' := [(1, .int (0 : Int32)), (0, .ref a_this)]) hx hb dX11_goShop_17 rfl hl (Nat.le_of_ble_eq_true rfl) rfl (fun ls hl => ?_)
  exact wX11_goShop_18_ v_flat v_leastThick v_sights v_padMany v_acts v_keptAt v_isWriting v_act v_where v_much v_fine v_deep C hQ 2000 (0 : Int32) v_stones v_1.1 v_1.2.1 v_1.2.2.1 (-6 : Int32) (-6 : Int32) v_1.2.2.2 v_hollow v_thick v_fresh v_pulls v_fats v_damp h _ _ hW _ (lv_sub hl [1, 0] rfl)
theorem ctX11_goShop {l : Launch} {G : va_G} {cI cZ cO : ClassId} (a_this a_thick a_hollow a_damp a_fresh a_pulls a_fats a_deep a_fine a_pay a_hair a_sightPicture a_sightPull a_sightShows a_pad a_act a_where a_much a_kindMany a_had a_leaves a_mostPay a_canLast a_leastMissed a_kept a_isKept : Nat) (v_stones : Int32) (v_flat : Int32) (v_leastThick : Int32) (v_sights : Int32) (v_padMany : Int32) (v_acts : Int32) (v_pulled : Int32) (v_skyPull : Int32) (v_skyWhose : Int32) (v_badAct : Int32) (v_badWhy : Int32) (v_keptAt : Int32) (v_isWriting : Int32) (v_kindMany : Nat → Int32) (v_act : Nat → Int32) (v_where : Nat → Int32) (v_much : Nat → Int32) (v_hollow : Nat → Int32) (v_thick : Nat → Int32) (v_fresh : Nat → Int32) (v_pulls : Nat → Int32) (v_fats : Nat → Int32) (v_damp : Nat → Int32) (v_fine : Nat → Int32) (v_deep : Nat → Int32) {res : Int32 × Int32 × Int32 × Int32 × Int32 × Int32 × (Nat → Int32) × (Nat → Int32) × (Nat → Int32) × (Nat → Int32) × (Nat → Int32) × (Nat → Int32) × (Nat → Int32)} (h : fX11_goShop v_stones v_flat v_leastThick v_acts v_kindMany v_act v_where v_much v_hollow v_thick v_fresh v_pulls v_fats v_damp v_fine v_deep = some res) : MV l G cI cZ cO yX11_goShop cX11_goShop 3 rX11_goShop [.ref a_this] (wX11_goShop cI cZ a_this a_thick a_hollow a_damp a_fresh a_pulls a_fats a_deep a_fine a_pay a_hair a_sightPicture a_sightPull a_sightShows a_pad a_act a_where a_much a_kindMany a_had a_leaves a_mostPay a_canLast a_leastMissed a_kept a_isKept v_stones v_flat v_leastThick v_sights v_padMany v_acts v_pulled v_skyPull v_skyWhose v_badAct v_badWhy v_keptAt v_isWriting v_kindMany v_act v_where v_much v_hollow v_thick v_fresh v_pulls v_fats v_damp v_fine v_deep) (wX11_goShop cI cZ a_this a_thick a_hollow a_damp a_fresh a_pulls a_fats a_deep a_fine a_pay a_hair a_sightPicture a_sightPull a_sightShows a_pad a_act a_where a_much a_kindMany a_had a_leaves a_mostPay a_canLast a_leastMissed a_kept a_isKept res.2.2.2.2.2.1 v_flat v_leastThick v_sights v_padMany v_acts res.2.2.1 res.2.2.2.1 res.2.2.2.2.1 res.1 res.2.1 v_keptAt v_isWriting res.2.2.2.2.2.2.1 v_act v_where v_much res.2.2.2.2.2.2.2.1 res.2.2.2.2.2.2.2.2.1 res.2.2.2.2.2.2.2.2.2.1 res.2.2.2.2.2.2.2.2.2.2.1 res.2.2.2.2.2.2.2.2.2.2.2.1 res.2.2.2.2.2.2.2.2.2.2.2.2 v_fine v_deep) := by
  refine MV.of (by decide) (Nat.le_of_ble_eq_true rfl) ?_
  intro p e s m below meth c A Q C hW hQ ls hl
  exact uX11_goShop_0 v_stones v_flat v_leastThick v_sights v_padMany v_acts v_pulled v_skyPull v_skyWhose v_badAct v_badWhy v_keptAt v_isWriting v_kindMany v_act v_where v_much v_hollow v_thick v_fresh v_pulls v_fats v_damp v_fine v_deep C hQ h _ _ hW _ hl
abbrev wX11_refusal (cI cZ : ClassId) (a_this a_thick a_hollow a_damp a_fresh a_pulls a_fats a_deep a_fine a_pay a_hair a_sightPicture a_sightPull a_sightShows a_pad a_act a_where a_much a_kindMany a_had a_leaves a_mostPay a_canLast a_leastMissed a_kept a_isKept : Nat) (v_stones : Int32) (v_flat : Int32) (v_leastThick : Int32) (v_sights : Int32) (v_padMany : Int32) (v_acts : Int32) (v_pulled : Int32) (v_skyPull : Int32) (v_skyWhose : Int32) (v_badAct : Int32) (v_badWhy : Int32) (v_keptAt : Int32) (v_isWriting : Int32) (v_pad : Nat → Int32) (v_act : Nat → Int32) (v_much : Nat → Int32) (v_where : Nat → Int32) (v_fats : Nat → Int32) (v_thick : Nat → Int32) (v_hollow : Nat → Int32) (v_damp : Nat → Int32) (v_fresh : Nat → Int32) (v_pulls : Nat → Int32) (v_had : Nat → Int32) (v_kindMany : Nat → Int32) (v_fine : Nat → Int32) (v_deep : Nat → Int32) (v_leaves : Nat → Int32) : va_W := [(a_this, .inr (11, [.int v_stones, .int v_flat, .int v_leastThick, .ref a_thick, .ref a_hollow, .ref a_damp, .ref a_fresh, .ref a_pulls, .ref a_fats, .ref a_deep, .ref a_fine, .ref a_pay, .ref a_hair, .ref a_sightPicture, .ref a_sightPull, .ref a_sightShows, .int v_sights, .ref a_pad, .int v_padMany, .ref a_act, .ref a_where, .ref a_much, .int v_acts, .int v_pulled, .ref a_kindMany, .int v_skyPull, .int v_skyWhose, .ref a_had, .ref a_leaves, .int v_badAct, .int v_badWhy, .ref a_mostPay, .ref a_canLast, .ref a_leastMissed, .ref a_kept, .ref a_isKept, .int v_keptAt, .int v_isWriting])), (a_pad, .inl (cI, 60, .inl v_pad)), (a_act, .inl (cI, 60, .inl v_act)), (a_much, .inl (cI, 60, .inl v_much)), (a_where, .inl (cI, 60, .inl v_where)), (a_fats, .inl (cI, 40, .inl v_fats)), (a_thick, .inl (cI, 5, .inl v_thick)), (a_hollow, .inl (cI, 5, .inl v_hollow)), (a_damp, .inl (cI, 5, .inl v_damp)), (a_fresh, .inl (cI, 5, .inl v_fresh)), (a_pulls, .inl (cI, 5, .inl v_pulls)), (a_had, .inl (cI, 66, .inl v_had)), (a_kindMany, .inl (cI, 5, .inl v_kindMany)), (a_fine, .inl (cI, 8, .inl v_fine)), (a_deep, .inl (cI, 8, .inl v_deep)), (a_leaves, .inl (cI, 66, .inl v_leaves))]
abbrev rX11_refusal : Room := { frames := 6, cells := 0, slots := 0, locals := 139 }
set_option maxRecDepth 20000 in
theorem uX11_refusal_0 {a_this a_thick a_hollow a_damp a_fresh a_pulls a_fats a_deep a_fine a_pay a_hair a_sightPicture a_sightPull a_sightShows a_pad a_act a_where a_much a_kindMany a_had a_leaves a_mostPay a_canLast a_leastMissed a_kept a_isKept : Nat} (v_stones : Int32) (v_flat : Int32) (v_leastThick : Int32) (v_sights : Int32) (v_padMany : Int32) (v_acts : Int32) (v_pulled : Int32) (v_skyPull : Int32) (v_skyWhose : Int32) (v_badAct : Int32) (v_badWhy : Int32) (v_keptAt : Int32) (v_isWriting : Int32) (v_pad : Nat → Int32) (v_act : Nat → Int32) (v_much : Nat → Int32) (v_where : Nat → Int32) (v_fats : Nat → Int32) (v_thick : Nat → Int32) (v_hollow : Nat → Int32) (v_damp : Nat → Int32) (v_fresh : Nat → Int32) (v_pulls : Nat → Int32) (v_had : Nat → Int32) (v_kindMany : Nat → Int32) (v_fine : Nat → Int32) (v_deep : Nat → Int32) (v_leaves : Nat → Int32) {res : Int32 × Int32 × Int32 × Int32 × Int32 × Int32 × Int32 × Int32 × (Nat → Int32) × (Nat → Int32) × (Nat → Int32) × (Nat → Int32) × (Nat → Int32) × (Nat → Int32) × (Nat → Int32) × (Nat → Int32) × (Nat → Int32) × (Nat → Int32) × (Nat → Int32) × (Nat → Int32)} (C : Cx p s m av meth c RX11 cX11_refusal 1 (some .int) G cI cZ cO A) (hQ : RI p l e rX11_refusal s m av below meth c G A cX11_refusal .int Q (res.1) (wX11_refusal cI cZ a_this a_thick a_hollow a_damp a_fresh a_pulls a_fats a_deep a_fine a_pay a_hair a_sightPicture a_sightPull a_sightShows a_pad a_act a_where a_much a_kindMany a_had a_leaves a_mostPay a_canLast a_leastMissed a_kept a_isKept res.2.2.2.2.2.2.2.1 v_flat v_leastThick v_sights v_padMany res.2.1 res.2.2.2.2.1 res.2.2.2.2.2.1 res.2.2.2.2.2.2.1 res.2.2.1 res.2.2.2.1 v_keptAt v_isWriting v_pad res.2.2.2.2.2.2.2.2.1 res.2.2.2.2.2.2.2.2.2.1 res.2.2.2.2.2.2.2.2.2.2.1 res.2.2.2.2.2.2.2.2.2.2.2.1 res.2.2.2.2.2.2.2.2.2.2.2.2.1 res.2.2.2.2.2.2.2.2.2.2.2.2.2.1 res.2.2.2.2.2.2.2.2.2.2.2.2.2.2.1 res.2.2.2.2.2.2.2.2.2.2.2.2.2.2.2.1 res.2.2.2.2.2.2.2.2.2.2.2.2.2.2.2.2.1 res.2.2.2.2.2.2.2.2.2.2.2.2.2.2.2.2.2.1 res.2.2.2.2.2.2.2.2.2.2.2.2.2.2.2.2.2.2.1 v_fine v_deep res.2.2.2.2.2.2.2.2.2.2.2.2.2.2.2.2.2.2.2)) (h : fX11_refusal v_stones v_flat v_leastThick v_padMany v_pulled v_skyPull v_skyWhose v_badAct v_badWhy v_pad v_act v_much v_where v_fats v_thick v_hollow v_damp v_fresh v_pulls v_had v_kindMany v_fine v_deep v_leaves = some res) (H : Heap) (locs : List Loc) (hW : HW G A s (wX11_refusal cI cZ a_this a_thick a_hollow a_damp a_fresh a_pulls a_fats a_deep a_fine a_pay a_hair a_sightPicture a_sightPull a_sightShows a_pad a_act a_where a_much a_kindMany a_had a_leaves a_mostPay a_canLast a_leastMissed a_kept a_isKept v_stones v_flat v_leastThick v_sights v_padMany v_acts v_pulled v_skyPull v_skyWhose v_badAct v_badWhy v_keptAt v_isWriting v_pad v_act v_much v_where v_fats v_thick v_hollow v_damp v_fresh v_pulls v_had v_kindMany v_fine v_deep v_leaves) H locs) (ls : Array Slot) (hl : lv_has ls 1 [(0, .ref a_this)]) : W p l e rX11_refusal s m av below meth c H locs 0 0 Q (F0 m 0 ls []) := by
  have hx := C.1
  have hb := C.2.1
  unfold fX11_refusal at h
  refine lv_aload_n hx hb dX11_refusal_0 rfl (lv_at hl 0 rfl) ?_
  obtain ⟨v_1, hv_1, h⟩ := bd_h h
  refine callVIm [0, 1, 2, 3, 4] [5, 6, 7, 8, 9, 10, 11, 12, 13, 14, 15] (wX11_refusal cI cZ a_this a_thick a_hollow a_damp a_fresh a_pulls a_fats a_deep a_fine a_pay a_hair a_sightPicture a_sightPull a_sightShows a_pad a_act a_where a_much a_kindMany a_had a_leaves a_mostPay a_canLast a_leastMissed a_kept a_isKept v_stones v_flat v_leastThick v_sights v_padMany v_1.2.1 v_pulled v_skyPull v_skyWhose v_badAct v_badWhy v_keptAt v_isWriting v_pad v_1.2.2.1 v_1.2.2.2.1 v_1.2.2.2.2 v_fats v_thick v_hollow v_damp v_fresh v_pulls v_had v_kindMany v_fine v_deep v_leaves) C lk_RX11_211 (ctX11_fault a_this a_thick a_hollow a_damp a_fresh a_pulls a_fats a_deep a_fine a_pay a_hair a_sightPicture a_sightPull a_sightShows a_pad a_act a_where a_much a_kindMany a_had a_leaves a_mostPay a_canLast a_leastMissed a_kept a_isKept v_stones v_flat v_leastThick v_sights v_padMany v_acts v_pulled v_skyPull v_skyWhose v_badAct v_badWhy v_keptAt v_isWriting v_pad v_act v_much v_where hv_1) hW hl 11 rfl rfl rfl rfl rfl rfl rfl rfl rfl ⟨rfl, rfl⟩ ⟨(Nat.le_of_ble_eq_true rfl), (Nat.le_of_ble_eq_true rfl)⟩ ⟨Nat.zero_le _, Nat.zero_le _⟩ rfl (Nat.le_of_ble_eq_true rfl) dX11_refusal_1 (fun H locs hW => ?_)
  refine lv_if_lt (tgt := 10) hx hb dX11_refusal_4 (by decide) (fun c_2 => ?_) (fun c_2 => ?_)
  · have h := ip_h c_2 h
    refine lv_aload_n hx hb dX11_refusal_10 rfl (lv_at hl 0 rfl) ?_
    refine lv_aload_n hx hb dX11_refusal_11 rfl (lv_at hl 0 rfl) ?_
    refine getW C fl_RX11_64 hW 0 rfl rfl dX11_refusal_12 ?_
    obtain ⟨v_3, hv_3, h⟩ := bd_h h
    refine callVVm [0, 5, 6, 7, 8, 9, 10, 11] [1, 2, 3, 4, 12, 13, 14, 15] (wX11_refusal cI cZ a_this a_thick a_hollow a_damp a_fresh a_pulls a_fats a_deep a_fine a_pay a_hair a_sightPicture a_sightPull a_sightShows a_pad a_act a_where a_much a_kindMany a_had a_leaves a_mostPay a_canLast a_leastMissed a_kept a_isKept v_stones v_flat v_leastThick v_sights v_padMany v_1.2.1 v_pulled v_skyPull v_skyWhose v_badAct v_badWhy v_keptAt v_isWriting v_pad v_1.2.2.1 v_1.2.2.2.1 v_1.2.2.2.2 v_fats v_thick v_hollow v_damp v_fresh v_pulls v_3 v_kindMany v_fine v_deep v_leaves) C lk_RX11_215 (ctX11_store a_this a_thick a_hollow a_damp a_fresh a_pulls a_fats a_deep a_fine a_pay a_hair a_sightPicture a_sightPull a_sightShows a_pad a_act a_where a_much a_kindMany a_had a_leaves a_mostPay a_canLast a_leastMissed a_kept a_isKept a_had v_stones v_flat v_leastThick v_sights v_padMany v_1.2.1 v_pulled v_skyPull v_skyWhose v_badAct v_badWhy v_keptAt v_isWriting v_fats v_thick v_hollow v_damp v_fresh v_pulls v_had hv_3) hW hl 11 rfl rfl rfl rfl rfl rfl rfl rfl rfl ⟨rfl, rfl⟩ ⟨(Nat.le_of_ble_eq_true rfl), (Nat.le_of_ble_eq_true rfl)⟩ ⟨Nat.zero_le _, Nat.zero_le _⟩ rfl (Nat.le_of_ble_eq_true rfl) dX11_refusal_15 (fun H locs hW => ?_)
    refine lv_aload_n hx hb dX11_refusal_18 rfl (lv_at hl 0 rfl) ?_
    obtain ⟨v_4, hv_4, h⟩ := bd_h h
    refine callVVm [0, 12, 2, 4, 3, 7, 6, 9, 10, 5, 8, 13, 14] [1, 11, 15] (wX11_refusal cI cZ a_this a_thick a_hollow a_damp a_fresh a_pulls a_fats a_deep a_fine a_pay a_hair a_sightPicture a_sightPull a_sightShows a_pad a_act a_where a_much a_kindMany a_had a_leaves a_mostPay a_canLast a_leastMissed a_kept a_isKept v_4.2.2.2.2.2.1 v_flat v_leastThick v_sights v_padMany v_1.2.1 v_4.2.2.1 v_4.2.2.2.1 v_4.2.2.2.2.1 v_4.1 v_4.2.1 v_keptAt v_isWriting v_pad v_1.2.2.1 v_1.2.2.2.1 v_1.2.2.2.2 v_4.2.2.2.2.2.2.2.2.2.2.2.1 v_4.2.2.2.2.2.2.2.2.1 v_4.2.2.2.2.2.2.2.1 v_4.2.2.2.2.2.2.2.2.2.2.2.2 v_4.2.2.2.2.2.2.2.2.2.1 v_4.2.2.2.2.2.2.2.2.2.2.1 v_3 v_4.2.2.2.2.2.2.1 v_fine v_deep v_leaves) C lk_RX11_219 (ctX11_goShop a_this a_thick a_hollow a_damp a_fresh a_pulls a_fats a_deep a_fine a_pay a_hair a_sightPicture a_sightPull a_sightShows a_pad a_act a_where a_much a_kindMany a_had a_leaves a_mostPay a_canLast a_leastMissed a_kept a_isKept v_stones v_flat v_leastThick v_sights v_padMany v_1.2.1 v_pulled v_skyPull v_skyWhose v_badAct v_badWhy v_keptAt v_isWriting v_kindMany v_1.2.2.1 v_1.2.2.2.2 v_1.2.2.2.1 v_hollow v_thick v_fresh v_pulls v_fats v_damp v_fine v_deep hv_4) hW hl 11 rfl rfl rfl rfl rfl rfl rfl rfl rfl ⟨rfl, rfl⟩ ⟨(Nat.le_of_ble_eq_true rfl), (Nat.le_of_ble_eq_true rfl)⟩ ⟨Nat.zero_le _, Nat.zero_le _⟩ rfl (Nat.le_of_ble_eq_true rfl) dX11_refusal_19 (fun H locs hW => ?_)
    refine lv_aload_n hx hb dX11_refusal_22 rfl (lv_at hl 0 rfl) ?_
    refine lv_aload_n hx hb dX11_refusal_23 rfl (lv_at hl 0 rfl) ?_
    refine getW C fl_RX11_67 hW 0 rfl rfl dX11_refusal_24 ?_
    obtain ⟨v_5, hv_5, h⟩ := bd_h h
    refine callVVm [0, 5, 6, 7, 8, 9, 10, 15] [1, 2, 3, 4, 11, 12, 13, 14] (wX11_refusal cI cZ a_this a_thick a_hollow a_damp a_fresh a_pulls a_fats a_deep a_fine a_pay a_hair a_sightPicture a_sightPull a_sightShows a_pad a_act a_where a_much a_kindMany a_had a_leaves a_mostPay a_canLast a_leastMissed a_kept a_isKept v_4.2.2.2.2.2.1 v_flat v_leastThick v_sights v_padMany v_1.2.1 v_4.2.2.1 v_4.2.2.2.1 v_4.2.2.2.2.1 v_4.1 v_4.2.1 v_keptAt v_isWriting v_pad v_1.2.2.1 v_1.2.2.2.1 v_1.2.2.2.2 v_4.2.2.2.2.2.2.2.2.2.2.2.1 v_4.2.2.2.2.2.2.2.2.1 v_4.2.2.2.2.2.2.2.1 v_4.2.2.2.2.2.2.2.2.2.2.2.2 v_4.2.2.2.2.2.2.2.2.2.1 v_4.2.2.2.2.2.2.2.2.2.2.1 v_3 v_4.2.2.2.2.2.2.1 v_fine v_deep v_5) C lk_RX11_215 (ctX11_store a_this a_thick a_hollow a_damp a_fresh a_pulls a_fats a_deep a_fine a_pay a_hair a_sightPicture a_sightPull a_sightShows a_pad a_act a_where a_much a_kindMany a_had a_leaves a_mostPay a_canLast a_leastMissed a_kept a_isKept a_leaves v_4.2.2.2.2.2.1 v_flat v_leastThick v_sights v_padMany v_1.2.1 v_4.2.2.1 v_4.2.2.2.1 v_4.2.2.2.2.1 v_4.1 v_4.2.1 v_keptAt v_isWriting v_4.2.2.2.2.2.2.2.2.2.2.2.1 v_4.2.2.2.2.2.2.2.2.1 v_4.2.2.2.2.2.2.2.1 v_4.2.2.2.2.2.2.2.2.2.2.2.2 v_4.2.2.2.2.2.2.2.2.2.1 v_4.2.2.2.2.2.2.2.2.2.2.1 v_leaves hv_5) hW hl 11 rfl rfl rfl rfl rfl rfl rfl rfl rfl ⟨rfl, rfl⟩ ⟨(Nat.le_of_ble_eq_true rfl), (Nat.le_of_ble_eq_true rfl)⟩ ⟨Nat.zero_le _, Nat.zero_le _⟩ rfl (Nat.le_of_ble_eq_true rfl) dX11_refusal_27 (fun H locs hW => ?_)
    refine lv_aload_n hx hb dX11_refusal_30 rfl (lv_at hl 0 rfl) ?_
    obtain ⟨v_6, hv_6, h⟩ := bd_h h
    refine callVVm [0, 11, 5, 6, 7, 8, 9, 10] [1, 2, 3, 4, 12, 13, 14, 15] (wX11_refusal cI cZ a_this a_thick a_hollow a_damp a_fresh a_pulls a_fats a_deep a_fine a_pay a_hair a_sightPicture a_sightPull a_sightShows a_pad a_act a_where a_much a_kindMany a_had a_leaves a_mostPay a_canLast a_leastMissed a_kept a_isKept v_6.1 v_flat v_leastThick v_sights v_padMany v_1.2.1 v_4.2.2.1 v_4.2.2.2.1 v_4.2.2.2.2.1 v_4.1 v_4.2.1 v_keptAt v_isWriting v_pad v_1.2.2.1 v_1.2.2.2.1 v_1.2.2.2.2 v_6.2.1 v_6.2.2.1 v_6.2.2.2.1 v_6.2.2.2.2.1 v_6.2.2.2.2.2.1 v_6.2.2.2.2.2.2 v_3 v_4.2.2.2.2.2.2.1 v_fine v_deep v_5) C lk_RX11_222 (ctX11_putBack a_this a_thick a_hollow a_damp a_fresh a_pulls a_fats a_deep a_fine a_pay a_hair a_sightPicture a_sightPull a_sightShows a_pad a_act a_where a_much a_kindMany a_had a_leaves a_mostPay a_canLast a_leastMissed a_kept a_isKept v_4.2.2.2.2.2.1 v_flat v_leastThick v_sights v_padMany v_1.2.1 v_4.2.2.1 v_4.2.2.2.1 v_4.2.2.2.2.1 v_4.1 v_4.2.1 v_keptAt v_isWriting v_3 v_4.2.2.2.2.2.2.2.2.2.2.2.1 v_4.2.2.2.2.2.2.2.2.1 v_4.2.2.2.2.2.2.2.1 v_4.2.2.2.2.2.2.2.2.2.2.2.2 v_4.2.2.2.2.2.2.2.2.2.1 v_4.2.2.2.2.2.2.2.2.2.2.1 hv_6) hW hl 11 rfl rfl rfl rfl rfl rfl rfl rfl rfl ⟨rfl, rfl⟩ ⟨(Nat.le_of_ble_eq_true rfl), (Nat.le_of_ble_eq_true rfl)⟩ ⟨Nat.zero_le _, Nat.zero_le _⟩ rfl (Nat.le_of_ble_eq_true rfl) dX11_refusal_31 (fun H locs hW => ?_)
    refine lv_aload_n hx hb dX11_refusal_34 rfl (lv_at hl 0 rfl) ?_
    refine getW C fl_RX11_198 hW 0 rfl rfl dX11_refusal_35 ?_
    refine lv_if_lt (tgt := 46) hx hb dX11_refusal_38 (by decide) (fun c_7 => ?_) (fun c_7 => ?_)
    · have h := ip_h c_7 h
      refine lv_bipush (v := (-6 : Int32)) hx hb dX11_refusal_46 (by decide) ?_
      obtain rfl := Option.some.inj h
      exact hQ rfl _ _ _ _ dX11_refusal_48 hW
    · have h := in_h c_7 h
      refine lv_bipush (v := (-3 : Int32)) hx hb dX11_refusal_41 (by decide) ?_
      refine lv_goto (tgt := 48) hx hb dX11_refusal_43 (by decide) ?_
      obtain rfl := Option.some.inj h
      exact hQ rfl _ _ _ _ dX11_refusal_48 hW
  · have h := in_h c_2 h
    refine lv_bipush (v := (-5 : Int32)) hx hb dX11_refusal_7 (by decide) ?_
    obtain rfl := Option.some.inj h
    exact hQ rfl _ _ _ _ dX11_refusal_9 hW
theorem ctX11_refusal {l : Launch} {G : va_G} {cI cZ cO : ClassId} (a_this a_thick a_hollow a_damp a_fresh a_pulls a_fats a_deep a_fine a_pay a_hair a_sightPicture a_sightPull a_sightShows a_pad a_act a_where a_much a_kindMany a_had a_leaves a_mostPay a_canLast a_leastMissed a_kept a_isKept : Nat) (v_stones : Int32) (v_flat : Int32) (v_leastThick : Int32) (v_sights : Int32) (v_padMany : Int32) (v_acts : Int32) (v_pulled : Int32) (v_skyPull : Int32) (v_skyWhose : Int32) (v_badAct : Int32) (v_badWhy : Int32) (v_keptAt : Int32) (v_isWriting : Int32) (v_pad : Nat → Int32) (v_act : Nat → Int32) (v_much : Nat → Int32) (v_where : Nat → Int32) (v_fats : Nat → Int32) (v_thick : Nat → Int32) (v_hollow : Nat → Int32) (v_damp : Nat → Int32) (v_fresh : Nat → Int32) (v_pulls : Nat → Int32) (v_had : Nat → Int32) (v_kindMany : Nat → Int32) (v_fine : Nat → Int32) (v_deep : Nat → Int32) (v_leaves : Nat → Int32) {res : Int32 × Int32 × Int32 × Int32 × Int32 × Int32 × Int32 × Int32 × (Nat → Int32) × (Nat → Int32) × (Nat → Int32) × (Nat → Int32) × (Nat → Int32) × (Nat → Int32) × (Nat → Int32) × (Nat → Int32) × (Nat → Int32) × (Nat → Int32) × (Nat → Int32) × (Nat → Int32)} (h : fX11_refusal v_stones v_flat v_leastThick v_padMany v_pulled v_skyPull v_skyWhose v_badAct v_badWhy v_pad v_act v_much v_where v_fats v_thick v_hollow v_damp v_fresh v_pulls v_had v_kindMany v_fine v_deep v_leaves = some res) : MI l G cI cZ cO yX11_refusal cX11_refusal 1 .int rX11_refusal [.ref a_this] (wX11_refusal cI cZ a_this a_thick a_hollow a_damp a_fresh a_pulls a_fats a_deep a_fine a_pay a_hair a_sightPicture a_sightPull a_sightShows a_pad a_act a_where a_much a_kindMany a_had a_leaves a_mostPay a_canLast a_leastMissed a_kept a_isKept v_stones v_flat v_leastThick v_sights v_padMany v_acts v_pulled v_skyPull v_skyWhose v_badAct v_badWhy v_keptAt v_isWriting v_pad v_act v_much v_where v_fats v_thick v_hollow v_damp v_fresh v_pulls v_had v_kindMany v_fine v_deep v_leaves) (res.1) (wX11_refusal cI cZ a_this a_thick a_hollow a_damp a_fresh a_pulls a_fats a_deep a_fine a_pay a_hair a_sightPicture a_sightPull a_sightShows a_pad a_act a_where a_much a_kindMany a_had a_leaves a_mostPay a_canLast a_leastMissed a_kept a_isKept res.2.2.2.2.2.2.2.1 v_flat v_leastThick v_sights v_padMany res.2.1 res.2.2.2.2.1 res.2.2.2.2.2.1 res.2.2.2.2.2.2.1 res.2.2.1 res.2.2.2.1 v_keptAt v_isWriting v_pad res.2.2.2.2.2.2.2.2.1 res.2.2.2.2.2.2.2.2.2.1 res.2.2.2.2.2.2.2.2.2.2.1 res.2.2.2.2.2.2.2.2.2.2.2.1 res.2.2.2.2.2.2.2.2.2.2.2.2.1 res.2.2.2.2.2.2.2.2.2.2.2.2.2.1 res.2.2.2.2.2.2.2.2.2.2.2.2.2.2.1 res.2.2.2.2.2.2.2.2.2.2.2.2.2.2.2.1 res.2.2.2.2.2.2.2.2.2.2.2.2.2.2.2.2.1 res.2.2.2.2.2.2.2.2.2.2.2.2.2.2.2.2.2.1 res.2.2.2.2.2.2.2.2.2.2.2.2.2.2.2.2.2.2.1 v_fine v_deep res.2.2.2.2.2.2.2.2.2.2.2.2.2.2.2.2.2.2.2) := by
  refine MI.of (by decide) (Nat.le_of_ble_eq_true rfl) ?_
  intro p e s m below meth c A Q C hW hQ ls hl
  exact uX11_refusal_0 v_stones v_flat v_leastThick v_sights v_padMany v_acts v_pulled v_skyPull v_skyWhose v_badAct v_badWhy v_keptAt v_isWriting v_pad v_act v_much v_where v_fats v_thick v_hollow v_damp v_fresh v_pulls v_had v_kindMany v_fine v_deep v_leaves C hQ h _ _ hW _ hl
abbrev wX11_judge (cI cZ : ClassId) (a_this a_thick a_hollow a_damp a_fresh a_pulls a_fats a_deep a_fine a_pay a_hair a_sightPicture a_sightPull a_sightShows a_pad a_act a_where a_much a_kindMany a_had a_leaves a_mostPay a_canLast a_leastMissed a_kept a_isKept : Nat) (v_stones : Int32) (v_flat : Int32) (v_leastThick : Int32) (v_sights : Int32) (v_padMany : Int32) (v_acts : Int32) (v_pulled : Int32) (v_skyPull : Int32) (v_skyWhose : Int32) (v_badAct : Int32) (v_badWhy : Int32) (v_keptAt : Int32) (v_isWriting : Int32) (v_pad : Nat → Int32) (v_act : Nat → Int32) (v_much : Nat → Int32) (v_where : Nat → Int32) (v_fats : Nat → Int32) (v_thick : Nat → Int32) (v_hollow : Nat → Int32) (v_damp : Nat → Int32) (v_fresh : Nat → Int32) (v_pulls : Nat → Int32) (v_had : Nat → Int32) (v_kindMany : Nat → Int32) (v_fine : Nat → Int32) (v_deep : Nat → Int32) (v_leaves : Nat → Int32) : va_W := [(a_this, .inr (11, [.int v_stones, .int v_flat, .int v_leastThick, .ref a_thick, .ref a_hollow, .ref a_damp, .ref a_fresh, .ref a_pulls, .ref a_fats, .ref a_deep, .ref a_fine, .ref a_pay, .ref a_hair, .ref a_sightPicture, .ref a_sightPull, .ref a_sightShows, .int v_sights, .ref a_pad, .int v_padMany, .ref a_act, .ref a_where, .ref a_much, .int v_acts, .int v_pulled, .ref a_kindMany, .int v_skyPull, .int v_skyWhose, .ref a_had, .ref a_leaves, .int v_badAct, .int v_badWhy, .ref a_mostPay, .ref a_canLast, .ref a_leastMissed, .ref a_kept, .ref a_isKept, .int v_keptAt, .int v_isWriting])), (a_pad, .inl (cI, 60, .inl v_pad)), (a_act, .inl (cI, 60, .inl v_act)), (a_much, .inl (cI, 60, .inl v_much)), (a_where, .inl (cI, 60, .inl v_where)), (a_fats, .inl (cI, 40, .inl v_fats)), (a_thick, .inl (cI, 5, .inl v_thick)), (a_hollow, .inl (cI, 5, .inl v_hollow)), (a_damp, .inl (cI, 5, .inl v_damp)), (a_fresh, .inl (cI, 5, .inl v_fresh)), (a_pulls, .inl (cI, 5, .inl v_pulls)), (a_had, .inl (cI, 66, .inl v_had)), (a_kindMany, .inl (cI, 5, .inl v_kindMany)), (a_fine, .inl (cI, 8, .inl v_fine)), (a_deep, .inl (cI, 8, .inl v_deep)), (a_leaves, .inl (cI, 66, .inl v_leaves))]
abbrev rX11_judge : Room := { frames := 7, cells := 0, slots := 0, locals := 159 }
set_option maxRecDepth 20000 in
theorem uX11_judge_0 {a_this a_thick a_hollow a_damp a_fresh a_pulls a_fats a_deep a_fine a_pay a_hair a_sightPicture a_sightPull a_sightShows a_pad a_act a_where a_much a_kindMany a_had a_leaves a_mostPay a_canLast a_leastMissed a_kept a_isKept : Nat} (x1 : Int32) (v_stones : Int32) (v_flat : Int32) (v_leastThick : Int32) (v_sights : Int32) (v_padMany : Int32) (v_acts : Int32) (v_pulled : Int32) (v_skyPull : Int32) (v_skyWhose : Int32) (v_badAct : Int32) (v_badWhy : Int32) (v_keptAt : Int32) (v_isWriting : Int32) (v_pad : Nat → Int32) (v_act : Nat → Int32) (v_much : Nat → Int32) (v_where : Nat → Int32) (v_fats : Nat → Int32) (v_thick : Nat → Int32) (v_hollow : Nat → Int32) (v_damp : Nat → Int32) (v_fresh : Nat → Int32) (v_pulls : Nat → Int32) (v_had : Nat → Int32) (v_kindMany : Nat → Int32) (v_fine : Nat → Int32) (v_deep : Nat → Int32) (v_leaves : Nat → Int32) {res : Int32 × Int32 × Int32 × Int32 × Int32 × Int32 × Int32 × Int32 × (Nat → Int32) × (Nat → Int32) × (Nat → Int32) × (Nat → Int32) × (Nat → Int32) × (Nat → Int32) × (Nat → Int32) × (Nat → Int32) × (Nat → Int32) × (Nat → Int32) × (Nat → Int32) × (Nat → Int32)} (C : Cx p s m av meth c RX11 cX11_judge 3 (some .int) G cI cZ cO A) (hQ : RI p l e rX11_judge s m av below meth c G A cX11_judge .int Q (res.1) (wX11_judge cI cZ a_this a_thick a_hollow a_damp a_fresh a_pulls a_fats a_deep a_fine a_pay a_hair a_sightPicture a_sightPull a_sightShows a_pad a_act a_where a_much a_kindMany a_had a_leaves a_mostPay a_canLast a_leastMissed a_kept a_isKept res.2.2.2.2.2.2.2.1 v_flat v_leastThick v_sights v_padMany res.2.1 res.2.2.2.2.1 res.2.2.2.2.2.1 res.2.2.2.2.2.2.1 res.2.2.1 res.2.2.2.1 v_keptAt v_isWriting v_pad res.2.2.2.2.2.2.2.2.1 res.2.2.2.2.2.2.2.2.2.1 res.2.2.2.2.2.2.2.2.2.2.1 res.2.2.2.2.2.2.2.2.2.2.2.1 res.2.2.2.2.2.2.2.2.2.2.2.2.1 res.2.2.2.2.2.2.2.2.2.2.2.2.2.1 res.2.2.2.2.2.2.2.2.2.2.2.2.2.2.1 res.2.2.2.2.2.2.2.2.2.2.2.2.2.2.2.1 res.2.2.2.2.2.2.2.2.2.2.2.2.2.2.2.2.1 res.2.2.2.2.2.2.2.2.2.2.2.2.2.2.2.2.2.1 res.2.2.2.2.2.2.2.2.2.2.2.2.2.2.2.2.2.2.1 v_fine v_deep res.2.2.2.2.2.2.2.2.2.2.2.2.2.2.2.2.2.2.2)) (h : fX11_judge x1 v_stones v_flat v_leastThick v_padMany v_acts v_pulled v_skyPull v_skyWhose v_badAct v_badWhy v_pad v_act v_much v_where v_fats v_thick v_hollow v_damp v_fresh v_pulls v_had v_kindMany v_fine v_deep v_leaves = some res) (H : Heap) (locs : List Loc) (hW : HW G A s (wX11_judge cI cZ a_this a_thick a_hollow a_damp a_fresh a_pulls a_fats a_deep a_fine a_pay a_hair a_sightPicture a_sightPull a_sightShows a_pad a_act a_where a_much a_kindMany a_had a_leaves a_mostPay a_canLast a_leastMissed a_kept a_isKept v_stones v_flat v_leastThick v_sights v_padMany v_acts v_pulled v_skyPull v_skyWhose v_badAct v_badWhy v_keptAt v_isWriting v_pad v_act v_much v_where v_fats v_thick v_hollow v_damp v_fresh v_pulls v_had v_kindMany v_fine v_deep v_leaves) H locs) (ls : Array Slot) (hl : lv_has ls 3 [(0, .ref a_this), (1, .int x1)]) : W p l e rX11_judge s m av below meth c H locs 0 0 Q (F0 m 0 ls []) := by
  have hx := C.1
  have hb := C.2.1
  unfold fX11_judge at h
  refine lv_iload_n hx hb dX11_judge_0 rfl (lv_at hl 1 rfl) ?_
  refine lv_i2l hx hb dX11_judge_1 rfl ?_
  refine lv_lconst (v := (0 : Int64)) hx hb dX11_judge_2 (by decide) ?_
  refine lv_ldc2 (v := (2 : Int64)) hx hb C.2.2.2.2.2.1 (C.2.2.2.2.1 _ wd_971) dX11_judge_3 ?_
  refine callSI0 C lk_RX11_95 (ctX11_in (Int32.toInt64 x1) (0 : Int64) (2 : Int64) rfl) hW hl rfl ⟨rfl, rfl⟩ ⟨(Nat.le_of_ble_eq_true rfl), (Nat.le_of_ble_eq_true rfl)⟩ ⟨Nat.zero_le _, Nat.zero_le _⟩ rfl (Nat.le_of_ble_eq_true rfl) dX11_judge_6 (fun H locs hW => ?_)
  refine lv_if_ne (tgt := 15) hx hb dX11_judge_9 (by decide) (fun c_1 => ?_) (fun c_1 => ?_)
  · have h := in_h c_1 h
    refine lv_aload_n hx hb dX11_judge_15 rfl (lv_at hl 0 rfl) ?_
    obtain ⟨v_2, hv_2, h⟩ := bd_h h
    refine callVIm [0, 1, 2, 3, 4, 5, 6, 7, 8, 9, 10, 11, 12, 13, 14, 15] [] (wX11_judge cI cZ a_this a_thick a_hollow a_damp a_fresh a_pulls a_fats a_deep a_fine a_pay a_hair a_sightPicture a_sightPull a_sightShows a_pad a_act a_where a_much a_kindMany a_had a_leaves a_mostPay a_canLast a_leastMissed a_kept a_isKept v_2.2.2.2.2.2.2.2.1 v_flat v_leastThick v_sights v_padMany v_2.2.1 v_2.2.2.2.2.1 v_2.2.2.2.2.2.1 v_2.2.2.2.2.2.2.1 v_2.2.2.1 v_2.2.2.2.1 v_keptAt v_isWriting v_pad v_2.2.2.2.2.2.2.2.2.1 v_2.2.2.2.2.2.2.2.2.2.1 v_2.2.2.2.2.2.2.2.2.2.2.1 v_2.2.2.2.2.2.2.2.2.2.2.2.1 v_2.2.2.2.2.2.2.2.2.2.2.2.2.1 v_2.2.2.2.2.2.2.2.2.2.2.2.2.2.1 v_2.2.2.2.2.2.2.2.2.2.2.2.2.2.2.1 v_2.2.2.2.2.2.2.2.2.2.2.2.2.2.2.2.1 v_2.2.2.2.2.2.2.2.2.2.2.2.2.2.2.2.2.1 v_2.2.2.2.2.2.2.2.2.2.2.2.2.2.2.2.2.2.1 v_2.2.2.2.2.2.2.2.2.2.2.2.2.2.2.2.2.2.2.1 v_fine v_deep v_2.2.2.2.2.2.2.2.2.2.2.2.2.2.2.2.2.2.2.2) C lk_RX11_227 (ctX11_refusal a_this a_thick a_hollow a_damp a_fresh a_pulls a_fats a_deep a_fine a_pay a_hair a_sightPicture a_sightPull a_sightShows a_pad a_act a_where a_much a_kindMany a_had a_leaves a_mostPay a_canLast a_leastMissed a_kept a_isKept v_stones v_flat v_leastThick v_sights v_padMany v_acts v_pulled v_skyPull v_skyWhose v_badAct v_badWhy v_keptAt v_isWriting v_pad v_act v_much v_where v_fats v_thick v_hollow v_damp v_fresh v_pulls v_had v_kindMany v_fine v_deep v_leaves hv_2) hW hl 11 rfl rfl rfl rfl rfl rfl rfl rfl rfl ⟨rfl, rfl⟩ ⟨(Nat.le_of_ble_eq_true rfl), (Nat.le_of_ble_eq_true rfl)⟩ ⟨Nat.zero_le _, Nat.zero_le _⟩ rfl (Nat.le_of_ble_eq_true rfl) dX11_judge_16 (fun H locs hW => ?_)
    refine lv_istore_n (lv' := [(2, .int v_2.1), (0, .ref a_this), (1, .int x1)]) hx hb dX11_judge_19 rfl hl (Nat.le_of_ble_eq_true rfl) rfl (fun ls hl => ?_)
    refine lv_iload_n hx hb dX11_judge_20 rfl (lv_at hl 0 rfl) ?_
    refine lv_bipush (v := (-5 : Int32)) hx hb dX11_judge_21 (by decide) ?_
    refine lv_icmp_eq (tgt := 37) hx hb dX11_judge_23 (by decide) (fun c_3 => ?_) (fun c_3 => ?_)
    · have h := ip_h c_3 h
      refine lv_iload_n hx hb dX11_judge_37 rfl (lv_at hl 0 rfl) ?_
      obtain rfl := Option.some.inj h
      exact hQ rfl _ _ _ _ dX11_judge_38 hW
    · have h := in_h c_3 h
      refine lv_iload_n hx hb dX11_judge_26 rfl (lv_at hl 2 rfl) ?_
      refine lv_iconst (v := (1 : Int32)) hx hb dX11_judge_27 (by decide) ?_
      refine lv_icmp_le (tgt := 39) hx hb dX11_judge_28 (by decide) (fun c_4 => ?_) (fun c_4 => ?_)
      · have h := ip_h c_4 h
        refine lv_iload_n hx hb dX11_judge_39 rfl (lv_at hl 2 rfl) ?_
        refine lv_if_ne (tgt := 50) hx hb dX11_judge_40 (by decide) (fun c_5 => ?_) (fun c_5 => ?_)
        · have h := in_h c_5 h
          refine lv_iload_n hx hb dX11_judge_50 rfl (lv_at hl 2 rfl) ?_
          refine lv_iconst (v := (1 : Int32)) hx hb dX11_judge_51 (by decide) ?_
          refine lv_icmp_ne (tgt := 62) hx hb dX11_judge_52 (by decide) (fun c_6 => ?_) (fun c_6 => ?_)
          · have h := in_h c_6 h
            refine lv_aload_n hx hb dX11_judge_62 rfl (lv_at hl 1 rfl) ?_
            refine getW C fl_RX11_178 hW 0 rfl rfl dX11_judge_63 ?_
            obtain rfl := Option.some.inj h
            exact hQ rfl _ _ _ _ dX11_judge_66 hW
          · have h := ip_h c_6 h
            refine lv_aload_n hx hb dX11_judge_55 rfl (lv_at hl 1 rfl) ?_
            refine getW C fl_RX11_201 hW 0 rfl rfl dX11_judge_56 ?_
            refine lv_goto (tgt := 66) hx hb dX11_judge_59 (by decide) ?_
            obtain rfl := Option.some.inj h
            exact hQ rfl _ _ _ _ dX11_judge_66 hW
        · have h := ip_h c_5 h
          refine lv_aload_n hx hb dX11_judge_43 rfl (lv_at hl 1 rfl) ?_
          refine getW C fl_RX11_198 hW 0 rfl rfl dX11_judge_44 ?_
          refine lv_goto (tgt := 66) hx hb dX11_judge_47 (by decide) ?_
          obtain rfl := Option.some.inj h
          exact hQ rfl _ _ _ _ dX11_judge_66 hW
      · have h := in_h c_4 h
        refine lv_iload_n hx hb dX11_judge_31 rfl (lv_at hl 0 rfl) ?_
        refine lv_bipush (v := (-3 : Int32)) hx hb dX11_judge_32 (by decide) ?_
        refine lv_icmp_ne (tgt := 39) hx hb dX11_judge_34 (by decide) (fun c_7 => ?_) (fun c_7 => ?_)
        · have h := in_h c_7 h
          refine lv_iload_n hx hb dX11_judge_39 rfl (lv_at hl 2 rfl) ?_
          refine lv_if_ne (tgt := 50) hx hb dX11_judge_40 (by decide) (fun c_8 => ?_) (fun c_8 => ?_)
          · have h := in_h c_8 h
            refine lv_iload_n hx hb dX11_judge_50 rfl (lv_at hl 2 rfl) ?_
            refine lv_iconst (v := (1 : Int32)) hx hb dX11_judge_51 (by decide) ?_
            refine lv_icmp_ne (tgt := 62) hx hb dX11_judge_52 (by decide) (fun c_9 => ?_) (fun c_9 => ?_)
            · have h := in_h c_9 h
              refine lv_aload_n hx hb dX11_judge_62 rfl (lv_at hl 1 rfl) ?_
              refine getW C fl_RX11_178 hW 0 rfl rfl dX11_judge_63 ?_
              obtain rfl := Option.some.inj h
              exact hQ rfl _ _ _ _ dX11_judge_66 hW
            · have h := ip_h c_9 h
              refine lv_aload_n hx hb dX11_judge_55 rfl (lv_at hl 1 rfl) ?_
              refine getW C fl_RX11_201 hW 0 rfl rfl dX11_judge_56 ?_
              refine lv_goto (tgt := 66) hx hb dX11_judge_59 (by decide) ?_
              obtain rfl := Option.some.inj h
              exact hQ rfl _ _ _ _ dX11_judge_66 hW
          · have h := ip_h c_8 h
            refine lv_aload_n hx hb dX11_judge_43 rfl (lv_at hl 1 rfl) ?_
            refine getW C fl_RX11_198 hW 0 rfl rfl dX11_judge_44 ?_
            refine lv_goto (tgt := 66) hx hb dX11_judge_47 (by decide) ?_
            obtain rfl := Option.some.inj h
            exact hQ rfl _ _ _ _ dX11_judge_66 hW
        · have h := ip_h c_7 h
          refine lv_iload_n hx hb dX11_judge_37 rfl (lv_at hl 0 rfl) ?_
          obtain rfl := Option.some.inj h
          exact hQ rfl _ _ _ _ dX11_judge_38 hW
  · have h := ip_h c_1 h
    refine lv_bipush (v := (-2 : Int32)) hx hb dX11_judge_12 (by decide) ?_
    obtain rfl := Option.some.inj h
    exact hQ rfl _ _ _ _ dX11_judge_14 hW
theorem ctX11_judge {l : Launch} {G : va_G} {cI cZ cO : ClassId} (a_this a_thick a_hollow a_damp a_fresh a_pulls a_fats a_deep a_fine a_pay a_hair a_sightPicture a_sightPull a_sightShows a_pad a_act a_where a_much a_kindMany a_had a_leaves a_mostPay a_canLast a_leastMissed a_kept a_isKept : Nat) (x1 : Int32) (v_stones : Int32) (v_flat : Int32) (v_leastThick : Int32) (v_sights : Int32) (v_padMany : Int32) (v_acts : Int32) (v_pulled : Int32) (v_skyPull : Int32) (v_skyWhose : Int32) (v_badAct : Int32) (v_badWhy : Int32) (v_keptAt : Int32) (v_isWriting : Int32) (v_pad : Nat → Int32) (v_act : Nat → Int32) (v_much : Nat → Int32) (v_where : Nat → Int32) (v_fats : Nat → Int32) (v_thick : Nat → Int32) (v_hollow : Nat → Int32) (v_damp : Nat → Int32) (v_fresh : Nat → Int32) (v_pulls : Nat → Int32) (v_had : Nat → Int32) (v_kindMany : Nat → Int32) (v_fine : Nat → Int32) (v_deep : Nat → Int32) (v_leaves : Nat → Int32) {res : Int32 × Int32 × Int32 × Int32 × Int32 × Int32 × Int32 × Int32 × (Nat → Int32) × (Nat → Int32) × (Nat → Int32) × (Nat → Int32) × (Nat → Int32) × (Nat → Int32) × (Nat → Int32) × (Nat → Int32) × (Nat → Int32) × (Nat → Int32) × (Nat → Int32) × (Nat → Int32)} (h : fX11_judge x1 v_stones v_flat v_leastThick v_padMany v_acts v_pulled v_skyPull v_skyWhose v_badAct v_badWhy v_pad v_act v_much v_where v_fats v_thick v_hollow v_damp v_fresh v_pulls v_had v_kindMany v_fine v_deep v_leaves = some res) : MI l G cI cZ cO yX11_judge cX11_judge 3 .int rX11_judge [.ref a_this, .int x1] (wX11_judge cI cZ a_this a_thick a_hollow a_damp a_fresh a_pulls a_fats a_deep a_fine a_pay a_hair a_sightPicture a_sightPull a_sightShows a_pad a_act a_where a_much a_kindMany a_had a_leaves a_mostPay a_canLast a_leastMissed a_kept a_isKept v_stones v_flat v_leastThick v_sights v_padMany v_acts v_pulled v_skyPull v_skyWhose v_badAct v_badWhy v_keptAt v_isWriting v_pad v_act v_much v_where v_fats v_thick v_hollow v_damp v_fresh v_pulls v_had v_kindMany v_fine v_deep v_leaves) (res.1) (wX11_judge cI cZ a_this a_thick a_hollow a_damp a_fresh a_pulls a_fats a_deep a_fine a_pay a_hair a_sightPicture a_sightPull a_sightShows a_pad a_act a_where a_much a_kindMany a_had a_leaves a_mostPay a_canLast a_leastMissed a_kept a_isKept res.2.2.2.2.2.2.2.1 v_flat v_leastThick v_sights v_padMany res.2.1 res.2.2.2.2.1 res.2.2.2.2.2.1 res.2.2.2.2.2.2.1 res.2.2.1 res.2.2.2.1 v_keptAt v_isWriting v_pad res.2.2.2.2.2.2.2.2.1 res.2.2.2.2.2.2.2.2.2.1 res.2.2.2.2.2.2.2.2.2.2.1 res.2.2.2.2.2.2.2.2.2.2.2.1 res.2.2.2.2.2.2.2.2.2.2.2.2.1 res.2.2.2.2.2.2.2.2.2.2.2.2.2.1 res.2.2.2.2.2.2.2.2.2.2.2.2.2.2.1 res.2.2.2.2.2.2.2.2.2.2.2.2.2.2.2.1 res.2.2.2.2.2.2.2.2.2.2.2.2.2.2.2.2.1 res.2.2.2.2.2.2.2.2.2.2.2.2.2.2.2.2.2.1 res.2.2.2.2.2.2.2.2.2.2.2.2.2.2.2.2.2.2.1 v_fine v_deep res.2.2.2.2.2.2.2.2.2.2.2.2.2.2.2.2.2.2.2) := by
  refine MI.of (by decide) (Nat.le_of_ble_eq_true rfl) ?_
  intro p e s m below meth c A Q C hW hQ ls hl
  exact uX11_judge_0 x1 v_stones v_flat v_leastThick v_sights v_padMany v_acts v_pulled v_skyPull v_skyWhose v_badAct v_badWhy v_keptAt v_isWriting v_pad v_act v_much v_where v_fats v_thick v_hollow v_damp v_fresh v_pulls v_had v_kindMany v_fine v_deep v_leaves C hQ h _ _ hW _ hl
abbrev wX11_kinds (cI cZ : ClassId) (a_this a_thick a_hollow a_damp a_fresh a_pulls a_fats a_deep a_fine a_pay a_hair a_sightPicture a_sightPull a_sightShows a_pad a_act a_where a_much a_kindMany a_had a_leaves a_mostPay a_canLast a_leastMissed a_kept a_isKept : Nat) (v_stones : Int32) (v_flat : Int32) (v_leastThick : Int32) (v_sights : Int32) (v_padMany : Int32) (v_acts : Int32) (v_pulled : Int32) (v_skyPull : Int32) (v_skyWhose : Int32) (v_badAct : Int32) (v_badWhy : Int32) (v_keptAt : Int32) (v_isWriting : Int32) (v_pad : Nat → Int32) (v_act : Nat → Int32) (v_much : Nat → Int32) (v_where : Nat → Int32) (v_fats : Nat → Int32) (v_thick : Nat → Int32) (v_hollow : Nat → Int32) (v_damp : Nat → Int32) (v_fresh : Nat → Int32) (v_pulls : Nat → Int32) (v_had : Nat → Int32) (v_kindMany : Nat → Int32) (v_fine : Nat → Int32) (v_deep : Nat → Int32) (v_leaves : Nat → Int32) : va_W := [(a_this, .inr (11, [.int v_stones, .int v_flat, .int v_leastThick, .ref a_thick, .ref a_hollow, .ref a_damp, .ref a_fresh, .ref a_pulls, .ref a_fats, .ref a_deep, .ref a_fine, .ref a_pay, .ref a_hair, .ref a_sightPicture, .ref a_sightPull, .ref a_sightShows, .int v_sights, .ref a_pad, .int v_padMany, .ref a_act, .ref a_where, .ref a_much, .int v_acts, .int v_pulled, .ref a_kindMany, .int v_skyPull, .int v_skyWhose, .ref a_had, .ref a_leaves, .int v_badAct, .int v_badWhy, .ref a_mostPay, .ref a_canLast, .ref a_leastMissed, .ref a_kept, .ref a_isKept, .int v_keptAt, .int v_isWriting])), (a_pad, .inl (cI, 60, .inl v_pad)), (a_act, .inl (cI, 60, .inl v_act)), (a_much, .inl (cI, 60, .inl v_much)), (a_where, .inl (cI, 60, .inl v_where)), (a_fats, .inl (cI, 40, .inl v_fats)), (a_thick, .inl (cI, 5, .inl v_thick)), (a_hollow, .inl (cI, 5, .inl v_hollow)), (a_damp, .inl (cI, 5, .inl v_damp)), (a_fresh, .inl (cI, 5, .inl v_fresh)), (a_pulls, .inl (cI, 5, .inl v_pulls)), (a_had, .inl (cI, 66, .inl v_had)), (a_kindMany, .inl (cI, 5, .inl v_kindMany)), (a_fine, .inl (cI, 8, .inl v_fine)), (a_deep, .inl (cI, 8, .inl v_deep)), (a_leaves, .inl (cI, 66, .inl v_leaves))]
abbrev rX11_kinds : Room := { frames := 7, cells := 0, slots := 0, locals := 159 }
set_option maxRecDepth 20000 in
theorem uX11_kinds_0 {a_this a_thick a_hollow a_damp a_fresh a_pulls a_fats a_deep a_fine a_pay a_hair a_sightPicture a_sightPull a_sightShows a_pad a_act a_where a_much a_kindMany a_had a_leaves a_mostPay a_canLast a_leastMissed a_kept a_isKept : Nat} (x1 : Int32) (v_stones : Int32) (v_flat : Int32) (v_leastThick : Int32) (v_sights : Int32) (v_padMany : Int32) (v_acts : Int32) (v_pulled : Int32) (v_skyPull : Int32) (v_skyWhose : Int32) (v_badAct : Int32) (v_badWhy : Int32) (v_keptAt : Int32) (v_isWriting : Int32) (v_pad : Nat → Int32) (v_act : Nat → Int32) (v_much : Nat → Int32) (v_where : Nat → Int32) (v_fats : Nat → Int32) (v_thick : Nat → Int32) (v_hollow : Nat → Int32) (v_damp : Nat → Int32) (v_fresh : Nat → Int32) (v_pulls : Nat → Int32) (v_had : Nat → Int32) (v_kindMany : Nat → Int32) (v_fine : Nat → Int32) (v_deep : Nat → Int32) (v_leaves : Nat → Int32) {res : Int32 × Int32 × Int32 × Int32 × Int32 × Int32 × Int32 × Int32 × (Nat → Int32) × (Nat → Int32) × (Nat → Int32) × (Nat → Int32) × (Nat → Int32) × (Nat → Int32) × (Nat → Int32) × (Nat → Int32) × (Nat → Int32) × (Nat → Int32) × (Nat → Int32) × (Nat → Int32)} (C : Cx p s m av meth c RX11 cX11_kinds 3 (some .int) G cI cZ cO A) (hQ : RI p l e rX11_kinds s m av below meth c G A cX11_kinds .int Q (res.1) (wX11_kinds cI cZ a_this a_thick a_hollow a_damp a_fresh a_pulls a_fats a_deep a_fine a_pay a_hair a_sightPicture a_sightPull a_sightShows a_pad a_act a_where a_much a_kindMany a_had a_leaves a_mostPay a_canLast a_leastMissed a_kept a_isKept res.2.2.2.2.2.2.2.1 v_flat v_leastThick v_sights v_padMany res.2.1 res.2.2.2.2.1 res.2.2.2.2.2.1 res.2.2.2.2.2.2.1 res.2.2.1 res.2.2.2.1 v_keptAt v_isWriting v_pad res.2.2.2.2.2.2.2.2.1 res.2.2.2.2.2.2.2.2.2.1 res.2.2.2.2.2.2.2.2.2.2.1 res.2.2.2.2.2.2.2.2.2.2.2.1 res.2.2.2.2.2.2.2.2.2.2.2.2.1 res.2.2.2.2.2.2.2.2.2.2.2.2.2.1 res.2.2.2.2.2.2.2.2.2.2.2.2.2.2.1 res.2.2.2.2.2.2.2.2.2.2.2.2.2.2.2.1 res.2.2.2.2.2.2.2.2.2.2.2.2.2.2.2.2.1 res.2.2.2.2.2.2.2.2.2.2.2.2.2.2.2.2.2.1 res.2.2.2.2.2.2.2.2.2.2.2.2.2.2.2.2.2.2.1 v_fine v_deep res.2.2.2.2.2.2.2.2.2.2.2.2.2.2.2.2.2.2.2)) (h : fX11_kinds x1 v_stones v_flat v_leastThick v_padMany v_acts v_pulled v_skyPull v_skyWhose v_badAct v_badWhy v_pad v_act v_much v_where v_fats v_thick v_hollow v_damp v_fresh v_pulls v_had v_kindMany v_fine v_deep v_leaves = some res) (H : Heap) (locs : List Loc) (hW : HW G A s (wX11_kinds cI cZ a_this a_thick a_hollow a_damp a_fresh a_pulls a_fats a_deep a_fine a_pay a_hair a_sightPicture a_sightPull a_sightShows a_pad a_act a_where a_much a_kindMany a_had a_leaves a_mostPay a_canLast a_leastMissed a_kept a_isKept v_stones v_flat v_leastThick v_sights v_padMany v_acts v_pulled v_skyPull v_skyWhose v_badAct v_badWhy v_keptAt v_isWriting v_pad v_act v_much v_where v_fats v_thick v_hollow v_damp v_fresh v_pulls v_had v_kindMany v_fine v_deep v_leaves) H locs) (ls : Array Slot) (hl : lv_has ls 3 [(0, .ref a_this), (1, .int x1)]) : W p l e rX11_kinds s m av below meth c H locs 0 0 Q (F0 m 0 ls []) := by
  have hx := C.1
  have hb := C.2.1
  unfold fX11_kinds at h
  refine lv_iload_n hx hb dX11_kinds_0 rfl (lv_at hl 1 rfl) ?_
  refine lv_i2l hx hb dX11_kinds_1 rfl ?_
  refine lv_lconst (v := (0 : Int64)) hx hb dX11_kinds_2 (by decide) ?_
  refine lv_ldc2 (v := (4 : Int64)) hx hb C.2.2.2.2.2.1 (C.2.2.2.2.1 _ wd_894) dX11_kinds_3 ?_
  refine callSI0 C lk_RX11_95 (ctX11_in (Int32.toInt64 x1) (0 : Int64) (4 : Int64) rfl) hW hl rfl ⟨rfl, rfl⟩ ⟨(Nat.le_of_ble_eq_true rfl), (Nat.le_of_ble_eq_true rfl)⟩ ⟨Nat.zero_le _, Nat.zero_le _⟩ rfl (Nat.le_of_ble_eq_true rfl) dX11_kinds_6 (fun H locs hW => ?_)
  refine lv_if_ne (tgt := 15) hx hb dX11_kinds_9 (by decide) (fun c_1 => ?_) (fun c_1 => ?_)
  · have h := in_h c_1 h
    refine lv_aload_n hx hb dX11_kinds_15 rfl (lv_at hl 0 rfl) ?_
    obtain ⟨v_2, hv_2, h⟩ := bd_h h
    refine callVIm [0, 1, 2, 3, 4, 5, 6, 7, 8, 9, 10, 11, 12, 13, 14, 15] [] (wX11_kinds cI cZ a_this a_thick a_hollow a_damp a_fresh a_pulls a_fats a_deep a_fine a_pay a_hair a_sightPicture a_sightPull a_sightShows a_pad a_act a_where a_much a_kindMany a_had a_leaves a_mostPay a_canLast a_leastMissed a_kept a_isKept v_2.2.2.2.2.2.2.2.1 v_flat v_leastThick v_sights v_padMany v_2.2.1 v_2.2.2.2.2.1 v_2.2.2.2.2.2.1 v_2.2.2.2.2.2.2.1 v_2.2.2.1 v_2.2.2.2.1 v_keptAt v_isWriting v_pad v_2.2.2.2.2.2.2.2.2.1 v_2.2.2.2.2.2.2.2.2.2.1 v_2.2.2.2.2.2.2.2.2.2.2.1 v_2.2.2.2.2.2.2.2.2.2.2.2.1 v_2.2.2.2.2.2.2.2.2.2.2.2.2.1 v_2.2.2.2.2.2.2.2.2.2.2.2.2.2.1 v_2.2.2.2.2.2.2.2.2.2.2.2.2.2.2.1 v_2.2.2.2.2.2.2.2.2.2.2.2.2.2.2.2.1 v_2.2.2.2.2.2.2.2.2.2.2.2.2.2.2.2.2.1 v_2.2.2.2.2.2.2.2.2.2.2.2.2.2.2.2.2.2.1 v_2.2.2.2.2.2.2.2.2.2.2.2.2.2.2.2.2.2.2.1 v_fine v_deep v_2.2.2.2.2.2.2.2.2.2.2.2.2.2.2.2.2.2.2.2) C lk_RX11_227 (ctX11_refusal a_this a_thick a_hollow a_damp a_fresh a_pulls a_fats a_deep a_fine a_pay a_hair a_sightPicture a_sightPull a_sightShows a_pad a_act a_where a_much a_kindMany a_had a_leaves a_mostPay a_canLast a_leastMissed a_kept a_isKept v_stones v_flat v_leastThick v_sights v_padMany v_acts v_pulled v_skyPull v_skyWhose v_badAct v_badWhy v_keptAt v_isWriting v_pad v_act v_much v_where v_fats v_thick v_hollow v_damp v_fresh v_pulls v_had v_kindMany v_fine v_deep v_leaves hv_2) hW hl 11 rfl rfl rfl rfl rfl rfl rfl rfl rfl ⟨rfl, rfl⟩ ⟨(Nat.le_of_ble_eq_true rfl), (Nat.le_of_ble_eq_true rfl)⟩ ⟨Nat.zero_le _, Nat.zero_le _⟩ rfl (Nat.le_of_ble_eq_true rfl) dX11_kinds_16 (fun H locs hW => ?_)
    refine lv_istore_n (lv' := [(2, .int v_2.1), (0, .ref a_this), (1, .int x1)]) hx hb dX11_kinds_19 rfl hl (Nat.le_of_ble_eq_true rfl) rfl (fun ls hl => ?_)
    refine lv_iload_n hx hb dX11_kinds_20 rfl (lv_at hl 0 rfl) ?_
    refine lv_bipush (v := (-6 : Int32)) hx hb dX11_kinds_21 (by decide) ?_
    refine lv_icmp_eq (tgt := 30) hx hb dX11_kinds_23 (by decide) (fun c_3 => ?_) (fun c_3 => ?_)
    · have h := ip_h c_3 h
      refine lv_aload_n hx hb dX11_kinds_30 rfl (lv_at hl 1 rfl) ?_
      refine getW C fl_RX11_61 hW 0 rfl rfl dX11_kinds_31 ?_
      refine lv_iload_n hx hb dX11_kinds_34 rfl (lv_at hl 2 rfl) ?_
      obtain ⟨g_4, h⟩ := gd_h h
      refine ialdW C hW 12 rfl g_4 dX11_kinds_35 ?_
      obtain rfl := Option.some.inj h
      exact hQ rfl _ _ _ _ dX11_kinds_36 hW
    · have h := in_h c_3 h
      refine lv_iload_n hx hb dX11_kinds_26 rfl (lv_at hl 0 rfl) ?_
      refine lv_goto (tgt := 36) hx hb dX11_kinds_27 (by decide) ?_
      obtain rfl := Option.some.inj h
      exact hQ rfl _ _ _ _ dX11_kinds_36 hW
  · have h := ip_h c_1 h
    refine lv_bipush (v := (-2 : Int32)) hx hb dX11_kinds_12 (by decide) ?_
    obtain rfl := Option.some.inj h
    exact hQ rfl _ _ _ _ dX11_kinds_14 hW
theorem ctX11_kinds {l : Launch} {G : va_G} {cI cZ cO : ClassId} (a_this a_thick a_hollow a_damp a_fresh a_pulls a_fats a_deep a_fine a_pay a_hair a_sightPicture a_sightPull a_sightShows a_pad a_act a_where a_much a_kindMany a_had a_leaves a_mostPay a_canLast a_leastMissed a_kept a_isKept : Nat) (x1 : Int32) (v_stones : Int32) (v_flat : Int32) (v_leastThick : Int32) (v_sights : Int32) (v_padMany : Int32) (v_acts : Int32) (v_pulled : Int32) (v_skyPull : Int32) (v_skyWhose : Int32) (v_badAct : Int32) (v_badWhy : Int32) (v_keptAt : Int32) (v_isWriting : Int32) (v_pad : Nat → Int32) (v_act : Nat → Int32) (v_much : Nat → Int32) (v_where : Nat → Int32) (v_fats : Nat → Int32) (v_thick : Nat → Int32) (v_hollow : Nat → Int32) (v_damp : Nat → Int32) (v_fresh : Nat → Int32) (v_pulls : Nat → Int32) (v_had : Nat → Int32) (v_kindMany : Nat → Int32) (v_fine : Nat → Int32) (v_deep : Nat → Int32) (v_leaves : Nat → Int32) {res : Int32 × Int32 × Int32 × Int32 × Int32 × Int32 × Int32 × Int32 × (Nat → Int32) × (Nat → Int32) × (Nat → Int32) × (Nat → Int32) × (Nat → Int32) × (Nat → Int32) × (Nat → Int32) × (Nat → Int32) × (Nat → Int32) × (Nat → Int32) × (Nat → Int32) × (Nat → Int32)} (h : fX11_kinds x1 v_stones v_flat v_leastThick v_padMany v_acts v_pulled v_skyPull v_skyWhose v_badAct v_badWhy v_pad v_act v_much v_where v_fats v_thick v_hollow v_damp v_fresh v_pulls v_had v_kindMany v_fine v_deep v_leaves = some res) : MI l G cI cZ cO yX11_kinds cX11_kinds 3 .int rX11_kinds [.ref a_this, .int x1] (wX11_kinds cI cZ a_this a_thick a_hollow a_damp a_fresh a_pulls a_fats a_deep a_fine a_pay a_hair a_sightPicture a_sightPull a_sightShows a_pad a_act a_where a_much a_kindMany a_had a_leaves a_mostPay a_canLast a_leastMissed a_kept a_isKept v_stones v_flat v_leastThick v_sights v_padMany v_acts v_pulled v_skyPull v_skyWhose v_badAct v_badWhy v_keptAt v_isWriting v_pad v_act v_much v_where v_fats v_thick v_hollow v_damp v_fresh v_pulls v_had v_kindMany v_fine v_deep v_leaves) (res.1) (wX11_kinds cI cZ a_this a_thick a_hollow a_damp a_fresh a_pulls a_fats a_deep a_fine a_pay a_hair a_sightPicture a_sightPull a_sightShows a_pad a_act a_where a_much a_kindMany a_had a_leaves a_mostPay a_canLast a_leastMissed a_kept a_isKept res.2.2.2.2.2.2.2.1 v_flat v_leastThick v_sights v_padMany res.2.1 res.2.2.2.2.1 res.2.2.2.2.2.1 res.2.2.2.2.2.2.1 res.2.2.1 res.2.2.2.1 v_keptAt v_isWriting v_pad res.2.2.2.2.2.2.2.2.1 res.2.2.2.2.2.2.2.2.2.1 res.2.2.2.2.2.2.2.2.2.2.1 res.2.2.2.2.2.2.2.2.2.2.2.1 res.2.2.2.2.2.2.2.2.2.2.2.2.1 res.2.2.2.2.2.2.2.2.2.2.2.2.2.1 res.2.2.2.2.2.2.2.2.2.2.2.2.2.2.1 res.2.2.2.2.2.2.2.2.2.2.2.2.2.2.2.1 res.2.2.2.2.2.2.2.2.2.2.2.2.2.2.2.2.1 res.2.2.2.2.2.2.2.2.2.2.2.2.2.2.2.2.2.1 res.2.2.2.2.2.2.2.2.2.2.2.2.2.2.2.2.2.2.1 v_fine v_deep res.2.2.2.2.2.2.2.2.2.2.2.2.2.2.2.2.2.2.2) := by
  refine MI.of (by decide) (Nat.le_of_ble_eq_true rfl) ?_
  intro p e s m below meth c A Q C hW hQ ls hl
  exact uX11_kinds_0 x1 v_stones v_flat v_leastThick v_sights v_padMany v_acts v_pulled v_skyPull v_skyWhose v_badAct v_badWhy v_keptAt v_isWriting v_pad v_act v_much v_where v_fats v_thick v_hollow v_damp v_fresh v_pulls v_had v_kindMany v_fine v_deep v_leaves C hQ h _ _ hW _ hl
abbrev wX11_behind (cI cZ : ClassId) (a_this a_thick a_hollow a_damp a_fresh a_pulls a_fats a_deep a_fine a_pay a_hair a_sightPicture a_sightPull a_sightShows a_pad a_act a_where a_much a_kindMany a_had a_leaves a_mostPay a_canLast a_leastMissed a_kept a_isKept : Nat) (v_stones : Int32) (v_flat : Int32) (v_leastThick : Int32) (v_sights : Int32) (v_padMany : Int32) (v_acts : Int32) (v_pulled : Int32) (v_skyPull : Int32) (v_skyWhose : Int32) (v_badAct : Int32) (v_badWhy : Int32) (v_keptAt : Int32) (v_isWriting : Int32) (v_pad : Nat → Int32) (v_act : Nat → Int32) (v_much : Nat → Int32) (v_where : Nat → Int32) (v_fats : Nat → Int32) (v_thick : Nat → Int32) (v_hollow : Nat → Int32) (v_damp : Nat → Int32) (v_fresh : Nat → Int32) (v_pulls : Nat → Int32) (v_had : Nat → Int32) (v_kindMany : Nat → Int32) (v_fine : Nat → Int32) (v_deep : Nat → Int32) (v_leaves : Nat → Int32) : va_W := [(a_this, .inr (11, [.int v_stones, .int v_flat, .int v_leastThick, .ref a_thick, .ref a_hollow, .ref a_damp, .ref a_fresh, .ref a_pulls, .ref a_fats, .ref a_deep, .ref a_fine, .ref a_pay, .ref a_hair, .ref a_sightPicture, .ref a_sightPull, .ref a_sightShows, .int v_sights, .ref a_pad, .int v_padMany, .ref a_act, .ref a_where, .ref a_much, .int v_acts, .int v_pulled, .ref a_kindMany, .int v_skyPull, .int v_skyWhose, .ref a_had, .ref a_leaves, .int v_badAct, .int v_badWhy, .ref a_mostPay, .ref a_canLast, .ref a_leastMissed, .ref a_kept, .ref a_isKept, .int v_keptAt, .int v_isWriting])), (a_pad, .inl (cI, 60, .inl v_pad)), (a_act, .inl (cI, 60, .inl v_act)), (a_much, .inl (cI, 60, .inl v_much)), (a_where, .inl (cI, 60, .inl v_where)), (a_fats, .inl (cI, 40, .inl v_fats)), (a_thick, .inl (cI, 5, .inl v_thick)), (a_hollow, .inl (cI, 5, .inl v_hollow)), (a_damp, .inl (cI, 5, .inl v_damp)), (a_fresh, .inl (cI, 5, .inl v_fresh)), (a_pulls, .inl (cI, 5, .inl v_pulls)), (a_had, .inl (cI, 66, .inl v_had)), (a_kindMany, .inl (cI, 5, .inl v_kindMany)), (a_fine, .inl (cI, 8, .inl v_fine)), (a_deep, .inl (cI, 8, .inl v_deep)), (a_leaves, .inl (cI, 66, .inl v_leaves))]
abbrev rX11_behind : Room := { frames := 7, cells := 0, slots := 0, locals := 159 }
set_option maxRecDepth 20000 in
theorem uX11_behind_0 {a_this a_thick a_hollow a_damp a_fresh a_pulls a_fats a_deep a_fine a_pay a_hair a_sightPicture a_sightPull a_sightShows a_pad a_act a_where a_much a_kindMany a_had a_leaves a_mostPay a_canLast a_leastMissed a_kept a_isKept : Nat} (x1 : Int32) (x2 : Int32) (v_stones : Int32) (v_flat : Int32) (v_leastThick : Int32) (v_sights : Int32) (v_padMany : Int32) (v_acts : Int32) (v_pulled : Int32) (v_skyPull : Int32) (v_skyWhose : Int32) (v_badAct : Int32) (v_badWhy : Int32) (v_keptAt : Int32) (v_isWriting : Int32) (v_pad : Nat → Int32) (v_act : Nat → Int32) (v_much : Nat → Int32) (v_where : Nat → Int32) (v_fats : Nat → Int32) (v_thick : Nat → Int32) (v_hollow : Nat → Int32) (v_damp : Nat → Int32) (v_fresh : Nat → Int32) (v_pulls : Nat → Int32) (v_had : Nat → Int32) (v_kindMany : Nat → Int32) (v_fine : Nat → Int32) (v_deep : Nat → Int32) (v_leaves : Nat → Int32) {res : Int32 × Int32 × Int32 × Int32 × Int32 × Int32 × Int32 × Int32 × (Nat → Int32) × (Nat → Int32) × (Nat → Int32) × (Nat → Int32) × (Nat → Int32) × (Nat → Int32) × (Nat → Int32) × (Nat → Int32) × (Nat → Int32) × (Nat → Int32) × (Nat → Int32) × (Nat → Int32)} (C : Cx p s m av meth c RX11 cX11_behind 4 (some .int) G cI cZ cO A) (hQ : RI p l e rX11_behind s m av below meth c G A cX11_behind .int Q (res.1) (wX11_behind cI cZ a_this a_thick a_hollow a_damp a_fresh a_pulls a_fats a_deep a_fine a_pay a_hair a_sightPicture a_sightPull a_sightShows a_pad a_act a_where a_much a_kindMany a_had a_leaves a_mostPay a_canLast a_leastMissed a_kept a_isKept res.2.2.2.2.2.2.2.1 v_flat v_leastThick v_sights v_padMany res.2.1 res.2.2.2.2.1 res.2.2.2.2.2.1 res.2.2.2.2.2.2.1 res.2.2.1 res.2.2.2.1 v_keptAt v_isWriting v_pad res.2.2.2.2.2.2.2.2.1 res.2.2.2.2.2.2.2.2.2.1 res.2.2.2.2.2.2.2.2.2.2.1 res.2.2.2.2.2.2.2.2.2.2.2.1 res.2.2.2.2.2.2.2.2.2.2.2.2.1 res.2.2.2.2.2.2.2.2.2.2.2.2.2.1 res.2.2.2.2.2.2.2.2.2.2.2.2.2.2.1 res.2.2.2.2.2.2.2.2.2.2.2.2.2.2.2.1 res.2.2.2.2.2.2.2.2.2.2.2.2.2.2.2.2.1 res.2.2.2.2.2.2.2.2.2.2.2.2.2.2.2.2.2.1 res.2.2.2.2.2.2.2.2.2.2.2.2.2.2.2.2.2.2.1 v_fine v_deep res.2.2.2.2.2.2.2.2.2.2.2.2.2.2.2.2.2.2.2)) (h : fX11_behind x1 x2 v_stones v_flat v_leastThick v_padMany v_acts v_pulled v_skyPull v_skyWhose v_badAct v_badWhy v_pad v_act v_much v_where v_fats v_thick v_hollow v_damp v_fresh v_pulls v_had v_kindMany v_fine v_deep v_leaves = some res) (H : Heap) (locs : List Loc) (hW : HW G A s (wX11_behind cI cZ a_this a_thick a_hollow a_damp a_fresh a_pulls a_fats a_deep a_fine a_pay a_hair a_sightPicture a_sightPull a_sightShows a_pad a_act a_where a_much a_kindMany a_had a_leaves a_mostPay a_canLast a_leastMissed a_kept a_isKept v_stones v_flat v_leastThick v_sights v_padMany v_acts v_pulled v_skyPull v_skyWhose v_badAct v_badWhy v_keptAt v_isWriting v_pad v_act v_much v_where v_fats v_thick v_hollow v_damp v_fresh v_pulls v_had v_kindMany v_fine v_deep v_leaves) H locs) (ls : Array Slot) (hl : lv_has ls 4 [(0, .ref a_this), (1, .int x1), (2, .int x2)]) : W p l e rX11_behind s m av below meth c H locs 0 0 Q (F0 m 0 ls []) := by
  have hx := C.1
  have hb := C.2.1
  unfold fX11_behind at h
  refine lv_aload_n hx hb dX11_behind_0 rfl (lv_at hl 0 rfl) ?_
  refine lv_iload_n hx hb dX11_behind_1 rfl (lv_at hl 1 rfl) ?_
  refine callVIr [0] C lk_RX11_118 (ctX11_isStone a_this a_thick a_hollow a_damp a_fresh a_pulls a_fats a_deep a_fine a_pay a_hair a_sightPicture a_sightPull a_sightShows a_pad a_act a_where a_much a_kindMany a_had a_leaves a_mostPay a_canLast a_leastMissed a_kept a_isKept x1 v_stones v_flat v_leastThick v_sights v_padMany v_acts v_pulled v_skyPull v_skyWhose v_badAct v_badWhy v_keptAt v_isWriting rfl) hW hl 11 rfl rfl rfl rfl rfl ⟨rfl, rfl⟩ ⟨(Nat.le_of_ble_eq_true rfl), (Nat.le_of_ble_eq_true rfl)⟩ ⟨Nat.zero_le _, Nat.zero_le _⟩ rfl (Nat.le_of_ble_eq_true rfl) dX11_behind_2 (fun H locs hW => ?_)
  refine lv_if_ne (tgt := 10) hx hb dX11_behind_5 (by decide) (fun c_1 => ?_) (fun c_1 => ?_)
  · have h := in_h c_1 h
    refine lv_iload_n hx hb dX11_behind_10 rfl (lv_at hl 2 rfl) ?_
    refine lv_i2l hx hb dX11_behind_11 rfl ?_
    refine lv_lconst (v := (0 : Int64)) hx hb dX11_behind_12 (by decide) ?_
    refine lv_ldc2 (v := (4 : Int64)) hx hb C.2.2.2.2.2.1 (C.2.2.2.2.1 _ wd_894) dX11_behind_13 ?_
    refine callSI0 C lk_RX11_95 (ctX11_in (Int32.toInt64 x2) (0 : Int64) (4 : Int64) rfl) hW hl rfl ⟨rfl, rfl⟩ ⟨(Nat.le_of_ble_eq_true rfl), (Nat.le_of_ble_eq_true rfl)⟩ ⟨Nat.zero_le _, Nat.zero_le _⟩ rfl (Nat.le_of_ble_eq_true rfl) dX11_behind_16 (fun H locs hW => ?_)
    refine lv_if_ne (tgt := 25) hx hb dX11_behind_19 (by decide) (fun c_2 => ?_) (fun c_2 => ?_)
    · have h := in_h c_2 h
      refine lv_aload_n hx hb dX11_behind_25 rfl (lv_at hl 0 rfl) ?_
      obtain ⟨v_3, hv_3, h⟩ := bd_h h
      refine callVIm [0, 1, 2, 3, 4, 5, 6, 7, 8, 9, 10, 11, 12, 13, 14, 15] [] (wX11_behind cI cZ a_this a_thick a_hollow a_damp a_fresh a_pulls a_fats a_deep a_fine a_pay a_hair a_sightPicture a_sightPull a_sightShows a_pad a_act a_where a_much a_kindMany a_had a_leaves a_mostPay a_canLast a_leastMissed a_kept a_isKept v_3.2.2.2.2.2.2.2.1 v_flat v_leastThick v_sights v_padMany v_3.2.1 v_3.2.2.2.2.1 v_3.2.2.2.2.2.1 v_3.2.2.2.2.2.2.1 v_3.2.2.1 v_3.2.2.2.1 v_keptAt v_isWriting v_pad v_3.2.2.2.2.2.2.2.2.1 v_3.2.2.2.2.2.2.2.2.2.1 v_3.2.2.2.2.2.2.2.2.2.2.1 v_3.2.2.2.2.2.2.2.2.2.2.2.1 v_3.2.2.2.2.2.2.2.2.2.2.2.2.1 v_3.2.2.2.2.2.2.2.2.2.2.2.2.2.1 v_3.2.2.2.2.2.2.2.2.2.2.2.2.2.2.1 v_3.2.2.2.2.2.2.2.2.2.2.2.2.2.2.2.1 v_3.2.2.2.2.2.2.2.2.2.2.2.2.2.2.2.2.1 v_3.2.2.2.2.2.2.2.2.2.2.2.2.2.2.2.2.2.1 v_3.2.2.2.2.2.2.2.2.2.2.2.2.2.2.2.2.2.2.1 v_fine v_deep v_3.2.2.2.2.2.2.2.2.2.2.2.2.2.2.2.2.2.2.2) C lk_RX11_227 (ctX11_refusal a_this a_thick a_hollow a_damp a_fresh a_pulls a_fats a_deep a_fine a_pay a_hair a_sightPicture a_sightPull a_sightShows a_pad a_act a_where a_much a_kindMany a_had a_leaves a_mostPay a_canLast a_leastMissed a_kept a_isKept v_stones v_flat v_leastThick v_sights v_padMany v_acts v_pulled v_skyPull v_skyWhose v_badAct v_badWhy v_keptAt v_isWriting v_pad v_act v_much v_where v_fats v_thick v_hollow v_damp v_fresh v_pulls v_had v_kindMany v_fine v_deep v_leaves hv_3) hW hl 11 rfl rfl rfl rfl rfl rfl rfl rfl rfl ⟨rfl, rfl⟩ ⟨(Nat.le_of_ble_eq_true rfl), (Nat.le_of_ble_eq_true rfl)⟩ ⟨Nat.zero_le _, Nat.zero_le _⟩ rfl (Nat.le_of_ble_eq_true rfl) dX11_behind_26 (fun H locs hW => ?_)
      refine lv_istore_n (lv' := [(3, .int v_3.1), (0, .ref a_this), (1, .int x1), (2, .int x2)]) hx hb dX11_behind_29 rfl hl (Nat.le_of_ble_eq_true rfl) rfl (fun ls hl => ?_)
      refine lv_iload_n hx hb dX11_behind_30 rfl (lv_at hl 0 rfl) ?_
      refine lv_bipush (v := (-6 : Int32)) hx hb dX11_behind_31 (by decide) ?_
      refine lv_icmp_eq (tgt := 38) hx hb dX11_behind_33 (by decide) (fun c_4 => ?_) (fun c_4 => ?_)
      · have h := ip_h c_4 h
        refine lv_aload_n hx hb dX11_behind_38 rfl (lv_at hl 1 rfl) ?_
        refine getW C fl_RX11_67 hW 0 rfl rfl dX11_behind_39 ?_
        refine lv_bipush (v := (65 : Int32)) hx hb dX11_behind_42 (by decide) ?_
        refine ialdW C hW 15 rfl (show ¬ ((65 : Int32) < 0 ∨ 66 ≤ Int32.toNatClampNeg (65 : Int32)) by decide) dX11_behind_44 ?_
        refine lv_iload_n hx hb dX11_behind_45 rfl (lv_at hl 2 rfl) ?_
        refine lv_ishr hx hb dX11_behind_46 ?_
        refine lv_iconst (v := (1 : Int32)) hx hb dX11_behind_47 (by decide) ?_
        refine lv_iand hx hb dX11_behind_48 ?_
        refine lv_if_ne (tgt := 56) hx hb dX11_behind_49 (by decide) (fun c_5 => ?_) (fun c_5 => ?_)
        · have h := in_h c_5 h
          refine lv_aload_n hx hb dX11_behind_56 rfl (lv_at hl 1 rfl) ?_
          refine getW C fl_RX11_67 hW 0 rfl rfl dX11_behind_57 ?_
          refine lv_iconst (v := (5 : Int32)) hx hb dX11_behind_60 (by decide) ?_
          refine lv_iload_n hx hb dX11_behind_61 rfl (lv_at hl 3 rfl) ?_
          refine lv_imul hx hb dX11_behind_62 ?_
          refine lv_iload_n hx hb dX11_behind_63 rfl (lv_at hl 2 rfl) ?_
          refine lv_iadd hx hb dX11_behind_64 ?_
          obtain ⟨g_6, h⟩ := gd_h h
          refine ialdW C hW 15 rfl g_6 dX11_behind_65 ?_
          obtain rfl := Option.some.inj h
          exact hQ rfl _ _ _ _ dX11_behind_66 hW
        · have h := ip_h c_5 h
          refine lv_iconst (v := (-1 : Int32)) hx hb dX11_behind_52 (by decide) ?_
          refine lv_goto (tgt := 66) hx hb dX11_behind_53 (by decide) ?_
          obtain rfl := Option.some.inj h
          exact hQ rfl _ _ _ _ dX11_behind_66 hW
      · have h := in_h c_4 h
        refine lv_iload_n hx hb dX11_behind_36 rfl (lv_at hl 0 rfl) ?_
        obtain rfl := Option.some.inj h
        exact hQ rfl _ _ _ _ dX11_behind_37 hW
    · have h := ip_h c_2 h
      refine lv_bipush (v := (-2 : Int32)) hx hb dX11_behind_22 (by decide) ?_
      obtain rfl := Option.some.inj h
      exact hQ rfl _ _ _ _ dX11_behind_24 hW
  · have h := ip_h c_1 h
    refine lv_iconst (v := (-1 : Int32)) hx hb dX11_behind_8 (by decide) ?_
    obtain rfl := Option.some.inj h
    exact hQ rfl _ _ _ _ dX11_behind_9 hW
theorem ctX11_behind {l : Launch} {G : va_G} {cI cZ cO : ClassId} (a_this a_thick a_hollow a_damp a_fresh a_pulls a_fats a_deep a_fine a_pay a_hair a_sightPicture a_sightPull a_sightShows a_pad a_act a_where a_much a_kindMany a_had a_leaves a_mostPay a_canLast a_leastMissed a_kept a_isKept : Nat) (x1 : Int32) (x2 : Int32) (v_stones : Int32) (v_flat : Int32) (v_leastThick : Int32) (v_sights : Int32) (v_padMany : Int32) (v_acts : Int32) (v_pulled : Int32) (v_skyPull : Int32) (v_skyWhose : Int32) (v_badAct : Int32) (v_badWhy : Int32) (v_keptAt : Int32) (v_isWriting : Int32) (v_pad : Nat → Int32) (v_act : Nat → Int32) (v_much : Nat → Int32) (v_where : Nat → Int32) (v_fats : Nat → Int32) (v_thick : Nat → Int32) (v_hollow : Nat → Int32) (v_damp : Nat → Int32) (v_fresh : Nat → Int32) (v_pulls : Nat → Int32) (v_had : Nat → Int32) (v_kindMany : Nat → Int32) (v_fine : Nat → Int32) (v_deep : Nat → Int32) (v_leaves : Nat → Int32) {res : Int32 × Int32 × Int32 × Int32 × Int32 × Int32 × Int32 × Int32 × (Nat → Int32) × (Nat → Int32) × (Nat → Int32) × (Nat → Int32) × (Nat → Int32) × (Nat → Int32) × (Nat → Int32) × (Nat → Int32) × (Nat → Int32) × (Nat → Int32) × (Nat → Int32) × (Nat → Int32)} (h : fX11_behind x1 x2 v_stones v_flat v_leastThick v_padMany v_acts v_pulled v_skyPull v_skyWhose v_badAct v_badWhy v_pad v_act v_much v_where v_fats v_thick v_hollow v_damp v_fresh v_pulls v_had v_kindMany v_fine v_deep v_leaves = some res) : MI l G cI cZ cO yX11_behind cX11_behind 4 .int rX11_behind [.ref a_this, .int x1, .int x2] (wX11_behind cI cZ a_this a_thick a_hollow a_damp a_fresh a_pulls a_fats a_deep a_fine a_pay a_hair a_sightPicture a_sightPull a_sightShows a_pad a_act a_where a_much a_kindMany a_had a_leaves a_mostPay a_canLast a_leastMissed a_kept a_isKept v_stones v_flat v_leastThick v_sights v_padMany v_acts v_pulled v_skyPull v_skyWhose v_badAct v_badWhy v_keptAt v_isWriting v_pad v_act v_much v_where v_fats v_thick v_hollow v_damp v_fresh v_pulls v_had v_kindMany v_fine v_deep v_leaves) (res.1) (wX11_behind cI cZ a_this a_thick a_hollow a_damp a_fresh a_pulls a_fats a_deep a_fine a_pay a_hair a_sightPicture a_sightPull a_sightShows a_pad a_act a_where a_much a_kindMany a_had a_leaves a_mostPay a_canLast a_leastMissed a_kept a_isKept res.2.2.2.2.2.2.2.1 v_flat v_leastThick v_sights v_padMany res.2.1 res.2.2.2.2.1 res.2.2.2.2.2.1 res.2.2.2.2.2.2.1 res.2.2.1 res.2.2.2.1 v_keptAt v_isWriting v_pad res.2.2.2.2.2.2.2.2.1 res.2.2.2.2.2.2.2.2.2.1 res.2.2.2.2.2.2.2.2.2.2.1 res.2.2.2.2.2.2.2.2.2.2.2.1 res.2.2.2.2.2.2.2.2.2.2.2.2.1 res.2.2.2.2.2.2.2.2.2.2.2.2.2.1 res.2.2.2.2.2.2.2.2.2.2.2.2.2.2.1 res.2.2.2.2.2.2.2.2.2.2.2.2.2.2.2.1 res.2.2.2.2.2.2.2.2.2.2.2.2.2.2.2.2.1 res.2.2.2.2.2.2.2.2.2.2.2.2.2.2.2.2.2.1 res.2.2.2.2.2.2.2.2.2.2.2.2.2.2.2.2.2.2.1 v_fine v_deep res.2.2.2.2.2.2.2.2.2.2.2.2.2.2.2.2.2.2.2) := by
  refine MI.of (by decide) (Nat.le_of_ble_eq_true rfl) ?_
  intro p e s m below meth c A Q C hW hQ ls hl
  exact uX11_behind_0 x1 x2 v_stones v_flat v_leastThick v_sights v_padMany v_acts v_pulled v_skyPull v_skyWhose v_badAct v_badWhy v_keptAt v_isWriting v_pad v_act v_much v_where v_fats v_thick v_hollow v_damp v_fresh v_pulls v_had v_kindMany v_fine v_deep v_leaves C hQ h _ _ hW _ hl
abbrev wX11_fat (cI cZ : ClassId) (a_this a_thick a_hollow a_damp a_fresh a_pulls a_fats a_deep a_fine a_pay a_hair a_sightPicture a_sightPull a_sightShows a_pad a_act a_where a_much a_kindMany a_had a_leaves a_mostPay a_canLast a_leastMissed a_kept a_isKept : Nat) (v_stones : Int32) (v_flat : Int32) (v_leastThick : Int32) (v_sights : Int32) (v_padMany : Int32) (v_acts : Int32) (v_pulled : Int32) (v_skyPull : Int32) (v_skyWhose : Int32) (v_badAct : Int32) (v_badWhy : Int32) (v_keptAt : Int32) (v_isWriting : Int32) (v_pad : Nat → Int32) (v_act : Nat → Int32) (v_much : Nat → Int32) (v_where : Nat → Int32) (v_fats : Nat → Int32) (v_thick : Nat → Int32) (v_hollow : Nat → Int32) (v_damp : Nat → Int32) (v_fresh : Nat → Int32) (v_pulls : Nat → Int32) (v_had : Nat → Int32) (v_kindMany : Nat → Int32) (v_fine : Nat → Int32) (v_deep : Nat → Int32) (v_leaves : Nat → Int32) : va_W := [(a_this, .inr (11, [.int v_stones, .int v_flat, .int v_leastThick, .ref a_thick, .ref a_hollow, .ref a_damp, .ref a_fresh, .ref a_pulls, .ref a_fats, .ref a_deep, .ref a_fine, .ref a_pay, .ref a_hair, .ref a_sightPicture, .ref a_sightPull, .ref a_sightShows, .int v_sights, .ref a_pad, .int v_padMany, .ref a_act, .ref a_where, .ref a_much, .int v_acts, .int v_pulled, .ref a_kindMany, .int v_skyPull, .int v_skyWhose, .ref a_had, .ref a_leaves, .int v_badAct, .int v_badWhy, .ref a_mostPay, .ref a_canLast, .ref a_leastMissed, .ref a_kept, .ref a_isKept, .int v_keptAt, .int v_isWriting])), (a_pad, .inl (cI, 60, .inl v_pad)), (a_act, .inl (cI, 60, .inl v_act)), (a_much, .inl (cI, 60, .inl v_much)), (a_where, .inl (cI, 60, .inl v_where)), (a_fats, .inl (cI, 40, .inl v_fats)), (a_thick, .inl (cI, 5, .inl v_thick)), (a_hollow, .inl (cI, 5, .inl v_hollow)), (a_damp, .inl (cI, 5, .inl v_damp)), (a_fresh, .inl (cI, 5, .inl v_fresh)), (a_pulls, .inl (cI, 5, .inl v_pulls)), (a_had, .inl (cI, 66, .inl v_had)), (a_kindMany, .inl (cI, 5, .inl v_kindMany)), (a_fine, .inl (cI, 8, .inl v_fine)), (a_deep, .inl (cI, 8, .inl v_deep)), (a_leaves, .inl (cI, 66, .inl v_leaves))]
abbrev rX11_fat : Room := { frames := 7, cells := 0, slots := 0, locals := 159 }
set_option maxRecDepth 20000 in
theorem uX11_fat_0 {a_this a_thick a_hollow a_damp a_fresh a_pulls a_fats a_deep a_fine a_pay a_hair a_sightPicture a_sightPull a_sightShows a_pad a_act a_where a_much a_kindMany a_had a_leaves a_mostPay a_canLast a_leastMissed a_kept a_isKept : Nat} (x1 : Int32) (x2 : Int32) (v_stones : Int32) (v_flat : Int32) (v_leastThick : Int32) (v_sights : Int32) (v_padMany : Int32) (v_acts : Int32) (v_pulled : Int32) (v_skyPull : Int32) (v_skyWhose : Int32) (v_badAct : Int32) (v_badWhy : Int32) (v_keptAt : Int32) (v_isWriting : Int32) (v_pad : Nat → Int32) (v_act : Nat → Int32) (v_much : Nat → Int32) (v_where : Nat → Int32) (v_fats : Nat → Int32) (v_thick : Nat → Int32) (v_hollow : Nat → Int32) (v_damp : Nat → Int32) (v_fresh : Nat → Int32) (v_pulls : Nat → Int32) (v_had : Nat → Int32) (v_kindMany : Nat → Int32) (v_fine : Nat → Int32) (v_deep : Nat → Int32) (v_leaves : Nat → Int32) {res : Int32 × Int32 × Int32 × Int32 × Int32 × Int32 × Int32 × Int32 × (Nat → Int32) × (Nat → Int32) × (Nat → Int32) × (Nat → Int32) × (Nat → Int32) × (Nat → Int32) × (Nat → Int32) × (Nat → Int32) × (Nat → Int32) × (Nat → Int32) × (Nat → Int32) × (Nat → Int32)} (C : Cx p s m av meth c RX11 cX11_fat 4 (some .int) G cI cZ cO A) (hQ : RI p l e rX11_fat s m av below meth c G A cX11_fat .int Q (res.1) (wX11_fat cI cZ a_this a_thick a_hollow a_damp a_fresh a_pulls a_fats a_deep a_fine a_pay a_hair a_sightPicture a_sightPull a_sightShows a_pad a_act a_where a_much a_kindMany a_had a_leaves a_mostPay a_canLast a_leastMissed a_kept a_isKept res.2.2.2.2.2.2.2.1 v_flat v_leastThick v_sights v_padMany res.2.1 res.2.2.2.2.1 res.2.2.2.2.2.1 res.2.2.2.2.2.2.1 res.2.2.1 res.2.2.2.1 v_keptAt v_isWriting v_pad res.2.2.2.2.2.2.2.2.1 res.2.2.2.2.2.2.2.2.2.1 res.2.2.2.2.2.2.2.2.2.2.1 res.2.2.2.2.2.2.2.2.2.2.2.1 res.2.2.2.2.2.2.2.2.2.2.2.2.1 res.2.2.2.2.2.2.2.2.2.2.2.2.2.1 res.2.2.2.2.2.2.2.2.2.2.2.2.2.2.1 res.2.2.2.2.2.2.2.2.2.2.2.2.2.2.2.1 res.2.2.2.2.2.2.2.2.2.2.2.2.2.2.2.2.1 res.2.2.2.2.2.2.2.2.2.2.2.2.2.2.2.2.2.1 res.2.2.2.2.2.2.2.2.2.2.2.2.2.2.2.2.2.2.1 v_fine v_deep res.2.2.2.2.2.2.2.2.2.2.2.2.2.2.2.2.2.2.2)) (h : fX11_fat x1 x2 v_stones v_flat v_leastThick v_padMany v_acts v_pulled v_skyPull v_skyWhose v_badAct v_badWhy v_pad v_act v_much v_where v_fats v_thick v_hollow v_damp v_fresh v_pulls v_had v_kindMany v_fine v_deep v_leaves = some res) (H : Heap) (locs : List Loc) (hW : HW G A s (wX11_fat cI cZ a_this a_thick a_hollow a_damp a_fresh a_pulls a_fats a_deep a_fine a_pay a_hair a_sightPicture a_sightPull a_sightShows a_pad a_act a_where a_much a_kindMany a_had a_leaves a_mostPay a_canLast a_leastMissed a_kept a_isKept v_stones v_flat v_leastThick v_sights v_padMany v_acts v_pulled v_skyPull v_skyWhose v_badAct v_badWhy v_keptAt v_isWriting v_pad v_act v_much v_where v_fats v_thick v_hollow v_damp v_fresh v_pulls v_had v_kindMany v_fine v_deep v_leaves) H locs) (ls : Array Slot) (hl : lv_has ls 4 [(0, .ref a_this), (1, .int x1), (2, .int x2)]) : W p l e rX11_fat s m av below meth c H locs 0 0 Q (F0 m 0 ls []) := by
  have hx := C.1
  have hb := C.2.1
  unfold fX11_fat at h
  refine lv_aload_n hx hb dX11_fat_0 rfl (lv_at hl 0 rfl) ?_
  refine lv_iload_n hx hb dX11_fat_1 rfl (lv_at hl 1 rfl) ?_
  refine callVIr [0] C lk_RX11_118 (ctX11_isStone a_this a_thick a_hollow a_damp a_fresh a_pulls a_fats a_deep a_fine a_pay a_hair a_sightPicture a_sightPull a_sightShows a_pad a_act a_where a_much a_kindMany a_had a_leaves a_mostPay a_canLast a_leastMissed a_kept a_isKept x1 v_stones v_flat v_leastThick v_sights v_padMany v_acts v_pulled v_skyPull v_skyWhose v_badAct v_badWhy v_keptAt v_isWriting rfl) hW hl 11 rfl rfl rfl rfl rfl ⟨rfl, rfl⟩ ⟨(Nat.le_of_ble_eq_true rfl), (Nat.le_of_ble_eq_true rfl)⟩ ⟨Nat.zero_le _, Nat.zero_le _⟩ rfl (Nat.le_of_ble_eq_true rfl) dX11_fat_2 (fun H locs hW => ?_)
  refine lv_if_eq (tgt := 15) hx hb dX11_fat_5 (by decide) (fun c_1 => ?_) (fun c_1 => ?_)
  · have h := ip_h c_1 h
    refine lv_iconst (v := (-1 : Int32)) hx hb dX11_fat_15 (by decide) ?_
    obtain rfl := Option.some.inj h
    exact hQ rfl _ _ _ _ dX11_fat_16 hW
  · have h := in_h c_1 h
    refine lv_iload_n hx hb dX11_fat_8 rfl (lv_at hl 2 rfl) ?_
    refine callSI0 C lk_RX11_122 (ctX11_isPicture x2 rfl) hW hl rfl ⟨rfl, rfl⟩ ⟨(Nat.le_of_ble_eq_true rfl), (Nat.le_of_ble_eq_true rfl)⟩ ⟨Nat.zero_le _, Nat.zero_le _⟩ rfl (Nat.le_of_ble_eq_true rfl) dX11_fat_9 (fun H locs hW => ?_)
    refine lv_if_ne (tgt := 17) hx hb dX11_fat_12 (by decide) (fun c_2 => ?_) (fun c_2 => ?_)
    · have h := in_h c_2 h
      refine lv_aload_n hx hb dX11_fat_17 rfl (lv_at hl 0 rfl) ?_
      obtain ⟨v_3, hv_3, h⟩ := bd_h h
      refine callVIm [0, 1, 2, 3, 4, 5, 6, 7, 8, 9, 10, 11, 12, 13, 14, 15] [] (wX11_fat cI cZ a_this a_thick a_hollow a_damp a_fresh a_pulls a_fats a_deep a_fine a_pay a_hair a_sightPicture a_sightPull a_sightShows a_pad a_act a_where a_much a_kindMany a_had a_leaves a_mostPay a_canLast a_leastMissed a_kept a_isKept v_3.2.2.2.2.2.2.2.1 v_flat v_leastThick v_sights v_padMany v_3.2.1 v_3.2.2.2.2.1 v_3.2.2.2.2.2.1 v_3.2.2.2.2.2.2.1 v_3.2.2.1 v_3.2.2.2.1 v_keptAt v_isWriting v_pad v_3.2.2.2.2.2.2.2.2.1 v_3.2.2.2.2.2.2.2.2.2.1 v_3.2.2.2.2.2.2.2.2.2.2.1 v_3.2.2.2.2.2.2.2.2.2.2.2.1 v_3.2.2.2.2.2.2.2.2.2.2.2.2.1 v_3.2.2.2.2.2.2.2.2.2.2.2.2.2.1 v_3.2.2.2.2.2.2.2.2.2.2.2.2.2.2.1 v_3.2.2.2.2.2.2.2.2.2.2.2.2.2.2.2.1 v_3.2.2.2.2.2.2.2.2.2.2.2.2.2.2.2.2.1 v_3.2.2.2.2.2.2.2.2.2.2.2.2.2.2.2.2.2.1 v_3.2.2.2.2.2.2.2.2.2.2.2.2.2.2.2.2.2.2.1 v_fine v_deep v_3.2.2.2.2.2.2.2.2.2.2.2.2.2.2.2.2.2.2.2) C lk_RX11_227 (ctX11_refusal a_this a_thick a_hollow a_damp a_fresh a_pulls a_fats a_deep a_fine a_pay a_hair a_sightPicture a_sightPull a_sightShows a_pad a_act a_where a_much a_kindMany a_had a_leaves a_mostPay a_canLast a_leastMissed a_kept a_isKept v_stones v_flat v_leastThick v_sights v_padMany v_acts v_pulled v_skyPull v_skyWhose v_badAct v_badWhy v_keptAt v_isWriting v_pad v_act v_much v_where v_fats v_thick v_hollow v_damp v_fresh v_pulls v_had v_kindMany v_fine v_deep v_leaves hv_3) hW hl 11 rfl rfl rfl rfl rfl rfl rfl rfl rfl ⟨rfl, rfl⟩ ⟨(Nat.le_of_ble_eq_true rfl), (Nat.le_of_ble_eq_true rfl)⟩ ⟨Nat.zero_le _, Nat.zero_le _⟩ rfl (Nat.le_of_ble_eq_true rfl) dX11_fat_18 (fun H locs hW => ?_)
      refine lv_istore_n (lv' := [(3, .int v_3.1), (0, .ref a_this), (1, .int x1), (2, .int x2)]) hx hb dX11_fat_21 rfl hl (Nat.le_of_ble_eq_true rfl) rfl (fun ls hl => ?_)
      refine lv_iload_n hx hb dX11_fat_22 rfl (lv_at hl 0 rfl) ?_
      refine lv_bipush (v := (-6 : Int32)) hx hb dX11_fat_23 (by decide) ?_
      refine lv_icmp_eq (tgt := 30) hx hb dX11_fat_25 (by decide) (fun c_4 => ?_) (fun c_4 => ?_)
      · have h := ip_h c_4 h
        refine lv_aload_n hx hb dX11_fat_30 rfl (lv_at hl 1 rfl) ?_
        refine getW C fl_RX11_67 hW 0 rfl rfl dX11_fat_31 ?_
        refine lv_bipush (v := (65 : Int32)) hx hb dX11_fat_34 (by decide) ?_
        refine ialdW C hW 15 rfl (show ¬ ((65 : Int32) < 0 ∨ 66 ≤ Int32.toNatClampNeg (65 : Int32)) by decide) dX11_fat_36 ?_
        refine lv_iload_n hx hb dX11_fat_37 rfl (lv_at hl 2 rfl) ?_
        refine lv_ishr hx hb dX11_fat_38 ?_
        refine lv_iconst (v := (1 : Int32)) hx hb dX11_fat_39 (by decide) ?_
        refine lv_iand hx hb dX11_fat_40 ?_
        refine lv_if_ne (tgt := 48) hx hb dX11_fat_41 (by decide) (fun c_5 => ?_) (fun c_5 => ?_)
        · have h := in_h c_5 h
          refine lv_aload_n hx hb dX11_fat_48 rfl (lv_at hl 1 rfl) ?_
          refine getW C fl_RX11_67 hW 0 rfl rfl dX11_fat_49 ?_
          refine lv_bipush (v := (25 : Int32)) hx hb dX11_fat_52 (by decide) ?_
          refine lv_iload_n hx hb dX11_fat_54 rfl (lv_at hl 2 rfl) ?_
          refine lv_iload_n hx hb dX11_fat_55 rfl (lv_at hl 3 rfl) ?_
          refine callSI0 C lk_RX11_110 (ctX11_at x1 x2 rfl) hW hl rfl ⟨rfl, rfl⟩ ⟨(Nat.le_of_ble_eq_true rfl), (Nat.le_of_ble_eq_true rfl)⟩ ⟨Nat.zero_le _, Nat.zero_le _⟩ rfl (Nat.le_of_ble_eq_true rfl) dX11_fat_56 (fun H locs hW => ?_)
          refine lv_iadd hx hb dX11_fat_59 ?_
          obtain ⟨g_6, h⟩ := gd_h h
          refine ialdW C hW 15 rfl g_6 dX11_fat_60 ?_
          obtain rfl := Option.some.inj h
          exact hQ rfl _ _ _ _ dX11_fat_61 hW
        · have h := ip_h c_5 h
          refine lv_iconst (v := (-1 : Int32)) hx hb dX11_fat_44 (by decide) ?_
          refine lv_goto (tgt := 61) hx hb dX11_fat_45 (by decide) ?_
          obtain rfl := Option.some.inj h
          exact hQ rfl _ _ _ _ dX11_fat_61 hW
      · have h := in_h c_4 h
        refine lv_iload_n hx hb dX11_fat_28 rfl (lv_at hl 0 rfl) ?_
        obtain rfl := Option.some.inj h
        exact hQ rfl _ _ _ _ dX11_fat_29 hW
    · have h := ip_h c_2 h
      refine lv_iconst (v := (-1 : Int32)) hx hb dX11_fat_15 (by decide) ?_
      obtain rfl := Option.some.inj h
      exact hQ rfl _ _ _ _ dX11_fat_16 hW
theorem ctX11_fat {l : Launch} {G : va_G} {cI cZ cO : ClassId} (a_this a_thick a_hollow a_damp a_fresh a_pulls a_fats a_deep a_fine a_pay a_hair a_sightPicture a_sightPull a_sightShows a_pad a_act a_where a_much a_kindMany a_had a_leaves a_mostPay a_canLast a_leastMissed a_kept a_isKept : Nat) (x1 : Int32) (x2 : Int32) (v_stones : Int32) (v_flat : Int32) (v_leastThick : Int32) (v_sights : Int32) (v_padMany : Int32) (v_acts : Int32) (v_pulled : Int32) (v_skyPull : Int32) (v_skyWhose : Int32) (v_badAct : Int32) (v_badWhy : Int32) (v_keptAt : Int32) (v_isWriting : Int32) (v_pad : Nat → Int32) (v_act : Nat → Int32) (v_much : Nat → Int32) (v_where : Nat → Int32) (v_fats : Nat → Int32) (v_thick : Nat → Int32) (v_hollow : Nat → Int32) (v_damp : Nat → Int32) (v_fresh : Nat → Int32) (v_pulls : Nat → Int32) (v_had : Nat → Int32) (v_kindMany : Nat → Int32) (v_fine : Nat → Int32) (v_deep : Nat → Int32) (v_leaves : Nat → Int32) {res : Int32 × Int32 × Int32 × Int32 × Int32 × Int32 × Int32 × Int32 × (Nat → Int32) × (Nat → Int32) × (Nat → Int32) × (Nat → Int32) × (Nat → Int32) × (Nat → Int32) × (Nat → Int32) × (Nat → Int32) × (Nat → Int32) × (Nat → Int32) × (Nat → Int32) × (Nat → Int32)} (h : fX11_fat x1 x2 v_stones v_flat v_leastThick v_padMany v_acts v_pulled v_skyPull v_skyWhose v_badAct v_badWhy v_pad v_act v_much v_where v_fats v_thick v_hollow v_damp v_fresh v_pulls v_had v_kindMany v_fine v_deep v_leaves = some res) : MI l G cI cZ cO yX11_fat cX11_fat 4 .int rX11_fat [.ref a_this, .int x1, .int x2] (wX11_fat cI cZ a_this a_thick a_hollow a_damp a_fresh a_pulls a_fats a_deep a_fine a_pay a_hair a_sightPicture a_sightPull a_sightShows a_pad a_act a_where a_much a_kindMany a_had a_leaves a_mostPay a_canLast a_leastMissed a_kept a_isKept v_stones v_flat v_leastThick v_sights v_padMany v_acts v_pulled v_skyPull v_skyWhose v_badAct v_badWhy v_keptAt v_isWriting v_pad v_act v_much v_where v_fats v_thick v_hollow v_damp v_fresh v_pulls v_had v_kindMany v_fine v_deep v_leaves) (res.1) (wX11_fat cI cZ a_this a_thick a_hollow a_damp a_fresh a_pulls a_fats a_deep a_fine a_pay a_hair a_sightPicture a_sightPull a_sightShows a_pad a_act a_where a_much a_kindMany a_had a_leaves a_mostPay a_canLast a_leastMissed a_kept a_isKept res.2.2.2.2.2.2.2.1 v_flat v_leastThick v_sights v_padMany res.2.1 res.2.2.2.2.1 res.2.2.2.2.2.1 res.2.2.2.2.2.2.1 res.2.2.1 res.2.2.2.1 v_keptAt v_isWriting v_pad res.2.2.2.2.2.2.2.2.1 res.2.2.2.2.2.2.2.2.2.1 res.2.2.2.2.2.2.2.2.2.2.1 res.2.2.2.2.2.2.2.2.2.2.2.1 res.2.2.2.2.2.2.2.2.2.2.2.2.1 res.2.2.2.2.2.2.2.2.2.2.2.2.2.1 res.2.2.2.2.2.2.2.2.2.2.2.2.2.2.1 res.2.2.2.2.2.2.2.2.2.2.2.2.2.2.2.1 res.2.2.2.2.2.2.2.2.2.2.2.2.2.2.2.2.1 res.2.2.2.2.2.2.2.2.2.2.2.2.2.2.2.2.2.1 res.2.2.2.2.2.2.2.2.2.2.2.2.2.2.2.2.2.2.1 v_fine v_deep res.2.2.2.2.2.2.2.2.2.2.2.2.2.2.2.2.2.2.2) := by
  refine MI.of (by decide) (Nat.le_of_ble_eq_true rfl) ?_
  intro p e s m below meth c A Q C hW hQ ls hl
  exact uX11_fat_0 x1 x2 v_stones v_flat v_leastThick v_sights v_padMany v_acts v_pulled v_skyPull v_skyWhose v_badAct v_badWhy v_keptAt v_isWriting v_pad v_act v_much v_where v_fats v_thick v_hollow v_damp v_fresh v_pulls v_had v_kindMany v_fine v_deep v_leaves C hQ h _ _ hW _ hl
abbrev wX11_sky (cI cZ : ClassId) (a_this a_thick a_hollow a_damp a_fresh a_pulls a_fats a_deep a_fine a_pay a_hair a_sightPicture a_sightPull a_sightShows a_pad a_act a_where a_much a_kindMany a_had a_leaves a_mostPay a_canLast a_leastMissed a_kept a_isKept : Nat) (v_stones : Int32) (v_flat : Int32) (v_leastThick : Int32) (v_sights : Int32) (v_padMany : Int32) (v_acts : Int32) (v_pulled : Int32) (v_skyPull : Int32) (v_skyWhose : Int32) (v_badAct : Int32) (v_badWhy : Int32) (v_keptAt : Int32) (v_isWriting : Int32) (v_pad : Nat → Int32) (v_act : Nat → Int32) (v_much : Nat → Int32) (v_where : Nat → Int32) (v_fats : Nat → Int32) (v_thick : Nat → Int32) (v_hollow : Nat → Int32) (v_damp : Nat → Int32) (v_fresh : Nat → Int32) (v_pulls : Nat → Int32) (v_had : Nat → Int32) (v_kindMany : Nat → Int32) (v_fine : Nat → Int32) (v_deep : Nat → Int32) (v_leaves : Nat → Int32) : va_W := [(a_this, .inr (11, [.int v_stones, .int v_flat, .int v_leastThick, .ref a_thick, .ref a_hollow, .ref a_damp, .ref a_fresh, .ref a_pulls, .ref a_fats, .ref a_deep, .ref a_fine, .ref a_pay, .ref a_hair, .ref a_sightPicture, .ref a_sightPull, .ref a_sightShows, .int v_sights, .ref a_pad, .int v_padMany, .ref a_act, .ref a_where, .ref a_much, .int v_acts, .int v_pulled, .ref a_kindMany, .int v_skyPull, .int v_skyWhose, .ref a_had, .ref a_leaves, .int v_badAct, .int v_badWhy, .ref a_mostPay, .ref a_canLast, .ref a_leastMissed, .ref a_kept, .ref a_isKept, .int v_keptAt, .int v_isWriting])), (a_pad, .inl (cI, 60, .inl v_pad)), (a_act, .inl (cI, 60, .inl v_act)), (a_much, .inl (cI, 60, .inl v_much)), (a_where, .inl (cI, 60, .inl v_where)), (a_fats, .inl (cI, 40, .inl v_fats)), (a_thick, .inl (cI, 5, .inl v_thick)), (a_hollow, .inl (cI, 5, .inl v_hollow)), (a_damp, .inl (cI, 5, .inl v_damp)), (a_fresh, .inl (cI, 5, .inl v_fresh)), (a_pulls, .inl (cI, 5, .inl v_pulls)), (a_had, .inl (cI, 66, .inl v_had)), (a_kindMany, .inl (cI, 5, .inl v_kindMany)), (a_fine, .inl (cI, 8, .inl v_fine)), (a_deep, .inl (cI, 8, .inl v_deep)), (a_leaves, .inl (cI, 66, .inl v_leaves))]
abbrev rX11_sky : Room := { frames := 7, cells := 0, slots := 0, locals := 159 }
set_option maxRecDepth 20000 in
theorem uX11_sky_0 {a_this a_thick a_hollow a_damp a_fresh a_pulls a_fats a_deep a_fine a_pay a_hair a_sightPicture a_sightPull a_sightShows a_pad a_act a_where a_much a_kindMany a_had a_leaves a_mostPay a_canLast a_leastMissed a_kept a_isKept : Nat} (x1 : Int32) (v_stones : Int32) (v_flat : Int32) (v_leastThick : Int32) (v_sights : Int32) (v_padMany : Int32) (v_acts : Int32) (v_pulled : Int32) (v_skyPull : Int32) (v_skyWhose : Int32) (v_badAct : Int32) (v_badWhy : Int32) (v_keptAt : Int32) (v_isWriting : Int32) (v_pad : Nat → Int32) (v_act : Nat → Int32) (v_much : Nat → Int32) (v_where : Nat → Int32) (v_fats : Nat → Int32) (v_thick : Nat → Int32) (v_hollow : Nat → Int32) (v_damp : Nat → Int32) (v_fresh : Nat → Int32) (v_pulls : Nat → Int32) (v_had : Nat → Int32) (v_kindMany : Nat → Int32) (v_fine : Nat → Int32) (v_deep : Nat → Int32) (v_leaves : Nat → Int32) {res : Int32 × Int32 × Int32 × Int32 × Int32 × Int32 × Int32 × Int32 × (Nat → Int32) × (Nat → Int32) × (Nat → Int32) × (Nat → Int32) × (Nat → Int32) × (Nat → Int32) × (Nat → Int32) × (Nat → Int32) × (Nat → Int32) × (Nat → Int32) × (Nat → Int32) × (Nat → Int32)} (C : Cx p s m av meth c RX11 cX11_sky 3 (some .int) G cI cZ cO A) (hQ : RI p l e rX11_sky s m av below meth c G A cX11_sky .int Q (res.1) (wX11_sky cI cZ a_this a_thick a_hollow a_damp a_fresh a_pulls a_fats a_deep a_fine a_pay a_hair a_sightPicture a_sightPull a_sightShows a_pad a_act a_where a_much a_kindMany a_had a_leaves a_mostPay a_canLast a_leastMissed a_kept a_isKept res.2.2.2.2.2.2.2.1 v_flat v_leastThick v_sights v_padMany res.2.1 res.2.2.2.2.1 res.2.2.2.2.2.1 res.2.2.2.2.2.2.1 res.2.2.1 res.2.2.2.1 v_keptAt v_isWriting v_pad res.2.2.2.2.2.2.2.2.1 res.2.2.2.2.2.2.2.2.2.1 res.2.2.2.2.2.2.2.2.2.2.1 res.2.2.2.2.2.2.2.2.2.2.2.1 res.2.2.2.2.2.2.2.2.2.2.2.2.1 res.2.2.2.2.2.2.2.2.2.2.2.2.2.1 res.2.2.2.2.2.2.2.2.2.2.2.2.2.2.1 res.2.2.2.2.2.2.2.2.2.2.2.2.2.2.2.1 res.2.2.2.2.2.2.2.2.2.2.2.2.2.2.2.2.1 res.2.2.2.2.2.2.2.2.2.2.2.2.2.2.2.2.2.1 res.2.2.2.2.2.2.2.2.2.2.2.2.2.2.2.2.2.2.1 v_fine v_deep res.2.2.2.2.2.2.2.2.2.2.2.2.2.2.2.2.2.2.2)) (h : fX11_sky x1 v_stones v_flat v_leastThick v_padMany v_acts v_pulled v_skyPull v_skyWhose v_badAct v_badWhy v_pad v_act v_much v_where v_fats v_thick v_hollow v_damp v_fresh v_pulls v_had v_kindMany v_fine v_deep v_leaves = some res) (H : Heap) (locs : List Loc) (hW : HW G A s (wX11_sky cI cZ a_this a_thick a_hollow a_damp a_fresh a_pulls a_fats a_deep a_fine a_pay a_hair a_sightPicture a_sightPull a_sightShows a_pad a_act a_where a_much a_kindMany a_had a_leaves a_mostPay a_canLast a_leastMissed a_kept a_isKept v_stones v_flat v_leastThick v_sights v_padMany v_acts v_pulled v_skyPull v_skyWhose v_badAct v_badWhy v_keptAt v_isWriting v_pad v_act v_much v_where v_fats v_thick v_hollow v_damp v_fresh v_pulls v_had v_kindMany v_fine v_deep v_leaves) H locs) (ls : Array Slot) (hl : lv_has ls 3 [(0, .ref a_this), (1, .int x1)]) : W p l e rX11_sky s m av below meth c H locs 0 0 Q (F0 m 0 ls []) := by
  have hx := C.1
  have hb := C.2.1
  unfold fX11_sky at h
  refine lv_iload_n hx hb dX11_sky_0 rfl (lv_at hl 1 rfl) ?_
  refine lv_i2l hx hb dX11_sky_1 rfl ?_
  refine lv_lconst (v := (0 : Int64)) hx hb dX11_sky_2 (by decide) ?_
  refine lv_lconst (v := (1 : Int64)) hx hb dX11_sky_3 (by decide) ?_
  refine callSI0 C lk_RX11_95 (ctX11_in (Int32.toInt64 x1) (0 : Int64) (1 : Int64) rfl) hW hl rfl ⟨rfl, rfl⟩ ⟨(Nat.le_of_ble_eq_true rfl), (Nat.le_of_ble_eq_true rfl)⟩ ⟨Nat.zero_le _, Nat.zero_le _⟩ rfl (Nat.le_of_ble_eq_true rfl) dX11_sky_4 (fun H locs hW => ?_)
  refine lv_if_ne (tgt := 13) hx hb dX11_sky_7 (by decide) (fun c_1 => ?_) (fun c_1 => ?_)
  · have h := in_h c_1 h
    refine lv_aload_n hx hb dX11_sky_13 rfl (lv_at hl 0 rfl) ?_
    obtain ⟨v_2, hv_2, h⟩ := bd_h h
    refine callVIm [0, 1, 2, 3, 4, 5, 6, 7, 8, 9, 10, 11, 12, 13, 14, 15] [] (wX11_sky cI cZ a_this a_thick a_hollow a_damp a_fresh a_pulls a_fats a_deep a_fine a_pay a_hair a_sightPicture a_sightPull a_sightShows a_pad a_act a_where a_much a_kindMany a_had a_leaves a_mostPay a_canLast a_leastMissed a_kept a_isKept v_2.2.2.2.2.2.2.2.1 v_flat v_leastThick v_sights v_padMany v_2.2.1 v_2.2.2.2.2.1 v_2.2.2.2.2.2.1 v_2.2.2.2.2.2.2.1 v_2.2.2.1 v_2.2.2.2.1 v_keptAt v_isWriting v_pad v_2.2.2.2.2.2.2.2.2.1 v_2.2.2.2.2.2.2.2.2.2.1 v_2.2.2.2.2.2.2.2.2.2.2.1 v_2.2.2.2.2.2.2.2.2.2.2.2.1 v_2.2.2.2.2.2.2.2.2.2.2.2.2.1 v_2.2.2.2.2.2.2.2.2.2.2.2.2.2.1 v_2.2.2.2.2.2.2.2.2.2.2.2.2.2.2.1 v_2.2.2.2.2.2.2.2.2.2.2.2.2.2.2.2.1 v_2.2.2.2.2.2.2.2.2.2.2.2.2.2.2.2.2.1 v_2.2.2.2.2.2.2.2.2.2.2.2.2.2.2.2.2.2.1 v_2.2.2.2.2.2.2.2.2.2.2.2.2.2.2.2.2.2.2.1 v_fine v_deep v_2.2.2.2.2.2.2.2.2.2.2.2.2.2.2.2.2.2.2.2) C lk_RX11_227 (ctX11_refusal a_this a_thick a_hollow a_damp a_fresh a_pulls a_fats a_deep a_fine a_pay a_hair a_sightPicture a_sightPull a_sightShows a_pad a_act a_where a_much a_kindMany a_had a_leaves a_mostPay a_canLast a_leastMissed a_kept a_isKept v_stones v_flat v_leastThick v_sights v_padMany v_acts v_pulled v_skyPull v_skyWhose v_badAct v_badWhy v_keptAt v_isWriting v_pad v_act v_much v_where v_fats v_thick v_hollow v_damp v_fresh v_pulls v_had v_kindMany v_fine v_deep v_leaves hv_2) hW hl 11 rfl rfl rfl rfl rfl rfl rfl rfl rfl ⟨rfl, rfl⟩ ⟨(Nat.le_of_ble_eq_true rfl), (Nat.le_of_ble_eq_true rfl)⟩ ⟨Nat.zero_le _, Nat.zero_le _⟩ rfl (Nat.le_of_ble_eq_true rfl) dX11_sky_14 (fun H locs hW => ?_)
    refine lv_istore_n (lv' := [(2, .int v_2.1), (0, .ref a_this), (1, .int x1)]) hx hb dX11_sky_17 rfl hl (Nat.le_of_ble_eq_true rfl) rfl (fun ls hl => ?_)
    refine lv_iload_n hx hb dX11_sky_18 rfl (lv_at hl 0 rfl) ?_
    refine lv_bipush (v := (-6 : Int32)) hx hb dX11_sky_19 (by decide) ?_
    refine lv_icmp_eq (tgt := 28) hx hb dX11_sky_21 (by decide) (fun c_3 => ?_) (fun c_3 => ?_)
    · have h := ip_h c_3 h
      refine lv_iload_n hx hb dX11_sky_28 rfl (lv_at hl 2 rfl) ?_
      refine lv_if_ne (tgt := 39) hx hb dX11_sky_29 (by decide) (fun c_4 => ?_) (fun c_4 => ?_)
      · have h := in_h c_4 h
        refine lv_aload_n hx hb dX11_sky_39 rfl (lv_at hl 1 rfl) ?_
        refine getW C fl_RX11_184 hW 0 rfl rfl dX11_sky_40 ?_
        obtain rfl := Option.some.inj h
        exact hQ rfl _ _ _ _ dX11_sky_43 hW
      · have h := ip_h c_4 h
        refine lv_aload_n hx hb dX11_sky_32 rfl (lv_at hl 1 rfl) ?_
        refine getW C fl_RX11_181 hW 0 rfl rfl dX11_sky_33 ?_
        refine lv_goto (tgt := 43) hx hb dX11_sky_36 (by decide) ?_
        obtain rfl := Option.some.inj h
        exact hQ rfl _ _ _ _ dX11_sky_43 hW
    · have h := in_h c_3 h
      refine lv_iload_n hx hb dX11_sky_24 rfl (lv_at hl 0 rfl) ?_
      refine lv_goto (tgt := 43) hx hb dX11_sky_25 (by decide) ?_
      obtain rfl := Option.some.inj h
      exact hQ rfl _ _ _ _ dX11_sky_43 hW
  · have h := ip_h c_1 h
    refine lv_bipush (v := (-2 : Int32)) hx hb dX11_sky_10 (by decide) ?_
    obtain rfl := Option.some.inj h
    exact hQ rfl _ _ _ _ dX11_sky_12 hW
theorem ctX11_sky {l : Launch} {G : va_G} {cI cZ cO : ClassId} (a_this a_thick a_hollow a_damp a_fresh a_pulls a_fats a_deep a_fine a_pay a_hair a_sightPicture a_sightPull a_sightShows a_pad a_act a_where a_much a_kindMany a_had a_leaves a_mostPay a_canLast a_leastMissed a_kept a_isKept : Nat) (x1 : Int32) (v_stones : Int32) (v_flat : Int32) (v_leastThick : Int32) (v_sights : Int32) (v_padMany : Int32) (v_acts : Int32) (v_pulled : Int32) (v_skyPull : Int32) (v_skyWhose : Int32) (v_badAct : Int32) (v_badWhy : Int32) (v_keptAt : Int32) (v_isWriting : Int32) (v_pad : Nat → Int32) (v_act : Nat → Int32) (v_much : Nat → Int32) (v_where : Nat → Int32) (v_fats : Nat → Int32) (v_thick : Nat → Int32) (v_hollow : Nat → Int32) (v_damp : Nat → Int32) (v_fresh : Nat → Int32) (v_pulls : Nat → Int32) (v_had : Nat → Int32) (v_kindMany : Nat → Int32) (v_fine : Nat → Int32) (v_deep : Nat → Int32) (v_leaves : Nat → Int32) {res : Int32 × Int32 × Int32 × Int32 × Int32 × Int32 × Int32 × Int32 × (Nat → Int32) × (Nat → Int32) × (Nat → Int32) × (Nat → Int32) × (Nat → Int32) × (Nat → Int32) × (Nat → Int32) × (Nat → Int32) × (Nat → Int32) × (Nat → Int32) × (Nat → Int32) × (Nat → Int32)} (h : fX11_sky x1 v_stones v_flat v_leastThick v_padMany v_acts v_pulled v_skyPull v_skyWhose v_badAct v_badWhy v_pad v_act v_much v_where v_fats v_thick v_hollow v_damp v_fresh v_pulls v_had v_kindMany v_fine v_deep v_leaves = some res) : MI l G cI cZ cO yX11_sky cX11_sky 3 .int rX11_sky [.ref a_this, .int x1] (wX11_sky cI cZ a_this a_thick a_hollow a_damp a_fresh a_pulls a_fats a_deep a_fine a_pay a_hair a_sightPicture a_sightPull a_sightShows a_pad a_act a_where a_much a_kindMany a_had a_leaves a_mostPay a_canLast a_leastMissed a_kept a_isKept v_stones v_flat v_leastThick v_sights v_padMany v_acts v_pulled v_skyPull v_skyWhose v_badAct v_badWhy v_keptAt v_isWriting v_pad v_act v_much v_where v_fats v_thick v_hollow v_damp v_fresh v_pulls v_had v_kindMany v_fine v_deep v_leaves) (res.1) (wX11_sky cI cZ a_this a_thick a_hollow a_damp a_fresh a_pulls a_fats a_deep a_fine a_pay a_hair a_sightPicture a_sightPull a_sightShows a_pad a_act a_where a_much a_kindMany a_had a_leaves a_mostPay a_canLast a_leastMissed a_kept a_isKept res.2.2.2.2.2.2.2.1 v_flat v_leastThick v_sights v_padMany res.2.1 res.2.2.2.2.1 res.2.2.2.2.2.1 res.2.2.2.2.2.2.1 res.2.2.1 res.2.2.2.1 v_keptAt v_isWriting v_pad res.2.2.2.2.2.2.2.2.1 res.2.2.2.2.2.2.2.2.2.1 res.2.2.2.2.2.2.2.2.2.2.1 res.2.2.2.2.2.2.2.2.2.2.2.1 res.2.2.2.2.2.2.2.2.2.2.2.2.1 res.2.2.2.2.2.2.2.2.2.2.2.2.2.1 res.2.2.2.2.2.2.2.2.2.2.2.2.2.2.1 res.2.2.2.2.2.2.2.2.2.2.2.2.2.2.2.1 res.2.2.2.2.2.2.2.2.2.2.2.2.2.2.2.2.1 res.2.2.2.2.2.2.2.2.2.2.2.2.2.2.2.2.2.1 res.2.2.2.2.2.2.2.2.2.2.2.2.2.2.2.2.2.2.1 v_fine v_deep res.2.2.2.2.2.2.2.2.2.2.2.2.2.2.2.2.2.2.2) := by
  refine MI.of (by decide) (Nat.le_of_ble_eq_true rfl) ?_
  intro p e s m below meth c A Q C hW hQ ls hl
  exact uX11_sky_0 x1 v_stones v_flat v_leastThick v_sights v_padMany v_acts v_pulled v_skyPull v_skyWhose v_badAct v_badWhy v_keptAt v_isWriting v_pad v_act v_much v_where v_fats v_thick v_hollow v_damp v_fresh v_pulls v_had v_kindMany v_fine v_deep v_leaves C hQ h _ _ hW _ hl
abbrev wX11_done (cI cZ : ClassId) (a_this a_thick a_hollow a_damp a_fresh a_pulls a_fats a_deep a_fine a_pay a_hair a_sightPicture a_sightPull a_sightShows a_pad a_act a_where a_much a_kindMany a_had a_leaves a_mostPay a_canLast a_leastMissed a_kept a_isKept : Nat) (v_stones : Int32) (v_flat : Int32) (v_leastThick : Int32) (v_sights : Int32) (v_padMany : Int32) (v_acts : Int32) (v_pulled : Int32) (v_skyPull : Int32) (v_skyWhose : Int32) (v_badAct : Int32) (v_badWhy : Int32) (v_keptAt : Int32) (v_isWriting : Int32) (v_pad : Nat → Int32) (v_act : Nat → Int32) (v_much : Nat → Int32) (v_where : Nat → Int32) (v_fats : Nat → Int32) (v_thick : Nat → Int32) (v_hollow : Nat → Int32) (v_damp : Nat → Int32) (v_fresh : Nat → Int32) (v_pulls : Nat → Int32) (v_had : Nat → Int32) (v_kindMany : Nat → Int32) (v_fine : Nat → Int32) (v_deep : Nat → Int32) (v_leaves : Nat → Int32) : va_W := [(a_this, .inr (11, [.int v_stones, .int v_flat, .int v_leastThick, .ref a_thick, .ref a_hollow, .ref a_damp, .ref a_fresh, .ref a_pulls, .ref a_fats, .ref a_deep, .ref a_fine, .ref a_pay, .ref a_hair, .ref a_sightPicture, .ref a_sightPull, .ref a_sightShows, .int v_sights, .ref a_pad, .int v_padMany, .ref a_act, .ref a_where, .ref a_much, .int v_acts, .int v_pulled, .ref a_kindMany, .int v_skyPull, .int v_skyWhose, .ref a_had, .ref a_leaves, .int v_badAct, .int v_badWhy, .ref a_mostPay, .ref a_canLast, .ref a_leastMissed, .ref a_kept, .ref a_isKept, .int v_keptAt, .int v_isWriting])), (a_pad, .inl (cI, 60, .inl v_pad)), (a_act, .inl (cI, 60, .inl v_act)), (a_much, .inl (cI, 60, .inl v_much)), (a_where, .inl (cI, 60, .inl v_where)), (a_fats, .inl (cI, 40, .inl v_fats)), (a_thick, .inl (cI, 5, .inl v_thick)), (a_hollow, .inl (cI, 5, .inl v_hollow)), (a_damp, .inl (cI, 5, .inl v_damp)), (a_fresh, .inl (cI, 5, .inl v_fresh)), (a_pulls, .inl (cI, 5, .inl v_pulls)), (a_had, .inl (cI, 66, .inl v_had)), (a_kindMany, .inl (cI, 5, .inl v_kindMany)), (a_fine, .inl (cI, 8, .inl v_fine)), (a_deep, .inl (cI, 8, .inl v_deep)), (a_leaves, .inl (cI, 66, .inl v_leaves))]
abbrev rX11_done : Room := { frames := 7, cells := 0, slots := 0, locals := 159 }
set_option maxRecDepth 20000 in
theorem uX11_done_0 {a_this a_thick a_hollow a_damp a_fresh a_pulls a_fats a_deep a_fine a_pay a_hair a_sightPicture a_sightPull a_sightShows a_pad a_act a_where a_much a_kindMany a_had a_leaves a_mostPay a_canLast a_leastMissed a_kept a_isKept : Nat} (v_stones : Int32) (v_flat : Int32) (v_leastThick : Int32) (v_sights : Int32) (v_padMany : Int32) (v_acts : Int32) (v_pulled : Int32) (v_skyPull : Int32) (v_skyWhose : Int32) (v_badAct : Int32) (v_badWhy : Int32) (v_keptAt : Int32) (v_isWriting : Int32) (v_pad : Nat → Int32) (v_act : Nat → Int32) (v_much : Nat → Int32) (v_where : Nat → Int32) (v_fats : Nat → Int32) (v_thick : Nat → Int32) (v_hollow : Nat → Int32) (v_damp : Nat → Int32) (v_fresh : Nat → Int32) (v_pulls : Nat → Int32) (v_had : Nat → Int32) (v_kindMany : Nat → Int32) (v_fine : Nat → Int32) (v_deep : Nat → Int32) (v_leaves : Nat → Int32) {res : Int32 × Int32 × Int32 × Int32 × Int32 × Int32 × Int32 × Int32 × Int32 × (Nat → Int32) × (Nat → Int32) × (Nat → Int32) × (Nat → Int32) × (Nat → Int32) × (Nat → Int32) × (Nat → Int32) × (Nat → Int32) × (Nat → Int32) × (Nat → Int32) × (Nat → Int32) × (Nat → Int32)} (C : Cx p s m av meth c RX11 cX11_done 2 (some .int) G cI cZ cO A) (hQ : RI p l e rX11_done s m av below meth c G A cX11_done .int Q (res.1) (wX11_done cI cZ a_this a_thick a_hollow a_damp a_fresh a_pulls a_fats a_deep a_fine a_pay a_hair a_sightPicture a_sightPull a_sightShows a_pad a_act a_where a_much a_kindMany a_had a_leaves a_mostPay a_canLast a_leastMissed a_kept a_isKept res.2.2.2.2.2.2.2.2.1 v_flat v_leastThick v_sights res.2.2.2.2.1 res.2.1 res.2.2.2.2.2.1 res.2.2.2.2.2.2.1 res.2.2.2.2.2.2.2.1 res.2.2.1 res.2.2.2.1 v_keptAt v_isWriting v_pad res.2.2.2.2.2.2.2.2.2.1 res.2.2.2.2.2.2.2.2.2.2.1 res.2.2.2.2.2.2.2.2.2.2.2.1 res.2.2.2.2.2.2.2.2.2.2.2.2.1 res.2.2.2.2.2.2.2.2.2.2.2.2.2.1 res.2.2.2.2.2.2.2.2.2.2.2.2.2.2.1 res.2.2.2.2.2.2.2.2.2.2.2.2.2.2.2.1 res.2.2.2.2.2.2.2.2.2.2.2.2.2.2.2.2.1 res.2.2.2.2.2.2.2.2.2.2.2.2.2.2.2.2.2.1 res.2.2.2.2.2.2.2.2.2.2.2.2.2.2.2.2.2.2.1 res.2.2.2.2.2.2.2.2.2.2.2.2.2.2.2.2.2.2.2.1 v_fine v_deep res.2.2.2.2.2.2.2.2.2.2.2.2.2.2.2.2.2.2.2.2)) (h : fX11_done v_stones v_flat v_leastThick v_padMany v_pulled v_skyPull v_skyWhose v_badAct v_badWhy v_pad v_act v_much v_where v_fats v_thick v_hollow v_damp v_fresh v_pulls v_had v_kindMany v_fine v_deep v_leaves = some res) (H : Heap) (locs : List Loc) (hW : HW G A s (wX11_done cI cZ a_this a_thick a_hollow a_damp a_fresh a_pulls a_fats a_deep a_fine a_pay a_hair a_sightPicture a_sightPull a_sightShows a_pad a_act a_where a_much a_kindMany a_had a_leaves a_mostPay a_canLast a_leastMissed a_kept a_isKept v_stones v_flat v_leastThick v_sights v_padMany v_acts v_pulled v_skyPull v_skyWhose v_badAct v_badWhy v_keptAt v_isWriting v_pad v_act v_much v_where v_fats v_thick v_hollow v_damp v_fresh v_pulls v_had v_kindMany v_fine v_deep v_leaves) H locs) (ls : Array Slot) (hl : lv_has ls 2 [(0, .ref a_this)]) : W p l e rX11_done s m av below meth c H locs 0 0 Q (F0 m 0 ls []) := by
  have hx := C.1
  have hb := C.2.1
  unfold fX11_done at h
  refine lv_aload_n hx hb dX11_done_0 rfl (lv_at hl 0 rfl) ?_
  obtain ⟨v_1, hv_1, h⟩ := bd_h h
  refine callVIm [0, 1, 2, 3, 4, 5, 6, 7, 8, 9, 10, 11, 12, 13, 14, 15] [] (wX11_done cI cZ a_this a_thick a_hollow a_damp a_fresh a_pulls a_fats a_deep a_fine a_pay a_hair a_sightPicture a_sightPull a_sightShows a_pad a_act a_where a_much a_kindMany a_had a_leaves a_mostPay a_canLast a_leastMissed a_kept a_isKept v_1.2.2.2.2.2.2.2.1 v_flat v_leastThick v_sights v_padMany v_1.2.1 v_1.2.2.2.2.1 v_1.2.2.2.2.2.1 v_1.2.2.2.2.2.2.1 v_1.2.2.1 v_1.2.2.2.1 v_keptAt v_isWriting v_pad v_1.2.2.2.2.2.2.2.2.1 v_1.2.2.2.2.2.2.2.2.2.1 v_1.2.2.2.2.2.2.2.2.2.2.1 v_1.2.2.2.2.2.2.2.2.2.2.2.1 v_1.2.2.2.2.2.2.2.2.2.2.2.2.1 v_1.2.2.2.2.2.2.2.2.2.2.2.2.2.1 v_1.2.2.2.2.2.2.2.2.2.2.2.2.2.2.1 v_1.2.2.2.2.2.2.2.2.2.2.2.2.2.2.2.1 v_1.2.2.2.2.2.2.2.2.2.2.2.2.2.2.2.2.1 v_1.2.2.2.2.2.2.2.2.2.2.2.2.2.2.2.2.2.1 v_1.2.2.2.2.2.2.2.2.2.2.2.2.2.2.2.2.2.2.1 v_fine v_deep v_1.2.2.2.2.2.2.2.2.2.2.2.2.2.2.2.2.2.2.2) C lk_RX11_227 (ctX11_refusal a_this a_thick a_hollow a_damp a_fresh a_pulls a_fats a_deep a_fine a_pay a_hair a_sightPicture a_sightPull a_sightShows a_pad a_act a_where a_much a_kindMany a_had a_leaves a_mostPay a_canLast a_leastMissed a_kept a_isKept v_stones v_flat v_leastThick v_sights v_padMany v_acts v_pulled v_skyPull v_skyWhose v_badAct v_badWhy v_keptAt v_isWriting v_pad v_act v_much v_where v_fats v_thick v_hollow v_damp v_fresh v_pulls v_had v_kindMany v_fine v_deep v_leaves hv_1) hW hl 11 rfl rfl rfl rfl rfl rfl rfl rfl rfl ⟨rfl, rfl⟩ ⟨(Nat.le_of_ble_eq_true rfl), (Nat.le_of_ble_eq_true rfl)⟩ ⟨Nat.zero_le _, Nat.zero_le _⟩ rfl (Nat.le_of_ble_eq_true rfl) dX11_done_1 (fun H locs hW => ?_)
  refine lv_istore_n (lv' := [(1, .int v_1.1), (0, .ref a_this)]) hx hb dX11_done_4 rfl hl (Nat.le_of_ble_eq_true rfl) rfl (fun ls hl => ?_)
  refine lv_iload_n hx hb dX11_done_5 rfl (lv_at hl 0 rfl) ?_
  refine lv_bipush (v := (-6 : Int32)) hx hb dX11_done_6 (by decide) ?_
  refine lv_icmp_eq (tgt := 13) hx hb dX11_done_8 (by decide) (fun c_2 => ?_) (fun c_2 => ?_)
  · have h := ip_h c_2 h
    refine lv_aload_n hx hb dX11_done_13 rfl (lv_at hl 1 rfl) ?_
    obtain ⟨v_3, hv_3, h⟩ := bd_h h
    refine callVVm [0, 12, 2, 4, 3, 7, 6, 9, 10, 5, 8, 13, 14] [1, 11, 15] (wX11_done cI cZ a_this a_thick a_hollow a_damp a_fresh a_pulls a_fats a_deep a_fine a_pay a_hair a_sightPicture a_sightPull a_sightShows a_pad a_act a_where a_much a_kindMany a_had a_leaves a_mostPay a_canLast a_leastMissed a_kept a_isKept v_3.2.2.2.2.2.1 v_flat v_leastThick v_sights v_padMany v_1.2.1 v_3.2.2.1 v_3.2.2.2.1 v_3.2.2.2.2.1 v_3.1 v_3.2.1 v_keptAt v_isWriting v_pad v_1.2.2.2.2.2.2.2.2.1 v_1.2.2.2.2.2.2.2.2.2.1 v_1.2.2.2.2.2.2.2.2.2.2.1 v_3.2.2.2.2.2.2.2.2.2.2.2.1 v_3.2.2.2.2.2.2.2.2.1 v_3.2.2.2.2.2.2.2.1 v_3.2.2.2.2.2.2.2.2.2.2.2.2 v_3.2.2.2.2.2.2.2.2.2.1 v_3.2.2.2.2.2.2.2.2.2.2.1 v_1.2.2.2.2.2.2.2.2.2.2.2.2.2.2.2.2.2.1 v_3.2.2.2.2.2.2.1 v_fine v_deep v_1.2.2.2.2.2.2.2.2.2.2.2.2.2.2.2.2.2.2.2) C lk_RX11_219 (ctX11_goShop a_this a_thick a_hollow a_damp a_fresh a_pulls a_fats a_deep a_fine a_pay a_hair a_sightPicture a_sightPull a_sightShows a_pad a_act a_where a_much a_kindMany a_had a_leaves a_mostPay a_canLast a_leastMissed a_kept a_isKept v_1.2.2.2.2.2.2.2.1 v_flat v_leastThick v_sights v_padMany v_1.2.1 v_1.2.2.2.2.1 v_1.2.2.2.2.2.1 v_1.2.2.2.2.2.2.1 v_1.2.2.1 v_1.2.2.2.1 v_keptAt v_isWriting v_1.2.2.2.2.2.2.2.2.2.2.2.2.2.2.2.2.2.2.1 v_1.2.2.2.2.2.2.2.2.1 v_1.2.2.2.2.2.2.2.2.2.2.1 v_1.2.2.2.2.2.2.2.2.2.1 v_1.2.2.2.2.2.2.2.2.2.2.2.2.2.1 v_1.2.2.2.2.2.2.2.2.2.2.2.2.1 v_1.2.2.2.2.2.2.2.2.2.2.2.2.2.2.2.1 v_1.2.2.2.2.2.2.2.2.2.2.2.2.2.2.2.2.1 v_1.2.2.2.2.2.2.2.2.2.2.2.1 v_1.2.2.2.2.2.2.2.2.2.2.2.2.2.2.1 v_fine v_deep hv_3) hW hl 11 rfl rfl rfl rfl rfl rfl rfl rfl rfl ⟨rfl, rfl⟩ ⟨(Nat.le_of_ble_eq_true rfl), (Nat.le_of_ble_eq_true rfl)⟩ ⟨Nat.zero_le _, Nat.zero_le _⟩ rfl (Nat.le_of_ble_eq_true rfl) dX11_done_14 (fun H locs hW => ?_)
    refine lv_aload_n hx hb dX11_done_17 rfl (lv_at hl 1 rfl) ?_
    refine lv_iconst (v := (0 : Int32)) hx hb dX11_done_18 (by decide) ?_
    refine putW C fp_RX11_139 hW 0 rfl rfl rfl (Nat.le_of_ble_eq_true rfl) dX11_done_19 (fun H locs hW => ?_)
    have hW : HW G A s (wX11_done cI cZ a_this a_thick a_hollow a_damp a_fresh a_pulls a_fats a_deep a_fine a_pay a_hair a_sightPicture a_sightPull a_sightShows a_pad a_act a_where a_much a_kindMany a_had a_leaves a_mostPay a_canLast a_leastMissed a_kept a_isKept v_3.2.2.2.2.2.1 v_flat v_leastThick v_sights (0 : Int32) v_1.2.1 v_3.2.2.1 v_3.2.2.2.1 v_3.2.2.2.2.1 v_3.1 v_3.2.1 v_keptAt v_isWriting v_pad v_1.2.2.2.2.2.2.2.2.1 v_1.2.2.2.2.2.2.2.2.2.1 v_1.2.2.2.2.2.2.2.2.2.2.1 v_3.2.2.2.2.2.2.2.2.2.2.2.1 v_3.2.2.2.2.2.2.2.2.1 v_3.2.2.2.2.2.2.2.1 v_3.2.2.2.2.2.2.2.2.2.2.2.2 v_3.2.2.2.2.2.2.2.2.2.1 v_3.2.2.2.2.2.2.2.2.2.2.1 v_1.2.2.2.2.2.2.2.2.2.2.2.2.2.2.2.2.2.1 v_3.2.2.2.2.2.2.1 v_fine v_deep v_1.2.2.2.2.2.2.2.2.2.2.2.2.2.2.2.2.2.2.2) H locs := hW
    refine lv_aload_n hx hb dX11_done_22 rfl (lv_at hl 1 rfl) ?_
    refine getW C fl_RX11_146 hW 0 rfl rfl dX11_done_23 ?_
    obtain rfl := Option.some.inj h
    exact hQ rfl _ _ _ _ dX11_done_26 hW
  · have h := in_h c_2 h
    refine lv_iload_n hx hb dX11_done_11 rfl (lv_at hl 0 rfl) ?_
    obtain rfl := Option.some.inj h
    exact hQ rfl _ _ _ _ dX11_done_12 hW
theorem ctX11_done {l : Launch} {G : va_G} {cI cZ cO : ClassId} (a_this a_thick a_hollow a_damp a_fresh a_pulls a_fats a_deep a_fine a_pay a_hair a_sightPicture a_sightPull a_sightShows a_pad a_act a_where a_much a_kindMany a_had a_leaves a_mostPay a_canLast a_leastMissed a_kept a_isKept : Nat) (v_stones : Int32) (v_flat : Int32) (v_leastThick : Int32) (v_sights : Int32) (v_padMany : Int32) (v_acts : Int32) (v_pulled : Int32) (v_skyPull : Int32) (v_skyWhose : Int32) (v_badAct : Int32) (v_badWhy : Int32) (v_keptAt : Int32) (v_isWriting : Int32) (v_pad : Nat → Int32) (v_act : Nat → Int32) (v_much : Nat → Int32) (v_where : Nat → Int32) (v_fats : Nat → Int32) (v_thick : Nat → Int32) (v_hollow : Nat → Int32) (v_damp : Nat → Int32) (v_fresh : Nat → Int32) (v_pulls : Nat → Int32) (v_had : Nat → Int32) (v_kindMany : Nat → Int32) (v_fine : Nat → Int32) (v_deep : Nat → Int32) (v_leaves : Nat → Int32) {res : Int32 × Int32 × Int32 × Int32 × Int32 × Int32 × Int32 × Int32 × Int32 × (Nat → Int32) × (Nat → Int32) × (Nat → Int32) × (Nat → Int32) × (Nat → Int32) × (Nat → Int32) × (Nat → Int32) × (Nat → Int32) × (Nat → Int32) × (Nat → Int32) × (Nat → Int32) × (Nat → Int32)} (h : fX11_done v_stones v_flat v_leastThick v_padMany v_pulled v_skyPull v_skyWhose v_badAct v_badWhy v_pad v_act v_much v_where v_fats v_thick v_hollow v_damp v_fresh v_pulls v_had v_kindMany v_fine v_deep v_leaves = some res) : MI l G cI cZ cO yX11_done cX11_done 2 .int rX11_done [.ref a_this] (wX11_done cI cZ a_this a_thick a_hollow a_damp a_fresh a_pulls a_fats a_deep a_fine a_pay a_hair a_sightPicture a_sightPull a_sightShows a_pad a_act a_where a_much a_kindMany a_had a_leaves a_mostPay a_canLast a_leastMissed a_kept a_isKept v_stones v_flat v_leastThick v_sights v_padMany v_acts v_pulled v_skyPull v_skyWhose v_badAct v_badWhy v_keptAt v_isWriting v_pad v_act v_much v_where v_fats v_thick v_hollow v_damp v_fresh v_pulls v_had v_kindMany v_fine v_deep v_leaves) (res.1) (wX11_done cI cZ a_this a_thick a_hollow a_damp a_fresh a_pulls a_fats a_deep a_fine a_pay a_hair a_sightPicture a_sightPull a_sightShows a_pad a_act a_where a_much a_kindMany a_had a_leaves a_mostPay a_canLast a_leastMissed a_kept a_isKept res.2.2.2.2.2.2.2.2.1 v_flat v_leastThick v_sights res.2.2.2.2.1 res.2.1 res.2.2.2.2.2.1 res.2.2.2.2.2.2.1 res.2.2.2.2.2.2.2.1 res.2.2.1 res.2.2.2.1 v_keptAt v_isWriting v_pad res.2.2.2.2.2.2.2.2.2.1 res.2.2.2.2.2.2.2.2.2.2.1 res.2.2.2.2.2.2.2.2.2.2.2.1 res.2.2.2.2.2.2.2.2.2.2.2.2.1 res.2.2.2.2.2.2.2.2.2.2.2.2.2.1 res.2.2.2.2.2.2.2.2.2.2.2.2.2.2.1 res.2.2.2.2.2.2.2.2.2.2.2.2.2.2.2.1 res.2.2.2.2.2.2.2.2.2.2.2.2.2.2.2.2.1 res.2.2.2.2.2.2.2.2.2.2.2.2.2.2.2.2.2.1 res.2.2.2.2.2.2.2.2.2.2.2.2.2.2.2.2.2.2.1 res.2.2.2.2.2.2.2.2.2.2.2.2.2.2.2.2.2.2.2.1 v_fine v_deep res.2.2.2.2.2.2.2.2.2.2.2.2.2.2.2.2.2.2.2.2) := by
  refine MI.of (by decide) (Nat.le_of_ble_eq_true rfl) ?_
  intro p e s m below meth c A Q C hW hQ ls hl
  exact uX11_done_0 v_stones v_flat v_leastThick v_sights v_padMany v_acts v_pulled v_skyPull v_skyWhose v_badAct v_badWhy v_keptAt v_isWriting v_pad v_act v_much v_where v_fats v_thick v_hollow v_damp v_fresh v_pulls v_had v_kindMany v_fine v_deep v_leaves C hQ h _ _ hW _ hl
abbrev wX11_lasts (cI cZ : ClassId) (a_this a_thick a_hollow a_damp a_fresh a_pulls a_fats a_deep a_fine a_pay a_hair a_sightPicture a_sightPull a_sightShows a_pad a_act a_where a_much a_kindMany a_had a_leaves a_mostPay a_canLast a_leastMissed a_kept a_isKept : Nat) (v_stones : Int32) (v_flat : Int32) (v_leastThick : Int32) (v_sights : Int32) (v_padMany : Int32) (v_acts : Int32) (v_pulled : Int32) (v_skyPull : Int32) (v_skyWhose : Int32) (v_badAct : Int32) (v_badWhy : Int32) (v_keptAt : Int32) (v_isWriting : Int32) (v_fine : Nat → Int32) : va_W := [(a_this, .inr (11, [.int v_stones, .int v_flat, .int v_leastThick, .ref a_thick, .ref a_hollow, .ref a_damp, .ref a_fresh, .ref a_pulls, .ref a_fats, .ref a_deep, .ref a_fine, .ref a_pay, .ref a_hair, .ref a_sightPicture, .ref a_sightPull, .ref a_sightShows, .int v_sights, .ref a_pad, .int v_padMany, .ref a_act, .ref a_where, .ref a_much, .int v_acts, .int v_pulled, .ref a_kindMany, .int v_skyPull, .int v_skyWhose, .ref a_had, .ref a_leaves, .int v_badAct, .int v_badWhy, .ref a_mostPay, .ref a_canLast, .ref a_leastMissed, .ref a_kept, .ref a_isKept, .int v_keptAt, .int v_isWriting])), (a_fine, .inl (cI, 8, .inl v_fine))]
abbrev rX11_lasts : Room := { frames := 1, cells := 0, slots := 0, locals := 21 }
set_option maxRecDepth 20000 in
theorem uX11_lasts_9 {a_this a_thick a_hollow a_damp a_fresh a_pulls a_fats a_deep a_fine a_pay a_hair a_sightPicture a_sightPull a_sightShows a_pad a_act a_where a_much a_kindMany a_had a_leaves a_mostPay a_canLast a_leastMissed a_kept a_isKept : Nat} (x1 : Int32) (x4 : Int32) (x5 : Int32) (x6 : Int32) (x7 : Int32) (v_stones : Int32) (v_flat : Int32) (v_leastThick : Int32) (v_sights : Int32) (v_padMany : Int32) (v_acts : Int32) (v_pulled : Int32) (v_skyPull : Int32) (v_skyWhose : Int32) (v_badAct : Int32) (v_badWhy : Int32) (v_keptAt : Int32) (v_isWriting : Int32) (v_fine : Nat → Int32) {res : Int32} (C : Cx p s m av meth c RX11 cX11_lasts 8 (some .int) G cI cZ cO A) (hQ : RI p l e rX11_lasts s m av below meth c G A cX11_lasts .int Q (res) (wX11_lasts cI cZ a_this a_thick a_hollow a_damp a_fresh a_pulls a_fats a_deep a_fine a_pay a_hair a_sightPicture a_sightPull a_sightShows a_pad a_act a_where a_much a_kindMany a_had a_leaves a_mostPay a_canLast a_leastMissed a_kept a_isKept v_stones v_flat v_leastThick v_sights v_padMany v_acts v_pulled v_skyPull v_skyWhose v_badAct v_badWhy v_keptAt v_isWriting v_fine)) {k9 : (Int32) → (Int32) → (Int32) → Option (Int32)} (hk9 : ∀ (x5 : Int32) (x6 : Int32) (x7 : Int32), k9 x5 x6 x7 = some res → ∀ (H : Heap) (locs : List Loc), HW G A s (wX11_lasts cI cZ a_this a_thick a_hollow a_damp a_fresh a_pulls a_fats a_deep a_fine a_pay a_hair a_sightPicture a_sightPull a_sightShows a_pad a_act a_where a_much a_kindMany a_had a_leaves a_mostPay a_canLast a_leastMissed a_kept a_isKept v_stones v_flat v_leastThick v_sights v_padMany v_acts v_pulled v_skyPull v_skyWhose v_badAct v_badWhy v_keptAt v_isWriting v_fine) H locs → ∀ ls : Array Slot, lv_has ls 8 [(0, .ref a_this), (1, .int x1), (4, .int x4), (5, .int x5), (6, .int x6), (7, .int x7)] → W p l e rX11_lasts s m av below meth c H locs 0 0 Q (F0 m 9 ls [])) (h : FX11_lasts_9 x1 x4 v_fine k9 x5 x6 x7 = some res) (H : Heap) (locs : List Loc) (hW : HW G A s (wX11_lasts cI cZ a_this a_thick a_hollow a_damp a_fresh a_pulls a_fats a_deep a_fine a_pay a_hair a_sightPicture a_sightPull a_sightShows a_pad a_act a_where a_much a_kindMany a_had a_leaves a_mostPay a_canLast a_leastMissed a_kept a_isKept v_stones v_flat v_leastThick v_sights v_padMany v_acts v_pulled v_skyPull v_skyWhose v_badAct v_badWhy v_keptAt v_isWriting v_fine) H locs) (ls : Array Slot) (hl : lv_has ls 8 [(0, .ref a_this), (1, .int x1), (4, .int x4), (5, .int x5), (6, .int x6), (7, .int x7)]) : W p l e rX11_lasts s m av below meth c H locs 0 0 Q (F0 m 9 ls []) := by
  have hx := C.1
  have hb := C.2.1
  unfold FX11_lasts_9 at h
  refine lv_iload hx hb dX11_lasts_9 (lv_at hl 4 rfl) ?_
  refine lv_sipush (v := (999 : Int32)) hx hb dX11_lasts_11 (by decide) ?_
  refine lv_icmp_gt (tgt := 67) hx hb dX11_lasts_14 (by decide) (fun c_1 => ?_) (fun c_1 => ?_)
  · have h := ip_h c_1 h
    refine lv_iload hx hb dX11_lasts_67 (lv_at hl 4 rfl) ?_
    obtain rfl := Option.some.inj h
    exact hQ rfl _ _ _ _ dX11_lasts_69 hW
  · have h := in_h c_1 h
    obtain ⟨v_2, ev_2⟩ : ∃ y : Int32, y = x7 + (1 : Int32) := ⟨_, rfl⟩
    have h := lt_h ev_2 h
    refine lv_iinc (v := v_2) (lv' := [(7, .int v_2), (0, .ref a_this), (1, .int x1), (4, .int x4), (5, .int x5), (6, .int x6)]) hx hb dX11_lasts_17 hl (k := 5) rfl (by rw [ev_2]; rfl) (Nat.le_of_ble_eq_true rfl) rfl (fun ls hl => ?_)
    refine lv_iload hx hb dX11_lasts_20 (lv_at hl 0 rfl) ?_
    refine lv_bipush (v := (10 : Int32)) hx hb dX11_lasts_22 (by decide) ?_
    refine lv_irem hx hb dX11_lasts_24 (by decide) ?_
    refine lv_if_ne (tgt := 42) hx hb dX11_lasts_25 (by decide) (fun c_3 => ?_) (fun c_3 => ?_)
    · have h := in_h c_3 h
      refine lv_iload hx hb dX11_lasts_42 (lv_at hl 4 rfl) ?_
      refine lv_istore (lv' := [(5, .int x5), (7, .int v_2), (0, .ref a_this), (1, .int x1), (4, .int x4), (6, .int x6)]) hx hb dX11_lasts_44 hl (Nat.le_of_ble_eq_true rfl) rfl (fun ls hl => ?_)
      refine lv_iload hx hb dX11_lasts_46 (lv_at hl 0 rfl) ?_
      refine lv_if_eq (tgt := 58) hx hb dX11_lasts_48 (by decide) (fun c_4 => ?_) (fun c_4 => ?_)
      · have h := ip_h c_4 h
        refine lv_iload hx hb dX11_lasts_58 (lv_at hl 5 rfl) ?_
        obtain rfl := Option.some.inj h
        exact hQ rfl _ _ _ _ dX11_lasts_60 hW
      · have h := in_h c_4 h
        refine lv_iload hx hb dX11_lasts_51 (lv_at hl 4 rfl) ?_
        refine lv_iload hx hb dX11_lasts_53 (lv_at hl 0 rfl) ?_
        refine lv_icmp_le (tgt := 61) hx hb dX11_lasts_55 (by decide) (fun c_5 => ?_) (fun c_5 => ?_)
        · have h := ip_h c_5 h
          obtain ⟨v_6, ev_6⟩ : ∃ y : Int32, y = x6 + (1 : Int32) := ⟨_, rfl⟩
          have h := lt_h ev_6 h
          refine lv_iinc (v := v_6) (lv' := [(6, .int v_6), (5, .int x5), (7, .int v_2), (0, .ref a_this), (1, .int x1), (4, .int x4)]) hx hb dX11_lasts_61 hl (k := 5) rfl (by rw [ev_6]; rfl) (Nat.le_of_ble_eq_true rfl) rfl (fun ls hl => ?_)
          refine lv_goto (tgt := 9) hx hb dX11_lasts_64 (by decide) ?_
          exact hk9 x5 v_6 v_2 h _ _ hW _ (lv_sub hl [3, 4, 5, 1, 0, 2] rfl)
        · have h := in_h c_5 h
          refine lv_iload hx hb dX11_lasts_58 (lv_at hl 5 rfl) ?_
          obtain rfl := Option.some.inj h
          exact hQ rfl _ _ _ _ dX11_lasts_60 hW
    · have h := ip_h c_3 h
      refine lv_iload hx hb dX11_lasts_28 (lv_at hl 4 rfl) ?_
      refine lv_aload_n hx hb dX11_lasts_30 rfl (lv_at hl 1 rfl) ?_
      refine lv_iload_n hx hb dX11_lasts_31 rfl (lv_at hl 2 rfl) ?_
      obtain ⟨v_7, hv_7, h⟩ := bd_h h
      refine callVIr [0, 1] C lk_RX11_172 (ctX11_wearOf a_this a_thick a_hollow a_damp a_fresh a_pulls a_fats a_deep a_fine a_pay a_hair a_sightPicture a_sightPull a_sightShows a_pad a_act a_where a_much a_kindMany a_had a_leaves a_mostPay a_canLast a_leastMissed a_kept a_isKept x1 v_stones v_flat v_leastThick v_sights v_padMany v_acts v_pulled v_skyPull v_skyWhose v_badAct v_badWhy v_keptAt v_isWriting v_fine hv_7) hW hl 11 rfl rfl rfl rfl rfl ⟨rfl, rfl⟩ ⟨(Nat.le_of_ble_eq_true rfl), (Nat.le_of_ble_eq_true rfl)⟩ ⟨Nat.zero_le _, Nat.zero_le _⟩ rfl (Nat.le_of_ble_eq_true rfl) dX11_lasts_32 (fun H locs hW => ?_)
      refine lv_isub hx hb dX11_lasts_35 ?_
      refine callSI0 C lk_RX11_169 (ctX11_notBelow0 (x5 - v_7) rfl) hW hl rfl ⟨rfl, rfl⟩ ⟨(Nat.le_of_ble_eq_true rfl), (Nat.le_of_ble_eq_true rfl)⟩ ⟨Nat.zero_le _, Nat.zero_le _⟩ rfl (Nat.le_of_ble_eq_true rfl) dX11_lasts_36 (fun H locs hW => ?_)
      refine lv_goto (tgt := 44) hx hb dX11_lasts_39 (by decide) ?_
      refine lv_topi (fun v_8 ev_8 => ?_)
      have h := lt_h ev_8 h
      refine lv_istore (lv' := [(5, .int v_8), (7, .int v_2), (0, .ref a_this), (1, .int x1), (4, .int x4), (6, .int x6)]) hx hb dX11_lasts_44 hl (Nat.le_of_ble_eq_true rfl) rfl (fun ls hl => ?_)
      refine lv_iload hx hb dX11_lasts_46 (lv_at hl 0 rfl) ?_
      refine lv_if_eq (tgt := 58) hx hb dX11_lasts_48 (by decide) (fun c_9 => ?_) (fun c_9 => ?_)
      · have h := ip_h c_9 h
        refine lv_iload hx hb dX11_lasts_58 (lv_at hl 5 rfl) ?_
        obtain rfl := Option.some.inj h
        exact hQ rfl _ _ _ _ dX11_lasts_60 hW
      · have h := in_h c_9 h
        refine lv_iload hx hb dX11_lasts_51 (lv_at hl 4 rfl) ?_
        refine lv_iload hx hb dX11_lasts_53 (lv_at hl 0 rfl) ?_
        refine lv_icmp_le (tgt := 61) hx hb dX11_lasts_55 (by decide) (fun c_10 => ?_) (fun c_10 => ?_)
        · have h := ip_h c_10 h
          obtain ⟨v_11, ev_11⟩ : ∃ y : Int32, y = x6 + (1 : Int32) := ⟨_, rfl⟩
          have h := lt_h ev_11 h
          refine lv_iinc (v := v_11) (lv' := [(6, .int v_11), (5, .int v_8), (7, .int v_2), (0, .ref a_this), (1, .int x1), (4, .int x4)]) hx hb dX11_lasts_61 hl (k := 5) rfl (by rw [ev_11]; rfl) (Nat.le_of_ble_eq_true rfl) rfl (fun ls hl => ?_)
          refine lv_goto (tgt := 9) hx hb dX11_lasts_64 (by decide) ?_
          exact hk9 v_8 v_11 v_2 h _ _ hW _ (lv_sub hl [3, 4, 5, 1, 0, 2] rfl)
        · have h := in_h c_10 h
          refine lv_iload hx hb dX11_lasts_58 (lv_at hl 5 rfl) ?_
          obtain rfl := Option.some.inj h
          exact hQ rfl _ _ _ _ dX11_lasts_60 hW
theorem wX11_lasts_9_ {a_this a_thick a_hollow a_damp a_fresh a_pulls a_fats a_deep a_fine a_pay a_hair a_sightPicture a_sightPull a_sightShows a_pad a_act a_where a_much a_kindMany a_had a_leaves a_mostPay a_canLast a_leastMissed a_kept a_isKept : Nat} (x1 : Int32) (x4 : Int32) (v_stones : Int32) (v_flat : Int32) (v_leastThick : Int32) (v_sights : Int32) (v_padMany : Int32) (v_acts : Int32) (v_pulled : Int32) (v_skyPull : Int32) (v_skyWhose : Int32) (v_badAct : Int32) (v_badWhy : Int32) (v_keptAt : Int32) (v_isWriting : Int32) (v_fine : Nat → Int32) {res : Int32} (C : Cx p s m av meth c RX11 cX11_lasts 8 (some .int) G cI cZ cO A) (hQ : RI p l e rX11_lasts s m av below meth c G A cX11_lasts .int Q (res) (wX11_lasts cI cZ a_this a_thick a_hollow a_damp a_fresh a_pulls a_fats a_deep a_fine a_pay a_hair a_sightPicture a_sightPull a_sightShows a_pad a_act a_where a_much a_kindMany a_had a_leaves a_mostPay a_canLast a_leastMissed a_kept a_isKept v_stones v_flat v_leastThick v_sights v_padMany v_acts v_pulled v_skyPull v_skyWhose v_badAct v_badWhy v_keptAt v_isWriting v_fine)) : ∀ (n : Nat) (x5 : Int32) (x6 : Int32) (x7 : Int32), LX11_lasts_9 x1 x4 v_fine n x5 x6 x7 = some res → ∀ (H : Heap) (locs : List Loc), HW G A s (wX11_lasts cI cZ a_this a_thick a_hollow a_damp a_fresh a_pulls a_fats a_deep a_fine a_pay a_hair a_sightPicture a_sightPull a_sightShows a_pad a_act a_where a_much a_kindMany a_had a_leaves a_mostPay a_canLast a_leastMissed a_kept a_isKept v_stones v_flat v_leastThick v_sights v_padMany v_acts v_pulled v_skyPull v_skyWhose v_badAct v_badWhy v_keptAt v_isWriting v_fine) H locs → ∀ ls : Array Slot, lv_has ls 8 [(0, .ref a_this), (1, .int x1), (4, .int x4), (5, .int x5), (6, .int x6), (7, .int x7)] → W p l e rX11_lasts s m av below meth c H locs 0 0 Q (F0 m 9 ls []) := by
  intro n
  induction n with
  | zero => intro x5 x6 x7 h; cases h
  | succ n ih =>
    intro x5 x6 x7 h H locs hW ls hl
    exact uX11_lasts_9 x1 x4 x5 x6 x7 v_stones v_flat v_leastThick v_sights v_padMany v_acts v_pulled v_skyPull v_skyWhose v_badAct v_badWhy v_keptAt v_isWriting v_fine C hQ (k9 := LX11_lasts_9 x1 x4 v_fine n) ih h H locs hW ls hl
set_option maxRecDepth 20000 in
theorem uX11_lasts_0 {a_this a_thick a_hollow a_damp a_fresh a_pulls a_fats a_deep a_fine a_pay a_hair a_sightPicture a_sightPull a_sightShows a_pad a_act a_where a_much a_kindMany a_had a_leaves a_mostPay a_canLast a_leastMissed a_kept a_isKept : Nat} (x1 : Int32) (x2 : Int32) (x3 : Int32) (x4 : Int32) (v_stones : Int32) (v_flat : Int32) (v_leastThick : Int32) (v_sights : Int32) (v_padMany : Int32) (v_acts : Int32) (v_pulled : Int32) (v_skyPull : Int32) (v_skyWhose : Int32) (v_badAct : Int32) (v_badWhy : Int32) (v_keptAt : Int32) (v_isWriting : Int32) (v_fine : Nat → Int32) {res : Int32} (C : Cx p s m av meth c RX11 cX11_lasts 8 (some .int) G cI cZ cO A) (hQ : RI p l e rX11_lasts s m av below meth c G A cX11_lasts .int Q (res) (wX11_lasts cI cZ a_this a_thick a_hollow a_damp a_fresh a_pulls a_fats a_deep a_fine a_pay a_hair a_sightPicture a_sightPull a_sightShows a_pad a_act a_where a_much a_kindMany a_had a_leaves a_mostPay a_canLast a_leastMissed a_kept a_isKept v_stones v_flat v_leastThick v_sights v_padMany v_acts v_pulled v_skyPull v_skyWhose v_badAct v_badWhy v_keptAt v_isWriting v_fine)) (h : fX11_lasts x1 x2 x3 x4 v_fine = some res) (H : Heap) (locs : List Loc) (hW : HW G A s (wX11_lasts cI cZ a_this a_thick a_hollow a_damp a_fresh a_pulls a_fats a_deep a_fine a_pay a_hair a_sightPicture a_sightPull a_sightShows a_pad a_act a_where a_much a_kindMany a_had a_leaves a_mostPay a_canLast a_leastMissed a_kept a_isKept v_stones v_flat v_leastThick v_sights v_padMany v_acts v_pulled v_skyPull v_skyWhose v_badAct v_badWhy v_keptAt v_isWriting v_fine) H locs) (ls : Array Slot) (hl : lv_has ls 8 [(0, .ref a_this), (1, .int x1), (2, .int x2), (3, .int x3), (4, .int x4)]) : W p l e rX11_lasts s m av below meth c H locs 0 0 Q (F0 m 0 ls []) := by
  have hx := C.1
  have hb := C.2.1
  unfold fX11_lasts at h
  refine lv_iload_n hx hb dX11_lasts_0 rfl (lv_at hl 2 rfl) ?_
  refine lv_istore (lv' := [(5, .int x2), (0, .ref a_this), (1, .int x1), (2, .int x2), (3, .int x3), (4, .int x4)]) hx hb dX11_lasts_1 hl (Nat.le_of_ble_eq_true rfl) rfl (fun ls hl => ?_)
  refine lv_iconst (v := (0 : Int32)) hx hb dX11_lasts_3 (by decide) ?_
  refine lv_istore (lv' := [(6, .int (0 : Int32)), (5, .int x2), (0, .ref a_this), (1, .int x1), (2, .int x2), (3, .int x3), (4, .int x4)]) hx hb dX11_lasts_4 hl (Nat.le_of_ble_eq_true rfl) rfl (fun ls hl => ?_)
  refine lv_iload_n hx hb dX11_lasts_6 rfl (lv_at hl 5 rfl) ?_
  refine lv_istore (lv' := [(7, .int x3), (6, .int (0 : Int32)), (5, .int x2), (0, .ref a_this), (1, .int x1), (2, .int x2), (3, .int x3), (4, .int x4)]) hx hb dX11_lasts_7 hl (Nat.le_of_ble_eq_true rfl) rfl (fun ls hl => ?_)
  exact wX11_lasts_9_ x1 x4 v_stones v_flat v_leastThick v_sights v_padMany v_acts v_pulled v_skyPull v_skyWhose v_badAct v_badWhy v_keptAt v_isWriting v_fine C hQ 2000 x2 (0 : Int32) x3 h _ _ hW _ (lv_sub hl [3, 4, 7, 2, 1, 0] rfl)
theorem ctX11_lasts {l : Launch} {G : va_G} {cI cZ cO : ClassId} (a_this a_thick a_hollow a_damp a_fresh a_pulls a_fats a_deep a_fine a_pay a_hair a_sightPicture a_sightPull a_sightShows a_pad a_act a_where a_much a_kindMany a_had a_leaves a_mostPay a_canLast a_leastMissed a_kept a_isKept : Nat) (x1 : Int32) (x2 : Int32) (x3 : Int32) (x4 : Int32) (v_stones : Int32) (v_flat : Int32) (v_leastThick : Int32) (v_sights : Int32) (v_padMany : Int32) (v_acts : Int32) (v_pulled : Int32) (v_skyPull : Int32) (v_skyWhose : Int32) (v_badAct : Int32) (v_badWhy : Int32) (v_keptAt : Int32) (v_isWriting : Int32) (v_fine : Nat → Int32) {res : Int32} (h : fX11_lasts x1 x2 x3 x4 v_fine = some res) : MI l G cI cZ cO yX11_lasts cX11_lasts 8 .int rX11_lasts [.ref a_this, .int x1, .int x2, .int x3, .int x4] (wX11_lasts cI cZ a_this a_thick a_hollow a_damp a_fresh a_pulls a_fats a_deep a_fine a_pay a_hair a_sightPicture a_sightPull a_sightShows a_pad a_act a_where a_much a_kindMany a_had a_leaves a_mostPay a_canLast a_leastMissed a_kept a_isKept v_stones v_flat v_leastThick v_sights v_padMany v_acts v_pulled v_skyPull v_skyWhose v_badAct v_badWhy v_keptAt v_isWriting v_fine) (res) (wX11_lasts cI cZ a_this a_thick a_hollow a_damp a_fresh a_pulls a_fats a_deep a_fine a_pay a_hair a_sightPicture a_sightPull a_sightShows a_pad a_act a_where a_much a_kindMany a_had a_leaves a_mostPay a_canLast a_leastMissed a_kept a_isKept v_stones v_flat v_leastThick v_sights v_padMany v_acts v_pulled v_skyPull v_skyWhose v_badAct v_badWhy v_keptAt v_isWriting v_fine) := by
  refine MI.of (by decide) (Nat.le_of_ble_eq_true rfl) ?_
  intro p e s m below meth c A Q C hW hQ ls hl
  exact uX11_lasts_0 x1 x2 x3 x4 v_stones v_flat v_leastThick v_sights v_padMany v_acts v_pulled v_skyPull v_skyWhose v_badAct v_badWhy v_keptAt v_isWriting v_fine C hQ h _ _ hW _ hl
abbrev wX11_clean (cI cZ : ClassId) (a_this a_thick a_hollow a_damp a_fresh a_pulls a_fats a_deep a_fine a_pay a_hair a_sightPicture a_sightPull a_sightShows a_pad a_act a_where a_much a_kindMany a_had a_leaves a_mostPay a_canLast a_leastMissed a_kept a_isKept : Nat) (v_stones : Int32) (v_flat : Int32) (v_leastThick : Int32) (v_sights : Int32) (v_padMany : Int32) (v_acts : Int32) (v_pulled : Int32) (v_skyPull : Int32) (v_skyWhose : Int32) (v_badAct : Int32) (v_badWhy : Int32) (v_keptAt : Int32) (v_isWriting : Int32) (v_fresh : Nat → Int32) (v_fats : Nat → Int32) (v_pulls : Nat → Int32) (v_fine : Nat → Int32) : va_W := [(a_this, .inr (11, [.int v_stones, .int v_flat, .int v_leastThick, .ref a_thick, .ref a_hollow, .ref a_damp, .ref a_fresh, .ref a_pulls, .ref a_fats, .ref a_deep, .ref a_fine, .ref a_pay, .ref a_hair, .ref a_sightPicture, .ref a_sightPull, .ref a_sightShows, .int v_sights, .ref a_pad, .int v_padMany, .ref a_act, .ref a_where, .ref a_much, .int v_acts, .int v_pulled, .ref a_kindMany, .int v_skyPull, .int v_skyWhose, .ref a_had, .ref a_leaves, .int v_badAct, .int v_badWhy, .ref a_mostPay, .ref a_canLast, .ref a_leastMissed, .ref a_kept, .ref a_isKept, .int v_keptAt, .int v_isWriting])), (a_fresh, .inl (cI, 5, .inl v_fresh)), (a_fats, .inl (cI, 40, .inl v_fats)), (a_pulls, .inl (cI, 5, .inl v_pulls)), (a_fine, .inl (cI, 8, .inl v_fine))]
abbrev rX11_clean : Room := { frames := 3, cells := 0, slots := 0, locals := 69 }
set_option maxRecDepth 20000 in
theorem uX11_clean_0 {a_this a_thick a_hollow a_damp a_fresh a_pulls a_fats a_deep a_fine a_pay a_hair a_sightPicture a_sightPull a_sightShows a_pad a_act a_where a_much a_kindMany a_had a_leaves a_mostPay a_canLast a_leastMissed a_kept a_isKept : Nat} (x1 : Int32) (v_stones : Int32) (v_flat : Int32) (v_leastThick : Int32) (v_sights : Int32) (v_padMany : Int32) (v_acts : Int32) (v_pulled : Int32) (v_skyPull : Int32) (v_skyWhose : Int32) (v_badAct : Int32) (v_badWhy : Int32) (v_keptAt : Int32) (v_isWriting : Int32) (v_fresh : Nat → Int32) (v_fats : Nat → Int32) (v_pulls : Nat → Int32) (v_fine : Nat → Int32) {res : Int32} (C : Cx p s m av meth c RX11 cX11_clean 3 (some .int) G cI cZ cO A) (hQ : RI p l e rX11_clean s m av below meth c G A cX11_clean .int Q (res) (wX11_clean cI cZ a_this a_thick a_hollow a_damp a_fresh a_pulls a_fats a_deep a_fine a_pay a_hair a_sightPicture a_sightPull a_sightShows a_pad a_act a_where a_much a_kindMany a_had a_leaves a_mostPay a_canLast a_leastMissed a_kept a_isKept v_stones v_flat v_leastThick v_sights v_padMany v_acts v_pulled v_skyPull v_skyWhose v_badAct v_badWhy v_keptAt v_isWriting v_fresh v_fats v_pulls v_fine)) (h : fX11_clean x1 v_stones v_fresh v_fats v_pulls v_fine = some res) (H : Heap) (locs : List Loc) (hW : HW G A s (wX11_clean cI cZ a_this a_thick a_hollow a_damp a_fresh a_pulls a_fats a_deep a_fine a_pay a_hair a_sightPicture a_sightPull a_sightShows a_pad a_act a_where a_much a_kindMany a_had a_leaves a_mostPay a_canLast a_leastMissed a_kept a_isKept v_stones v_flat v_leastThick v_sights v_padMany v_acts v_pulled v_skyPull v_skyWhose v_badAct v_badWhy v_keptAt v_isWriting v_fresh v_fats v_pulls v_fine) H locs) (ls : Array Slot) (hl : lv_has ls 3 [(0, .ref a_this), (1, .int x1)]) : W p l e rX11_clean s m av below meth c H locs 0 0 Q (F0 m 0 ls []) := by
  have hx := C.1
  have hb := C.2.1
  unfold fX11_clean at h
  refine lv_aload_n hx hb dX11_clean_0 rfl (lv_at hl 0 rfl) ?_
  refine lv_iload_n hx hb dX11_clean_1 rfl (lv_at hl 1 rfl) ?_
  refine callVIr [0] C lk_RX11_118 (ctX11_isStone a_this a_thick a_hollow a_damp a_fresh a_pulls a_fats a_deep a_fine a_pay a_hair a_sightPicture a_sightPull a_sightShows a_pad a_act a_where a_much a_kindMany a_had a_leaves a_mostPay a_canLast a_leastMissed a_kept a_isKept x1 v_stones v_flat v_leastThick v_sights v_padMany v_acts v_pulled v_skyPull v_skyWhose v_badAct v_badWhy v_keptAt v_isWriting rfl) hW hl 11 rfl rfl rfl rfl rfl ⟨rfl, rfl⟩ ⟨(Nat.le_of_ble_eq_true rfl), (Nat.le_of_ble_eq_true rfl)⟩ ⟨Nat.zero_le _, Nat.zero_le _⟩ rfl (Nat.le_of_ble_eq_true rfl) dX11_clean_2 (fun H locs hW => ?_)
  refine lv_if_ne (tgt := 10) hx hb dX11_clean_5 (by decide) (fun c_1 => ?_) (fun c_1 => ?_)
  · have h := in_h c_1 h
    refine lv_aload_n hx hb dX11_clean_10 rfl (lv_at hl 0 rfl) ?_
    refine getW C fl_RX11_19 hW 0 rfl rfl dX11_clean_11 ?_
    refine lv_iload_n hx hb dX11_clean_14 rfl (lv_at hl 1 rfl) ?_
    obtain ⟨g_2, h⟩ := gd_h h
    refine ialdW C hW 1 rfl g_2 dX11_clean_15 ?_
    refine lv_topi (fun v_3 ev_3 => ?_)
    have h := lt_h ev_3 h
    refine lv_istore_n (lv' := [(2, .int v_3), (0, .ref a_this), (1, .int x1)]) hx hb dX11_clean_16 rfl hl (Nat.le_of_ble_eq_true rfl) rfl (fun ls hl => ?_)
    refine lv_iload_n hx hb dX11_clean_17 rfl (lv_at hl 0 rfl) ?_
    refine lv_if_ge (tgt := 26) hx hb dX11_clean_18 (by decide) (fun c_4 => ?_) (fun c_4 => ?_)
    · have h := ip_h c_4 h
      refine lv_aload_n hx hb dX11_clean_26 rfl (lv_at hl 1 rfl) ?_
      refine lv_iload_n hx hb dX11_clean_27 rfl (lv_at hl 0 rfl) ?_
      refine lv_aload_n hx hb dX11_clean_28 rfl (lv_at hl 1 rfl) ?_
      refine getW C fl_RX11_25 hW 0 rfl rfl dX11_clean_29 ?_
      refine lv_iload_n hx hb dX11_clean_32 rfl (lv_at hl 2 rfl) ?_
      refine lv_iload_n hx hb dX11_clean_33 rfl (lv_at hl 0 rfl) ?_
      refine callSI0 C lk_RX11_110 (ctX11_at x1 v_3 rfl) hW hl rfl ⟨rfl, rfl⟩ ⟨(Nat.le_of_ble_eq_true rfl), (Nat.le_of_ble_eq_true rfl)⟩ ⟨Nat.zero_le _, Nat.zero_le _⟩ rfl (Nat.le_of_ble_eq_true rfl) dX11_clean_34 (fun H locs hW => ?_)
      obtain ⟨g_5, h⟩ := gd_h h
      refine ialdW C hW 2 rfl g_5 dX11_clean_37 ?_
      refine lv_aload_n hx hb dX11_clean_38 rfl (lv_at hl 1 rfl) ?_
      refine getW C fl_RX11_22 hW 0 rfl rfl dX11_clean_39 ?_
      refine lv_iload_n hx hb dX11_clean_42 rfl (lv_at hl 2 rfl) ?_
      refine ialdW C hW 3 rfl g_2 dX11_clean_43 ?_
      refine lv_aload_n hx hb dX11_clean_44 rfl (lv_at hl 1 rfl) ?_
      refine lv_iload_n hx hb dX11_clean_45 rfl (lv_at hl 2 rfl) ?_
      refine lv_iload_n hx hb dX11_clean_46 rfl (lv_at hl 0 rfl) ?_
      obtain ⟨v_6, hv_6, h⟩ := bd_h h
      refine callVIr [0, 2] C lk_RX11_175 (ctX11_ghostFat a_this a_thick a_hollow a_damp a_fresh a_pulls a_fats a_deep a_fine a_pay a_hair a_sightPicture a_sightPull a_sightShows a_pad a_act a_where a_much a_kindMany a_had a_leaves a_mostPay a_canLast a_leastMissed a_kept a_isKept x1 v_3 v_stones v_flat v_leastThick v_sights v_padMany v_acts v_pulled v_skyPull v_skyWhose v_badAct v_badWhy v_keptAt v_isWriting v_fats hv_6) hW hl 11 rfl rfl rfl rfl rfl ⟨rfl, rfl⟩ ⟨(Nat.le_of_ble_eq_true rfl), (Nat.le_of_ble_eq_true rfl)⟩ ⟨Nat.zero_le _, Nat.zero_le _⟩ rfl (Nat.le_of_ble_eq_true rfl) dX11_clean_47 (fun H locs hW => ?_)
      obtain ⟨v_7, hv_7, h⟩ := bd_h h
      refine callVIr [0, 4] C lk_RX11_230 (ctX11_lasts a_this a_thick a_hollow a_damp a_fresh a_pulls a_fats a_deep a_fine a_pay a_hair a_sightPicture a_sightPull a_sightShows a_pad a_act a_where a_much a_kindMany a_had a_leaves a_mostPay a_canLast a_leastMissed a_kept a_isKept v_3 (v_fats (Int32.toNatClampNeg (fX11_at x1 v_3))) (v_pulls (Int32.toNatClampNeg x1)) v_6 v_stones v_flat v_leastThick v_sights v_padMany v_acts v_pulled v_skyPull v_skyWhose v_badAct v_badWhy v_keptAt v_isWriting v_fine hv_7) hW hl 11 rfl rfl rfl rfl rfl ⟨rfl, rfl⟩ ⟨(Nat.le_of_ble_eq_true rfl), (Nat.le_of_ble_eq_true rfl)⟩ ⟨Nat.zero_le _, Nat.zero_le _⟩ rfl (Nat.le_of_ble_eq_true rfl) dX11_clean_50 (fun H locs hW => ?_)
      obtain rfl := Option.some.inj h
      exact hQ rfl _ _ _ _ dX11_clean_53 hW
    · have h := in_h c_4 h
      refine lv_bipush (v := (-3 : Int32)) hx hb dX11_clean_21 (by decide) ?_
      refine lv_goto (tgt := 53) hx hb dX11_clean_23 (by decide) ?_
      obtain rfl := Option.some.inj h
      exact hQ rfl _ _ _ _ dX11_clean_53 hW
  · have h := ip_h c_1 h
    refine lv_iconst (v := (-1 : Int32)) hx hb dX11_clean_8 (by decide) ?_
    obtain rfl := Option.some.inj h
    exact hQ rfl _ _ _ _ dX11_clean_9 hW
theorem ctX11_clean {l : Launch} {G : va_G} {cI cZ cO : ClassId} (a_this a_thick a_hollow a_damp a_fresh a_pulls a_fats a_deep a_fine a_pay a_hair a_sightPicture a_sightPull a_sightShows a_pad a_act a_where a_much a_kindMany a_had a_leaves a_mostPay a_canLast a_leastMissed a_kept a_isKept : Nat) (x1 : Int32) (v_stones : Int32) (v_flat : Int32) (v_leastThick : Int32) (v_sights : Int32) (v_padMany : Int32) (v_acts : Int32) (v_pulled : Int32) (v_skyPull : Int32) (v_skyWhose : Int32) (v_badAct : Int32) (v_badWhy : Int32) (v_keptAt : Int32) (v_isWriting : Int32) (v_fresh : Nat → Int32) (v_fats : Nat → Int32) (v_pulls : Nat → Int32) (v_fine : Nat → Int32) {res : Int32} (h : fX11_clean x1 v_stones v_fresh v_fats v_pulls v_fine = some res) : MI l G cI cZ cO yX11_clean cX11_clean 3 .int rX11_clean [.ref a_this, .int x1] (wX11_clean cI cZ a_this a_thick a_hollow a_damp a_fresh a_pulls a_fats a_deep a_fine a_pay a_hair a_sightPicture a_sightPull a_sightShows a_pad a_act a_where a_much a_kindMany a_had a_leaves a_mostPay a_canLast a_leastMissed a_kept a_isKept v_stones v_flat v_leastThick v_sights v_padMany v_acts v_pulled v_skyPull v_skyWhose v_badAct v_badWhy v_keptAt v_isWriting v_fresh v_fats v_pulls v_fine) (res) (wX11_clean cI cZ a_this a_thick a_hollow a_damp a_fresh a_pulls a_fats a_deep a_fine a_pay a_hair a_sightPicture a_sightPull a_sightShows a_pad a_act a_where a_much a_kindMany a_had a_leaves a_mostPay a_canLast a_leastMissed a_kept a_isKept v_stones v_flat v_leastThick v_sights v_padMany v_acts v_pulled v_skyPull v_skyWhose v_badAct v_badWhy v_keptAt v_isWriting v_fresh v_fats v_pulls v_fine) := by
  refine MI.of (by decide) (Nat.le_of_ble_eq_true rfl) ?_
  intro p e s m below meth c A Q C hW hQ ls hl
  exact uX11_clean_0 x1 v_stones v_flat v_leastThick v_sights v_padMany v_acts v_pulled v_skyPull v_skyWhose v_badAct v_badWhy v_keptAt v_isWriting v_fresh v_fats v_pulls v_fine C hQ h _ _ hW _ hl
abbrev wX11_grind (cI cZ : ClassId) (a_this a_thick a_hollow a_damp a_fresh a_pulls a_fats a_deep a_fine a_pay a_hair a_sightPicture a_sightPull a_sightShows a_pad a_act a_where a_much a_kindMany a_had a_leaves a_mostPay a_canLast a_leastMissed a_kept a_isKept : Nat) (v_stones : Int32) (v_flat : Int32) (v_leastThick : Int32) (v_sights : Int32) (v_padMany : Int32) (v_acts : Int32) (v_pulled : Int32) (v_skyPull : Int32) (v_skyWhose : Int32) (v_badAct : Int32) (v_badWhy : Int32) (v_keptAt : Int32) (v_isWriting : Int32) (v_fats : Nat → Int32) (v_thick : Nat → Int32) (v_deep : Nat → Int32) (v_fine : Nat → Int32) : va_W := [(a_this, .inr (11, [.int v_stones, .int v_flat, .int v_leastThick, .ref a_thick, .ref a_hollow, .ref a_damp, .ref a_fresh, .ref a_pulls, .ref a_fats, .ref a_deep, .ref a_fine, .ref a_pay, .ref a_hair, .ref a_sightPicture, .ref a_sightPull, .ref a_sightShows, .int v_sights, .ref a_pad, .int v_padMany, .ref a_act, .ref a_where, .ref a_much, .int v_acts, .int v_pulled, .ref a_kindMany, .int v_skyPull, .int v_skyWhose, .ref a_had, .ref a_leaves, .int v_badAct, .int v_badWhy, .ref a_mostPay, .ref a_canLast, .ref a_leastMissed, .ref a_kept, .ref a_isKept, .int v_keptAt, .int v_isWriting])), (a_fats, .inl (cI, 40, .inl v_fats)), (a_thick, .inl (cI, 5, .inl v_thick)), (a_deep, .inl (cI, 8, .inl v_deep)), (a_fine, .inl (cI, 8, .inl v_fine))]
abbrev rX11_grind : Room := { frames := 3, cells := 0, slots := 0, locals := 69 }
set_option maxRecDepth 20000 in
theorem uX11_grind_73 {a_this a_thick a_hollow a_damp a_fresh a_pulls a_fats a_deep a_fine a_pay a_hair a_sightPicture a_sightPull a_sightShows a_pad a_act a_where a_much a_kindMany a_had a_leaves a_mostPay a_canLast a_leastMissed a_kept a_isKept : Nat} (x1 : Int32) (x2 : Int32) (x3 : Int32) (x4 : Int32) (x5 : Int32) (s0 : Int32) (v_stones : Int32) (v_flat : Int32) (v_leastThick : Int32) (v_sights : Int32) (v_padMany : Int32) (v_acts : Int32) (v_pulled : Int32) (v_skyPull : Int32) (v_skyWhose : Int32) (v_badAct : Int32) (v_badWhy : Int32) (v_keptAt : Int32) (v_isWriting : Int32) (v_fats : Nat → Int32) (v_thick : Nat → Int32) (v_deep : Nat → Int32) (v_fine : Nat → Int32) {res : Int32} (C : Cx p s m av meth c RX11 cX11_grind 7 (some .int) G cI cZ cO A) (hQ : RI p l e rX11_grind s m av below meth c G A cX11_grind .int Q (res) (wX11_grind cI cZ a_this a_thick a_hollow a_damp a_fresh a_pulls a_fats a_deep a_fine a_pay a_hair a_sightPicture a_sightPull a_sightShows a_pad a_act a_where a_much a_kindMany a_had a_leaves a_mostPay a_canLast a_leastMissed a_kept a_isKept v_stones v_flat v_leastThick v_sights v_padMany v_acts v_pulled v_skyPull v_skyWhose v_badAct v_badWhy v_keptAt v_isWriting v_fats v_thick v_deep v_fine)) {k43 : (Int32) → Option (Int32)} (hk43 : ∀ (x5 : Int32), k43 x5 = some res → ∀ (H : Heap) (locs : List Loc), HW G A s (wX11_grind cI cZ a_this a_thick a_hollow a_damp a_fresh a_pulls a_fats a_deep a_fine a_pay a_hair a_sightPicture a_sightPull a_sightShows a_pad a_act a_where a_much a_kindMany a_had a_leaves a_mostPay a_canLast a_leastMissed a_kept a_isKept v_stones v_flat v_leastThick v_sights v_padMany v_acts v_pulled v_skyPull v_skyWhose v_badAct v_badWhy v_keptAt v_isWriting v_fats v_thick v_deep v_fine) H locs → ∀ ls : Array Slot, lv_has ls 7 [(0, .ref a_this), (1, .int x1), (2, .int x2), (3, .int x3), (4, .int x4), (5, .int x5)] → W p l e rX11_grind s m av below meth c H locs 0 0 Q (F0 m 43 ls [])) (h : fX11_grind_73 x2 x3 x4 x5 s0 v_deep v_fine k43 = some res) (H : Heap) (locs : List Loc) (hW : HW G A s (wX11_grind cI cZ a_this a_thick a_hollow a_damp a_fresh a_pulls a_fats a_deep a_fine a_pay a_hair a_sightPicture a_sightPull a_sightShows a_pad a_act a_where a_much a_kindMany a_had a_leaves a_mostPay a_canLast a_leastMissed a_kept a_isKept v_stones v_flat v_leastThick v_sights v_padMany v_acts v_pulled v_skyPull v_skyWhose v_badAct v_badWhy v_keptAt v_isWriting v_fats v_thick v_deep v_fine) H locs) (ls : Array Slot) (hl : lv_has ls 7 [(0, .ref a_this), (1, .int x1), (2, .int x2), (3, .int x3), (4, .int x4), (5, .int x5)]) : W p l e rX11_grind s m av below meth c H locs 0 0 Q (F0 m 73 ls [.int s0]) := by
  have hx := C.1
  have hb := C.2.1
  unfold fX11_grind_73 at h
  refine lv_istore (lv' := [(6, .int s0), (0, .ref a_this), (1, .int x1), (2, .int x2), (3, .int x3), (4, .int x4), (5, .int x5)]) hx hb dX11_grind_73 hl (Nat.le_of_ble_eq_true rfl) rfl (fun ls hl => ?_)
  refine lv_iload hx hb dX11_grind_75 (lv_at hl 0 rfl) ?_
  refine lv_if_eq (tgt := 109) hx hb dX11_grind_77 (by decide) (fun c_8 => ?_) (fun c_8 => ?_)
  · have h := ip_h c_8 h
    obtain ⟨v_9, ev_9⟩ : ∃ y : Int32, y = x5 + (1 : Int32) := ⟨_, rfl⟩
    have h := lt_h ev_9 h
    refine lv_iinc (v := v_9) (lv' := [(5, .int v_9), (6, .int s0), (0, .ref a_this), (1, .int x1), (2, .int x2), (3, .int x3), (4, .int x4)]) hx hb dX11_grind_109 hl (k := 6) rfl (by rw [ev_9]; rfl) (Nat.le_of_ble_eq_true rfl) rfl (fun ls hl => ?_)
    refine lv_goto (tgt := 43) hx hb dX11_grind_112 (by decide) ?_
    exact hk43 v_9 h _ _ hW _ (lv_sub hl [2, 3, 4, 5, 6, 0] rfl)
  · have h := in_h c_8 h
    refine lv_aload_n hx hb dX11_grind_80 rfl (lv_at hl 1 rfl) ?_
    refine lv_iload_n hx hb dX11_grind_81 rfl (lv_at hl 3 rfl) ?_
    refine lv_aload_n hx hb dX11_grind_82 rfl (lv_at hl 1 rfl) ?_
    refine getW C fl_RX11_28 hW 0 rfl rfl dX11_grind_83 ?_
    refine lv_iload_n hx hb dX11_grind_86 rfl (lv_at hl 3 rfl) ?_
    obtain ⟨g_10, h⟩ := gd_h h
    refine ialdW C hW 3 rfl g_10 dX11_grind_87 ?_
    refine lv_iconst (v := (0 : Int32)) hx hb dX11_grind_88 (by decide) ?_
    refine lv_iload hx hb dX11_grind_89 (lv_at hl 5 rfl) ?_
    refine lv_iconst (v := (3 : Int32)) hx hb dX11_grind_91 (by decide) ?_
    refine lv_iload hx hb dX11_grind_92 (lv_at hl 6 rfl) ?_
    refine lv_imul hx hb dX11_grind_94 ?_
    refine lv_isub hx hb dX11_grind_95 ?_
    refine callSI0 C lk_RX11_169 (ctX11_notBelow0 (x4 - ((3 : Int32) * x5)) rfl) hW hl rfl ⟨rfl, rfl⟩ ⟨(Nat.le_of_ble_eq_true rfl), (Nat.le_of_ble_eq_true rfl)⟩ ⟨Nat.zero_le _, Nat.zero_le _⟩ rfl (Nat.le_of_ble_eq_true rfl) dX11_grind_96 (fun H locs hW => ?_)
    obtain ⟨v_11, hv_11, h⟩ := bd_h h
    refine callVIr [0, 4] C lk_RX11_230 (ctX11_lasts a_this a_thick a_hollow a_damp a_fresh a_pulls a_fats a_deep a_fine a_pay a_hair a_sightPicture a_sightPull a_sightShows a_pad a_act a_where a_much a_kindMany a_had a_leaves a_mostPay a_canLast a_leastMissed a_kept a_isKept x2 (v_deep (Int32.toNatClampNeg x2)) (0 : Int32) (fX11_notBelow0 (x4 - ((3 : Int32) * x5))) v_stones v_flat v_leastThick v_sights v_padMany v_acts v_pulled v_skyPull v_skyWhose v_badAct v_badWhy v_keptAt v_isWriting v_fine hv_11) hW hl 11 rfl rfl rfl rfl rfl ⟨rfl, rfl⟩ ⟨(Nat.le_of_ble_eq_true rfl), (Nat.le_of_ble_eq_true rfl)⟩ ⟨Nat.zero_le _, Nat.zero_le _⟩ rfl (Nat.le_of_ble_eq_true rfl) dX11_grind_99 (fun H locs hW => ?_)
    refine lv_iload_n hx hb dX11_grind_102 rfl (lv_at hl 4 rfl) ?_
    refine lv_icmp_lt (tgt := 109) hx hb dX11_grind_103 (by decide) (fun c_12 => ?_) (fun c_12 => ?_)
    · have h := ip_h c_12 h
      obtain ⟨v_13, ev_13⟩ : ∃ y : Int32, y = x5 + (1 : Int32) := ⟨_, rfl⟩
      have h := lt_h ev_13 h
      refine lv_iinc (v := v_13) (lv' := [(5, .int v_13), (6, .int s0), (0, .ref a_this), (1, .int x1), (2, .int x2), (3, .int x3), (4, .int x4)]) hx hb dX11_grind_109 hl (k := 6) rfl (by rw [ev_13]; rfl) (Nat.le_of_ble_eq_true rfl) rfl (fun ls hl => ?_)
      refine lv_goto (tgt := 43) hx hb dX11_grind_112 (by decide) ?_
      exact hk43 v_13 h _ _ hW _ (lv_sub hl [2, 3, 4, 5, 6, 0] rfl)
    · have h := in_h c_12 h
      refine lv_iload hx hb dX11_grind_106 (lv_at hl 6 rfl) ?_
      obtain rfl := Option.some.inj h
      exact hQ rfl _ _ _ _ dX11_grind_108 hW
set_option maxRecDepth 20000 in
theorem uX11_grind_43 {a_this a_thick a_hollow a_damp a_fresh a_pulls a_fats a_deep a_fine a_pay a_hair a_sightPicture a_sightPull a_sightShows a_pad a_act a_where a_much a_kindMany a_had a_leaves a_mostPay a_canLast a_leastMissed a_kept a_isKept : Nat} (x1 : Int32) (x2 : Int32) (x3 : Int32) (x4 : Int32) (x5 : Int32) (v_stones : Int32) (v_flat : Int32) (v_leastThick : Int32) (v_sights : Int32) (v_padMany : Int32) (v_acts : Int32) (v_pulled : Int32) (v_skyPull : Int32) (v_skyWhose : Int32) (v_badAct : Int32) (v_badWhy : Int32) (v_keptAt : Int32) (v_isWriting : Int32) (v_fats : Nat → Int32) (v_thick : Nat → Int32) (v_deep : Nat → Int32) (v_fine : Nat → Int32) {res : Int32} (C : Cx p s m av meth c RX11 cX11_grind 7 (some .int) G cI cZ cO A) (hQ : RI p l e rX11_grind s m av below meth c G A cX11_grind .int Q (res) (wX11_grind cI cZ a_this a_thick a_hollow a_damp a_fresh a_pulls a_fats a_deep a_fine a_pay a_hair a_sightPicture a_sightPull a_sightShows a_pad a_act a_where a_much a_kindMany a_had a_leaves a_mostPay a_canLast a_leastMissed a_kept a_isKept v_stones v_flat v_leastThick v_sights v_padMany v_acts v_pulled v_skyPull v_skyWhose v_badAct v_badWhy v_keptAt v_isWriting v_fats v_thick v_deep v_fine)) {k43 : (Int32) → Option (Int32)} (hk43 : ∀ (x5 : Int32), k43 x5 = some res → ∀ (H : Heap) (locs : List Loc), HW G A s (wX11_grind cI cZ a_this a_thick a_hollow a_damp a_fresh a_pulls a_fats a_deep a_fine a_pay a_hair a_sightPicture a_sightPull a_sightShows a_pad a_act a_where a_much a_kindMany a_had a_leaves a_mostPay a_canLast a_leastMissed a_kept a_isKept v_stones v_flat v_leastThick v_sights v_padMany v_acts v_pulled v_skyPull v_skyWhose v_badAct v_badWhy v_keptAt v_isWriting v_fats v_thick v_deep v_fine) H locs → ∀ ls : Array Slot, lv_has ls 7 [(0, .ref a_this), (1, .int x1), (2, .int x2), (3, .int x3), (4, .int x4), (5, .int x5)] → W p l e rX11_grind s m av below meth c H locs 0 0 Q (F0 m 43 ls [])) (h : FX11_grind_43 x1 x2 x3 x4 v_leastThick v_thick v_deep v_fine k43 x5 = some res) (H : Heap) (locs : List Loc) (hW : HW G A s (wX11_grind cI cZ a_this a_thick a_hollow a_damp a_fresh a_pulls a_fats a_deep a_fine a_pay a_hair a_sightPicture a_sightPull a_sightShows a_pad a_act a_where a_much a_kindMany a_had a_leaves a_mostPay a_canLast a_leastMissed a_kept a_isKept v_stones v_flat v_leastThick v_sights v_padMany v_acts v_pulled v_skyPull v_skyWhose v_badAct v_badWhy v_keptAt v_isWriting v_fats v_thick v_deep v_fine) H locs) (ls : Array Slot) (hl : lv_has ls 7 [(0, .ref a_this), (1, .int x1), (2, .int x2), (3, .int x3), (4, .int x4), (5, .int x5)]) : W p l e rX11_grind s m av below meth c H locs 0 0 Q (F0 m 43 ls []) := by
  have hx := C.1
  have hb := C.2.1
  unfold FX11_grind_43 at h
  refine lv_iload hx hb dX11_grind_43 (lv_at hl 5 rfl) ?_
  refine lv_bipush (v := (20 : Int32)) hx hb dX11_grind_45 (by decide) ?_
  refine lv_icmp_gt (tgt := 115) hx hb dX11_grind_47 (by decide) (fun c_5 => ?_) (fun c_5 => ?_)
  · have h := ip_h c_5 h
    refine lv_bipush (v := (-6 : Int32)) hx hb dX11_grind_115 (by decide) ?_
    obtain rfl := Option.some.inj h
    exact hQ rfl _ _ _ _ dX11_grind_117 hW
  · have h := in_h c_5 h
    refine lv_aload_n hx hb dX11_grind_50 rfl (lv_at hl 0 rfl) ?_
    refine getW C fl_RX11_7 hW 0 rfl rfl dX11_grind_51 ?_
    refine lv_iload_n hx hb dX11_grind_54 rfl (lv_at hl 1 rfl) ?_
    obtain ⟨g_6, h⟩ := gd_h h
    refine ialdW C hW 2 rfl g_6 dX11_grind_55 ?_
    refine lv_iconst (v := (3 : Int32)) hx hb dX11_grind_56 (by decide) ?_
    refine lv_iload hx hb dX11_grind_57 (lv_at hl 5 rfl) ?_
    refine lv_imul hx hb dX11_grind_59 ?_
    refine lv_isub hx hb dX11_grind_60 ?_
    refine lv_aload_n hx hb dX11_grind_61 rfl (lv_at hl 0 rfl) ?_
    refine getW C fl_RX11_90 hW 0 rfl rfl dX11_grind_62 ?_
    refine lv_icmp_lt (tgt := 72) hx hb dX11_grind_65 (by decide) (fun c_7 => ?_) (fun c_7 => ?_)
    · have h := ip_h c_7 h
      refine lv_iconst (v := (0 : Int32)) hx hb dX11_grind_72 (by decide) ?_
      exact uX11_grind_73 x1 x2 x3 x4 x5 (0 : Int32) v_stones v_flat v_leastThick v_sights v_padMany v_acts v_pulled v_skyPull v_skyWhose v_badAct v_badWhy v_keptAt v_isWriting v_fats v_thick v_deep v_fine C hQ hk43 h _ _ hW _ (lv_sub hl [0, 1, 2, 3, 4, 5] rfl)
    · have h := in_h c_7 h
      refine lv_iconst (v := (1 : Int32)) hx hb dX11_grind_68 (by decide) ?_
      refine lv_goto (tgt := 73) hx hb dX11_grind_69 (by decide) ?_
      exact uX11_grind_73 x1 x2 x3 x4 x5 (1 : Int32) v_stones v_flat v_leastThick v_sights v_padMany v_acts v_pulled v_skyPull v_skyWhose v_badAct v_badWhy v_keptAt v_isWriting v_fats v_thick v_deep v_fine C hQ hk43 h _ _ hW _ (lv_sub hl [0, 1, 2, 3, 4, 5] rfl)
theorem wX11_grind_43_ {a_this a_thick a_hollow a_damp a_fresh a_pulls a_fats a_deep a_fine a_pay a_hair a_sightPicture a_sightPull a_sightShows a_pad a_act a_where a_much a_kindMany a_had a_leaves a_mostPay a_canLast a_leastMissed a_kept a_isKept : Nat} (x1 : Int32) (x2 : Int32) (x3 : Int32) (x4 : Int32) (v_stones : Int32) (v_flat : Int32) (v_leastThick : Int32) (v_sights : Int32) (v_padMany : Int32) (v_acts : Int32) (v_pulled : Int32) (v_skyPull : Int32) (v_skyWhose : Int32) (v_badAct : Int32) (v_badWhy : Int32) (v_keptAt : Int32) (v_isWriting : Int32) (v_fats : Nat → Int32) (v_thick : Nat → Int32) (v_deep : Nat → Int32) (v_fine : Nat → Int32) {res : Int32} (C : Cx p s m av meth c RX11 cX11_grind 7 (some .int) G cI cZ cO A) (hQ : RI p l e rX11_grind s m av below meth c G A cX11_grind .int Q (res) (wX11_grind cI cZ a_this a_thick a_hollow a_damp a_fresh a_pulls a_fats a_deep a_fine a_pay a_hair a_sightPicture a_sightPull a_sightShows a_pad a_act a_where a_much a_kindMany a_had a_leaves a_mostPay a_canLast a_leastMissed a_kept a_isKept v_stones v_flat v_leastThick v_sights v_padMany v_acts v_pulled v_skyPull v_skyWhose v_badAct v_badWhy v_keptAt v_isWriting v_fats v_thick v_deep v_fine)) : ∀ (n : Nat) (x5 : Int32), LX11_grind_43 x1 x2 x3 x4 v_leastThick v_thick v_deep v_fine n x5 = some res → ∀ (H : Heap) (locs : List Loc), HW G A s (wX11_grind cI cZ a_this a_thick a_hollow a_damp a_fresh a_pulls a_fats a_deep a_fine a_pay a_hair a_sightPicture a_sightPull a_sightShows a_pad a_act a_where a_much a_kindMany a_had a_leaves a_mostPay a_canLast a_leastMissed a_kept a_isKept v_stones v_flat v_leastThick v_sights v_padMany v_acts v_pulled v_skyPull v_skyWhose v_badAct v_badWhy v_keptAt v_isWriting v_fats v_thick v_deep v_fine) H locs → ∀ ls : Array Slot, lv_has ls 7 [(0, .ref a_this), (1, .int x1), (2, .int x2), (3, .int x3), (4, .int x4), (5, .int x5)] → W p l e rX11_grind s m av below meth c H locs 0 0 Q (F0 m 43 ls []) := by
  intro n
  induction n with
  | zero => intro x5 h; cases h
  | succ n ih =>
    intro x5 h H locs hW ls hl
    exact uX11_grind_43 x1 x2 x3 x4 x5 v_stones v_flat v_leastThick v_sights v_padMany v_acts v_pulled v_skyPull v_skyWhose v_badAct v_badWhy v_keptAt v_isWriting v_fats v_thick v_deep v_fine C hQ (k43 := LX11_grind_43 x1 x2 x3 x4 v_leastThick v_thick v_deep v_fine n) ih h H locs hW ls hl
set_option maxRecDepth 20000 in
theorem uX11_grind_0 {a_this a_thick a_hollow a_damp a_fresh a_pulls a_fats a_deep a_fine a_pay a_hair a_sightPicture a_sightPull a_sightShows a_pad a_act a_where a_much a_kindMany a_had a_leaves a_mostPay a_canLast a_leastMissed a_kept a_isKept : Nat} (x1 : Int32) (x2 : Int32) (x3 : Int32) (v_stones : Int32) (v_flat : Int32) (v_leastThick : Int32) (v_sights : Int32) (v_padMany : Int32) (v_acts : Int32) (v_pulled : Int32) (v_skyPull : Int32) (v_skyWhose : Int32) (v_badAct : Int32) (v_badWhy : Int32) (v_keptAt : Int32) (v_isWriting : Int32) (v_fats : Nat → Int32) (v_thick : Nat → Int32) (v_deep : Nat → Int32) (v_fine : Nat → Int32) {res : Int32} (C : Cx p s m av meth c RX11 cX11_grind 7 (some .int) G cI cZ cO A) (hQ : RI p l e rX11_grind s m av below meth c G A cX11_grind .int Q (res) (wX11_grind cI cZ a_this a_thick a_hollow a_damp a_fresh a_pulls a_fats a_deep a_fine a_pay a_hair a_sightPicture a_sightPull a_sightShows a_pad a_act a_where a_much a_kindMany a_had a_leaves a_mostPay a_canLast a_leastMissed a_kept a_isKept v_stones v_flat v_leastThick v_sights v_padMany v_acts v_pulled v_skyPull v_skyWhose v_badAct v_badWhy v_keptAt v_isWriting v_fats v_thick v_deep v_fine)) (h : fX11_grind x1 x2 x3 v_stones v_leastThick v_fats v_thick v_deep v_fine = some res) (H : Heap) (locs : List Loc) (hW : HW G A s (wX11_grind cI cZ a_this a_thick a_hollow a_damp a_fresh a_pulls a_fats a_deep a_fine a_pay a_hair a_sightPicture a_sightPull a_sightShows a_pad a_act a_where a_much a_kindMany a_had a_leaves a_mostPay a_canLast a_leastMissed a_kept a_isKept v_stones v_flat v_leastThick v_sights v_padMany v_acts v_pulled v_skyPull v_skyWhose v_badAct v_badWhy v_keptAt v_isWriting v_fats v_thick v_deep v_fine) H locs) (ls : Array Slot) (hl : lv_has ls 7 [(0, .ref a_this), (1, .int x1), (2, .int x2), (3, .int x3)]) : W p l e rX11_grind s m av below meth c H locs 0 0 Q (F0 m 0 ls []) := by
  have hx := C.1
  have hb := C.2.1
  unfold fX11_grind at h
  refine lv_aload_n hx hb dX11_grind_0 rfl (lv_at hl 0 rfl) ?_
  refine lv_iload_n hx hb dX11_grind_1 rfl (lv_at hl 1 rfl) ?_
  refine callVIr [0] C lk_RX11_118 (ctX11_isStone a_this a_thick a_hollow a_damp a_fresh a_pulls a_fats a_deep a_fine a_pay a_hair a_sightPicture a_sightPull a_sightShows a_pad a_act a_where a_much a_kindMany a_had a_leaves a_mostPay a_canLast a_leastMissed a_kept a_isKept x1 v_stones v_flat v_leastThick v_sights v_padMany v_acts v_pulled v_skyPull v_skyWhose v_badAct v_badWhy v_keptAt v_isWriting rfl) hW hl 11 rfl rfl rfl rfl rfl ⟨rfl, rfl⟩ ⟨(Nat.le_of_ble_eq_true rfl), (Nat.le_of_ble_eq_true rfl)⟩ ⟨Nat.zero_le _, Nat.zero_le _⟩ rfl (Nat.le_of_ble_eq_true rfl) dX11_grind_2 (fun H locs hW => ?_)
  refine lv_if_eq (tgt := 15) hx hb dX11_grind_5 (by decide) (fun c_1 => ?_) (fun c_1 => ?_)
  · have h := ip_h c_1 h
    refine lv_iconst (v := (-1 : Int32)) hx hb dX11_grind_15 (by decide) ?_
    obtain rfl := Option.some.inj h
    exact hQ rfl _ _ _ _ dX11_grind_16 hW
  · have h := in_h c_1 h
    refine lv_iload_n hx hb dX11_grind_8 rfl (lv_at hl 2 rfl) ?_
    refine callSI0 C lk_RX11_122 (ctX11_isPicture x2 rfl) hW hl rfl ⟨rfl, rfl⟩ ⟨(Nat.le_of_ble_eq_true rfl), (Nat.le_of_ble_eq_true rfl)⟩ ⟨Nat.zero_le _, Nat.zero_le _⟩ rfl (Nat.le_of_ble_eq_true rfl) dX11_grind_9 (fun H locs hW => ?_)
    refine lv_if_ne (tgt := 17) hx hb dX11_grind_12 (by decide) (fun c_2 => ?_) (fun c_2 => ?_)
    · have h := in_h c_2 h
      refine lv_iload_n hx hb dX11_grind_17 rfl (lv_at hl 3 rfl) ?_
      refine lv_i2l hx hb dX11_grind_18 rfl ?_
      refine lv_lconst (v := (0 : Int64)) hx hb dX11_grind_19 (by decide) ?_
      refine lv_ldc2 (v := (999 : Int64)) hx hb C.2.2.2.2.2.1 (C.2.2.2.2.1 _ wd_925) dX11_grind_20 ?_
      refine callSI0 C lk_RX11_95 (ctX11_in (Int32.toInt64 x3) (0 : Int64) (999 : Int64) rfl) hW hl rfl ⟨rfl, rfl⟩ ⟨(Nat.le_of_ble_eq_true rfl), (Nat.le_of_ble_eq_true rfl)⟩ ⟨Nat.zero_le _, Nat.zero_le _⟩ rfl (Nat.le_of_ble_eq_true rfl) dX11_grind_23 (fun H locs hW => ?_)
      refine lv_if_ne (tgt := 32) hx hb dX11_grind_26 (by decide) (fun c_3 => ?_) (fun c_3 => ?_)
      · have h := in_h c_3 h
        refine lv_aload_n hx hb dX11_grind_32 rfl (lv_at hl 0 rfl) ?_
        refine lv_iload_n hx hb dX11_grind_33 rfl (lv_at hl 1 rfl) ?_
        refine lv_iload_n hx hb dX11_grind_34 rfl (lv_at hl 2 rfl) ?_
        obtain ⟨v_4, hv_4, h⟩ := bd_h h
        refine callVIr [0, 1] C lk_RX11_175 (ctX11_ghostFat a_this a_thick a_hollow a_damp a_fresh a_pulls a_fats a_deep a_fine a_pay a_hair a_sightPicture a_sightPull a_sightShows a_pad a_act a_where a_much a_kindMany a_had a_leaves a_mostPay a_canLast a_leastMissed a_kept a_isKept x1 x2 v_stones v_flat v_leastThick v_sights v_padMany v_acts v_pulled v_skyPull v_skyWhose v_badAct v_badWhy v_keptAt v_isWriting v_fats hv_4) hW hl 11 rfl rfl rfl rfl rfl ⟨rfl, rfl⟩ ⟨(Nat.le_of_ble_eq_true rfl), (Nat.le_of_ble_eq_true rfl)⟩ ⟨Nat.zero_le _, Nat.zero_le _⟩ rfl (Nat.le_of_ble_eq_true rfl) dX11_grind_35 (fun H locs hW => ?_)
        refine lv_istore (lv' := [(4, .int v_4), (0, .ref a_this), (1, .int x1), (2, .int x2), (3, .int x3)]) hx hb dX11_grind_38 hl (Nat.le_of_ble_eq_true rfl) rfl (fun ls hl => ?_)
        refine lv_iconst (v := (0 : Int32)) hx hb dX11_grind_40 (by decide) ?_
        refine lv_istore (lv' := [(5, .int (0 : Int32)), (4, .int v_4), (0, .ref a_this), (1, .int x1), (2, .int x2), (3, .int x3)]) hx hb dX11_grind_41 hl (Nat.le_of_ble_eq_true rfl) rfl (fun ls hl => ?_)
        exact wX11_grind_43_ x1 x2 x3 v_4 v_stones v_flat v_leastThick v_sights v_padMany v_acts v_pulled v_skyPull v_skyWhose v_badAct v_badWhy v_keptAt v_isWriting v_fats v_thick v_deep v_fine C hQ 2000 (0 : Int32) h _ _ hW _ (lv_sub hl [2, 3, 4, 5, 1, 0] rfl)
      · have h := ip_h c_3 h
        refine lv_bipush (v := (-2 : Int32)) hx hb dX11_grind_29 (by decide) ?_
        obtain rfl := Option.some.inj h
        exact hQ rfl _ _ _ _ dX11_grind_31 hW
    · have h := ip_h c_2 h
      refine lv_iconst (v := (-1 : Int32)) hx hb dX11_grind_15 (by decide) ?_
      obtain rfl := Option.some.inj h
      exact hQ rfl _ _ _ _ dX11_grind_16 hW
theorem ctX11_grind {l : Launch} {G : va_G} {cI cZ cO : ClassId} (a_this a_thick a_hollow a_damp a_fresh a_pulls a_fats a_deep a_fine a_pay a_hair a_sightPicture a_sightPull a_sightShows a_pad a_act a_where a_much a_kindMany a_had a_leaves a_mostPay a_canLast a_leastMissed a_kept a_isKept : Nat) (x1 : Int32) (x2 : Int32) (x3 : Int32) (v_stones : Int32) (v_flat : Int32) (v_leastThick : Int32) (v_sights : Int32) (v_padMany : Int32) (v_acts : Int32) (v_pulled : Int32) (v_skyPull : Int32) (v_skyWhose : Int32) (v_badAct : Int32) (v_badWhy : Int32) (v_keptAt : Int32) (v_isWriting : Int32) (v_fats : Nat → Int32) (v_thick : Nat → Int32) (v_deep : Nat → Int32) (v_fine : Nat → Int32) {res : Int32} (h : fX11_grind x1 x2 x3 v_stones v_leastThick v_fats v_thick v_deep v_fine = some res) : MI l G cI cZ cO yX11_grind cX11_grind 7 .int rX11_grind [.ref a_this, .int x1, .int x2, .int x3] (wX11_grind cI cZ a_this a_thick a_hollow a_damp a_fresh a_pulls a_fats a_deep a_fine a_pay a_hair a_sightPicture a_sightPull a_sightShows a_pad a_act a_where a_much a_kindMany a_had a_leaves a_mostPay a_canLast a_leastMissed a_kept a_isKept v_stones v_flat v_leastThick v_sights v_padMany v_acts v_pulled v_skyPull v_skyWhose v_badAct v_badWhy v_keptAt v_isWriting v_fats v_thick v_deep v_fine) (res) (wX11_grind cI cZ a_this a_thick a_hollow a_damp a_fresh a_pulls a_fats a_deep a_fine a_pay a_hair a_sightPicture a_sightPull a_sightShows a_pad a_act a_where a_much a_kindMany a_had a_leaves a_mostPay a_canLast a_leastMissed a_kept a_isKept v_stones v_flat v_leastThick v_sights v_padMany v_acts v_pulled v_skyPull v_skyWhose v_badAct v_badWhy v_keptAt v_isWriting v_fats v_thick v_deep v_fine) := by
  refine MI.of (by decide) (Nat.le_of_ble_eq_true rfl) ?_
  intro p e s m below meth c A Q C hW hQ ls hl
  exact uX11_grind_0 x1 x2 x3 v_stones v_flat v_leastThick v_sights v_padMany v_acts v_pulled v_skyPull v_skyWhose v_badAct v_badWhy v_keptAt v_isWriting v_fats v_thick v_deep v_fine C hQ h _ _ hW _ hl
abbrev wX11_lives (cI cZ : ClassId) (a_this a_thick a_hollow a_damp a_fresh a_pulls a_fats a_deep a_fine a_pay a_hair a_sightPicture a_sightPull a_sightShows a_pad a_act a_where a_much a_kindMany a_had a_leaves a_mostPay a_canLast a_leastMissed a_kept a_isKept : Nat) (v_stones : Int32) (v_flat : Int32) (v_leastThick : Int32) (v_sights : Int32) (v_padMany : Int32) (v_acts : Int32) (v_pulled : Int32) (v_skyPull : Int32) (v_skyWhose : Int32) (v_badAct : Int32) (v_badWhy : Int32) (v_keptAt : Int32) (v_isWriting : Int32) (v_thick : Nat → Int32) : va_W := [(a_this, .inr (11, [.int v_stones, .int v_flat, .int v_leastThick, .ref a_thick, .ref a_hollow, .ref a_damp, .ref a_fresh, .ref a_pulls, .ref a_fats, .ref a_deep, .ref a_fine, .ref a_pay, .ref a_hair, .ref a_sightPicture, .ref a_sightPull, .ref a_sightShows, .int v_sights, .ref a_pad, .int v_padMany, .ref a_act, .ref a_where, .ref a_much, .int v_acts, .int v_pulled, .ref a_kindMany, .int v_skyPull, .int v_skyWhose, .ref a_had, .ref a_leaves, .int v_badAct, .int v_badWhy, .ref a_mostPay, .ref a_canLast, .ref a_leastMissed, .ref a_kept, .ref a_isKept, .int v_keptAt, .int v_isWriting])), (a_thick, .inl (cI, 5, .inl v_thick))]
abbrev rX11_lives : Room := { frames := 2, cells := 0, slots := 0, locals := 46 }
set_option maxRecDepth 20000 in
theorem uX11_lives_0 {a_this a_thick a_hollow a_damp a_fresh a_pulls a_fats a_deep a_fine a_pay a_hair a_sightPicture a_sightPull a_sightShows a_pad a_act a_where a_much a_kindMany a_had a_leaves a_mostPay a_canLast a_leastMissed a_kept a_isKept : Nat} (x1 : Int32) (x2 : Int32) (v_stones : Int32) (v_flat : Int32) (v_leastThick : Int32) (v_sights : Int32) (v_padMany : Int32) (v_acts : Int32) (v_pulled : Int32) (v_skyPull : Int32) (v_skyWhose : Int32) (v_badAct : Int32) (v_badWhy : Int32) (v_keptAt : Int32) (v_isWriting : Int32) (v_thick : Nat → Int32) {res : Int32} (C : Cx p s m av meth c RX11 cX11_lives 4 (some .int) G cI cZ cO A) (hQ : RI p l e rX11_lives s m av below meth c G A cX11_lives .int Q (res) (wX11_lives cI cZ a_this a_thick a_hollow a_damp a_fresh a_pulls a_fats a_deep a_fine a_pay a_hair a_sightPicture a_sightPull a_sightShows a_pad a_act a_where a_much a_kindMany a_had a_leaves a_mostPay a_canLast a_leastMissed a_kept a_isKept v_stones v_flat v_leastThick v_sights v_padMany v_acts v_pulled v_skyPull v_skyWhose v_badAct v_badWhy v_keptAt v_isWriting v_thick)) (h : fX11_lives x1 x2 v_stones v_leastThick v_thick = some res) (H : Heap) (locs : List Loc) (hW : HW G A s (wX11_lives cI cZ a_this a_thick a_hollow a_damp a_fresh a_pulls a_fats a_deep a_fine a_pay a_hair a_sightPicture a_sightPull a_sightShows a_pad a_act a_where a_much a_kindMany a_had a_leaves a_mostPay a_canLast a_leastMissed a_kept a_isKept v_stones v_flat v_leastThick v_sights v_padMany v_acts v_pulled v_skyPull v_skyWhose v_badAct v_badWhy v_keptAt v_isWriting v_thick) H locs) (ls : Array Slot) (hl : lv_has ls 4 [(0, .ref a_this), (1, .int x1), (2, .int x2)]) : W p l e rX11_lives s m av below meth c H locs 0 0 Q (F0 m 0 ls []) := by
  have hx := C.1
  have hb := C.2.1
  unfold fX11_lives at h
  refine lv_aload_n hx hb dX11_lives_0 rfl (lv_at hl 0 rfl) ?_
  refine lv_iload_n hx hb dX11_lives_1 rfl (lv_at hl 1 rfl) ?_
  refine callVIr [0] C lk_RX11_118 (ctX11_isStone a_this a_thick a_hollow a_damp a_fresh a_pulls a_fats a_deep a_fine a_pay a_hair a_sightPicture a_sightPull a_sightShows a_pad a_act a_where a_much a_kindMany a_had a_leaves a_mostPay a_canLast a_leastMissed a_kept a_isKept x1 v_stones v_flat v_leastThick v_sights v_padMany v_acts v_pulled v_skyPull v_skyWhose v_badAct v_badWhy v_keptAt v_isWriting rfl) hW hl 11 rfl rfl rfl rfl rfl ⟨rfl, rfl⟩ ⟨(Nat.le_of_ble_eq_true rfl), (Nat.le_of_ble_eq_true rfl)⟩ ⟨Nat.zero_le _, Nat.zero_le _⟩ rfl (Nat.le_of_ble_eq_true rfl) dX11_lives_2 (fun H locs hW => ?_)
  refine lv_if_ne (tgt := 10) hx hb dX11_lives_5 (by decide) (fun c_1 => ?_) (fun c_1 => ?_)
  · have h := in_h c_1 h
    refine lv_iload_n hx hb dX11_lives_10 rfl (lv_at hl 2 rfl) ?_
    refine lv_i2l hx hb dX11_lives_11 rfl ?_
    refine lv_lconst (v := (1 : Int64)) hx hb dX11_lives_12 (by decide) ?_
    refine lv_ldc2 (v := (99 : Int64)) hx hb C.2.2.2.2.2.1 (C.2.2.2.2.1 _ wd_899) dX11_lives_13 ?_
    refine callSI0 C lk_RX11_95 (ctX11_in (Int32.toInt64 x2) (1 : Int64) (99 : Int64) rfl) hW hl rfl ⟨rfl, rfl⟩ ⟨(Nat.le_of_ble_eq_true rfl), (Nat.le_of_ble_eq_true rfl)⟩ ⟨Nat.zero_le _, Nat.zero_le _⟩ rfl (Nat.le_of_ble_eq_true rfl) dX11_lives_16 (fun H locs hW => ?_)
    refine lv_if_ne (tgt := 25) hx hb dX11_lives_19 (by decide) (fun c_2 => ?_) (fun c_2 => ?_)
    · have h := in_h c_2 h
      refine lv_aload_n hx hb dX11_lives_25 rfl (lv_at hl 0 rfl) ?_
      refine getW C fl_RX11_7 hW 0 rfl rfl dX11_lives_26 ?_
      refine lv_iload_n hx hb dX11_lives_29 rfl (lv_at hl 1 rfl) ?_
      obtain ⟨g_3, h⟩ := gd_h h
      refine ialdW C hW 1 rfl g_3 dX11_lives_30 ?_
      refine lv_aload_n hx hb dX11_lives_31 rfl (lv_at hl 0 rfl) ?_
      refine getW C fl_RX11_90 hW 0 rfl rfl dX11_lives_32 ?_
      refine lv_isub hx hb dX11_lives_35 ?_
      refine lv_topi (fun v_4 ev_4 => ?_)
      have h := lt_h ev_4 h
      refine lv_istore_n (lv' := [(3, .int v_4), (0, .ref a_this), (1, .int x1), (2, .int x2)]) hx hb dX11_lives_36 rfl hl (Nat.le_of_ble_eq_true rfl) rfl (fun ls hl => ?_)
      refine lv_iload_n hx hb dX11_lives_37 rfl (lv_at hl 0 rfl) ?_
      refine lv_if_ge (tgt := 45) hx hb dX11_lives_38 (by decide) (fun c_5 => ?_) (fun c_5 => ?_)
      · have h := ip_h c_5 h
        refine lv_iload_n hx hb dX11_lives_45 rfl (lv_at hl 0 rfl) ?_
        refine lv_iconst (v := (3 : Int32)) hx hb dX11_lives_46 (by decide) ?_
        refine lv_iload_n hx hb dX11_lives_47 rfl (lv_at hl 3 rfl) ?_
        refine lv_imul hx hb dX11_lives_48 ?_
        obtain ⟨g_6, h⟩ := gd_h h
        refine lv_idiv hx hb dX11_lives_49 g_6 ?_
        obtain rfl := Option.some.inj h
        exact hQ rfl _ _ _ _ dX11_lives_50 hW
      · have h := in_h c_5 h
        refine lv_iconst (v := (0 : Int32)) hx hb dX11_lives_41 (by decide) ?_
        refine lv_goto (tgt := 50) hx hb dX11_lives_42 (by decide) ?_
        obtain rfl := Option.some.inj h
        exact hQ rfl _ _ _ _ dX11_lives_50 hW
    · have h := ip_h c_2 h
      refine lv_bipush (v := (-2 : Int32)) hx hb dX11_lives_22 (by decide) ?_
      obtain rfl := Option.some.inj h
      exact hQ rfl _ _ _ _ dX11_lives_24 hW
  · have h := ip_h c_1 h
    refine lv_iconst (v := (-1 : Int32)) hx hb dX11_lives_8 (by decide) ?_
    obtain rfl := Option.some.inj h
    exact hQ rfl _ _ _ _ dX11_lives_9 hW
theorem ctX11_lives {l : Launch} {G : va_G} {cI cZ cO : ClassId} (a_this a_thick a_hollow a_damp a_fresh a_pulls a_fats a_deep a_fine a_pay a_hair a_sightPicture a_sightPull a_sightShows a_pad a_act a_where a_much a_kindMany a_had a_leaves a_mostPay a_canLast a_leastMissed a_kept a_isKept : Nat) (x1 : Int32) (x2 : Int32) (v_stones : Int32) (v_flat : Int32) (v_leastThick : Int32) (v_sights : Int32) (v_padMany : Int32) (v_acts : Int32) (v_pulled : Int32) (v_skyPull : Int32) (v_skyWhose : Int32) (v_badAct : Int32) (v_badWhy : Int32) (v_keptAt : Int32) (v_isWriting : Int32) (v_thick : Nat → Int32) {res : Int32} (h : fX11_lives x1 x2 v_stones v_leastThick v_thick = some res) : MI l G cI cZ cO yX11_lives cX11_lives 4 .int rX11_lives [.ref a_this, .int x1, .int x2] (wX11_lives cI cZ a_this a_thick a_hollow a_damp a_fresh a_pulls a_fats a_deep a_fine a_pay a_hair a_sightPicture a_sightPull a_sightShows a_pad a_act a_where a_much a_kindMany a_had a_leaves a_mostPay a_canLast a_leastMissed a_kept a_isKept v_stones v_flat v_leastThick v_sights v_padMany v_acts v_pulled v_skyPull v_skyWhose v_badAct v_badWhy v_keptAt v_isWriting v_thick) (res) (wX11_lives cI cZ a_this a_thick a_hollow a_damp a_fresh a_pulls a_fats a_deep a_fine a_pay a_hair a_sightPicture a_sightPull a_sightShows a_pad a_act a_where a_much a_kindMany a_had a_leaves a_mostPay a_canLast a_leastMissed a_kept a_isKept v_stones v_flat v_leastThick v_sights v_padMany v_acts v_pulled v_skyPull v_skyWhose v_badAct v_badWhy v_keptAt v_isWriting v_thick) := by
  refine MI.of (by decide) (Nat.le_of_ble_eq_true rfl) ?_
  intro p e s m below meth c A Q C hW hQ ls hl
  exact uX11_lives_0 x1 x2 v_stones v_flat v_leastThick v_sights v_padMany v_acts v_pulled v_skyPull v_skyWhose v_badAct v_badWhy v_keptAt v_isWriting v_thick C hQ h _ _ hW _ hl
abbrev wX11_withOn (cI cZ : ClassId) (a_this a_thick a_hollow a_damp a_fresh a_pulls a_fats a_deep a_fine a_pay a_hair a_sightPicture a_sightPull a_sightShows a_pad a_act a_where a_much a_kindMany a_had a_leaves a_mostPay a_canLast a_leastMissed a_kept a_isKept : Nat) (v_stones : Int32) (v_flat : Int32) (v_leastThick : Int32) (v_sights : Int32) (v_padMany : Int32) (v_acts : Int32) (v_pulled : Int32) (v_skyPull : Int32) (v_skyWhose : Int32) (v_badAct : Int32) (v_badWhy : Int32) (v_keptAt : Int32) (v_isWriting : Int32) (v_pay : Nat → Int32) (v_mostPay : Nat → Int32) (v_canLast : Nat → Int32) : va_W := [(a_this, .inr (11, [.int v_stones, .int v_flat, .int v_leastThick, .ref a_thick, .ref a_hollow, .ref a_damp, .ref a_fresh, .ref a_pulls, .ref a_fats, .ref a_deep, .ref a_fine, .ref a_pay, .ref a_hair, .ref a_sightPicture, .ref a_sightPull, .ref a_sightShows, .int v_sights, .ref a_pad, .int v_padMany, .ref a_act, .ref a_where, .ref a_much, .int v_acts, .int v_pulled, .ref a_kindMany, .int v_skyPull, .int v_skyWhose, .ref a_had, .ref a_leaves, .int v_badAct, .int v_badWhy, .ref a_mostPay, .ref a_canLast, .ref a_leastMissed, .ref a_kept, .ref a_isKept, .int v_keptAt, .int v_isWriting])), (a_pay, .inl (cI, 8, .inl v_pay)), (a_mostPay, .inl (cI, 288, .inl v_mostPay)), (a_canLast, .inl (cZ, 40, .inl v_canLast))]
abbrev rX11_withOn : Room := { frames := 1, cells := 0, slots := 0, locals := 21 }
set_option maxRecDepth 20000 in
theorem uX11_withOn_26 {a_this a_thick a_hollow a_damp a_fresh a_pulls a_fats a_deep a_fine a_pay a_hair a_sightPicture a_sightPull a_sightShows a_pad a_act a_where a_much a_kindMany a_had a_leaves a_mostPay a_canLast a_leastMissed a_kept a_isKept : Nat} (x1 : Int32) (x2 : Int32) (x3 : Int32) (s0 : Int32) (v_stones : Int32) (v_flat : Int32) (v_leastThick : Int32) (v_sights : Int32) (v_padMany : Int32) (v_acts : Int32) (v_pulled : Int32) (v_skyPull : Int32) (v_skyWhose : Int32) (v_badAct : Int32) (v_badWhy : Int32) (v_keptAt : Int32) (v_isWriting : Int32) (v_pay : Nat → Int32) (v_mostPay : Nat → Int32) (v_canLast : Nat → Int32) {res : Int32} (C : Cx p s m av meth c RX11 cX11_withOn 5 (some .int) G cI cZ cO A) (hQ : RI p l e rX11_withOn s m av below meth c G A cX11_withOn .int Q (res) (wX11_withOn cI cZ a_this a_thick a_hollow a_damp a_fresh a_pulls a_fats a_deep a_fine a_pay a_hair a_sightPicture a_sightPull a_sightShows a_pad a_act a_where a_much a_kindMany a_had a_leaves a_mostPay a_canLast a_leastMissed a_kept a_isKept v_stones v_flat v_leastThick v_sights v_padMany v_acts v_pulled v_skyPull v_skyWhose v_badAct v_badWhy v_keptAt v_isWriting v_pay v_mostPay v_canLast)) (h : fX11_withOn_26 x1 x2 x3 s0 v_pay v_mostPay = some res) (H : Heap) (locs : List Loc) (hW : HW G A s (wX11_withOn cI cZ a_this a_thick a_hollow a_damp a_fresh a_pulls a_fats a_deep a_fine a_pay a_hair a_sightPicture a_sightPull a_sightShows a_pad a_act a_where a_much a_kindMany a_had a_leaves a_mostPay a_canLast a_leastMissed a_kept a_isKept v_stones v_flat v_leastThick v_sights v_padMany v_acts v_pulled v_skyPull v_skyWhose v_badAct v_badWhy v_keptAt v_isWriting v_pay v_mostPay v_canLast) H locs) (ls : Array Slot) (hl : lv_has ls 5 [(0, .ref a_this), (1, .int x1), (2, .int x2), (3, .int x3)]) : W p l e rX11_withOn s m av below meth c H locs 0 0 Q (F0 m 26 ls [.int s0]) := by
  have hx := C.1
  have hb := C.2.1
  unfold fX11_withOn_26 at h
  refine lv_istore (lv' := [(4, .int s0), (0, .ref a_this), (1, .int x1), (2, .int x2), (3, .int x3)]) hx hb dX11_withOn_26 hl (Nat.le_of_ble_eq_true rfl) rfl (fun ls hl => ?_)
  refine lv_iload hx hb dX11_withOn_28 (lv_at hl 0 rfl) ?_
  refine lv_if_eq (tgt := 60) hx hb dX11_withOn_30 (by decide) (fun c_2 => ?_) (fun c_2 => ?_)
  · have h := ip_h c_2 h
    refine lv_iconst (v := (-1 : Int32)) hx hb dX11_withOn_60 (by decide) ?_
    obtain rfl := Option.some.inj h
    exact hQ rfl _ _ _ _ dX11_withOn_61 hW
  · have h := in_h c_2 h
    refine lv_aload_n hx hb dX11_withOn_33 rfl (lv_at hl 1 rfl) ?_
    refine getW C fl_RX11_34 hW 0 rfl rfl dX11_withOn_34 ?_
    refine lv_iload_n hx hb dX11_withOn_37 rfl (lv_at hl 2 rfl) ?_
    obtain ⟨g_3, h⟩ := gd_h h
    refine ialdW C hW 1 rfl g_3 dX11_withOn_38 ?_
    refine lv_aload_n hx hb dX11_withOn_39 rfl (lv_at hl 1 rfl) ?_
    refine getW C fl_RX11_70 hW 0 rfl rfl dX11_withOn_40 ?_
    refine lv_bipush (v := (32 : Int32)) hx hb dX11_withOn_43 (by decide) ?_
    refine lv_iload_n hx hb dX11_withOn_45 rfl (lv_at hl 2 rfl) ?_
    refine lv_iconst (v := (1 : Int32)) hx hb dX11_withOn_46 (by decide) ?_
    refine lv_iadd hx hb dX11_withOn_47 ?_
    refine lv_imul hx hb dX11_withOn_48 ?_
    refine lv_iload_n hx hb dX11_withOn_49 rfl (lv_at hl 3 rfl) ?_
    refine lv_iconst (v := (1 : Int32)) hx hb dX11_withOn_50 (by decide) ?_
    refine lv_iload_n hx hb dX11_withOn_51 rfl (lv_at hl 4 rfl) ?_
    refine lv_ishl hx hb dX11_withOn_52 ?_
    refine lv_ior hx hb dX11_withOn_53 ?_
    refine lv_iadd hx hb dX11_withOn_54 ?_
    obtain ⟨g_4, h⟩ := gd_h h
    refine ialdW C hW 2 rfl g_4 dX11_withOn_55 ?_
    refine lv_iadd hx hb dX11_withOn_56 ?_
    refine lv_goto (tgt := 61) hx hb dX11_withOn_57 (by decide) ?_
    obtain rfl := Option.some.inj h
    exact hQ rfl _ _ _ _ dX11_withOn_61 hW
set_option maxRecDepth 20000 in
theorem uX11_withOn_0 {a_this a_thick a_hollow a_damp a_fresh a_pulls a_fats a_deep a_fine a_pay a_hair a_sightPicture a_sightPull a_sightShows a_pad a_act a_where a_much a_kindMany a_had a_leaves a_mostPay a_canLast a_leastMissed a_kept a_isKept : Nat} (x1 : Int32) (x2 : Int32) (x3 : Int32) (v_stones : Int32) (v_flat : Int32) (v_leastThick : Int32) (v_sights : Int32) (v_padMany : Int32) (v_acts : Int32) (v_pulled : Int32) (v_skyPull : Int32) (v_skyWhose : Int32) (v_badAct : Int32) (v_badWhy : Int32) (v_keptAt : Int32) (v_isWriting : Int32) (v_pay : Nat → Int32) (v_mostPay : Nat → Int32) (v_canLast : Nat → Int32) {res : Int32} (C : Cx p s m av meth c RX11 cX11_withOn 5 (some .int) G cI cZ cO A) (hQ : RI p l e rX11_withOn s m av below meth c G A cX11_withOn .int Q (res) (wX11_withOn cI cZ a_this a_thick a_hollow a_damp a_fresh a_pulls a_fats a_deep a_fine a_pay a_hair a_sightPicture a_sightPull a_sightShows a_pad a_act a_where a_much a_kindMany a_had a_leaves a_mostPay a_canLast a_leastMissed a_kept a_isKept v_stones v_flat v_leastThick v_sights v_padMany v_acts v_pulled v_skyPull v_skyWhose v_badAct v_badWhy v_keptAt v_isWriting v_pay v_mostPay v_canLast)) (h : fX11_withOn x1 x2 x3 v_pay v_mostPay v_canLast = some res) (H : Heap) (locs : List Loc) (hW : HW G A s (wX11_withOn cI cZ a_this a_thick a_hollow a_damp a_fresh a_pulls a_fats a_deep a_fine a_pay a_hair a_sightPicture a_sightPull a_sightShows a_pad a_act a_where a_much a_kindMany a_had a_leaves a_mostPay a_canLast a_leastMissed a_kept a_isKept v_stones v_flat v_leastThick v_sights v_padMany v_acts v_pulled v_skyPull v_skyWhose v_badAct v_badWhy v_keptAt v_isWriting v_pay v_mostPay v_canLast) H locs) (ls : Array Slot) (hl : lv_has ls 5 [(0, .ref a_this), (1, .int x1), (2, .int x2), (3, .int x3)]) : W p l e rX11_withOn s m av below meth c H locs 0 0 Q (F0 m 0 ls []) := by
  have hx := C.1
  have hb := C.2.1
  unfold fX11_withOn at h
  refine lv_iload_n hx hb dX11_withOn_0 rfl (lv_at hl 2 rfl) ?_
  refine lv_iload_n hx hb dX11_withOn_1 rfl (lv_at hl 3 rfl) ?_
  refine lv_ishr hx hb dX11_withOn_2 ?_
  refine lv_iconst (v := (1 : Int32)) hx hb dX11_withOn_3 (by decide) ?_
  refine lv_iand hx hb dX11_withOn_4 ?_
  refine lv_if_ne (tgt := 25) hx hb dX11_withOn_5 (by decide) (fun c_1 => ?_) (fun c_1 => ?_)
  · have h := in_h c_1 h
    refine lv_iconst (v := (0 : Int32)) hx hb dX11_withOn_25 (by decide) ?_
    exact uX11_withOn_26 x1 x2 x3 (0 : Int32) v_stones v_flat v_leastThick v_sights v_padMany v_acts v_pulled v_skyPull v_skyWhose v_badAct v_badWhy v_keptAt v_isWriting v_pay v_mostPay v_canLast C hQ h _ _ hW _ (lv_sub hl [0, 1, 2, 3] rfl)
  · have h := ip_h c_1 h
    refine lv_aload_n hx hb dX11_withOn_8 rfl (lv_at hl 0 rfl) ?_
    refine getW C fl_RX11_73 hW 0 rfl rfl dX11_withOn_9 ?_
    refine lv_iload_n hx hb dX11_withOn_12 rfl (lv_at hl 3 rfl) ?_
    refine lv_iload_n hx hb dX11_withOn_13 rfl (lv_at hl 1 rfl) ?_
    refine callSI0 C lk_RX11_110 (ctX11_at x3 x1 rfl) hW hl rfl ⟨rfl, rfl⟩ ⟨(Nat.le_of_ble_eq_true rfl), (Nat.le_of_ble_eq_true rfl)⟩ ⟨Nat.zero_le _, Nat.zero_le _⟩ rfl (Nat.le_of_ble_eq_true rfl) dX11_withOn_14 (fun H locs hW => ?_)
    obtain ⟨g_5, h⟩ := gd_h h
    refine zaldW C hW 3 rfl g_5 dX11_withOn_17 ?_
    refine lv_if_eq (tgt := 25) hx hb dX11_withOn_18 (by decide) (fun c_6 => ?_) (fun c_6 => ?_)
    · have h := ip_h c_6 h
      refine lv_iconst (v := (0 : Int32)) hx hb dX11_withOn_25 (by decide) ?_
      exact uX11_withOn_26 x1 x2 x3 (0 : Int32) v_stones v_flat v_leastThick v_sights v_padMany v_acts v_pulled v_skyPull v_skyWhose v_badAct v_badWhy v_keptAt v_isWriting v_pay v_mostPay v_canLast C hQ h _ _ hW _ (lv_sub hl [0, 1, 2, 3] rfl)
    · have h := in_h c_6 h
      refine lv_iconst (v := (1 : Int32)) hx hb dX11_withOn_21 (by decide) ?_
      refine lv_goto (tgt := 26) hx hb dX11_withOn_22 (by decide) ?_
      exact uX11_withOn_26 x1 x2 x3 (1 : Int32) v_stones v_flat v_leastThick v_sights v_padMany v_acts v_pulled v_skyPull v_skyWhose v_badAct v_badWhy v_keptAt v_isWriting v_pay v_mostPay v_canLast C hQ h _ _ hW _ (lv_sub hl [0, 1, 2, 3] rfl)
theorem ctX11_withOn {l : Launch} {G : va_G} {cI cZ cO : ClassId} (a_this a_thick a_hollow a_damp a_fresh a_pulls a_fats a_deep a_fine a_pay a_hair a_sightPicture a_sightPull a_sightShows a_pad a_act a_where a_much a_kindMany a_had a_leaves a_mostPay a_canLast a_leastMissed a_kept a_isKept : Nat) (x1 : Int32) (x2 : Int32) (x3 : Int32) (v_stones : Int32) (v_flat : Int32) (v_leastThick : Int32) (v_sights : Int32) (v_padMany : Int32) (v_acts : Int32) (v_pulled : Int32) (v_skyPull : Int32) (v_skyWhose : Int32) (v_badAct : Int32) (v_badWhy : Int32) (v_keptAt : Int32) (v_isWriting : Int32) (v_pay : Nat → Int32) (v_mostPay : Nat → Int32) (v_canLast : Nat → Int32) {res : Int32} (h : fX11_withOn x1 x2 x3 v_pay v_mostPay v_canLast = some res) : MI l G cI cZ cO yX11_withOn cX11_withOn 5 .int rX11_withOn [.ref a_this, .int x1, .int x2, .int x3] (wX11_withOn cI cZ a_this a_thick a_hollow a_damp a_fresh a_pulls a_fats a_deep a_fine a_pay a_hair a_sightPicture a_sightPull a_sightShows a_pad a_act a_where a_much a_kindMany a_had a_leaves a_mostPay a_canLast a_leastMissed a_kept a_isKept v_stones v_flat v_leastThick v_sights v_padMany v_acts v_pulled v_skyPull v_skyWhose v_badAct v_badWhy v_keptAt v_isWriting v_pay v_mostPay v_canLast) (res) (wX11_withOn cI cZ a_this a_thick a_hollow a_damp a_fresh a_pulls a_fats a_deep a_fine a_pay a_hair a_sightPicture a_sightPull a_sightShows a_pad a_act a_where a_much a_kindMany a_had a_leaves a_mostPay a_canLast a_leastMissed a_kept a_isKept v_stones v_flat v_leastThick v_sights v_padMany v_acts v_pulled v_skyPull v_skyWhose v_badAct v_badWhy v_keptAt v_isWriting v_pay v_mostPay v_canLast) := by
  refine MI.of (by decide) (Nat.le_of_ble_eq_true rfl) ?_
  intro p e s m below meth c A Q C hW hQ ls hl
  exact uX11_withOn_0 x1 x2 x3 v_stones v_flat v_leastThick v_sights v_padMany v_acts v_pulled v_skyPull v_skyWhose v_badAct v_badWhy v_keptAt v_isWriting v_pay v_mostPay v_canLast C hQ h _ _ hW _ hl
abbrev wX11_bestFrom (cI cZ : ClassId) (a_this a_thick a_hollow a_damp a_fresh a_pulls a_fats a_deep a_fine a_pay a_hair a_sightPicture a_sightPull a_sightShows a_pad a_act a_where a_much a_kindMany a_had a_leaves a_mostPay a_canLast a_leastMissed a_kept a_isKept : Nat) (v_stones : Int32) (v_flat : Int32) (v_leastThick : Int32) (v_sights : Int32) (v_padMany : Int32) (v_acts : Int32) (v_pulled : Int32) (v_skyPull : Int32) (v_skyWhose : Int32) (v_badAct : Int32) (v_badWhy : Int32) (v_keptAt : Int32) (v_isWriting : Int32) (v_mostPay : Nat → Int32) (v_pay : Nat → Int32) (v_canLast : Nat → Int32) : va_W := [(a_this, .inr (11, [.int v_stones, .int v_flat, .int v_leastThick, .ref a_thick, .ref a_hollow, .ref a_damp, .ref a_fresh, .ref a_pulls, .ref a_fats, .ref a_deep, .ref a_fine, .ref a_pay, .ref a_hair, .ref a_sightPicture, .ref a_sightPull, .ref a_sightShows, .int v_sights, .ref a_pad, .int v_padMany, .ref a_act, .ref a_where, .ref a_much, .int v_acts, .int v_pulled, .ref a_kindMany, .int v_skyPull, .int v_skyWhose, .ref a_had, .ref a_leaves, .int v_badAct, .int v_badWhy, .ref a_mostPay, .ref a_canLast, .ref a_leastMissed, .ref a_kept, .ref a_isKept, .int v_keptAt, .int v_isWriting])), (a_mostPay, .inl (cI, 288, .inl v_mostPay)), (a_pay, .inl (cI, 8, .inl v_pay)), (a_canLast, .inl (cZ, 40, .inl v_canLast))]
abbrev rX11_bestFrom : Room := { frames := 2, cells := 0, slots := 0, locals := 45 }
set_option maxRecDepth 20000 in
theorem uX11_bestFrom_17 {a_this a_thick a_hollow a_damp a_fresh a_pulls a_fats a_deep a_fine a_pay a_hair a_sightPicture a_sightPull a_sightShows a_pad a_act a_where a_much a_kindMany a_had a_leaves a_mostPay a_canLast a_leastMissed a_kept a_isKept : Nat} (x1 : Int32) (x2 : Int32) (x3 : Int32) (x4 : Int32) (v_stones : Int32) (v_flat : Int32) (v_leastThick : Int32) (v_sights : Int32) (v_padMany : Int32) (v_acts : Int32) (v_pulled : Int32) (v_skyPull : Int32) (v_skyWhose : Int32) (v_badAct : Int32) (v_badWhy : Int32) (v_keptAt : Int32) (v_isWriting : Int32) (v_mostPay : Nat → Int32) (v_pay : Nat → Int32) (v_canLast : Nat → Int32) {res : Int32} (C : Cx p s m av meth c RX11 cX11_bestFrom 6 (some .int) G cI cZ cO A) (hQ : RI p l e rX11_bestFrom s m av below meth c G A cX11_bestFrom .int Q (res) (wX11_bestFrom cI cZ a_this a_thick a_hollow a_damp a_fresh a_pulls a_fats a_deep a_fine a_pay a_hair a_sightPicture a_sightPull a_sightShows a_pad a_act a_where a_much a_kindMany a_had a_leaves a_mostPay a_canLast a_leastMissed a_kept a_isKept v_stones v_flat v_leastThick v_sights v_padMany v_acts v_pulled v_skyPull v_skyWhose v_badAct v_badWhy v_keptAt v_isWriting v_mostPay v_pay v_canLast)) {k17 : (Int32) → (Int32) → Option (Int32)} (hk17 : ∀ (x3 : Int32) (x4 : Int32), k17 x3 x4 = some res → ∀ (H : Heap) (locs : List Loc), HW G A s (wX11_bestFrom cI cZ a_this a_thick a_hollow a_damp a_fresh a_pulls a_fats a_deep a_fine a_pay a_hair a_sightPicture a_sightPull a_sightShows a_pad a_act a_where a_much a_kindMany a_had a_leaves a_mostPay a_canLast a_leastMissed a_kept a_isKept v_stones v_flat v_leastThick v_sights v_padMany v_acts v_pulled v_skyPull v_skyWhose v_badAct v_badWhy v_keptAt v_isWriting v_mostPay v_pay v_canLast) H locs → ∀ ls : Array Slot, lv_has ls 6 [(0, .ref a_this), (1, .int x1), (2, .int x2), (3, .int x3), (4, .int x4)] → W p l e rX11_bestFrom s m av below meth c H locs 0 0 Q (F0 m 17 ls [])) (h : FX11_bestFrom_17 x1 x2 v_mostPay v_pay v_canLast k17 x3 x4 = some res) (H : Heap) (locs : List Loc) (hW : HW G A s (wX11_bestFrom cI cZ a_this a_thick a_hollow a_damp a_fresh a_pulls a_fats a_deep a_fine a_pay a_hair a_sightPicture a_sightPull a_sightShows a_pad a_act a_where a_much a_kindMany a_had a_leaves a_mostPay a_canLast a_leastMissed a_kept a_isKept v_stones v_flat v_leastThick v_sights v_padMany v_acts v_pulled v_skyPull v_skyWhose v_badAct v_badWhy v_keptAt v_isWriting v_mostPay v_pay v_canLast) H locs) (ls : Array Slot) (hl : lv_has ls 6 [(0, .ref a_this), (1, .int x1), (2, .int x2), (3, .int x3), (4, .int x4)]) : W p l e rX11_bestFrom s m av below meth c H locs 0 0 Q (F0 m 17 ls []) := by
  have hx := C.1
  have hb := C.2.1
  unfold FX11_bestFrom_17 at h
  refine lv_iload hx hb dX11_bestFrom_17 (lv_at hl 4 rfl) ?_
  refine lv_iconst (v := (5 : Int32)) hx hb dX11_bestFrom_19 (by decide) ?_
  refine lv_icmp_ge (tgt := 52) hx hb dX11_bestFrom_20 (by decide) (fun c_3 => ?_) (fun c_3 => ?_)
  · have h := ip_h c_3 h
    refine lv_iload_n hx hb dX11_bestFrom_52 rfl (lv_at hl 3 rfl) ?_
    obtain rfl := Option.some.inj h
    exact hQ rfl _ _ _ _ dX11_bestFrom_53 hW
  · have h := in_h c_3 h
    refine lv_aload_n hx hb dX11_bestFrom_23 rfl (lv_at hl 0 rfl) ?_
    refine lv_iload_n hx hb dX11_bestFrom_24 rfl (lv_at hl 1 rfl) ?_
    refine lv_iload_n hx hb dX11_bestFrom_25 rfl (lv_at hl 2 rfl) ?_
    refine lv_iload hx hb dX11_bestFrom_26 (lv_at hl 4 rfl) ?_
    obtain ⟨v_4, hv_4, h⟩ := bd_h h
    refine callVIr [0, 2, 1, 3] C lk_RX11_237 (ctX11_withOn a_this a_thick a_hollow a_damp a_fresh a_pulls a_fats a_deep a_fine a_pay a_hair a_sightPicture a_sightPull a_sightShows a_pad a_act a_where a_much a_kindMany a_had a_leaves a_mostPay a_canLast a_leastMissed a_kept a_isKept x1 x2 x4 v_stones v_flat v_leastThick v_sights v_padMany v_acts v_pulled v_skyPull v_skyWhose v_badAct v_badWhy v_keptAt v_isWriting v_pay v_mostPay v_canLast hv_4) hW hl 11 rfl rfl rfl rfl rfl ⟨rfl, rfl⟩ ⟨(Nat.le_of_ble_eq_true rfl), (Nat.le_of_ble_eq_true rfl)⟩ ⟨Nat.zero_le _, Nat.zero_le _⟩ rfl (Nat.le_of_ble_eq_true rfl) dX11_bestFrom_28 (fun H locs hW => ?_)
    refine lv_istore (lv' := [(5, .int v_4), (0, .ref a_this), (1, .int x1), (2, .int x2), (3, .int x3), (4, .int x4)]) hx hb dX11_bestFrom_31 hl (Nat.le_of_ble_eq_true rfl) rfl (fun ls hl => ?_)
    refine lv_iload hx hb dX11_bestFrom_33 (lv_at hl 0 rfl) ?_
    refine lv_iload_n hx hb dX11_bestFrom_35 rfl (lv_at hl 4 rfl) ?_
    refine lv_icmp_le (tgt := 44) hx hb dX11_bestFrom_36 (by decide) (fun c_5 => ?_) (fun c_5 => ?_)
    · have h := ip_h c_5 h
      refine lv_iload_n hx hb dX11_bestFrom_44 rfl (lv_at hl 4 rfl) ?_
      refine lv_istore_n (lv' := [(3, .int x3), (5, .int v_4), (0, .ref a_this), (1, .int x1), (2, .int x2), (4, .int x4)]) hx hb dX11_bestFrom_45 rfl hl (Nat.le_of_ble_eq_true rfl) rfl (fun ls hl => ?_)
      obtain ⟨v_6, ev_6⟩ : ∃ y : Int32, y = x4 + (1 : Int32) := ⟨_, rfl⟩
      have h := lt_h ev_6 h
      refine lv_iinc (v := v_6) (lv' := [(4, .int v_6), (3, .int x3), (5, .int v_4), (0, .ref a_this), (1, .int x1), (2, .int x2)]) hx hb dX11_bestFrom_46 hl (k := 5) rfl (by rw [ev_6]; rfl) (Nat.le_of_ble_eq_true rfl) rfl (fun ls hl => ?_)
      refine lv_goto (tgt := 17) hx hb dX11_bestFrom_49 (by decide) ?_
      exact hk17 x3 v_6 h _ _ hW _ (lv_sub hl [3, 4, 5, 1, 0] rfl)
    · have h := in_h c_5 h
      refine lv_iload hx hb dX11_bestFrom_39 (lv_at hl 0 rfl) ?_
      refine lv_goto (tgt := 45) hx hb dX11_bestFrom_41 (by decide) ?_
      refine lv_istore_n (lv' := [(3, .int v_4), (5, .int v_4), (0, .ref a_this), (1, .int x1), (2, .int x2), (4, .int x4)]) hx hb dX11_bestFrom_45 rfl hl (Nat.le_of_ble_eq_true rfl) rfl (fun ls hl => ?_)
      obtain ⟨v_7, ev_7⟩ : ∃ y : Int32, y = x4 + (1 : Int32) := ⟨_, rfl⟩
      have h := lt_h ev_7 h
      refine lv_iinc (v := v_7) (lv' := [(4, .int v_7), (3, .int v_4), (5, .int v_4), (0, .ref a_this), (1, .int x1), (2, .int x2)]) hx hb dX11_bestFrom_46 hl (k := 5) rfl (by rw [ev_7]; rfl) (Nat.le_of_ble_eq_true rfl) rfl (fun ls hl => ?_)
      refine lv_goto (tgt := 17) hx hb dX11_bestFrom_49 (by decide) ?_
      exact hk17 v_4 v_7 h _ _ hW _ (lv_sub hl [3, 4, 5, 1, 0] rfl)
theorem wX11_bestFrom_17_ {a_this a_thick a_hollow a_damp a_fresh a_pulls a_fats a_deep a_fine a_pay a_hair a_sightPicture a_sightPull a_sightShows a_pad a_act a_where a_much a_kindMany a_had a_leaves a_mostPay a_canLast a_leastMissed a_kept a_isKept : Nat} (x1 : Int32) (x2 : Int32) (v_stones : Int32) (v_flat : Int32) (v_leastThick : Int32) (v_sights : Int32) (v_padMany : Int32) (v_acts : Int32) (v_pulled : Int32) (v_skyPull : Int32) (v_skyWhose : Int32) (v_badAct : Int32) (v_badWhy : Int32) (v_keptAt : Int32) (v_isWriting : Int32) (v_mostPay : Nat → Int32) (v_pay : Nat → Int32) (v_canLast : Nat → Int32) {res : Int32} (C : Cx p s m av meth c RX11 cX11_bestFrom 6 (some .int) G cI cZ cO A) (hQ : RI p l e rX11_bestFrom s m av below meth c G A cX11_bestFrom .int Q (res) (wX11_bestFrom cI cZ a_this a_thick a_hollow a_damp a_fresh a_pulls a_fats a_deep a_fine a_pay a_hair a_sightPicture a_sightPull a_sightShows a_pad a_act a_where a_much a_kindMany a_had a_leaves a_mostPay a_canLast a_leastMissed a_kept a_isKept v_stones v_flat v_leastThick v_sights v_padMany v_acts v_pulled v_skyPull v_skyWhose v_badAct v_badWhy v_keptAt v_isWriting v_mostPay v_pay v_canLast)) : ∀ (n : Nat) (x3 : Int32) (x4 : Int32), LX11_bestFrom_17 x1 x2 v_mostPay v_pay v_canLast n x3 x4 = some res → ∀ (H : Heap) (locs : List Loc), HW G A s (wX11_bestFrom cI cZ a_this a_thick a_hollow a_damp a_fresh a_pulls a_fats a_deep a_fine a_pay a_hair a_sightPicture a_sightPull a_sightShows a_pad a_act a_where a_much a_kindMany a_had a_leaves a_mostPay a_canLast a_leastMissed a_kept a_isKept v_stones v_flat v_leastThick v_sights v_padMany v_acts v_pulled v_skyPull v_skyWhose v_badAct v_badWhy v_keptAt v_isWriting v_mostPay v_pay v_canLast) H locs → ∀ ls : Array Slot, lv_has ls 6 [(0, .ref a_this), (1, .int x1), (2, .int x2), (3, .int x3), (4, .int x4)] → W p l e rX11_bestFrom s m av below meth c H locs 0 0 Q (F0 m 17 ls []) := by
  intro n
  induction n with
  | zero => intro x3 x4 h; cases h
  | succ n ih =>
    intro x3 x4 h H locs hW ls hl
    exact uX11_bestFrom_17 x1 x2 x3 x4 v_stones v_flat v_leastThick v_sights v_padMany v_acts v_pulled v_skyPull v_skyWhose v_badAct v_badWhy v_keptAt v_isWriting v_mostPay v_pay v_canLast C hQ (k17 := LX11_bestFrom_17 x1 x2 v_mostPay v_pay v_canLast n) ih h H locs hW ls hl
set_option maxRecDepth 20000 in
theorem uX11_bestFrom_0 {a_this a_thick a_hollow a_damp a_fresh a_pulls a_fats a_deep a_fine a_pay a_hair a_sightPicture a_sightPull a_sightShows a_pad a_act a_where a_much a_kindMany a_had a_leaves a_mostPay a_canLast a_leastMissed a_kept a_isKept : Nat} (x1 : Int32) (x2 : Int32) (v_stones : Int32) (v_flat : Int32) (v_leastThick : Int32) (v_sights : Int32) (v_padMany : Int32) (v_acts : Int32) (v_pulled : Int32) (v_skyPull : Int32) (v_skyWhose : Int32) (v_badAct : Int32) (v_badWhy : Int32) (v_keptAt : Int32) (v_isWriting : Int32) (v_mostPay : Nat → Int32) (v_pay : Nat → Int32) (v_canLast : Nat → Int32) {res : Int32} (C : Cx p s m av meth c RX11 cX11_bestFrom 6 (some .int) G cI cZ cO A) (hQ : RI p l e rX11_bestFrom s m av below meth c G A cX11_bestFrom .int Q (res) (wX11_bestFrom cI cZ a_this a_thick a_hollow a_damp a_fresh a_pulls a_fats a_deep a_fine a_pay a_hair a_sightPicture a_sightPull a_sightShows a_pad a_act a_where a_much a_kindMany a_had a_leaves a_mostPay a_canLast a_leastMissed a_kept a_isKept v_stones v_flat v_leastThick v_sights v_padMany v_acts v_pulled v_skyPull v_skyWhose v_badAct v_badWhy v_keptAt v_isWriting v_mostPay v_pay v_canLast)) (h : fX11_bestFrom x1 x2 v_mostPay v_pay v_canLast = some res) (H : Heap) (locs : List Loc) (hW : HW G A s (wX11_bestFrom cI cZ a_this a_thick a_hollow a_damp a_fresh a_pulls a_fats a_deep a_fine a_pay a_hair a_sightPicture a_sightPull a_sightShows a_pad a_act a_where a_much a_kindMany a_had a_leaves a_mostPay a_canLast a_leastMissed a_kept a_isKept v_stones v_flat v_leastThick v_sights v_padMany v_acts v_pulled v_skyPull v_skyWhose v_badAct v_badWhy v_keptAt v_isWriting v_mostPay v_pay v_canLast) H locs) (ls : Array Slot) (hl : lv_has ls 6 [(0, .ref a_this), (1, .int x1), (2, .int x2)]) : W p l e rX11_bestFrom s m av below meth c H locs 0 0 Q (F0 m 0 ls []) := by
  have hx := C.1
  have hb := C.2.1
  unfold fX11_bestFrom at h
  refine lv_aload_n hx hb dX11_bestFrom_0 rfl (lv_at hl 0 rfl) ?_
  refine getW C fl_RX11_70 hW 0 rfl rfl dX11_bestFrom_1 ?_
  refine lv_bipush (v := (32 : Int32)) hx hb dX11_bestFrom_4 (by decide) ?_
  refine lv_iload_n hx hb dX11_bestFrom_6 rfl (lv_at hl 1 rfl) ?_
  refine lv_iconst (v := (1 : Int32)) hx hb dX11_bestFrom_7 (by decide) ?_
  refine lv_iadd hx hb dX11_bestFrom_8 ?_
  refine lv_imul hx hb dX11_bestFrom_9 ?_
  refine lv_iload_n hx hb dX11_bestFrom_10 rfl (lv_at hl 2 rfl) ?_
  refine lv_iadd hx hb dX11_bestFrom_11 ?_
  obtain ⟨g_1, h⟩ := gd_h h
  refine ialdW C hW 1 rfl g_1 dX11_bestFrom_12 ?_
  refine lv_topi (fun v_2 ev_2 => ?_)
  have h := lt_h ev_2 h
  refine lv_istore_n (lv' := [(3, .int v_2), (0, .ref a_this), (1, .int x1), (2, .int x2)]) hx hb dX11_bestFrom_13 rfl hl (Nat.le_of_ble_eq_true rfl) rfl (fun ls hl => ?_)
  refine lv_iconst (v := (0 : Int32)) hx hb dX11_bestFrom_14 (by decide) ?_
  refine lv_istore (lv' := [(4, .int (0 : Int32)), (3, .int v_2), (0, .ref a_this), (1, .int x1), (2, .int x2)]) hx hb dX11_bestFrom_15 hl (Nat.le_of_ble_eq_true rfl) rfl (fun ls hl => ?_)
  exact wX11_bestFrom_17_ x1 x2 v_stones v_flat v_leastThick v_sights v_padMany v_acts v_pulled v_skyPull v_skyWhose v_badAct v_badWhy v_keptAt v_isWriting v_mostPay v_pay v_canLast C hQ 2000 v_2 (0 : Int32) h _ _ hW _ (lv_sub hl [2, 3, 4, 1, 0] rfl)
theorem ctX11_bestFrom {l : Launch} {G : va_G} {cI cZ cO : ClassId} (a_this a_thick a_hollow a_damp a_fresh a_pulls a_fats a_deep a_fine a_pay a_hair a_sightPicture a_sightPull a_sightShows a_pad a_act a_where a_much a_kindMany a_had a_leaves a_mostPay a_canLast a_leastMissed a_kept a_isKept : Nat) (x1 : Int32) (x2 : Int32) (v_stones : Int32) (v_flat : Int32) (v_leastThick : Int32) (v_sights : Int32) (v_padMany : Int32) (v_acts : Int32) (v_pulled : Int32) (v_skyPull : Int32) (v_skyWhose : Int32) (v_badAct : Int32) (v_badWhy : Int32) (v_keptAt : Int32) (v_isWriting : Int32) (v_mostPay : Nat → Int32) (v_pay : Nat → Int32) (v_canLast : Nat → Int32) {res : Int32} (h : fX11_bestFrom x1 x2 v_mostPay v_pay v_canLast = some res) : MI l G cI cZ cO yX11_bestFrom cX11_bestFrom 6 .int rX11_bestFrom [.ref a_this, .int x1, .int x2] (wX11_bestFrom cI cZ a_this a_thick a_hollow a_damp a_fresh a_pulls a_fats a_deep a_fine a_pay a_hair a_sightPicture a_sightPull a_sightShows a_pad a_act a_where a_much a_kindMany a_had a_leaves a_mostPay a_canLast a_leastMissed a_kept a_isKept v_stones v_flat v_leastThick v_sights v_padMany v_acts v_pulled v_skyPull v_skyWhose v_badAct v_badWhy v_keptAt v_isWriting v_mostPay v_pay v_canLast) (res) (wX11_bestFrom cI cZ a_this a_thick a_hollow a_damp a_fresh a_pulls a_fats a_deep a_fine a_pay a_hair a_sightPicture a_sightPull a_sightShows a_pad a_act a_where a_much a_kindMany a_had a_leaves a_mostPay a_canLast a_leastMissed a_kept a_isKept v_stones v_flat v_leastThick v_sights v_padMany v_acts v_pulled v_skyPull v_skyWhose v_badAct v_badWhy v_keptAt v_isWriting v_mostPay v_pay v_canLast) := by
  refine MI.of (by decide) (Nat.le_of_ble_eq_true rfl) ?_
  intro p e s m below meth c A Q C hW hQ ls hl
  exact uX11_bestFrom_0 x1 x2 v_stones v_flat v_leastThick v_sights v_padMany v_acts v_pulled v_skyPull v_skyWhose v_badAct v_badWhy v_keptAt v_isWriting v_mostPay v_pay v_canLast C hQ h _ _ hW _ hl
