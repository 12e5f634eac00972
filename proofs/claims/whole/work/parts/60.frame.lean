/-! the frame rule for contracts, and worlds in another order -/
theorem va_A_sub {ws wc : va_W} {is : List Nat} (hC : is.map (fun i => ws[i]?) = wc.map some) {sz q : Nat} (h : va_A wc sz q) : va_A ws sz q := by
  rcases h with ⟨k, e, h⟩ | h
  · obtain ⟨i, -, h4⟩ := at_map hC k _ h
    exact Or.inl ⟨i, e, h4⟩
  · exact Or.inr h
section
variable {l : Launch} {G : va_G} {cI cZ cO : ClassId} {y : MethodName} {b2 : ByteArray} {n2 : Nat} {ty : FieldType} {rm : Room} {av : List Value}
theorem MI.fr {wc w1 wa wa' : va_W} {r : Int32} (hM : MI l G cI cZ cO y b2 n2 ty rm av wc r w1) (is js : List Nat) (wr : va_W) (hC : is.map (fun i => wa[i]?) = wc.map some) (hnd : va_nd is = true) (hA1 : w1.map Prod.fst = wc.map Prod.fst) (h1 : is.map (fun i => wa'[i]?) = w1.map some) (h2 : js.map (fun i => wa'[i]?) = wr.map some) (h4 : js.map (fun i => wa[i]?) = wr.map some) (h3 : (List.range wa'.length).all (fun k => is.contains k || js.contains k) = true) : MI l G cI cZ cO y b2 n2 ty rm av wa r wa' := by
  intro sz p e ha hc hk s m args below hf hap hP hK
  obtain ⟨hav, hsz, hPw, hUK, hD⟩ := hP
  obtain ⟨n, o, a1, a2, a3, ⟨⟨x, u, ho, hx, hB⟩, hF⟩, L, hFE, hL⟩ := hM sz p e ha hc hk s m args below hf hap ⟨hav, hsz, hPw.sub is (fm_of hC), hUK, hD.sub is hnd hC⟩ hK
  refine ⟨n, o, a1, a2, a3, ⟨⟨x, u, ho, hx, ?_⟩, hF.1, fun q hq hn => hF.2 q hq (fun z => hn (va_A_sub hC z))⟩, L, hFE, fun q hq => va_A_sub hC (hL q hq)⟩
  subst hsz
  exact nw_join hPw hD.self is js hC hA1 h1 h2 h4 h3 (fun q hq hn => hF.2 q hq hn) hB.1
theorem ML.fr {wc w1 wa wa' : va_W} {r : Int64} (hM : ML l G cI cZ cO y b2 n2 ty rm av wc r w1) (is js : List Nat) (wr : va_W) (hC : is.map (fun i => wa[i]?) = wc.map some) (hnd : va_nd is = true) (hA1 : w1.map Prod.fst = wc.map Prod.fst) (h1 : is.map (fun i => wa'[i]?) = w1.map some) (h2 : js.map (fun i => wa'[i]?) = wr.map some) (h4 : js.map (fun i => wa[i]?) = wr.map some) (h3 : (List.range wa'.length).all (fun k => is.contains k || js.contains k) = true) : ML l G cI cZ cO y b2 n2 ty rm av wa r wa' := by
  intro sz p e ha hc hk s m args below hf hap hP hK
  obtain ⟨hav, hsz, hPw, hUK, hD⟩ := hP
  obtain ⟨n, o, a1, a2, a3, ⟨⟨x, u, ho, hx, hB⟩, hF⟩, L, hFE, hL⟩ := hM sz p e ha hc hk s m args below hf hap ⟨hav, hsz, hPw.sub is (fm_of hC), hUK, hD.sub is hnd hC⟩ hK
  refine ⟨n, o, a1, a2, a3, ⟨⟨x, u, ho, hx, ?_⟩, hF.1, fun q hq hn => hF.2 q hq (fun z => hn (va_A_sub hC z))⟩, L, hFE, fun q hq => va_A_sub hC (hL q hq)⟩
  subst hsz
  exact nw_join hPw hD.self is js hC hA1 h1 h2 h4 h3 (fun q hq hn => hF.2 q hq hn) hB.1
theorem MIN.fr {wc wa wr : va_W} {w1 wa' : (Nat → Nat) → va_W} {r : Int32} {mc ms : Nat} (hM : MIN l G cI cZ cO y b2 n2 ty rm av wc r w1 mc ms) (is js ps : List Nat) (hC : is.map (fun i => wa[i]?) = wc.map some) (hnd : va_nd is = true) (hR : js.map (fun i => wa[i]?) = wr.map some) (hnj : va_nd js = true) (hdis : ∀ i ∈ js, i ∉ is) (hps : va_nd ps = true) (h1 : ∀ u, ps.map (fun i => (wr ++ w1 u)[i]?) = (wa' u).map some) : MIN l G cI cZ cO y b2 n2 ty rm av wa r wa' mc ms := by
  intro sz p e ha hc hk s m args below hf hap hP hK
  obtain ⟨hav, hsz, hPw, hUK, hD⟩ := hP
  obtain ⟨n, o, a1, a2, a3, ⟨⟨x, u, ho, hx, hB⟩, hF⟩, L, hFE, hL⟩ := hM sz p e ha hc hk s m args below hf hap ⟨hav, hsz, hPw.sub is (fm_of hC), hUK, hD.sub is hnd hC⟩ hK
  refine ⟨n, o, a1, a2, a3, ⟨⟨x, u, ho, hx, ?_⟩, hF.1, fun q hq hn => hF.2 q hq (fun z => hn (va_A_sub hC z))⟩, L, hFE, fun q hq => va_A_sub hC (hL q hq)⟩
  subst hsz
  obtain ⟨g1, g2⟩ := va_join (A0 := va_A wa s.heap.size) hPw hD.self is js hC hR hnj hdis (fun q hq hn => hF.2 q hq hn) (fun q hq => va_A_sub hC hq) hB.1 hB.2
  exact ⟨g1.sub ps (fm_of (h1 u)), g2.sub ps hps (h1 u)⟩
end
theorem va_D_iff {A : Nat → Prop} {ws : va_W} : va_D A ws ↔ (ws.map Prod.fst).Nodup ∧ ∀ q ∈ ws, A q.1 := by
  constructor
  · intro h
    refine ⟨?_, fun q hq => ?_⟩
    · refine List.pairwise_iff_getElem.mpr (fun i j hi hj hij e => ?_)
      rw [List.length_map] at hi hj
      rw [List.getElem_map, List.getElem_map] at e
      have := h.1 i j ws[i] ws[j] (List.getElem?_eq_getElem hi) (List.getElem?_eq_getElem hj) e
      omega
    · obtain ⟨k, hk⟩ := List.mem_iff_getElem?.mp hq
      exact h.2 k q hk
  · intro h
    have key : ∀ (i j : Nat) (p q : Nat × va_E), ws[i]? = some p → ws[j]? = some q → p.1 = q.1 → ¬ i < j := by
      intro i j p q hi hj e hij
      obtain ⟨h1, h2⟩ := List.getElem?_eq_some_iff.mp hi
      obtain ⟨h3, h4⟩ := List.getElem?_eq_some_iff.mp hj
      refine List.pairwise_iff_getElem.mp h.1 i j (by rw [List.length_map]; exact h1) (by rw [List.length_map]; exact h3) hij ?_
      rw [List.getElem_map, List.getElem_map, h2, h4]; exact e
    refine ⟨fun i j p q hi hj e => ?_, fun k q hk => h.2 q (List.mem_of_getElem? hk)⟩
    have a := key i j p q hi hj e
    have b := key j i q p hj hi e.symm
    omega
theorem HW.perm {G : va_G} {A : Nat → Prop} {s : State} {ws ws' : va_W} {H : Heap} {locs : List Loc} (h : HW G A s ws H locs) (hp : ws.Perm ws') : HW G A s ws' H locs := by
  obtain ⟨h1, h2, h3⟩ := h
  rw [va_D_iff] at h2
  refine ⟨fun k q hq => ?_, va_D_iff.mpr ⟨(hp.map Prod.fst).nodup_iff.mp h2.1, fun q hq => h2.2 q (hp.mem_iff.mpr hq)⟩, h3⟩
  obtain ⟨i, hi⟩ := List.mem_iff_getElem?.mp (hp.mem_iff.mpr (List.mem_of_getElem? hq))
  exact h1 i q hi
theorem nd_of : ∀ {l : List Nat}, l.Nodup → va_nd l = true := by
  intro l hl
  induction l with
  | nil => rfl
  | cons a t ih =>
    rw [List.nodup_cons] at hl
    simp only [va_nd, Bool.and_eq_true]
    refine ⟨?_, ih hl.2⟩
    first | (simp; exact hl.1) | (simpa using hl.1)
theorem rg_l {wa wz : va_W} : (List.range wa.length).map (fun i => (wa ++ wz)[i]?) = wa.map some := by
  apply List.ext_getElem?
  intro i
  by_cases hi : i < wa.length
  · simp [List.getElem?_append_left hi, hi]
  · simp [hi]
theorem rg_r {wa wz : va_W} : ((List.range wz.length).map (fun i => wa.length + i)).map (fun i => (wa ++ wz)[i]?) = wz.map some := by
  apply List.ext_getElem?
  intro i
  by_cases hi : i < wz.length
  · simp [hi]
  · simp [hi]
section
variable {p : Program} {l : Launch} {e : Env} {R : Room} {s : State} {m : MethodId} {av : Array Value} {below : List Frame} {meth : Method} {c : Code} {H : Heap} {locs : List Loc} {cells slots : Nat} {Q : State → Prop} {own : String} {bytes : ByteArray} {n : Nat} {ret : Option FieldType} {G : va_G} {cI cZ cO : ClassId} {A : Nat → Prop} {pc : Nat} {ls : Array Slot} {rest st : List Value} {lv : List (Nat × Value)}
theorem callVF {y : MethodName} {b2 : ByteArray} {n2 k idx : Nat} {ty2 : FieldType} {r : Int32} {rm2 : Room} {b : Addr} {As : List Value} {wa wa' wz : va_W}
    (C : Cx p s m av meth c own bytes n ret G cI cZ cO A) (L : LkV own idx y b2 n2 (some ty2) k) (hM : MI l G cI cZ cO y b2 n2 ty2 rm2 (.ref b :: As) wa r wa') (hW : HW G A s (wa ++ wz) H locs) (hl : lv_has ls n lv) (ci : Nat) {fs : List Value} (hrc : wa[0]? = some (b, .inr (ci, fs))) (hci : (vwCl[ci]?).map (fun q => q.1) = some y.cls)
    (hn : As.length = k) (hrm : rm2.cells = 0 ∧ rm2.slots = 0) (hroom : rm2.frames + 1 ≤ R.frames ∧ 8 + (n2 + 11) + rm2.locals ≤ R.locals) (hcs : cells ≤ R.cells ∧ slots ≤ R.slots)
    (hst : st = As.reverse ++ .ref b :: rest) (hcat : (rest.map fun v => v.category).sum ≤ 8) (hdg : decode bytes pc = .ok (.invokevirtual idx, 3))
    (kk : ∀ (H1 : Heap) (locs1 : List Loc), HW G A s (wa' ++ wz) H1 locs1 → W p l e R s m av below meth c H1 locs1 cells slots Q (F0 m (pc + 3) ls (.int r :: rest))) : W p l e R s m av below meth c H locs cells slots Q (F0 m pc ls st) := by
  obtain ⟨hx, hb, hr, hlk, hts, hown, hml, hK, hA⟩ := C
  obtain ⟨l1, l2, l3, l4, l5, l6, l7, l8⟩ := L
  obtain ⟨hP, hD, hS⟩ := hW
  have hC := rg_l (wa := wa) (wz := wz)
  have hR := rg_r (wa := wa) (wz := wz)
  have hnj : va_nd ((List.range wz.length).map (fun i => wa.length + i)) = true := nd_of (List.Pairwise.map _ (fun a b h => by omega) List.nodup_range)
  have hPc : va_P G vwCl wa H := hP.sub _ (fm_of hC)
  have hDc : va_D A wa := hD.sub _ (nd_of List.nodup_range) hC
  have hFc := va_free (wc := wa) hD hS hA _ hC
  have hrecv : ∃ cellB : Cell, H[b]? = some cellB ∧ cellB.vm.isStatics = false ∧ s.vm.findClass y.cls = some cellB.cls := by
    cases hq : vwCl[ci]? with
    | none => rw [hq] at hci; cases hci
    | some q =>
      rw [hq] at hci
      have hq1 : q.1 = y.cls := Option.some.inj hci
      rw [← hq1]
      exact va_recv hK.1 hPc hq hrc
  refine va_calli (va_runV (As := As) (rest := rest) ⟨hx, hb, hml, hown, hts⟩ (hM H.size) (cwV k hts (gTb (fun w hw => by
      rcases List.mem_append.mp hw with h | h
      · simp only [List.mem_cons, List.not_mem_nil, or_false] at h
        rcases h with rfl | rfl | rfl | rfl
        · exact l1
        · exact l2
        · exact l3
        · exact l4
      · exact codeTb l5 w h)) rfl hrm.1 hrm.2 ⟨rfl, l6, l7, l8⟩ hroom) ⟨PreW.blind, hrecv, fun U hU hW1 => ⟨rfl, by rw [hU], by rw [hU]; exact hPc, UK.warm hW1 hK, hDc.weaken (fun _ _ _ _ => trivial)⟩⟩ rfl hn hl.1 hst (lv_room hcat) hdg hcs) hS (fun q _ h => hFc q h) hFc (fun x u t H1 locs1 ht hvm hw hB hz1 hk1 hS1 => ?_)
  subst hw
  obtain ⟨hP1, hD1⟩ := hB
  rw [ht] at hP1
  obtain ⟨g1, g2⟩ := va_join (wr := wz) (w1 := wa') hP hD (List.range wa.length) _ hC hR hnj (fun i hi h => by simp only [List.mem_map, List.mem_range] at hi h; omega) hk1 hFc hP1 hD1
  exact kk H1 locs1 (HW.perm ⟨g1, g2, hS1⟩ List.perm_append_comm)
theorem callVLF {y : MethodName} {b2 : ByteArray} {n2 k idx : Nat} {ty2 : FieldType} {r : Int64} {rm2 : Room} {b : Addr} {As : List Value} {wa wa' wz : va_W}
    (C : Cx p s m av meth c own bytes n ret G cI cZ cO A) (L : LkV own idx y b2 n2 (some ty2) k) (hM : ML l G cI cZ cO y b2 n2 ty2 rm2 (.ref b :: As) wa r wa') (hW : HW G A s (wa ++ wz) H locs) (hl : lv_has ls n lv) (ci : Nat) {fs : List Value} (hrc : wa[0]? = some (b, .inr (ci, fs))) (hci : (vwCl[ci]?).map (fun q => q.1) = some y.cls)
    (hn : As.length = k) (hrm : rm2.cells = 0 ∧ rm2.slots = 0) (hroom : rm2.frames + 1 ≤ R.frames ∧ 8 + (n2 + 11) + rm2.locals ≤ R.locals) (hcs : cells ≤ R.cells ∧ slots ≤ R.slots)
    (hst : st = As.reverse ++ .ref b :: rest) (hcat : (rest.map fun v => v.category).sum ≤ 8) (hdg : decode bytes pc = .ok (.invokevirtual idx, 3))
    (kk : ∀ (H1 : Heap) (locs1 : List Loc), HW G A s (wa' ++ wz) H1 locs1 → W p l e R s m av below meth c H1 locs1 cells slots Q (F0 m (pc + 3) ls (.long r :: rest))) : W p l e R s m av below meth c H locs cells slots Q (F0 m pc ls st) := by
  obtain ⟨hx, hb, hr, hlk, hts, hown, hml, hK, hA⟩ := C
  obtain ⟨l1, l2, l3, l4, l5, l6, l7, l8⟩ := L
  obtain ⟨hP, hD, hS⟩ := hW
  have hC := rg_l (wa := wa) (wz := wz)
  have hR := rg_r (wa := wa) (wz := wz)
  have hnj : va_nd ((List.range wz.length).map (fun i => wa.length + i)) = true := nd_of (List.Pairwise.map _ (fun a b h => by omega) List.nodup_range)
  have hPc : va_P G vwCl wa H := hP.sub _ (fm_of hC)
  have hDc : va_D A wa := hD.sub _ (nd_of List.nodup_range) hC
  have hFc := va_free (wc := wa) hD hS hA _ hC
  have hrecv : ∃ cellB : Cell, H[b]? = some cellB ∧ cellB.vm.isStatics = false ∧ s.vm.findClass y.cls = some cellB.cls := by
    cases hq : vwCl[ci]? with
    | none => rw [hq] at hci; cases hci
    | some q =>
      rw [hq] at hci
      have hq1 : q.1 = y.cls := Option.some.inj hci
      rw [← hq1]
      exact va_recv hK.1 hPc hq hrc
  refine va_calll (va_runV (As := As) (rest := rest) ⟨hx, hb, hml, hown, hts⟩ (hM H.size) (cwV k hts (gTb (fun w hw => by
      rcases List.mem_append.mp hw with h | h
      · simp only [List.mem_cons, List.not_mem_nil, or_false] at h
        rcases h with rfl | rfl | rfl | rfl
        · exact l1
        · exact l2
        · exact l3
        · exact l4
      · exact codeTb l5 w h)) rfl hrm.1 hrm.2 ⟨rfl, l6, l7, l8⟩ hroom) ⟨PreW.blind, hrecv, fun U hU hW1 => ⟨rfl, by rw [hU], by rw [hU]; exact hPc, UK.warm hW1 hK, hDc.weaken (fun _ _ _ _ => trivial)⟩⟩ rfl hn hl.1 hst (lv_room hcat) hdg hcs) hS (fun q _ h => hFc q h) hFc (fun x u t H1 locs1 ht hvm hw hB hz1 hk1 hS1 => ?_)
  subst hw
  obtain ⟨hP1, hD1⟩ := hB
  rw [ht] at hP1
  obtain ⟨g1, g2⟩ := va_join (wr := wz) (w1 := wa') hP hD (List.range wa.length) _ hC hR hnj (fun i hi h => by simp only [List.mem_map, List.mem_range] at hi h; omega) hk1 hFc hP1 hD1
  exact kk H1 locs1 (HW.perm ⟨g1, g2, hS1⟩ List.perm_append_comm)
theorem callVNF {y : MethodName} {b2 : ByteArray} {n2 k idx : Nat} {ty2 : FieldType} {r : Int32} {rm2 : Room} {b : Addr} {As : List Value} {wa wz : va_W} {wa' : (Nat → Nat) → va_W} {mc ms : Nat}
    (C : Cx p s m av meth c own bytes n ret G cI cZ cO A) (L : LkV own idx y b2 n2 (some ty2) k) (hM : MIN l G cI cZ cO y b2 n2 ty2 rm2 (.ref b :: As) wa r wa' mc ms) (hW : HW G A s (wa ++ wz) H locs) (hl : lv_has ls n lv) (ci : Nat) {fs : List Value} (hrc : wa[0]? = some (b, .inr (ci, fs))) (hci : (vwCl[ci]?).map (fun q => q.1) = some y.cls)
    (hn : As.length = k) (hrm : rm2.cells = mc ∧ rm2.slots = ms) (hroom : rm2.frames + 1 ≤ R.frames ∧ 8 + (n2 + 11) + rm2.locals ≤ R.locals) (hcs : cells + mc ≤ R.cells ∧ slots + ms ≤ R.slots)
    (hst : st = As.reverse ++ .ref b :: rest) (hcat : (rest.map fun v => v.category).sum ≤ 8) (hdg : decode bytes pc = .ok (.invokevirtual idx, 3))
    (kk : ∀ (u : Nat → Nat) (H1 : Heap) (locs1 : List Loc), HW G A s (wa' u ++ wz) H1 locs1 → W p l e R s m av below meth c H1 locs1 (cells + mc) (slots + ms) Q (F0 m (pc + 3) ls (.int r :: rest))) : W p l e R s m av below meth c H locs cells slots Q (F0 m pc ls st) := by
  obtain ⟨hx, hb, hr, hlk, hts, hown, hml, hK, hA⟩ := C
  obtain ⟨l1, l2, l3, l4, l5, l6, l7, l8⟩ := L
  obtain ⟨hP, hD, hS⟩ := hW
  have hC := rg_l (wa := wa) (wz := wz)
  have hR := rg_r (wa := wa) (wz := wz)
  have hnj : va_nd ((List.range wz.length).map (fun i => wa.length + i)) = true := nd_of (List.Pairwise.map _ (fun a b h => by omega) List.nodup_range)
  have hPc : va_P G vwCl wa H := hP.sub _ (fm_of hC)
  have hDc : va_D A wa := hD.sub _ (nd_of List.nodup_range) hC
  have hFc := va_free (wc := wa) hD hS hA _ hC
  have hrecv : ∃ cellB : Cell, H[b]? = some cellB ∧ cellB.vm.isStatics = false ∧ s.vm.findClass y.cls = some cellB.cls := by
    cases hq : vwCl[ci]? with
    | none => rw [hq] at hci; cases hci
    | some q =>
      rw [hq] at hci
      have hq1 : q.1 = y.cls := Option.some.inj hci
      rw [← hq1]
      exact va_recv hK.1 hPc hq hrc
  refine va_calli (va_runV (As := As) (rest := rest) ⟨hx, hb, hml, hown, hts⟩ (hM H.size) (cwV k hts (gTb (fun w hw => by
      rcases List.mem_append.mp hw with h | h
      · simp only [List.mem_cons, List.not_mem_nil, or_false] at h
        rcases h with rfl | rfl | rfl | rfl
        · exact l1
        · exact l2
        · exact l3
        · exact l4
      · exact codeTb l5 w h)) rfl hrm.1 hrm.2 ⟨rfl, l6, l7, l8⟩ hroom) ⟨PreW.blind, hrecv, fun U hU hW1 => ⟨rfl, by rw [hU], by rw [hU]; exact hPc, UK.warm hW1 hK, hDc.weaken (fun _ _ _ _ => trivial)⟩⟩ rfl hn hl.1 hst (lv_room hcat) hdg hcs) hS (fun q _ h => hFc q h) hFc (fun x u t H1 locs1 ht hvm hw hB hz1 hk1 hS1 => ?_)
  subst hw
  obtain ⟨hP1, hD1⟩ := hB
  rw [ht] at hP1
  obtain ⟨g1, g2⟩ := va_join (wr := wz) (w1 := wa' u) hP hD (List.range wa.length) _ hC hR hnj (fun i hi h => by simp only [List.mem_map, List.mem_range] at hi h; omega) hk1 hFc hP1 hD1
  exact kk u H1 locs1 (HW.perm ⟨g1, g2, hS1⟩ List.perm_append_comm)
end
