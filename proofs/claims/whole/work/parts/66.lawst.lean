def R_law : String := "StoneGhostsLaw"
def lw_P (b : Addr) (xs : List Int32) (args : Array Value) (s : State) : Prop := args = #[.ref b] ∧ s.IntsAt b xs ∧ xs.length ≤ 384 ∧ (Jvm.Cond.and given_1 narrow_1).before args s = true
def lw_Q (_ : Array Value) (s : State) (o : Outcome) (t : State) : Prop := o = .returned (some (.int 1)) ∧ Framed s o t [] 600000 7302250
def lw_Z (below : List Frame) (a : Array Value) (s : State) : State → Prop := fun t => ∃ o, t.status = .running ∧ Ended t below o ∧ lw_Q a s o t
/-- the law's own end, with 1 on the stack, nothing written that was there before, its room as the claim has it -/
theorem lw_ret {p : Program} {l : Launch} {e : Env} {s : State} {m : MethodId} {below : List Frame} {meth : Method} {c : Code} {b : Nat} (hx : p.tables.exec = Jvm.exec) (hb : c.code = code) (hr : meth.sig.returnType = ret) (hlocks : meth.locks = false) {pc : Nat} {H : Heap} {ls : Array Slot} (hdg : decode code pc = .ok (.ireturn, 1)) : W p l e room_1 s m #[Value.ref b] below meth c H [] 600000 7302250 (lw_Z below #[Value.ref b] s) (F0 m pc ls [.int 1]) := by
  intro T hT X
  obtain ⟨fs, hret, hrun, hended, hW, hframe⟩ := X.leave (v := some (.int 1)) (hlocks := hlocks) (fun h => by rw [hr] at h; cases h)
  have hmeth' : T.vm.method? m = some meth := X.method'
  refine ⟨T.setFrames fs, ?_, .returned (some (.int 1)), hrun, hended, rfl, ⟨_, rfl⟩, hW, hframe⟩
  jvm_step X.here [X.here.top, hx, hb, hdg, hmeth', hr, ret, narrow_b1]
  (try refine ⟨rfl, ?_⟩); (try refine ⟨rfl, ?_⟩)
  first | (intro acts; rw [hret _ acts rfl rfl rfl]) | rw [hret _ _ rfl rfl rfl]
  exact Steps.refl _
/-- what holds at the law's entry: the machine, the code, the tables' words (any of lw_tbl by 'hts w (by decide +kernel)'), the script of L ints xs at the cell b, what the Statement gives of the start (any of its parts by flat_of_before) -/
def lw_At (p : Program) (s : State) (m : MethodId) (meth : Method) (c : Code) (b L : Nat) (xs : Nat → Int32) : Prop :=
  p.tables.exec = Jvm.exec ∧ c.code = code ∧ meth.sig.returnType = ret ∧ c.maxLocals = 4 ∧ s.vm.findClass R_law = some m.cls ∧ (∀ w ∈ lw_tbl, w.before #[Value.ref b] s = true) ∧ va_X b L xs s s.heap ∧ b < s.heap.size ∧ meth.locks = false ∧ (Jvm.Cond.and given_1 narrow_1).before #[Value.ref b] s = true
/-! the law: its loads, its state (printed by wip/gen/lawc.py) -/
section
variable {p : Program} {l : Launch} {e : Env} {s : State} {m : MethodId} {below : List Frame} {meth : Method} {c : Code} {H : Heap} {locs : List Loc} {cells slots : Nat} {Q : State → Prop} {ret : Option FieldType} {G : va_G} {cI cZ cO : ClassId} {ws : va_W} {pc : Nat} {ls : Array Slot} {rest : List Value} {b a10 a11 i L : Nat} {xs : Nat → Int32}
theorem ldA {R : Room} (C : Cx p s m #[Value.ref b] meth c RL code 4 ret G cI cZ cO (fun q => s.heap.size ≤ q)) (hX : va_X b L xs s s.heap) (hbl : b < s.heap.size) (hL : L ≤ 384) (hW : HW G (fun q => s.heap.size ≤ q) s ws H locs) (hl : lv_has ls 4 [(0, .ref b), (1, .ref a10), (2, .ref a11), (3, .int (nI i))]) (k : Nat) (hk : i + k < L) {kz : Int} (hz : Int32.ofInt kz = nI k) (d0 : decode code pc = .ok (.aload_n 0, 1)) (d1 : decode code (pc + 1) = .ok (.iload_n 3, 1)) (d2 : decode code (pc + 1 + 1) = .ok (.iconst kz, 1)) (d3 : decode code (pc + 1 + 1 + 1) = .ok (.iadd, 1)) (d4 : decode code (pc + 1 + 1 + 1 + 1) = .ok (.iaload, 1)) (kk : W p l e R s m #[Value.ref b] below meth c H locs cells slots Q (F0 m (pc + 1 + 1 + 1 + 1 + 1) ls (.int (xs (i + k)) :: rest))) : W p l e R s m #[Value.ref b] below meth c H locs cells slots Q (F0 m pc ls rest) := by
  have hx := C.1
  have hb := C.2.1
  refine lv_aload_n hx hb d0 rfl (lv_at hl 0 rfl) ?_
  refine lv_iload_n hx hb d1 rfl (lv_at hl 3 rfl) ?_
  refine lv_iconst (v := nI k) hx hb d2 hz ?_
  refine lv_iadd hx hb d3 ?_
  rw [nI_add]
  refine va_sld hx hb hX hbl (Nat.not_le.mpr hbl) hW.2.2 (vp_in_nI hk (by omega)) d4 ?_
  rw [nI_clamp (by omega)]
  exact kk
end
def NX (p : Program) (l : Launch) (e : Env) (s : State) (m : MethodId) (below : List Frame) (meth : Method) (c : Code) (G : va_G) (cI cZ cO : ClassId) (b a10 a11 : Nat) (u10 u11 : Nat → Nat) (ls : Array Slot) (P cells slots : Nat) : Prop := ∀ (P1 cells1 slots1 : Nat) (there flat least gsize shown size t_flat t_least t_there t_pulled t_fh t_ha t_st t_kd t_am t_acts t_stop t_why csize acts pulled fh ha bad why keptAt isW : Int32) (thick hollow damp fresh pulls fats deep fine pay hair drawn pull signs t_deep t_fine t_pay t_hair t_thick t_hollow t_damp t_fresh t_pulls t_fats t_ofK best allowed opay cleast shows act wher much kindM had leaves mostP canL lmiss kept isK : Nat → Int32) (g : Nat → Option Nat) (i0 i1 : Option ImT) (H : Heap) (locs : List Loc), HW G (fun q => s.heap.size ≤ q) s (W10 cI cZ cO a10 u10 there flat least gsize shown size t_flat t_least t_there t_pulled t_fh t_ha t_st t_kd t_am t_acts t_stop t_why csize thick hollow damp fresh pulls fats deep fine pay hair drawn pull signs t_deep t_fine t_pay t_hair t_thick t_hollow t_damp t_fresh t_pulls t_fats t_ofK best allowed opay cleast g ++ (W11 cI cZ cO a11 u11 there flat least gsize size acts pulled fh ha bad why keptAt isW thick hollow damp fresh pulls fats deep fine pay hair drawn pull shows signs act wher much kindM had leaves mostP canL lmiss kept isK ++ (wI cI i0 ++ wI cI i1))) H locs → P1 ≤ P + 270 → cells1 ≤ cells + 16 → slots1 ≤ slots + 131 → LI P1 there flat least gsize shown size thick hollow damp fresh pulls fats deep fine pay hair drawn pull signs t_deep t_fine t_pay t_hair t_thick t_hollow t_damp t_fresh t_pulls t_fats t_ofK best shows kindM kept isK g i0 i1 → W p l e room_1 s m #[Value.ref b] below meth c H locs cells1 slots1 (lw_Z below #[Value.ref b] s) (F0 m 1048 ls [])
