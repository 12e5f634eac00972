
theorem gTb {ws : List Cond} (h : ∀ w ∈ ws, w ∈ Tb) : GoodIn Tb ws := fun w hw => ⟨h w hw, good_of_word (List.mem_filter.mp (h w hw)).2⟩
abbrev ty3 (cI cZ cO : ClassId) : List (ClassId × FieldType) := [(cI, .int), (cZ, .boolean), (cO, .object RX4)]
/-- what holds of the tables in every state: classes, array classes, nest links, the array class of Room -/
def UK (G : va_G) (cI cZ cO : ClassId) (U : State) : Prop := va_K G vwCl (ty3 cI cZ cO) U ∧ (∀ w ∈ Nst, va_Nw w U) ∧ va_AO RX4 U
theorem UK.warm {G : va_G} {cI cZ cO : ClassId} {s U : State} (hW : s.WarmedH U.vm) (h : UK G cI cZ cO s) : UK G cI cZ cO U := by
  refine ⟨va_K.moved hW.alike h.1, fun w hw => ?_, va_AO.moved hW.alike h.2.2⟩
  obtain ⟨a, i, x, g, rfl⟩ := Nst_form w hw
  exact va_Nw.warmM hW (h.2.1 _ hw)
theorem UK.blind {G : va_G} {cI cZ cO : ClassId} {U : State} (g : JFrame) (mk : MethodId) (a : Array Value) (h : UK G cI cZ cO U) : UK G cI cZ cO (U.calling g mk a) := by
  refine ⟨va_K.moved (u := U) (U := U.calling g mk a) (Vm.Alike.refl U.vm) h.1, fun w hw => ?_, va_AO.moved (u := U) (U := U.calling g mk a) (Vm.Alike.refl U.vm) h.2.2⟩
  obtain ⟨a, i, x, g, rfl⟩ := Nst_form w hw
  exact va_Nw.same rfl rfl (h.2.1 _ hw)
/-- the facts of a method's frame that never change -/
def Cx (p : Program) (s : State) (m : MethodId) (av : Array Value) (meth : Method) (c : Code) (own : String) (bytes : ByteArray) (n : Nat) (ret : Option FieldType) (G : va_G) (cI cZ cO : ClassId) (A : Nat → Prop) : Prop :=
  p.tables.exec = Jvm.exec ∧ c.code = bytes ∧ meth.sig.returnType = ret ∧ meth.locks = false ∧ (∀ w ∈ Tb, w.before av s = true) ∧ s.vm.findClass own = some m.cls ∧ c.maxLocals = n ∧ UK G cI cZ cO s ∧ (∀ q, s.heap.size ≤ q → A q)
/-- the world now -/
def HW (G : va_G) (A : Nat → Prop) (s : State) (ws : va_W) (H : Heap) (locs : List Loc) : Prop := va_P G vwCl ws H ∧ va_D A ws ∧ va_S A s.heap H locs
def PreW (G : va_G) (cI cZ cO : ClassId) (ws : va_W) (sz : Nat) (U : State) : Prop := U.heap.size = sz ∧ va_P G vwCl ws U.heap ∧ UK G cI cZ cO U ∧ va_D (fun _ => True) ws
def PosW (G : va_G) (A : Nat → Prop) (ws : va_W) (t : State) : Prop := va_P G vwCl ws t.heap ∧ va_D A ws
theorem PreW.blind {G : va_G} {cI cZ cO : ClassId} {ws : va_W} {sz : Nat} {av : List Value} : FrameBlind (va_Pc av (PreW G cI cZ cO ws sz)) := fun a _ g mk q => ⟨q.1, q.2.1, q.2.2.1, UK.blind g mk a q.2.2.2.1, q.2.2.2.2⟩
/-- contracts: from the world w0 and these arguments the method answers r and leaves w1 -/
def MI (l : Launch) (G : va_G) (cI cZ cO : ClassId) (y : MethodName) (b : ByteArray) (n : Nat) (ty : FieldType) (rm : Room) (av : List Value) (w0 : va_W) (r : Int32) (w1 : va_W) : Prop := ∀ sz : Nat, Met l y (.code y b n (some ty) :: Tb) rm (va_Pc av (PreW G cI cZ cO w0 sz)) (va_Qi (fun (x : Int32) (_ : Unit) => x = r) (fun _ t => PosW G (va_A w0 sz) w1 t) (va_A w0 sz)) 0 0 (va_A w0 sz)
def ML (l : Launch) (G : va_G) (cI cZ cO : ClassId) (y : MethodName) (b : ByteArray) (n : Nat) (ty : FieldType) (rm : Room) (av : List Value) (w0 : va_W) (r : Int64) (w1 : va_W) : Prop := ∀ sz : Nat, Met l y (.code y b n (some ty) :: Tb) rm (va_Pc av (PreW G cI cZ cO w0 sz)) (va_Ql (fun (x : Int64) (_ : Unit) => x = r) (fun _ t => PosW G (va_A w0 sz) w1 t) (va_A w0 sz)) 0 0 (va_A w0 sz)
def MV (l : Launch) (G : va_G) (cI cZ cO : ClassId) (y : MethodName) (b : ByteArray) (n : Nat) (rm : Room) (av : List Value) (w0 w1 : va_W) : Prop := ∀ sz : Nat, Met l y (.code y b n none :: Tb) rm (va_Pc av (PreW G cI cZ cO w0 sz)) (va_Qv (fun (_ : Unit) => True) (fun _ t => PosW G (va_A w0 sz) w1 t) (va_A w0 sz)) 0 0 (va_A w0 sz)
/-- a constructor: new cells come, at addresses u -/
def MN (l : Launch) (G : va_G) (cI cZ cO : ClassId) (y : MethodName) (b : ByteArray) (n : Nat) (rm : Room) (av : List Value) (w0 : va_W) (w1 : (Nat → Nat) → va_W) (mc ms : Nat) : Prop := ∀ sz : Nat, Met l y (.code y b n none :: Tb) rm (va_Pc av (PreW G cI cZ cO w0 sz)) (va_Qv (fun (_ : Nat → Nat) => True) (fun u t => PosW G (va_A w0 sz) (w1 u) t) (va_A w0 sz)) mc ms (va_A w0 sz)
section
variable {p : Program} {l : Launch} {e : Env} {R : Room} {s : State} {m : MethodId} {av : Array Value} {below : List Frame} {meth : Method} {c : Code} {H : Heap} {locs : List Loc} {cells slots : Nat} {Q : State → Prop} {own : String} {bytes : ByteArray} {n : Nat} {ret : Option FieldType} {G : va_G} {cI cZ cO : ClassId} {A : Nat → Prop} {ws : va_W} {pc : Nat} {ls : Array Slot} {rest st : List Value} {lv : List (Nat × Value)}
/-- what is done at a return -/
def RI (p : Program) (l : Launch) (e : Env) (R : Room) (s : State) (m : MethodId) (av : Array Value) (below : List Frame) (meth : Method) (c : Code) (G : va_G) (A : Nat → Prop) (bytes : ByteArray) (ty : FieldType) (Q : State → Prop) (r : Int32) (w1 : va_W) : Prop := narrow ty (.int r) = .int r → ∀ (H : Heap) (locs : List Loc) (pc : Nat) (ls : Array Slot), decode bytes pc = .ok (.ireturn, 1) → HW G A s w1 H locs → W p l e R s m av below meth c H locs 0 0 Q (F0 m pc ls [.int r])
def RL_ (p : Program) (l : Launch) (e : Env) (R : Room) (s : State) (m : MethodId) (av : Array Value) (below : List Frame) (meth : Method) (c : Code) (G : va_G) (A : Nat → Prop) (bytes : ByteArray) (Q : State → Prop) (r : Int64) (w1 : va_W) : Prop := ∀ (H : Heap) (locs : List Loc) (pc : Nat) (ls : Array Slot), decode bytes pc = .ok (.lreturn, 1) → HW G A s w1 H locs → W p l e R s m av below meth c H locs 0 0 Q (F0 m pc ls [.long r])
def RV (p : Program) (l : Launch) (e : Env) (R : Room) (s : State) (m : MethodId) (av : Array Value) (below : List Frame) (meth : Method) (c : Code) (G : va_G) (A : Nat → Prop) (bytes : ByteArray) (Q : State → Prop) (w1 : va_W) : Prop := ∀ (H : Heap) (locs : List Loc) (pc : Nat) (ls : Array Slot), decode bytes pc = .ok (.return_, 1) → HW G A s w1 H locs → W p l e R s m av below meth c H locs 0 0 Q (F0 m pc ls [])

theorem MI.of {y : MethodName} {ty : FieldType} {r : Int32} {rm : Room} {av : List Value} {w0 w1 : va_W} (hy : plainName y.cls = true) (hn : (lg_sl av).length ≤ n)
    (body : ∀ (p : Program) (e : Env) (s : State) (m : MethodId) (below : List Frame) (meth : Method) (c : Code) (A : Nat → Prop) (Q : State → Prop), Cx p s m av.toArray meth c y.cls bytes n (some ty) G cI cZ cO A → HW G A s w0 s.heap [] → RI p l e rm s m av.toArray below meth c G A bytes ty Q r w1 → ∀ ls : Array Slot, lv_has ls n (lv_args 0 av) → W p l e rm s m av.toArray below meth c s.heap [] 0 0 Q (F0 m 0 ls [])) :
    MI l G cI cZ cO y bytes n ty rm av w0 r w1 := by
  intro sz
  refine Met.ofW (cc := bytes) (maxL := n) (ret := (some ty)) hy rfl ?_
  intro p e s m args below meth c s₁ B hml hv
  obtain ⟨rfl, hsz, hP, hK, hD0⟩ := hv
  have hx := B.exec
  have hb := B.bytes
  have hr := B.returns
  have hts := atoms_spec (ws := .code y bytes n (some ty) :: Tb) B.pre
  have hown : s.vm.findClass y.cls = some m.cls := findClass_of_methodNamed B.named
  subst hsz
  have hl := lv_entry av (n := n) hn
  rw [lg_entry_eq]
  exact body p e s m below meth c (va_A w0 s.heap.size) _ ⟨hx, hb, hr, B.notSynchronized, fun w hw => hts w (List.mem_cons_of_mem _ hw), hown, hml, hK, fun q h => Or.inr h⟩ ⟨hP, hD0.self, va_S.rf⟩ (fun hn H locs pc ls hd hW => W.zret hx hb hr hn (fun t ht hw => ⟨⟨r, (), rfl, rfl, ⟨by rw [ht]; exact hW.1, hW.2.1⟩⟩, hW.2.2.F ht⟩) hW.2.2.2.2 hd B.notSynchronized) _ hl

theorem ML.of {y : MethodName} {r : Int64} {rm : Room} {av : List Value} {w0 w1 : va_W} (hy : plainName y.cls = true) (hn : (lg_sl av).length ≤ n)
    (body : ∀ (p : Program) (e : Env) (s : State) (m : MethodId) (below : List Frame) (meth : Method) (c : Code) (A : Nat → Prop) (Q : State → Prop), Cx p s m av.toArray meth c y.cls bytes n (some .long) G cI cZ cO A → HW G A s w0 s.heap [] → RL_ p l e rm s m av.toArray below meth c G A bytes Q r w1 → ∀ ls : Array Slot, lv_has ls n (lv_args 0 av) → W p l e rm s m av.toArray below meth c s.heap [] 0 0 Q (F0 m 0 ls [])) :
    ML l G cI cZ cO y bytes n .long rm av w0 r w1 := by
  intro sz
  refine Met.ofW (cc := bytes) (maxL := n) (ret := (some .long)) hy rfl ?_
  intro p e s m args below meth c s₁ B hml hv
  obtain ⟨rfl, hsz, hP, hK, hD0⟩ := hv
  have hx := B.exec
  have hb := B.bytes
  have hr := B.returns
  have hts := atoms_spec (ws := .code y bytes n (some .long) :: Tb) B.pre
  have hown : s.vm.findClass y.cls = some m.cls := findClass_of_methodNamed B.named
  subst hsz
  have hl := lv_entry av (n := n) hn
  rw [lg_entry_eq]
  exact body p e s m below meth c (va_A w0 s.heap.size) _ ⟨hx, hb, hr, B.notSynchronized, fun w hw => hts w (List.mem_cons_of_mem _ hw), hown, hml, hK, fun q h => Or.inr h⟩ ⟨hP, hD0.self, va_S.rf⟩ (fun H locs pc ls hd hW => W.lret hx hb hr (fun t ht hw => ⟨⟨r, (), rfl, rfl, ⟨by rw [ht]; exact hW.1, hW.2.1⟩⟩, hW.2.2.F ht⟩) hW.2.2.2.2 hd B.notSynchronized) _ hl

theorem MV.of {y : MethodName}  {rm : Room} {av : List Value} {w0 w1 : va_W} (hy : plainName y.cls = true) (hn : (lg_sl av).length ≤ n)
    (body : ∀ (p : Program) (e : Env) (s : State) (m : MethodId) (below : List Frame) (meth : Method) (c : Code) (A : Nat → Prop) (Q : State → Prop), Cx p s m av.toArray meth c y.cls bytes n none G cI cZ cO A → HW G A s w0 s.heap [] → RV p l e rm s m av.toArray below meth c G A bytes Q w1 → ∀ ls : Array Slot, lv_has ls n (lv_args 0 av) → W p l e rm s m av.toArray below meth c s.heap [] 0 0 Q (F0 m 0 ls [])) :
    MV l G cI cZ cO y bytes n rm av w0 w1 := by
  intro sz
  refine Met.ofW (cc := bytes) (maxL := n) (ret := none) hy rfl ?_
  intro p e s m args below meth c s₁ B hml hv
  obtain ⟨rfl, hsz, hP, hK, hD0⟩ := hv
  have hx := B.exec
  have hb := B.bytes
  have hr := B.returns
  have hts := atoms_spec (ws := .code y bytes n none :: Tb) B.pre
  have hown : s.vm.findClass y.cls = some m.cls := findClass_of_methodNamed B.named
  subst hsz
  have hl := lv_entry av (n := n) hn
  rw [lg_entry_eq]
  exact body p e s m below meth c (va_A w0 s.heap.size) _ ⟨hx, hb, hr, B.notSynchronized, fun w hw => hts w (List.mem_cons_of_mem _ hw), hown, hml, hK, fun q h => Or.inr h⟩ ⟨hP, hD0.self, va_S.rf⟩ (fun H locs pc ls hd hW => W.vret hx hb hr (fun t ht hw => ⟨⟨(), rfl, trivial, ⟨by rw [ht]; exact hW.1, hW.2.1⟩⟩, hW.2.2.F ht⟩) hW.2.2.2.2 hd B.notSynchronized) _ hl

end

/-- the world with the cells at the places is replaced -/
def ov (ws : va_W) (is : List Nat) (qs : va_W) : va_W := (is.zip qs).foldl (fun w x => w.set x.1 x.2) ws
theorem ov_at : ∀ (is : List Nat) (qs ws : va_W) (k : Nat) (q : Nat × va_E), (ov ws is qs)[k]? = some q → (ws[k]? = some q ∧ ∀ j : Nat, j < qs.length → is[j]? ≠ some k) ∨ ∃ j : Nat, is[j]? = some k ∧ qs[j]? = some q
  | [], qs, ws, k, q, h => Or.inl ⟨h, fun j _ => by simp⟩
  | i :: is, [], ws, k, q, h => Or.inl ⟨h, fun j hj => absurd hj (Nat.not_lt_zero j)⟩
  | i :: is, x :: qs, ws, k, q, h => by
    rcases ov_at is qs (ws.set i x) k q h with ⟨h1, h2⟩ | ⟨j, h1, h2⟩
    · by_cases hk : i = k
      · subst hk
        refine Or.inr ⟨0, rfl, ?_⟩
        rw [List.getElem?_set] at h1
        simp only [if_true] at h1
        split at h1
        · exact h1
        · cases h1
      · rw [List.getElem?_set_ne hk] at h1
        refine Or.inl ⟨h1, fun j hj => ?_⟩
        cases j with
        | zero => simp only [List.getElem?_cons_zero]; exact fun z => hk (Option.some.inj z)
        | succ j => rw [List.getElem?_cons_succ]; exact h2 j (by simpa using hj)
    · exact Or.inr ⟨j + 1, by rw [List.getElem?_cons_succ]; exact h1, by rw [List.getElem?_cons_succ]; exact h2⟩
theorem at_map {ws : va_W} {is : List Nat} {w : va_W} (hs : is.map (fun i => ws[i]?) = w.map some) (k : Nat) (q : Nat × va_E) (hq : w[k]? = some q) : ∃ i, is[k]? = some i ∧ ws[i]? = some q := by
  have h1 : (is.map (fun i => ws[i]?))[k]? = some (some q) := by rw [hs, List.getElem?_map, hq]; rfl
  rw [List.getElem?_map] at h1
  cases hi : is[k]? with
  | none => rw [hi] at h1; cases h1
  | some i => rw [hi] at h1; exact ⟨i, rfl, Option.some.inj h1⟩
theorem fm_of {α β : Type} {f : α → Option β} : ∀ {is : List α} {w : List β}, is.map f = w.map some → is.filterMap f = w
  | [], [], _ => rfl
  | [], _ :: _, h => by simp at h
  | _ :: _, [], h => by simp at h
  | a :: is, b :: w, h => by
    simp only [List.map_cons, List.cons.injEq] at h
    rw [List.filterMap_cons, h.1, fm_of h.2]
theorem ov_join {A0 : Nat → Prop} {D : va_G} {cl : List vw_C} {ws wc w1 : va_W} {H H1 : Heap} (hP : va_P D cl ws H) (hD : va_D A0 ws) (is : List Nat) (hC : is.map (fun i => ws[i]?) = wc.map some) (hA : w1.map Prod.fst = wc.map Prod.fst)
    (hk : ∀ q : Nat, q < H.size → ¬ va_A wc H.size q → H1[q]? = H[q]?) (hP1 : va_P D cl w1 H1) : va_P D cl (ov ws is w1) H1 ∧ va_D A0 (ov ws is w1) := by
  have hlen : w1.length = wc.length := by simpa using congrArg List.length hA
  have same : ∀ (j : Nat) (q : Nat × va_E), w1[j]? = some q → ∃ e, wc[j]? = some (q.1, e) := by
    intro j q hq
    have h1 : (w1.map Prod.fst)[j]? = some q.1 := by rw [List.getElem?_map, hq]; rfl
    rw [hA, List.getElem?_map] at h1
    cases hw : wc[j]? with
    | none => rw [hw] at h1; cases h1
    | some x =>
      rw [hw] at h1
      have h2 : x.1 = q.1 := Option.some.inj h1
      exact ⟨x.2, by rw [← h2]⟩
  have old : ∀ (k : Nat) (q : Nat × va_E), (ov ws is w1)[k]? = some q → ∃ e, ws[k]? = some (q.1, e) := by
    intro k q hq
    rcases ov_at is w1 ws k q hq with ⟨h1, -⟩ | ⟨j, h1, h2⟩
    · exact ⟨q.2, h1⟩
    · obtain ⟨e, he⟩ := same j q h2
      obtain ⟨i, h3, h4⟩ := at_map hC j _ he
      rw [h1] at h3
      cases h3
      exact ⟨e, h4⟩
  refine ⟨fun k q hq => ?_, fun i j x y hi hj hxy => ?_, fun k q hq => ?_⟩
  · rcases ov_at is w1 ws k q hq with ⟨h1, h2⟩ | ⟨j, h1, h2⟩
    · have hl := (hP k q h1).lt
      refine (hP k q h1).kept (hk q.1 hl (fun h => ?_))
      rcases h with ⟨k2, e, h⟩ | h
      · obtain ⟨i, h3, h4⟩ := at_map hC k2 _ h
        have hki := hD.1 k i q _ h1 h4 rfl
        subst hki
        exact h2 k2 (by rw [hlen]; exact (List.getElem?_eq_some_iff.mp h).1) h3
      · omega
    · exact hP1 j q h2
  · obtain ⟨e1, h1⟩ := old i x hi
    obtain ⟨e2, h2⟩ := old j y hj
    exact hD.1 i j _ _ h1 h2 hxy
  · obtain ⟨e1, h1⟩ := old k q hq
    exact (hD.2 k (q.1, e1) h1)

theorem set_same {ws : va_W} {i : Nat} {q : Nat × va_E} (h : ws[i]? = some q) : ws.set i q = ws := by
  apply List.ext_getElem?
  intro k
  by_cases hk : i = k
  · subst hk
    rw [List.getElem?_set]
    simp only [if_true]
    rw [if_pos (List.getElem?_eq_some_iff.mp h).1, h]
  · rw [List.getElem?_set_ne hk]
theorem ov_same : ∀ (is : List Nat) (wc ws : va_W), is.map (fun i => ws[i]?) = wc.map some → ov ws is wc = ws
  | [], _, _, _ => rfl
  | _ :: _, [], _, _ => rfl
  | i :: is, q :: wc, ws, h => by
    simp only [List.map_cons, List.cons.injEq] at h
    have e : ov ws (i :: is) (q :: wc) = ov (ws.set i q) is wc := rfl
    rw [e, set_same h.1]
    exact ov_same is wc ws h.2

theorem nw_join {A0 : Nat → Prop} {D : va_G} {cl : List vw_C} {ws wc w1 ws' wr : va_W} {H H1 : Heap} (hP : va_P D cl ws H) (hD : va_D A0 ws) (is js : List Nat) (hC : is.map (fun i => ws[i]?) = wc.map some) (hA : w1.map Prod.fst = wc.map Prod.fst)
    (h1 : is.map (fun i => ws'[i]?) = w1.map some) (h2 : js.map (fun i => ws'[i]?) = wr.map some) (h4 : js.map (fun i => ws[i]?) = wr.map some) (h3 : (List.range ws'.length).all (fun k => is.contains k || js.contains k) = true)
    (hk : ∀ q : Nat, q < H.size → ¬ va_A wc H.size q → H1[q]? = H[q]?) (hP1 : va_P D cl w1 H1) : va_P D cl ws' H1 ∧ va_D A0 ws' := by
  have hin : ∀ (k : Nat), k ∈ is → ∀ q, ws'[k]? = some q → ∃ (j : Nat) (x : Nat × va_E), is[j]? = some k ∧ w1[j]? = some q ∧ wc[j]? = some x ∧ x.1 = q.1 ∧ ws[k]? = some x := by
    intro k hk0 q hq
    obtain ⟨j, hj⟩ := List.getElem?_of_mem hk0
    have e1 : (is.map (fun i => ws'[i]?))[j]? = some (some q) := by rw [List.getElem?_map, hj]; simp [hq]
    rw [h1, List.getElem?_map] at e1
    cases hw : w1[j]? with
    | none => rw [hw] at e1; cases e1
    | some y =>
      rw [hw] at e1
      have hy : y = q := Option.some.inj (Option.some.inj e1)
      subst hy
      have e2 : (w1.map Prod.fst)[j]? = some y.1 := by rw [List.getElem?_map, hw]; rfl
      rw [hA, List.getElem?_map] at e2
      cases hx : wc[j]? with
      | none => rw [hx] at e2; cases e2
      | some x =>
        rw [hx] at e2
        obtain ⟨i, a1, a2⟩ := at_map hC j x hx
        rw [hj] at a1
        cases a1
        exact ⟨j, x, hj, hw, hx, Option.some.inj e2, a2⟩
  have hout : ∀ (k : Nat) (q : Nat × va_E), ws'[k]? = some q → k ∉ is → ws[k]? = some q := by
    intro k q hq hn
    have hlt : k < ws'.length := (List.getElem?_eq_some_iff.mp hq).1
    have hc := List.all_eq_true.mp h3 k (List.mem_range.mpr hlt)
    have hj : k ∈ js := by
      rcases Bool.or_eq_true _ _ |>.mp hc with h | h
      · exact absurd (List.contains_iff_mem.mp h) hn
      · exact List.contains_iff_mem.mp h
    obtain ⟨j, hj⟩ := List.getElem?_of_mem hj
    have e1 : (js.map (fun i => ws'[i]?))[j]? = some (some q) := by rw [List.getElem?_map, hj]; simp [hq]
    rw [h2, ← h4, List.getElem?_map, hj] at e1
    exact Option.some.inj e1
  have old : ∀ (k : Nat) (q : Nat × va_E), ws'[k]? = some q → ∃ x : Nat × va_E, ws[k]? = some x ∧ x.1 = q.1 := by
    intro k q hq
    by_cases hm : k ∈ is
    · obtain ⟨j, x, -, -, -, e1, e2⟩ := hin k hm q hq
      exact ⟨x, e2, e1⟩
    · exact ⟨q, hout k q hq hm, rfl⟩
  refine ⟨fun k q hq => ?_, fun i j x y hi hj hxy => ?_, fun k q hq => ?_⟩
  · by_cases hm : k ∈ is
    · obtain ⟨j, x, -, e1, -⟩ := hin k hm q hq
      exact hP1 j q e1
    · have h0 := hout k q hq hm
      have hl := (hP k q h0).lt
      refine (hP k q h0).kept (hk q.1 hl (fun h => ?_))
      rcases h with ⟨k2, e, h⟩ | h
      · obtain ⟨i, h3, h4⟩ := at_map hC k2 _ h
        have hki := hD.1 k i q _ h0 h4 rfl
        subst hki
        exact hm (List.mem_of_getElem? h3)
      · omega
  · obtain ⟨x0, a1, a2⟩ := old i x hi
    obtain ⟨y0, b1, b2⟩ := old j y hj
    exact hD.1 i j _ _ a1 b1 (by rw [a2, b2]; exact hxy)
  · obtain ⟨x0, a1, a2⟩ := old k q hq
    rw [← a2]
    exact hD.2 k _ a1

def LkV (own : String) (idx : Nat) (y : MethodName) (b2 : ByteArray) (n2 : Nat) (r2 : Option FieldType) (k : Nat) : Prop := Cond.methodLink own idx y ∈ Tb ∧ Cond.instanceMethod y ∈ Tb ∧ Cond.selects y.cls y y ∈ Tb ∧ Cond.initialized y.cls ∈ Tb ∧ Cond.code y b2 n2 r2 ∈ Tb ∧ y.cls ≠ "java/lang/invoke/MethodHandle" ∧ y.cls ≠ "java/lang/invoke/VarHandle" ∧ (parseMethodDescriptor y.desc).map (fun d => d.parameters.length) = some k
def LkS (own : String) (idx : Nat) (y : MethodName) (b2 : ByteArray) (n2 : Nat) (r2 : Option FieldType) (k : Nat) : Prop := Cond.methodLink own idx y ∈ Tb ∧ Cond.static y ∈ Tb ∧ Cond.initialized y.cls ∈ Tb ∧ Cond.code y b2 n2 r2 ∈ Tb ∧ y.cls ≠ "java/lang/invoke/MethodHandle" ∧ y.cls ≠ "java/lang/invoke/VarHandle" ∧ (parseMethodDescriptor y.desc).map (fun d => d.parameters.length) = some k
def LkN (own : String) (idx : Nat) (y : MethodName) (b2 : ByteArray) (n2 : Nat) (r2 : Option FieldType) (k : Nat) (host : String) : Prop := Cond.methodLinkNest own idx y host ∈ Nst ∧ Cond.static y ∈ Tb ∧ Cond.initialized y.cls ∈ Tb ∧ Cond.code y b2 n2 r2 ∈ Tb ∧ y.cls ≠ "java/lang/invoke/MethodHandle" ∧ y.cls ≠ "java/lang/invoke/VarHandle" ∧ (parseMethodDescriptor y.desc).map (fun d => d.parameters.length) = some k
def LkI (own : String) (idx : Nat) (y : MethodName) (b2 : ByteArray) (n2 : Nat) (k : Nat) : Prop := Cond.methodLink own idx y ∈ Tb ∧ Cond.instanceMethod y ∈ Tb ∧ Cond.initialized y.cls ∈ Tb ∧ Cond.code y b2 n2 none ∈ Tb ∧ y.name = "<init>" ∧ y.cls ≠ "java/lang/invoke/MethodHandle" ∧ y.cls ≠ "java/lang/invoke/VarHandle" ∧ (parseMethodDescriptor y.desc).map (fun d => d.parameters.length) = some k
theorem codeTb {y : MethodName} {b2 : ByteArray} {n2 : Nat} {r2 : Option FieldType} (h : Cond.code y b2 n2 r2 ∈ Tb) : ∀ w ∈ Cond.code y b2 n2 r2 :: Tb, w ∈ Tb := fun w hw => (List.mem_cons.mp hw).elim (fun e => by rw [e]; exact h) id
section
variable {p : Program} {l : Launch} {e : Env} {R : Room} {s : State} {m : MethodId} {av : Array Value} {below : List Frame} {meth : Method} {c : Code} {H : Heap} {locs : List Loc} {cells slots : Nat} {Q : State → Prop} {own : String} {bytes : ByteArray} {n : Nat} {ret : Option FieldType} {G : va_G} {cI cZ cO : ClassId} {A : Nat → Prop} {ws : va_W} {pc : Nat} {ls : Array Slot} {rest st : List Value} {lv : List (Nat × Value)}

theorem callVI {y : MethodName} {b2 : ByteArray} {n2 k idx : Nat} {ty2 : FieldType} {r : Int32} {rm2 : Room} {b : Addr} {As : List Value} {wc w1 : va_W} (is : List Nat)
    (C : Cx p s m av meth c own bytes n ret G cI cZ cO A) (L : LkV own idx y b2 n2 (some ty2) k) (hM : MI l G cI cZ cO y b2 n2 ty2 rm2 (.ref b :: As) wc r w1) (hW : HW G A s ws H locs) (hl : lv_has ls n lv) (ci : Nat) {fs : List Value} (hrc : wc[0]? = some (b, .inr (ci, fs))) (hci : (vwCl[ci]?).map (fun q => q.1) = some y.cls) 
    (hC : is.map (fun i => ws[i]?) = wc.map some) (hnd : va_nd is = true) (hA1 : w1.map Prod.fst = wc.map Prod.fst) (hn : As.length = k) (hrm : rm2.cells = 0 ∧ rm2.slots = 0) (hroom : rm2.frames + 1 ≤ R.frames ∧ 8 + (n2 + 11) + rm2.locals ≤ R.locals) (hcs : cells ≤ R.cells ∧ slots ≤ R.slots)
    (hst : st = As.reverse ++ .ref b :: rest) (hcat : (rest.map fun v => v.category).sum ≤ 8) (hdg : decode bytes pc = .ok (.invokevirtual idx, 3))
    (kk : ∀ (H1 : Heap) (locs1 : List Loc), HW G A s (ov ws is w1) H1 locs1 → W p l e R s m av below meth c H1 locs1 cells slots Q (F0 m (pc + 3) ls (.int r :: rest))) : W p l e R s m av below meth c H locs cells slots Q (F0 m pc ls st) := by
  obtain ⟨hx, hb, hr, hlk, hts, hown, hml, hK, hA⟩ := C
  obtain ⟨l1, l2, l3, l4, l5, l6, l7, l8⟩ := L
  obtain ⟨hP, hD, hS⟩ := hW
  have hPc : va_P G vwCl wc H := hP.sub is (fm_of hC)
  have hDc : va_D A wc := hD.sub is hnd hC
  have hFc := va_free (wc := wc) hD hS hA is hC
  have hrecv : ∃ cellB : Cell, H[b]? = some cellB ∧ cellB.vm.isStatics = false ∧ s.vm.findClass y.cls = some cellB.cls := by
    cases hq : vwCl[ci]? with
    | none => rw [hq] at hci; cases hci
    | some q =>
      rw [hq] at hci
      have hq1 : q.1 = y.cls := Option.some.inj hci
      rw [← hq1]
      exact va_recv hK.1 hPc hq hrc
  refine va_calli (va_runV (As := As) (rest := rest) ⟨hx, hb, hml, hown, hts⟩ (hM H.size) (cwV k hts (gTb (fun w hw => by
      rcases List.mem_append.mp hw with h | h
      · simp only [List.mem_cons, List.not_mem_nil, or_false] at h
        rcases h with rfl | rfl | rfl | rfl
        · exact l1
        · exact l2
        · exact l3
        · exact l4
      · exact codeTb l5 w h)) rfl hrm.1 hrm.2 ⟨rfl, l6, l7, l8⟩ hroom) ⟨PreW.blind, hrecv, fun U hU hW1 => ⟨rfl, by rw [hU], by rw [hU]; exact hPc, UK.warm hW1 hK, hDc.weaken (fun _ _ _ _ => trivial)⟩⟩ rfl hn hl.1 hst (lv_room hcat) hdg hcs) hS (fun q _ h => hFc q h) hFc (fun x u t H1 locs1 ht hvm hw hB hz1 hk1 hS1 => ?_)
  subst hw
  obtain ⟨hP1, hD1⟩ := hB
  rw [ht] at hP1
  obtain ⟨g1, g2⟩ := ov_join hP hD is hC hA1 hk1 hP1
  exact kk H1 locs1 ⟨g1, g2, hS1⟩

theorem callVL {y : MethodName} {b2 : ByteArray} {n2 k idx : Nat} {ty2 : FieldType} {r : Int64} {rm2 : Room} {b : Addr} {As : List Value} {wc w1 : va_W} (is : List Nat)
    (C : Cx p s m av meth c own bytes n ret G cI cZ cO A) (L : LkV own idx y b2 n2 (some ty2) k) (hM : ML l G cI cZ cO y b2 n2 ty2 rm2 (.ref b :: As) wc r w1) (hW : HW G A s ws H locs) (hl : lv_has ls n lv) (ci : Nat) {fs : List Value} (hrc : wc[0]? = some (b, .inr (ci, fs))) (hci : (vwCl[ci]?).map (fun q => q.1) = some y.cls) 
    (hC : is.map (fun i => ws[i]?) = wc.map some) (hnd : va_nd is = true) (hA1 : w1.map Prod.fst = wc.map Prod.fst) (hn : As.length = k) (hrm : rm2.cells = 0 ∧ rm2.slots = 0) (hroom : rm2.frames + 1 ≤ R.frames ∧ 8 + (n2 + 11) + rm2.locals ≤ R.locals) (hcs : cells ≤ R.cells ∧ slots ≤ R.slots)
    (hst : st = As.reverse ++ .ref b :: rest) (hcat : (rest.map fun v => v.category).sum ≤ 8) (hdg : decode bytes pc = .ok (.invokevirtual idx, 3))
    (kk : ∀ (H1 : Heap) (locs1 : List Loc), HW G A s (ov ws is w1) H1 locs1 → W p l e R s m av below meth c H1 locs1 cells slots Q (F0 m (pc + 3) ls (.long r :: rest))) : W p l e R s m av below meth c H locs cells slots Q (F0 m pc ls st) := by
  obtain ⟨hx, hb, hr, hlk, hts, hown, hml, hK, hA⟩ := C
  obtain ⟨l1, l2, l3, l4, l5, l6, l7, l8⟩ := L
  obtain ⟨hP, hD, hS⟩ := hW
  have hPc : va_P G vwCl wc H := hP.sub is (fm_of hC)
  have hDc : va_D A wc := hD.sub is hnd hC
  have hFc := va_free (wc := wc) hD hS hA is hC
  have hrecv : ∃ cellB : Cell, H[b]? = some cellB ∧ cellB.vm.isStatics = false ∧ s.vm.findClass y.cls = some cellB.cls := by
    cases hq : vwCl[ci]? with
    | none => rw [hq] at hci; cases hci
    | some q =>
      rw [hq] at hci
      have hq1 : q.1 = y.cls := Option.some.inj hci
      rw [← hq1]
      exact va_recv hK.1 hPc hq hrc
  refine va_calll (va_runV (As := As) (rest := rest) ⟨hx, hb, hml, hown, hts⟩ (hM H.size) (cwV k hts (gTb (fun w hw => by
      rcases List.mem_append.mp hw with h | h
      · simp only [List.mem_cons, List.not_mem_nil, or_false] at h
        rcases h with rfl | rfl | rfl | rfl
        · exact l1
        · exact l2
        · exact l3
        · exact l4
      · exact codeTb l5 w h)) rfl hrm.1 hrm.2 ⟨rfl, l6, l7, l8⟩ hroom) ⟨PreW.blind, hrecv, fun U hU hW1 => ⟨rfl, by rw [hU], by rw [hU]; exact hPc, UK.warm hW1 hK, hDc.weaken (fun _ _ _ _ => trivial)⟩⟩ rfl hn hl.1 hst (lv_room hcat) hdg hcs) hS (fun q _ h => hFc q h) hFc (fun x u t H1 locs1 ht hvm hw hB hz1 hk1 hS1 => ?_)
  subst hw
  obtain ⟨hP1, hD1⟩ := hB
  rw [ht] at hP1
  obtain ⟨g1, g2⟩ := ov_join hP hD is hC hA1 hk1 hP1
  exact kk H1 locs1 ⟨g1, g2, hS1⟩

theorem callVV {y : MethodName} {b2 : ByteArray} {n2 k idx : Nat}  {rm2 : Room} {b : Addr} {As : List Value} {wc w1 : va_W} (is : List Nat)
    (C : Cx p s m av meth c own bytes n ret G cI cZ cO A) (L : LkV own idx y b2 n2 none k) (hM : MV l G cI cZ cO y b2 n2 rm2 (.ref b :: As) wc w1) (hW : HW G A s ws H locs) (hl : lv_has ls n lv) (ci : Nat) {fs : List Value} (hrc : wc[0]? = some (b, .inr (ci, fs))) (hci : (vwCl[ci]?).map (fun q => q.1) = some y.cls) 
    (hC : is.map (fun i => ws[i]?) = wc.map some) (hnd : va_nd is = true) (hA1 : w1.map Prod.fst = wc.map Prod.fst) (hn : As.length = k) (hrm : rm2.cells = 0 ∧ rm2.slots = 0) (hroom : rm2.frames + 1 ≤ R.frames ∧ 8 + (n2 + 11) + rm2.locals ≤ R.locals) (hcs : cells ≤ R.cells ∧ slots ≤ R.slots)
    (hst : st = As.reverse ++ .ref b :: rest) (hcat : (rest.map fun v => v.category).sum ≤ 8) (hdg : decode bytes pc = .ok (.invokevirtual idx, 3))
    (kk : ∀ (H1 : Heap) (locs1 : List Loc), HW G A s (ov ws is w1) H1 locs1 → W p l e R s m av below meth c H1 locs1 cells slots Q (F0 m (pc + 3) ls rest)) : W p l e R s m av below meth c H locs cells slots Q (F0 m pc ls st) := by
  obtain ⟨hx, hb, hr, hlk, hts, hown, hml, hK, hA⟩ := C
  obtain ⟨l1, l2, l3, l4, l5, l6, l7, l8⟩ := L
  obtain ⟨hP, hD, hS⟩ := hW
  have hPc : va_P G vwCl wc H := hP.sub is (fm_of hC)
  have hDc : va_D A wc := hD.sub is hnd hC
  have hFc := va_free (wc := wc) hD hS hA is hC
  have hrecv : ∃ cellB : Cell, H[b]? = some cellB ∧ cellB.vm.isStatics = false ∧ s.vm.findClass y.cls = some cellB.cls := by
    cases hq : vwCl[ci]? with
    | none => rw [hq] at hci; cases hci
    | some q =>
      rw [hq] at hci
      have hq1 : q.1 = y.cls := Option.some.inj hci
      rw [← hq1]
      exact va_recv hK.1 hPc hq hrc
  refine va_callv (va_runV (As := As) (rest := rest) ⟨hx, hb, hml, hown, hts⟩ (hM H.size) (cwV k hts (gTb (fun w hw => by
      rcases List.mem_append.mp hw with h | h
      · simp only [List.mem_cons, List.not_mem_nil, or_false] at h
        rcases h with rfl | rfl | rfl | rfl
        · exact l1
        · exact l2
        · exact l3
        · exact l4
      · exact codeTb l5 w h)) rfl hrm.1 hrm.2 ⟨rfl, l6, l7, l8⟩ hroom) ⟨PreW.blind, hrecv, fun U hU hW1 => ⟨rfl, by rw [hU], by rw [hU]; exact hPc, UK.warm hW1 hK, hDc.weaken (fun _ _ _ _ => trivial)⟩⟩ rfl hn hl.1 hst (lv_room hcat) hdg hcs) hS (fun q _ h => hFc q h) hFc (fun u t H1 locs1 ht hvm hw hB hz1 hk1 hS1 => ?_)
  skip
  obtain ⟨hP1, hD1⟩ := hB
  rw [ht] at hP1
  obtain ⟨g1, g2⟩ := ov_join hP hD is hC hA1 hk1 hP1
  exact kk H1 locs1 ⟨g1, g2, hS1⟩

theorem callSI {y : MethodName} {b2 : ByteArray} {n2 k idx : Nat} {ty2 : FieldType} {r : Int32} {rm2 : Room} {As : List Value} {wc w1 : va_W} (is : List Nat)
    (C : Cx p s m av meth c own bytes n ret G cI cZ cO A) (L : LkS own idx y b2 n2 (some ty2) k) (hM : MI l G cI cZ cO y b2 n2 ty2 rm2 As wc r w1) (hW : HW G A s ws H locs) (hl : lv_has ls n lv) 
    (hC : is.map (fun i => ws[i]?) = wc.map some) (hnd : va_nd is = true) (hA1 : w1.map Prod.fst = wc.map Prod.fst) (hn : As.length = k) (hrm : rm2.cells = 0 ∧ rm2.slots = 0) (hroom : rm2.frames + 1 ≤ R.frames ∧ 8 + (n2 + 11) + rm2.locals ≤ R.locals) (hcs : cells ≤ R.cells ∧ slots ≤ R.slots)
    (hst : st = As.reverse ++ rest) (hcat : (rest.map fun v => v.category).sum ≤ 8) (hdg : decode bytes pc = .ok (.invokestatic idx, 3))
    (kk : ∀ (H1 : Heap) (locs1 : List Loc), HW G A s (ov ws is w1) H1 locs1 → W p l e R s m av below meth c H1 locs1 cells slots Q (F0 m (pc + 3) ls (.int r :: rest))) : W p l e R s m av below meth c H locs cells slots Q (F0 m pc ls st) := by
  obtain ⟨hx, hb, hr, hlk, hts, hown, hml, hK, hA⟩ := C
  obtain ⟨l1, l2, l4, l5, l6, l7, l8⟩ := L
  obtain ⟨hP, hD, hS⟩ := hW
  have hPc : va_P G vwCl wc H := hP.sub is (fm_of hC)
  have hDc : va_D A wc := hD.sub is hnd hC
  have hFc := va_free (wc := wc) hD hS hA is hC
  refine va_calli (va_runS (As := As) (rest := rest) ⟨hx, hb, hml, hown, hts⟩ (hM H.size) (va_cwS k hts (gTb (fun w hw => by
      rcases List.mem_append.mp hw with h | h
      · simp only [List.mem_cons, List.not_mem_nil, or_false] at h
        rcases h with rfl | rfl | rfl
        · exact l1
        · exact l2
        · exact l4
      · exact codeTb l5 w h)) rfl hrm.1 hrm.2 ⟨l6, l7, l8⟩ hroom) ⟨PreW.blind, fun U hU hW1 => ⟨rfl, by rw [hU], by rw [hU]; exact hPc, UK.warm hW1 hK, hDc.weaken (fun _ _ _ _ => trivial)⟩⟩ rfl hn hl.1 hst (lv_room hcat) hdg hcs) hS (fun q _ h => hFc q h) hFc (fun x u t H1 locs1 ht hvm hw hB hz1 hk1 hS1 => ?_)
  subst hw
  obtain ⟨hP1, hD1⟩ := hB
  rw [ht] at hP1
  obtain ⟨g1, g2⟩ := ov_join hP hD is hC hA1 hk1 hP1
  exact kk H1 locs1 ⟨g1, g2, hS1⟩

theorem callSL {y : MethodName} {b2 : ByteArray} {n2 k idx : Nat} {ty2 : FieldType} {r : Int64} {rm2 : Room} {As : List Value} {wc w1 : va_W} (is : List Nat)
    (C : Cx p s m av meth c own bytes n ret G cI cZ cO A) (L : LkS own idx y b2 n2 (some ty2) k) (hM : ML l G cI cZ cO y b2 n2 ty2 rm2 As wc r w1) (hW : HW G A s ws H locs) (hl : lv_has ls n lv) 
    (hC : is.map (fun i => ws[i]?) = wc.map some) (hnd : va_nd is = true) (hA1 : w1.map Prod.fst = wc.map Prod.fst) (hn : As.length = k) (hrm : rm2.cells = 0 ∧ rm2.slots = 0) (hroom : rm2.frames + 1 ≤ R.frames ∧ 8 + (n2 + 11) + rm2.locals ≤ R.locals) (hcs : cells ≤ R.cells ∧ slots ≤ R.slots)
    (hst : st = As.reverse ++ rest) (hcat : (rest.map fun v => v.category).sum ≤ 8) (hdg : decode bytes pc = .ok (.invokestatic idx, 3))
    (kk : ∀ (H1 : Heap) (locs1 : List Loc), HW G A s (ov ws is w1) H1 locs1 → W p l e R s m av below meth c H1 locs1 cells slots Q (F0 m (pc + 3) ls (.long r :: rest))) : W p l e R s m av below meth c H locs cells slots Q (F0 m pc ls st) := by
  obtain ⟨hx, hb, hr, hlk, hts, hown, hml, hK, hA⟩ := C
  obtain ⟨l1, l2, l4, l5, l6, l7, l8⟩ := L
  obtain ⟨hP, hD, hS⟩ := hW
  have hPc : va_P G vwCl wc H := hP.sub is (fm_of hC)
  have hDc : va_D A wc := hD.sub is hnd hC
  have hFc := va_free (wc := wc) hD hS hA is hC
  refine va_calll (va_runS (As := As) (rest := rest) ⟨hx, hb, hml, hown, hts⟩ (hM H.size) (va_cwS k hts (gTb (fun w hw => by
      rcases List.mem_append.mp hw with h | h
      · simp only [List.mem_cons, List.not_mem_nil, or_false] at h
        rcases h with rfl | rfl | rfl
        · exact l1
        · exact l2
        · exact l4
      · exact codeTb l5 w h)) rfl hrm.1 hrm.2 ⟨l6, l7, l8⟩ hroom) ⟨PreW.blind, fun U hU hW1 => ⟨rfl, by rw [hU], by rw [hU]; exact hPc, UK.warm hW1 hK, hDc.weaken (fun _ _ _ _ => trivial)⟩⟩ rfl hn hl.1 hst (lv_room hcat) hdg hcs) hS (fun q _ h => hFc q h) hFc (fun x u t H1 locs1 ht hvm hw hB hz1 hk1 hS1 => ?_)
  subst hw
  obtain ⟨hP1, hD1⟩ := hB
  rw [ht] at hP1
  obtain ⟨g1, g2⟩ := ov_join hP hD is hC hA1 hk1 hP1
  exact kk H1 locs1 ⟨g1, g2, hS1⟩

theorem callNI {y : MethodName} {b2 : ByteArray} {n2 k idx : Nat} {ty2 : FieldType} {r : Int32} {rm2 : Room} {host : String} {As : List Value} {wc w1 : va_W} (is : List Nat)
    (C : Cx p s m av meth c own bytes n ret G cI cZ cO A) (L : LkN own idx y b2 n2 (some ty2) k host) (hM : MI l G cI cZ cO y b2 n2 ty2 rm2 As wc r w1) (hW : HW G A s ws H locs) (hl : lv_has ls n lv) 
    (hC : is.map (fun i => ws[i]?) = wc.map some) (hnd : va_nd is = true) (hA1 : w1.map Prod.fst = wc.map Prod.fst) (hn : As.length = k) (hrm : rm2.cells = 0 ∧ rm2.slots = 0) (hroom : rm2.frames + 1 ≤ R.frames ∧ 8 + (n2 + 11) + rm2.locals ≤ R.locals) (hcs : cells ≤ R.cells ∧ slots ≤ R.slots)
    (hst : st = As.reverse ++ rest) (hcat : (rest.map fun v => v.category).sum ≤ 8) (hdg : decode bytes pc = .ok (.invokestatic idx, 3))
    (kk : ∀ (H1 : Heap) (locs1 : List Loc), HW G A s (ov ws is w1) H1 locs1 → W p l e R s m av below meth c H1 locs1 cells slots Q (F0 m (pc + 3) ls (.int r :: rest))) : W p l e R s m av below meth c H locs cells slots Q (F0 m pc ls st) := by
  obtain ⟨hx, hb, hr, hlk, hts, hown, hml, hK, hA⟩ := C
  obtain ⟨l1, l2, l4, l5, l6, l7, l8⟩ := L
  obtain ⟨hP, hD, hS⟩ := hW
  have hPc : va_P G vwCl wc H := hP.sub is (fm_of hC)
  have hDc : va_D A wc := hD.sub is hnd hC
  have hFc := va_free (wc := wc) hD hS hA is hC
  refine va_calli (va_runSN (As := As) (rest := rest) ⟨hx, hb, hml, hown, hts⟩ (hM H.size) ⟨va_cnB k hts (gTb (codeTb l5)) rfl hrm.1 hrm.2 (hK.2.1 _ l1) (hts _ l4) ⟨l6, l7, l8⟩ hroom, hts _ l2, trivial⟩ ⟨PreW.blind, fun U hU hW1 => ⟨rfl, by rw [hU], by rw [hU]; exact hPc, UK.warm hW1 hK, hDc.weaken (fun _ _ _ _ => trivial)⟩⟩ rfl hn hl.1 hst (lv_room hcat) hdg hcs) hS (fun q _ h => hFc q h) hFc (fun x u t H1 locs1 ht hvm hw hB hz1 hk1 hS1 => ?_)
  subst hw
  obtain ⟨hP1, hD1⟩ := hB
  rw [ht] at hP1
  obtain ⟨g1, g2⟩ := ov_join hP hD is hC hA1 hk1 hP1
  exact kk H1 locs1 ⟨g1, g2, hS1⟩

theorem callSI0 {y : MethodName} {b2 : ByteArray} {n2 k idx : Nat} {ty2 : FieldType} {r : Int32} {rm2 : Room} {As : List Value}
    (C : Cx p s m av meth c own bytes n ret G cI cZ cO A) (L : LkS own idx y b2 n2 (some ty2) k) (hM : MI l G cI cZ cO y b2 n2 ty2 rm2 As [] r []) (hW : HW G A s ws H locs) (hl : lv_has ls n lv)
    (hn : As.length = k) (hrm : rm2.cells = 0 ∧ rm2.slots = 0) (hroom : rm2.frames + 1 ≤ R.frames ∧ 8 + (n2 + 11) + rm2.locals ≤ R.locals) (hcs : cells ≤ R.cells ∧ slots ≤ R.slots)
    (hst : st = As.reverse ++ rest) (hcat : (rest.map fun v => v.category).sum ≤ 8) (hdg : decode bytes pc = .ok (.invokestatic idx, 3))
    (kk : ∀ (H1 : Heap) (locs1 : List Loc), HW G A s ws H1 locs1 → W p l e R s m av below meth c H1 locs1 cells slots Q (F0 m (pc + 3) ls (.int r :: rest))) : W p l e R s m av below meth c H locs cells slots Q (F0 m pc ls st) :=
  callSI [] C L hM hW hl rfl rfl rfl hn hrm hroom hcs hst hcat hdg kk

theorem callSL0 {y : MethodName} {b2 : ByteArray} {n2 k idx : Nat} {ty2 : FieldType} {r : Int64} {rm2 : Room} {As : List Value}
    (C : Cx p s m av meth c own bytes n ret G cI cZ cO A) (L : LkS own idx y b2 n2 (some ty2) k) (hM : ML l G cI cZ cO y b2 n2 ty2 rm2 As [] r []) (hW : HW G A s ws H locs) (hl : lv_has ls n lv)
    (hn : As.length = k) (hrm : rm2.cells = 0 ∧ rm2.slots = 0) (hroom : rm2.frames + 1 ≤ R.frames ∧ 8 + (n2 + 11) + rm2.locals ≤ R.locals) (hcs : cells ≤ R.cells ∧ slots ≤ R.slots)
    (hst : st = As.reverse ++ rest) (hcat : (rest.map fun v => v.category).sum ≤ 8) (hdg : decode bytes pc = .ok (.invokestatic idx, 3))
    (kk : ∀ (H1 : Heap) (locs1 : List Loc), HW G A s ws H1 locs1 → W p l e R s m av below meth c H1 locs1 cells slots Q (F0 m (pc + 3) ls (.long r :: rest))) : W p l e R s m av below meth c H locs cells slots Q (F0 m pc ls st) :=
  callSL [] C L hM hW hl rfl rfl rfl hn hrm hroom hcs hst hcat hdg kk

theorem callNI0 {y : MethodName} {b2 : ByteArray} {n2 k idx : Nat} {ty2 : FieldType} {r : Int32} {rm2 : Room} {host : String} {As : List Value}
    (C : Cx p s m av meth c own bytes n ret G cI cZ cO A) (L : LkN own idx y b2 n2 (some ty2) k host) (hM : MI l G cI cZ cO y b2 n2 ty2 rm2 As [] r []) (hW : HW G A s ws H locs) (hl : lv_has ls n lv)
    (hn : As.length = k) (hrm : rm2.cells = 0 ∧ rm2.slots = 0) (hroom : rm2.frames + 1 ≤ R.frames ∧ 8 + (n2 + 11) + rm2.locals ≤ R.locals) (hcs : cells ≤ R.cells ∧ slots ≤ R.slots)
    (hst : st = As.reverse ++ rest) (hcat : (rest.map fun v => v.category).sum ≤ 8) (hdg : decode bytes pc = .ok (.invokestatic idx, 3))
    (kk : ∀ (H1 : Heap) (locs1 : List Loc), HW G A s ws H1 locs1 → W p l e R s m av below meth c H1 locs1 cells slots Q (F0 m (pc + 3) ls (.int r :: rest))) : W p l e R s m av below meth c H locs cells slots Q (F0 m pc ls st) :=
  callNI [] C L hM hW hl rfl rfl rfl hn hrm hroom hcs hst hcat hdg kk

theorem callVIr {y : MethodName} {b2 : ByteArray} {n2 k idx : Nat} {ty2 : FieldType} {r : Int32} {rm2 : Room} {b : Addr} {As : List Value} {wc : va_W} (is : List Nat)
    (C : Cx p s m av meth c own bytes n ret G cI cZ cO A) (L : LkV own idx y b2 n2 (some ty2) k) (hM : MI l G cI cZ cO y b2 n2 ty2 rm2 (.ref b :: As) wc r wc) (hW : HW G A s ws H locs) (hl : lv_has ls n lv) (ci : Nat) {fs : List Value} (hrc : wc[0]? = some (b, .inr (ci, fs))) (hci : (vwCl[ci]?).map (fun q => q.1) = some y.cls) 
    (hC : is.map (fun i => ws[i]?) = wc.map some) (hnd : va_nd is = true) (hn : As.length = k) (hrm : rm2.cells = 0 ∧ rm2.slots = 0) (hroom : rm2.frames + 1 ≤ R.frames ∧ 8 + (n2 + 11) + rm2.locals ≤ R.locals) (hcs : cells ≤ R.cells ∧ slots ≤ R.slots)
    (hst : st = As.reverse ++ .ref b :: rest) (hcat : (rest.map fun v => v.category).sum ≤ 8) (hdg : decode bytes pc = .ok (.invokevirtual idx, 3))
    (kk : ∀ (H1 : Heap) (locs1 : List Loc), HW G A s ws H1 locs1 → W p l e R s m av below meth c H1 locs1 cells slots Q (F0 m (pc + 3) ls (.int r :: rest))) : W p l e R s m av below meth c H locs cells slots Q (F0 m pc ls st) :=
  callVI is C L hM hW hl ci hrc hci hC hnd rfl hn hrm hroom hcs hst hcat hdg (fun H1 locs1 h => kk H1 locs1 (by rwa [ov_same is wc ws hC] at h))

theorem callVLr {y : MethodName} {b2 : ByteArray} {n2 k idx : Nat} {ty2 : FieldType} {r : Int64} {rm2 : Room} {b : Addr} {As : List Value} {wc : va_W} (is : List Nat)
    (C : Cx p s m av meth c own bytes n ret G cI cZ cO A) (L : LkV own idx y b2 n2 (some ty2) k) (hM : ML l G cI cZ cO y b2 n2 ty2 rm2 (.ref b :: As) wc r wc) (hW : HW G A s ws H locs) (hl : lv_has ls n lv) (ci : Nat) {fs : List Value} (hrc : wc[0]? = some (b, .inr (ci, fs))) (hci : (vwCl[ci]?).map (fun q => q.1) = some y.cls) 
    (hC : is.map (fun i => ws[i]?) = wc.map some) (hnd : va_nd is = true) (hn : As.length = k) (hrm : rm2.cells = 0 ∧ rm2.slots = 0) (hroom : rm2.frames + 1 ≤ R.frames ∧ 8 + (n2 + 11) + rm2.locals ≤ R.locals) (hcs : cells ≤ R.cells ∧ slots ≤ R.slots)
    (hst : st = As.reverse ++ .ref b :: rest) (hcat : (rest.map fun v => v.category).sum ≤ 8) (hdg : decode bytes pc = .ok (.invokevirtual idx, 3))
    (kk : ∀ (H1 : Heap) (locs1 : List Loc), HW G A s ws H1 locs1 → W p l e R s m av below meth c H1 locs1 cells slots Q (F0 m (pc + 3) ls (.long r :: rest))) : W p l e R s m av below meth c H locs cells slots Q (F0 m pc ls st) :=
  callVL is C L hM hW hl ci hrc hci hC hnd rfl hn hrm hroom hcs hst hcat hdg (fun H1 locs1 h => kk H1 locs1 (by rwa [ov_same is wc ws hC] at h))

theorem callSIr {y : MethodName} {b2 : ByteArray} {n2 k idx : Nat} {ty2 : FieldType} {r : Int32} {rm2 : Room} {As : List Value} {wc : va_W} (is : List Nat)
    (C : Cx p s m av meth c own bytes n ret G cI cZ cO A) (L : LkS own idx y b2 n2 (some ty2) k) (hM : MI l G cI cZ cO y b2 n2 ty2 rm2 As wc r wc) (hW : HW G A s ws H locs) (hl : lv_has ls n lv) 
    (hC : is.map (fun i => ws[i]?) = wc.map some) (hnd : va_nd is = true) (hn : As.length = k) (hrm : rm2.cells = 0 ∧ rm2.slots = 0) (hroom : rm2.frames + 1 ≤ R.frames ∧ 8 + (n2 + 11) + rm2.locals ≤ R.locals) (hcs : cells ≤ R.cells ∧ slots ≤ R.slots)
    (hst : st = As.reverse ++ rest) (hcat : (rest.map fun v => v.category).sum ≤ 8) (hdg : decode bytes pc = .ok (.invokestatic idx, 3))
    (kk : ∀ (H1 : Heap) (locs1 : List Loc), HW G A s ws H1 locs1 → W p l e R s m av below meth c H1 locs1 cells slots Q (F0 m (pc + 3) ls (.int r :: rest))) : W p l e R s m av below meth c H locs cells slots Q (F0 m pc ls st) :=
  callSI is C L hM hW hl hC hnd rfl hn hrm hroom hcs hst hcat hdg (fun H1 locs1 h => kk H1 locs1 (by rwa [ov_same is wc ws hC] at h))

theorem callVIm {y : MethodName} {b2 : ByteArray} {n2 k idx : Nat} {ty2 : FieldType} {r : Int32} {rm2 : Room} {b : Addr} {As : List Value} {wc w1 : va_W} (is js : List Nat) (wr ws' : va_W)
    (C : Cx p s m av meth c own bytes n ret G cI cZ cO A) (L : LkV own idx y b2 n2 (some ty2) k) (hM : MI l G cI cZ cO y b2 n2 ty2 rm2 (.ref b :: As) wc r w1) (hW : HW G A s ws H locs) (hl : lv_has ls n lv) (ci : Nat) {fs : List Value} (hrc : wc[0]? = some (b, .inr (ci, fs))) (hci : (vwCl[ci]?).map (fun q => q.1) = some y.cls) 
    (hC : is.map (fun i => ws[i]?) = wc.map some) (hnd : va_nd is = true) (hA1 : w1.map Prod.fst = wc.map Prod.fst) (h1 : is.map (fun i => ws'[i]?) = w1.map some) (h2 : js.map (fun i => ws'[i]?) = wr.map some) (h4 : js.map (fun i => ws[i]?) = wr.map some) (h3 : (List.range ws'.length).all (fun k => is.contains k || js.contains k) = true) (hn : As.length = k) (hrm : rm2.cells = 0 ∧ rm2.slots = 0) (hroom : rm2.frames + 1 ≤ R.frames ∧ 8 + (n2 + 11) + rm2.locals ≤ R.locals) (hcs : cells ≤ R.cells ∧ slots ≤ R.slots)
    (hst : st = As.reverse ++ .ref b :: rest) (hcat : (rest.map fun v => v.category).sum ≤ 8) (hdg : decode bytes pc = .ok (.invokevirtual idx, 3))
    (kk : ∀ (H1 : Heap) (locs1 : List Loc), HW G A s ws' H1 locs1 → W p l e R s m av below meth c H1 locs1 cells slots Q (F0 m (pc + 3) ls (.int r :: rest))) : W p l e R s m av below meth c H locs cells slots Q (F0 m pc ls st) := by
  obtain ⟨hx, hb, hr, hlk, hts, hown, hml, hK, hA⟩ := C
  obtain ⟨l1, l2, l3, l4, l5, l6, l7, l8⟩ := L
  obtain ⟨hP, hD, hS⟩ := hW
  have hPc : va_P G vwCl wc H := hP.sub is (fm_of hC)
  have hDc : va_D A wc := hD.sub is hnd hC
  have hFc := va_free (wc := wc) hD hS hA is hC
  have hrecv : ∃ cellB : Cell, H[b]? = some cellB ∧ cellB.vm.isStatics = false ∧ s.vm.findClass y.cls = some cellB.cls := by
    cases hq : vwCl[ci]? with
    | none => rw [hq] at hci; cases hci
    | some q =>
      rw [hq] at hci
      have hq1 : q.1 = y.cls := Option.some.inj hci
      rw [← hq1]
      exact va_recv hK.1 hPc hq hrc
  refine va_calli (va_runV (As := As) (rest := rest) ⟨hx, hb, hml, hown, hts⟩ (hM H.size) (cwV k hts (gTb (fun w hw => by
      rcases List.mem_append.mp hw with h | h
      · simp only [List.mem_cons, List.not_mem_nil, or_false] at h
        rcases h with rfl | rfl | rfl | rfl
        · exact l1
        · exact l2
        · exact l3
        · exact l4
      · exact codeTb l5 w h)) rfl hrm.1 hrm.2 ⟨rfl, l6, l7, l8⟩ hroom) ⟨PreW.blind, hrecv, fun U hU hW1 => ⟨rfl, by rw [hU], by rw [hU]; exact hPc, UK.warm hW1 hK, hDc.weaken (fun _ _ _ _ => trivial)⟩⟩ rfl hn hl.1 hst (lv_room hcat) hdg hcs) hS (fun q _ h => hFc q h) hFc (fun x u t H1 locs1 ht hvm hw hB hz1 hk1 hS1 => ?_)
  subst hw
  obtain ⟨hP1, hD1⟩ := hB
  rw [ht] at hP1
  obtain ⟨g1, g2⟩ := nw_join hP hD is js hC hA1 h1 h2 h4 h3 hk1 hP1
  exact kk H1 locs1 ⟨g1, g2, hS1⟩

theorem callVVm {y : MethodName} {b2 : ByteArray} {n2 k idx : Nat}  {rm2 : Room} {b : Addr} {As : List Value} {wc w1 : va_W} (is js : List Nat) (wr ws' : va_W)
    (C : Cx p s m av meth c own bytes n ret G cI cZ cO A) (L : LkV own idx y b2 n2 none k) (hM : MV l G cI cZ cO y b2 n2 rm2 (.ref b :: As) wc w1) (hW : HW G A s ws H locs) (hl : lv_has ls n lv) (ci : Nat) {fs : List Value} (hrc : wc[0]? = some (b, .inr (ci, fs))) (hci : (vwCl[ci]?).map (fun q => q.1) = some y.cls) 
    (hC : is.map (fun i => ws[i]?) = wc.map some) (hnd : va_nd is = true) (hA1 : w1.map Prod.fst = wc.map Prod.fst) (h1 : is.map (fun i => ws'[i]?) = w1.map some) (h2 : js.map (fun i => ws'[i]?) = wr.map some) (h4 : js.map (fun i => ws[i]?) = wr.map some) (h3 : (List.range ws'.length).all (fun k => is.contains k || js.contains k) = true) (hn : As.length = k) (hrm : rm2.cells = 0 ∧ rm2.slots = 0) (hroom : rm2.frames + 1 ≤ R.frames ∧ 8 + (n2 + 11) + rm2.locals ≤ R.locals) (hcs : cells ≤ R.cells ∧ slots ≤ R.slots)
    (hst : st = As.reverse ++ .ref b :: rest) (hcat : (rest.map fun v => v.category).sum ≤ 8) (hdg : decode bytes pc = .ok (.invokevirtual idx, 3))
    (kk : ∀ (H1 : Heap) (locs1 : List Loc), HW G A s ws' H1 locs1 → W p l e R s m av below meth c H1 locs1 cells slots Q (F0 m (pc + 3) ls rest)) : W p l e R s m av below meth c H locs cells slots Q (F0 m pc ls st) := by
  obtain ⟨hx, hb, hr, hlk, hts, hown, hml, hK, hA⟩ := C
  obtain ⟨l1, l2, l3, l4, l5, l6, l7, l8⟩ := L
  obtain ⟨hP, hD, hS⟩ := hW
  have hPc : va_P G vwCl wc H := hP.sub is (fm_of hC)
  have hDc : va_D A wc := hD.sub is hnd hC
  have hFc := va_free (wc := wc) hD hS hA is hC
  have hrecv : ∃ cellB : Cell, H[b]? = some cellB ∧ cellB.vm.isStatics = false ∧ s.vm.findClass y.cls = some cellB.cls := by
    cases hq : vwCl[ci]? with
    | none => rw [hq] at hci; cases hci
    | some q =>
      rw [hq] at hci
      have hq1 : q.1 = y.cls := Option.some.inj hci
      rw [← hq1]
      exact va_recv hK.1 hPc hq hrc
  refine va_callv (va_runV (As := As) (rest := rest) ⟨hx, hb, hml, hown, hts⟩ (hM H.size) (cwV k hts (gTb (fun w hw => by
      rcases List.mem_append.mp hw with h | h
      · simp only [List.mem_cons, List.not_mem_nil, or_false] at h
        rcases h with rfl | rfl | rfl | rfl
        · exact l1
        · exact l2
        · exact l3
        · exact l4
      · exact codeTb l5 w h)) rfl hrm.1 hrm.2 ⟨rfl, l6, l7, l8⟩ hroom) ⟨PreW.blind, hrecv, fun U hU hW1 => ⟨rfl, by rw [hU], by rw [hU]; exact hPc, UK.warm hW1 hK, hDc.weaken (fun _ _ _ _ => trivial)⟩⟩ rfl hn hl.1 hst (lv_room hcat) hdg hcs) hS (fun q _ h => hFc q h) hFc (fun u t H1 locs1 ht hvm hw hB hz1 hk1 hS1 => ?_)
  skip
  obtain ⟨hP1, hD1⟩ := hB
  rw [ht] at hP1
  obtain ⟨g1, g2⟩ := nw_join hP hD is js hC hA1 h1 h2 h4 h3 hk1 hP1
  exact kk H1 locs1 ⟨g1, g2, hS1⟩

theorem callVLm {y : MethodName} {b2 : ByteArray} {n2 k idx : Nat} {ty2 : FieldType} {r : Int64} {rm2 : Room} {b : Addr} {As : List Value} {wc w1 : va_W} (is js : List Nat) (wr ws' : va_W)
    (C : Cx p s m av meth c own bytes n ret G cI cZ cO A) (L : LkV own idx y b2 n2 (some ty2) k) (hM : ML l G cI cZ cO y b2 n2 ty2 rm2 (.ref b :: As) wc r w1) (hW : HW G A s ws H locs) (hl : lv_has ls n lv) (ci : Nat) {fs : List Value} (hrc : wc[0]? = some (b, .inr (ci, fs))) (hci : (vwCl[ci]?).map (fun q => q.1) = some y.cls) 
    (hC : is.map (fun i => ws[i]?) = wc.map some) (hnd : va_nd is = true) (hA1 : w1.map Prod.fst = wc.map Prod.fst) (h1 : is.map (fun i => ws'[i]?) = w1.map some) (h2 : js.map (fun i => ws'[i]?) = wr.map some) (h4 : js.map (fun i => ws[i]?) = wr.map some) (h3 : (List.range ws'.length).all (fun k => is.contains k || js.contains k) = true) (hn : As.length = k) (hrm : rm2.cells = 0 ∧ rm2.slots = 0) (hroom : rm2.frames + 1 ≤ R.frames ∧ 8 + (n2 + 11) + rm2.locals ≤ R.locals) (hcs : cells ≤ R.cells ∧ slots ≤ R.slots)
    (hst : st = As.reverse ++ .ref b :: rest) (hcat : (rest.map fun v => v.category).sum ≤ 8) (hdg : decode bytes pc = .ok (.invokevirtual idx, 3))
    (kk : ∀ (H1 : Heap) (locs1 : List Loc), HW G A s ws' H1 locs1 → W p l e R s m av below meth c H1 locs1 cells slots Q (F0 m (pc + 3) ls (.long r :: rest))) : W p l e R s m av below meth c H locs cells slots Q (F0 m pc ls st) := by
  obtain ⟨hx, hb, hr, hlk, hts, hown, hml, hK, hA⟩ := C
  obtain ⟨l1, l2, l3, l4, l5, l6, l7, l8⟩ := L
  obtain ⟨hP, hD, hS⟩ := hW
  have hPc : va_P G vwCl wc H := hP.sub is (fm_of hC)
  have hDc : va_D A wc := hD.sub is hnd hC
  have hFc := va_free (wc := wc) hD hS hA is hC
  have hrecv : ∃ cellB : Cell, H[b]? = some cellB ∧ cellB.vm.isStatics = false ∧ s.vm.findClass y.cls = some cellB.cls := by
    cases hq : vwCl[ci]? with
    | none => rw [hq] at hci; cases hci
    | some q =>
      rw [hq] at hci
      have hq1 : q.1 = y.cls := Option.some.inj hci
      rw [← hq1]
      exact va_recv hK.1 hPc hq hrc
  refine va_calll (va_runV (As := As) (rest := rest) ⟨hx, hb, hml, hown, hts⟩ (hM H.size) (cwV k hts (gTb (fun w hw => by
      rcases List.mem_append.mp hw with h | h
      · simp only [List.mem_cons, List.not_mem_nil, or_false] at h
        rcases h with rfl | rfl | rfl | rfl
        · exact l1
        · exact l2
        · exact l3
        · exact l4
      · exact codeTb l5 w h)) rfl hrm.1 hrm.2 ⟨rfl, l6, l7, l8⟩ hroom) ⟨PreW.blind, hrecv, fun U hU hW1 => ⟨rfl, by rw [hU], by rw [hU]; exact hPc, UK.warm hW1 hK, hDc.weaken (fun _ _ _ _ => trivial)⟩⟩ rfl hn hl.1 hst (lv_room hcat) hdg hcs) hS (fun q _ h => hFc q h) hFc (fun x u t H1 locs1 ht hvm hw hB hz1 hk1 hS1 => ?_)
  subst hw
  obtain ⟨hP1, hD1⟩ := hB
  rw [ht] at hP1
  obtain ⟨g1, g2⟩ := nw_join hP hD is js hC hA1 h1 h2 h4 h3 hk1 hP1
  exact kk H1 locs1 ⟨g1, g2, hS1⟩

/-- a field by its link: class ci, place k -/
def FL (own : String) (idx ci k : Nat) (Cn : String) (T : u_T) (N : Nat) : Prop := vwCl[ci]? = some (Cn, T, N) ∧ k < N ∧ (∀ w ∈ u_ws Cn T N, w ∈ Tb) ∧ Cond.fieldLink own idx (T k).1 (T k).2.1 (T k).2.2.1 ∈ Tb
def FP (own : String) (idx ci k : Nat) (Cn : String) (T : u_T) (N : Nat) (ty0 : Nat → FieldType) (ty : FieldType) (fin : Bool) : Prop := FL own idx ci k Cn T N ∧ (∀ k, k < N → parseFieldDescriptor (T k).2.2.1 = some (ty0 k)) ∧ (∀ a, a < N → ∀ b, b < N → a ≠ b → (T a).2.1 ≠ (T b).2.1) ∧ (T k).2.2.2 = fin ∧ parseFieldDescriptor (T k).2.2.1 = some ty ∧ (fin = true → (T k).1 = own)
theorem getW {idx ci k N : Nat} {Cn : String} {T : u_T} {a : Nat} {fs : List Value} {v : Value} (C : Cx p s m av meth c own bytes n ret G cI cZ cO A) (F : FL own idx ci k Cn T N) (hW : HW G A s ws H locs) (q0 : Nat) (he : ws[q0]? = some (a, .inr (ci, fs))) (hv : fs[k]? = some v) (hdg : decode bytes pc = .ok (.getfield idx, 3))
    (kk : W p l e R s m av below meth c H locs cells slots Q (F0 m (pc + 3) ls (v :: rest))) : W p l e R s m av below meth c H locs cells slots Q (F0 m pc ls (.ref a :: rest)) := by
  obtain ⟨hx, hb, hr, hlk, hts, hown, hml, hK, hA⟩ := C
  exact va_get hx hb hts F.2.2.1 hown hK.1 hW.1 q0 he F.1 k F.2.1 (hts _ F.2.2.2) (fun _ h9 => h9) hv hdg kk
theorem putW {idx ci k N : Nat} {Cn : String} {T : u_T} {ty0 : Nat → FieldType} {ty : FieldType} {a : Nat} {fs : List Value} {v : Value} (C : Cx p s m av meth c own bytes n ret G cI cZ cO A) (F : FP own idx ci k Cn T N ty0 ty false) (hW : HW G A s ws H locs) (q0 : Nat) (he : ws[q0]? = some (a, .inr (ci, fs))) (hn : narrow ty v = v) (hfit : fits ty v = true) (hl : k < fs.length) (hdg : decode bytes pc = .ok (.putfield idx, 3))
    (kk : ∀ (H : Heap) (locs : List Loc), HW G A s (ws.set q0 (a, .inr (ci, fs.set k v))) H locs → W p l e R s m av below meth c H locs cells slots Q (F0 m (pc + 3) ls rest)) : W p l e R s m av below meth c H locs cells slots Q (F0 m pc ls (v :: .ref a :: rest)) := by
  obtain ⟨hx, hb, hr, hlk, hts, hown, hml, hK, hA⟩ := C
  obtain ⟨F, f1, f2, f3, f4, f5⟩ := F
  exact va_put hx hb hts F.2.2.1 ty0 f1 f2 hown hK.1 hW.1 hW.2.1 hW.2.2 q0 he F.1 k F.2.1 (hts _ F.2.2.2) (fun _ h9 => h9) f3 f4 hn hfit hl hdg (fun H locs h1 h2 h3 => kk H locs ⟨h1, h2, h3⟩)
theorem putFW {idx ci k N : Nat} {Cn : String} {T : u_T} {ty0 : Nat → FieldType} {ty : FieldType} {a : Nat} {fs : List Value} {v : Value} (C : Cx p s m av meth c own bytes n ret G cI cZ cO A) (hin : meth.name = "<init>") (F : FP own idx ci k Cn T N ty0 ty true) (hW : HW G A s ws H locs) (q0 : Nat) (he : ws[q0]? = some (a, .inr (ci, fs))) (hn : narrow ty v = v) (hfit : fits ty v = true) (hl : k < fs.length) (hdg : decode bytes pc = .ok (.putfield idx, 3))
    (kk : ∀ (H : Heap) (locs : List Loc), HW G A s (ws.set q0 (a, .inr (ci, fs.set k v))) H locs → W p l e R s m av below meth c H locs cells slots Q (F0 m (pc + 3) ls rest)) : W p l e R s m av below meth c H locs cells slots Q (F0 m pc ls (v :: .ref a :: rest)) := by
  obtain ⟨hx, hb, hr, hlk, hts, hown, hml, hK, hA⟩ := C
  obtain ⟨F, f1, f2, f3, f4, f5⟩ := F
  exact va_putF hx hb hts F.2.2.1 ty0 f1 f2 hown hK.1 hW.1 hW.2.1 hW.2.2 q0 he F.1 k F.2.1 (hts _ F.2.2.2) (fun _ h9 => h9) f3 hin (f5 rfl) f4 hn hfit hl hdg (fun H locs h1 h2 h3 => kk H locs ⟨h1, h2, h3⟩)
theorem ialdW {a k : Nat} {f : Nat → Int32} {i : Int32} (C : Cx p s m av meth c own bytes n ret G cI cZ cO A) (hW : HW G A s ws H locs) (q0 : Nat) (ha : ws[q0]? = some (a, .inl (cI, k, .inl f))) (hin : vp_in i k) (hdg : decode bytes pc = .ok (.iaload, 1))
    (kk : W p l e R s m av below meth c H locs cells slots Q (F0 m (pc + 1) ls (.int (f i.toNatClampNeg) :: rest))) : W p l e R s m av below meth c H locs cells slots Q (F0 m pc ls (.int i :: .ref a :: rest)) := by
  obtain ⟨hx, hb, hr, hlk, hts, hown, hml, hK, hA⟩ := C
  exact va_iald hx hb hK.1 hW.1 q0 0 ha rfl hin hdg kk
theorem zaldW {a k : Nat} {f : Nat → Int32} {i : Int32} (C : Cx p s m av meth c own bytes n ret G cI cZ cO A) (hW : HW G A s ws H locs) (q0 : Nat) (ha : ws[q0]? = some (a, .inl (cZ, k, .inl f))) (hin : vp_in i k) (hdg : decode bytes pc = .ok (.baload, 1))
    (kk : W p l e R s m av below meth c H locs cells slots Q (F0 m (pc + 1) ls (.int (f i.toNatClampNeg) :: rest))) : W p l e R s m av below meth c H locs cells slots Q (F0 m pc ls (.int i :: .ref a :: rest)) := by
  obtain ⟨hx, hb, hr, hlk, hts, hown, hml, hK, hA⟩ := C
  exact va_zald hx hb hK.1 hW.1 q0 1 ha rfl hin hdg kk
theorem iastW {a k : Nat} {f : Nat → Int32} {i x : Int32} (C : Cx p s m av meth c own bytes n ret G cI cZ cO A) (hW : HW G A s ws H locs) (q0 : Nat) (ha : ws[q0]? = some (a, .inl (cI, k, .inl f))) (hin : vp_in i k) (hdg : decode bytes pc = .ok (.iastore, 1))
    (kk : ∀ (H : Heap) (locs : List Loc), HW G A s (ws.set q0 (a, .inl (cI, k, .inl (upd f i.toNatClampNeg x)))) H locs → W p l e R s m av below meth c H locs cells slots Q (F0 m (pc + 1) ls rest)) : W p l e R s m av below meth c H locs cells slots Q (F0 m pc ls (.int x :: .int i :: .ref a :: rest)) := by
  obtain ⟨hx, hb, hr, hlk, hts, hown, hml, hK, hA⟩ := C
  exact va_iast hx hb hK.1 hW.1 hW.2.1 hW.2.2 q0 0 ha rfl hin hdg (fun H locs h1 h2 h3 => kk H locs ⟨h1, h2, h3⟩)
theorem zastW {a k : Nat} {f : Nat → Int32} {i x : Int32} (C : Cx p s m av meth c own bytes n ret G cI cZ cO A) (hW : HW G A s ws H locs) (q0 : Nat) (ha : ws[q0]? = some (a, .inl (cZ, k, .inl f))) (hin : vp_in i k) (hdg : decode bytes pc = .ok (.bastore, 1))
    (kk : ∀ (H : Heap) (locs : List Loc), HW G A s (ws.set q0 (a, .inl (cZ, k, .inl (upd f i.toNatClampNeg (vp_nar .boolean x))))) H locs → W p l e R s m av below meth c H locs cells slots Q (F0 m (pc + 1) ls rest)) : W p l e R s m av below meth c H locs cells slots Q (F0 m pc ls (.int x :: .int i :: .ref a :: rest)) := by
  obtain ⟨hx, hb, hr, hlk, hts, hown, hml, hK, hA⟩ := C
  exact va_zast hx hb hK.1 hW.1 hW.2.1 hW.2.2 q0 1 ha rfl hin hdg (fun H locs h1 h2 h3 => kk H locs ⟨h1, h2, h3⟩)
theorem alenW {a k : Nat} {f : Nat → Int32} {v : Int32} (C : Cx p s m av meth c own bytes n ret G cI cZ cO A) (hW : HW G A s ws H locs) (q0 : Nat) (ha : ws[q0]? = some (a, .inl (cI, k, .inl f))) (hv : Int32.ofNat k = v) (hdg : decode bytes pc = .ok (.arraylength, 1))
    (kk : W p l e R s m av below meth c H locs cells slots Q (F0 m (pc + 1) ls (.int v :: rest))) : W p l e R s m av below meth c H locs cells slots Q (F0 m pc ls (.ref a :: rest)) := by
  obtain ⟨hx, hb, hr, hlk, hts, hown, hml, hK, hA⟩ := C
  exact va_alen hx hb hK.1 hW.1 q0 0 ha rfl hv hdg kk
def LkC (own : String) (idx : Nat) : Prop := Cond.methodLink own idx arraycopyName ∈ Tb ∧ Cond.native arraycopyName ∈ Tb ∧ Cond.static arraycopyName ∈ Tb ∧ Cond.initialized "java/lang/System" ∈ Tb
/-- System.arraycopy of a whole int row of k places onto another, from 0 on -/
theorem copyW {idx a0 a k : Nat} {f g : Nat → Int32} {z : Int32} (C : Cx p s m av meth c own bytes n ret G cI cZ cO A) (K : LkC own idx) (hW : HW G A s ws H locs) (hl : lv_has ls n lv) (q0 q1 : Nat) (ha0 : ws[q0]? = some (a0, .inl (cI, k, .inl f))) (ha1 : ws[q1]? = some (a, .inl (cI, k, .inl g))) (hz : ¬ z < 0) (hk : z.toNatClampNeg = k)
    (hframes : 1 ≤ R.frames) (hlocals : (rest.map fun v => v.category).sum + (nativeFrameWords "java/lang/System" "arraycopy" 5 + 11) ≤ R.locals) (hdg : decode bytes pc = .ok (.invokestatic idx, 3))
    (kk : ∀ (H : Heap) (locs : List Loc), HW G A s (ws.set q1 (a, .inl (cI, k, .inl (va_cpy f g 0 0 k)))) H locs → W p l e R s m av below meth c H locs cells slots Q (F0 m (pc + 3) ls rest)) : W p l e R s m av below meth c H locs cells slots Q (F0 m pc ls (.int z :: .int 0 :: .ref a :: .int 0 :: .ref a0 :: rest)) := by
  obtain ⟨hx, hb, hr, hlk, hts, hown, hml, hK, hA⟩ := C
  subst hk
  exact va_copyi (ty := .int) hx hb (hml.trans hl.1.symm) hown (hts _ K.1) (hts _ K.2.1) (hts _ K.2.2.1) (hts _ K.2.2.2) hK.1 hW.1 hW.2.1 hW.2.2 q0 q1 0 0 ha0 ha1 rfl rfl rfl (by decide) (by decide) hz (by show 0 + _ ≤ _; omega) (by show 0 + _ ≤ _; omega) (fun i _ => rfl) hframes hlocals hdg (fun H locs h1 h2 h3 => kk H locs ⟨h1, h2, h3⟩)
def LkM (own : String) (idx : Nat) (x : MethodName) (b : ByteArray) (n : Nat) (r : Option FieldType) : Prop := Cond.methodLink own idx x ∈ Tb ∧ Cond.static x ∈ Tb ∧ Cond.initialized "java/lang/Math" ∈ Tb ∧ Cond.code x b n r ∈ Tb
theorem maxW {idx : Nat} {x y : Int32} (C : Cx p s m av meth c own bytes n ret G cI cZ cO A) (K : LkM own idx Lib.Math.max.name Lib.Math.max.code 2 (some .int)) (hl : lv_has ls n lv) (hframes : 1 ≤ R.frames) (hlocals : (rest.map fun v => v.category).sum + 13 ≤ R.locals) (hcs : cells ≤ R.cells ∧ slots ≤ R.slots) (hdg : decode bytes pc = .ok (.invokestatic idx, 3))
    (kk : W p l e R s m av below meth c H locs cells slots Q (F0 m (pc + 3) ls (.int (if x < y then y else x) :: rest))) : W p l e R s m av below meth c H locs cells slots Q (F0 m pc ls (.int y :: .int x :: rest)) := by
  obtain ⟨hx, hb, hr, hlk, hts, hown, hml, hK, hA⟩ := C
  exact va_mmax hx hb (hml.trans hl.1.symm) hown (hts _ K.1) (hts _ K.2.1) (hts _ K.2.2.1) (hts _ K.2.2.2) hframes hlocals hcs.1 hcs.2 hdg kk
theorem minW {idx : Nat} {x y : Int32} (C : Cx p s m av meth c own bytes n ret G cI cZ cO A) (K : LkM own idx Lib.Math.min.name Lib.Math.min.code 2 (some .int)) (hl : lv_has ls n lv) (hframes : 1 ≤ R.frames) (hlocals : (rest.map fun v => v.category).sum + 13 ≤ R.locals) (hcs : cells ≤ R.cells ∧ slots ≤ R.slots) (hdg : decode bytes pc = .ok (.invokestatic idx, 3))
    (kk : W p l e R s m av below meth c H locs cells slots Q (F0 m (pc + 3) ls (.int (if y < x then y else x) :: rest))) : W p l e R s m av below meth c H locs cells slots Q (F0 m pc ls (.int y :: .int x :: rest)) := by
  obtain ⟨hx, hb, hr, hlk, hts, hown, hml, hK, hA⟩ := C
  exact va_mmin hx hb (hml.trans hl.1.symm) hown (hts _ K.1) (hts _ K.2.1) (hts _ K.2.2.1) (hts _ K.2.2.2) hframes hlocals hcs.1 hcs.2 hdg kk
theorem absW {idx : Nat} {x : Int32} (C : Cx p s m av meth c own bytes n ret G cI cZ cO A) (K : LkM own idx Lib.Math.abs.name Lib.Math.abs.code 1 (some .int)) (hl : lv_has ls n lv) (hframes : 1 ≤ R.frames) (hlocals : (rest.map fun v => v.category).sum + 13 ≤ R.locals) (hcs : cells ≤ R.cells ∧ slots ≤ R.slots) (hdg : decode bytes pc = .ok (.invokestatic idx, 3))
    (kk : W p l e R s m av below meth c H locs cells slots Q (F0 m (pc + 3) ls (.int (if 0 ≤ x then x else 0 - x) :: rest))) : W p l e R s m av below meth c H locs cells slots Q (F0 m pc ls (.int x :: rest)) := by
  obtain ⟨hx, hb, hr, hlk, hts, hown, hml, hK, hA⟩ := C
  exact va_mabs hx hb (hml.trans hl.1.symm) hown (hts _ K.1) (hts _ K.2.1) (hts _ K.2.2.1) (hts _ K.2.2.2) hframes hlocals hcs.1 hcs.2 hdg kk
theorem maxlW {idx : Nat} {x y : Int64} (C : Cx p s m av meth c own bytes n ret G cI cZ cO A) (K : LkM own idx Lib.MathLoose.max_long.x Lib.MathLoose.max_long.code 4 (some .long)) (hl : lv_has ls n lv) (hframes : 1 ≤ R.frames) (hlocals : (rest.map fun v => v.category).sum + 15 ≤ R.locals) (hcs : cells ≤ R.cells ∧ slots ≤ R.slots) (hdg : decode bytes pc = .ok (.invokestatic idx, 3))
    (kk : W p l e R s m av below meth c H locs cells slots Q (F0 m (pc + 3) ls (.long (if y < x then x else y) :: rest))) : W p l e R s m av below meth c H locs cells slots Q (F0 m pc ls (.long y :: .long x :: rest)) := by
  obtain ⟨hx, hb, hr, hlk, hts, hown, hml, hK, hA⟩ := C
  exact va_mmax_long hx hb (hml.trans hl.1.symm) hown (hts _ K.1) (hts _ K.2.1) (hts _ K.2.2.1) (hts _ K.2.2.2) hframes hlocals hcs.1 hcs.2 hdg kk
end
/-- the pure functions' parts: a guard, a name, a call that may fail -/
def gd {α : Type} (c : Prop) [Decidable c] (x : Option α) : Option α := if c then none else x
def lt_ {α β : Type} (x : α) (f : α → β) : β := f x
theorem gd_h {α : Type} {c : Prop} [Decidable c] {x : Option α} {r : α} (h : gd c x = some r) : ¬ c ∧ x = some r := by
  unfold gd at h
  split at h
  · cases h
  · exact ⟨by assumption, h⟩
theorem bd_h {α β : Type} {x : Option α} {f : α → Option β} {r : β} (h : x.bind f = some r) : ∃ v, x = some v ∧ f v = some r := Option.bind_eq_some_iff.mp h
theorem lt_h {α β : Type} {x v : α} {f : α → β} {r : β} (e : v = x) (h : lt_ x f = r) : f v = r := by subst e; exact h
theorem ip_h {α : Type} {c : Prop} [Decidable c] {a b r : α} (hc : c) (h : (if c then a else b) = r) : a = r := by rwa [if_pos hc] at h
theorem in_h {α : Type} {c : Prop} [Decidable c] {a b r : α} (hc : ¬ c) (h : (if c then a else b) = r) : b = r := by rwa [if_neg hc] at h
theorem ne_ti {x k : Int32} {j : Int} (hk : k.toInt = j) (h : ¬ x = k) : x.toInt ≠ j := fun e => h (Int32.toInt_inj.mp (e.trans hk.symm))

section
variable {p : Program} {l : Launch} {e : Env} {R : Room} {s : State} {m : MethodId} {av : Array Value} {below : List Frame} {meth : Method} {c : Code} {H : Heap} {locs : List Loc} {cells slots : Nat} {Q : State → Prop} {own : String} {bytes : ByteArray} {n : Nat} {ret : Option FieldType} {G : va_G} {cI cZ cO : ClassId} {A : Nat → Prop} {ws : va_W} {pc : Nat} {ls : Array Slot} {rest st : List Value} {lv : List (Nat × Value)}
def RN (p : Program) (l : Launch) (e : Env) (R : Room) (s : State) (m : MethodId) (av : Array Value) (below : List Frame) (meth : Method) (c : Code) (G : va_G) (A : Nat → Prop) (bytes : ByteArray) (Q : State → Prop) (mc ms : Nat) (w1 : (Nat → Nat) → va_W) : Prop := ∀ (u : Nat → Nat) (H : Heap) (locs : List Loc) (pc : Nat) (ls : Array Slot), decode bytes pc = .ok (.return_, 1) → HW G A s (w1 u) H locs → W p l e R s m av below meth c H locs mc ms Q (F0 m pc ls [])
def RVk (p : Program) (l : Launch) (e : Env) (R : Room) (s : State) (m : MethodId) (av : Array Value) (below : List Frame) (meth : Method) (c : Code) (G : va_G) (A : Nat → Prop) (bytes : ByteArray) (Q : State → Prop) (mc ms : Nat) (w1 : va_W) : Prop := ∀ (H : Heap) (locs : List Loc) (pc : Nat) (ls : Array Slot), decode bytes pc = .ok (.return_, 1) → HW G A s w1 H locs → W p l e R s m av below meth c H locs mc ms Q (F0 m pc ls [])
theorem MN.of {y : MethodName} {rm : Room} {av : List Value} {w0 : va_W} {w1 : (Nat → Nat) → va_W} {mc ms : Nat} (hy : plainName y.cls = true) (hin : y.name = "<init>") (hn : (lg_sl av).length ≤ n)
    (body : ∀ (p : Program) (e : Env) (s : State) (m : MethodId) (below : List Frame) (meth : Method) (c : Code) (A : Nat → Prop) (Q : State → Prop), Cx p s m av.toArray meth c y.cls bytes n none G cI cZ cO A → meth.name = "<init>" → HW G A s w0 s.heap [] → RN p l e rm s m av.toArray below meth c G A bytes Q mc ms w1 → ∀ ls : Array Slot, lv_has ls n (lv_args 0 av) → W p l e rm s m av.toArray below meth c s.heap [] 0 0 Q (F0 m 0 ls [])) :
    MN l G cI cZ cO y bytes n rm av w0 w1 mc ms := by
  intro sz
  refine Met.ofW (cc := bytes) (maxL := n) (ret := none) hy rfl ?_
  intro p e s m args below meth c s₁ B hml hv
  obtain ⟨rfl, hsz, hP, hK, hD0⟩ := hv
  have hx := B.exec
  have hb := B.bytes
  have hr := B.returns
  have hts := atoms_spec (ws := .code y bytes n none :: Tb) B.pre
  have hown : s.vm.findClass y.cls = some m.cls := findClass_of_methodNamed B.named
  have hnm : meth.name = "<init>" := by rw [← hin]; exact (name_of_methodNamed B.named B.method).1
  subst hsz
  have hl := lv_entry av (n := n) hn
  rw [lg_entry_eq]
  exact body p e s m below meth c (va_A w0 s.heap.size) _ ⟨hx, hb, hr, B.notSynchronized, fun w hw => hts w (List.mem_cons_of_mem _ hw), hown, hml, hK, fun q h => Or.inr h⟩ hnm ⟨hP, hD0.self, va_S.rf⟩ (fun u H locs pc ls hd hW => W.vret hx hb hr (fun t ht hw => ⟨⟨u, rfl, trivial, ⟨by rw [ht]; exact hW.1, hW.2.1⟩⟩, hW.2.2.F ht⟩) hW.2.2.2.2 hd B.notSynchronized) _ hl
def LkO (own : String) (idx : Nat) : Prop := Cond.methodLink own idx objectInit ∈ Tb ∧ Cond.instanceMethod objectInit ∈ Tb ∧ Cond.code objectInit ⟨#[0xb1]⟩ 1 none ∈ Tb
theorem objW {idx a : Nat} (C : Cx p s m av meth c own bytes n ret G cI cZ cO A) (K : LkO own idx) (hl : lv_has ls n lv) (hframes : 1 ≤ R.frames) (hlocals : 2 * (F0 m pc ls (.ref a :: rest)).monitorRoom + (rest.map fun v => v.category).sum + 12 ≤ R.locals) (hdg : decode bytes pc = .ok (.invokespecial idx, 3))
    (kk : W p l e R s m av below meth c H locs cells slots Q (F0 m (pc + 3) ls rest)) : W p l e R s m av below meth c H locs cells slots Q (F0 m pc ls (.ref a :: rest)) := by
  obtain ⟨hx, hb, hr, hlk, hts, hown, hml, hK, hA⟩ := C
  exact W.objInit hx hb hown (hts _ K.1) (hts _ K.2.1) (hts _ K.2.2) rfl (hl.1.trans hml.symm) rfl hdg hframes hlocals kk
def LkW (own : String) (idx ci : Nat) (Cn : String) (T : u_T) (N : Nat) (ty0 : Nat → FieldType) : Prop := vwCl[ci]? = some (Cn, T, N) ∧ (∀ w ∈ u_ws Cn T N, w ∈ Tb) ∧ (∀ k, k < N → parseFieldDescriptor (T k).2.2.1 = some (ty0 k)) ∧ Cond.classLink own idx Cn ∈ Tb ∧ Cond.instantiable Cn N ∈ Tb ∧ Cond.initialized Cn ∈ Tb
theorem newW {idx ci N : Nat} {Cn : String} {T : u_T} {ty0 : Nat → FieldType} {fs : List Value} (C : Cx p s m av meth c own bytes n ret G cI cZ cO A) (K : LkW own idx ci Cn T N ty0) (hW : HW G A s ws H locs) (hfs : ∀ j, j < N → defaultValue (ty0 j) = vp_V fs j) (hcells : cells + 1 ≤ R.cells) (hslots : slots + N ≤ R.slots) (hdg : decode bytes pc = .ok (.new idx, 3))
    (kk : ∀ (q : Nat) (H : Heap), HW G A s (ws ++ [(q, .inr (ci, fs))]) H locs → W p l e R s m av below meth c H locs (cells + 1) (slots + N) Q (F0 m (pc + 3) ls (.ref q :: rest))) : W p l e R s m av below meth c H locs cells slots Q (F0 m pc ls rest) := by
  obtain ⟨hx, hb, hr, hlk, hts, hown, hml, hK, hA⟩ := C
  exact va_new hx hb hts K.2.1 ty0 K.2.2.1 hown (hts _ K.2.2.2.1) (hts _ K.2.2.2.2.1) (hts _ K.2.2.2.2.2) hK.1 hW.1 hW.2.1 hW.2.2 hA K.1 hfs hcells hslots hdg (fun q H h1 h2 h3 => kk q H ⟨h1, h2, h3⟩)
theorem cA_int {tys : List (ClassId × FieldType)} {cl : List vw_C} {cA : ClassId} (h1 : va_K G cl (tys ++ [(cA, .int)]) s) (h2 : UK G cI cZ cO s) : cA = cI := by
  have a := (h1.2 tys.length (cA, .int) (by simp)).2
  have b := (h2.1.2 0 (cI, .int) rfl).2
  exact Option.some.inj (a.symm.trans b)
theorem cA_bool {tys : List (ClassId × FieldType)} {cl : List vw_C} {cA : ClassId} (h1 : va_K G cl (tys ++ [(cA, .boolean)]) s) (h2 : UK G cI cZ cO s) : cA = cZ := by
  have a := (h1.2 tys.length (cA, .boolean) (by simp)).2
  have b := (h2.1.2 1 (cZ, .boolean) rfl).2
  exact Option.some.inj (a.symm.trans b)
theorem cA_ref {tys : List (ClassId × FieldType)} {cl : List vw_C} {cA : ClassId} (h1 : va_K G cl (tys ++ [(cA, .object RX4)]) s) (h2 : UK G cI cZ cO s) : cA = cO := by
  obtain ⟨_, _, _, _, _, a⟩ := (h1.2 tys.length (cA, .object RX4) (by simp)).2
  obtain ⟨_, _, _, _, _, b⟩ := (h2.1.2 2 (cO, .object RX4) rfl).2
  exact Option.some.inj (a.symm.trans b)
theorem newiW {k : Nat} {z : Int32} (C : Cx p s m av meth c own bytes n ret G cI cZ cO A) (K : Cond.arrayClass .int ∈ Tb) (hW : HW G A s ws H locs) (hz : ¬ z < 0) (hk : z.toNatClampNeg = k) (hbytes : k * componentBytes .int ≤ 536870912) (hcells : cells + 1 ≤ R.cells) (hslots : slots + k ≤ R.slots) (hdg : decode bytes pc = .ok (.newarray .int, 2))
    (kk : ∀ (q : Nat) (H : Heap), HW G A s (ws ++ [(q, .inl (cI, k, .inl (fun _ => 0)))]) H locs → W p l e R s m av below meth c H locs (cells + 1) (slots + k) Q (F0 m (pc + 2) ls (.ref q :: rest))) : W p l e R s m av below meth c H locs cells slots Q (F0 m pc ls (.int z :: rest)) := by
  obtain ⟨hx, hb, hr, hlk, hts, hown, hml, hK, hA⟩ := C
  refine va_newa (atype := .int) (a0 := (k, .inl (fun _ => 0))) hx hb (hts _ K) rfl hK.1 hW.1 hW.2.1 hW.2.2 hA (fun cA => rfl) hz hk hbytes hcells hslots hdg (fun q cA H h0 h1 h2 h3 => ?_)
  have e := cA_int h0 hK
  subst e
  exact kk q H ⟨h1, h2, h3⟩
theorem newzW {k : Nat} {z : Int32} (C : Cx p s m av meth c own bytes n ret G cI cZ cO A) (K : Cond.arrayClass .boolean ∈ Tb) (hW : HW G A s ws H locs) (hz : ¬ z < 0) (hk : z.toNatClampNeg = k) (hbytes : k * componentBytes .boolean ≤ 536870912) (hcells : cells + 1 ≤ R.cells) (hslots : slots + k ≤ R.slots) (hdg : decode bytes pc = .ok (.newarray .boolean, 2))
    (kk : ∀ (q : Nat) (H : Heap), HW G A s (ws ++ [(q, .inl (cZ, k, .inl (fun _ => 0)))]) H locs → W p l e R s m av below meth c H locs (cells + 1) (slots + k) Q (F0 m (pc + 2) ls (.ref q :: rest))) : W p l e R s m av below meth c H locs cells slots Q (F0 m pc ls (.int z :: rest)) := by
  obtain ⟨hx, hb, hr, hlk, hts, hown, hml, hK, hA⟩ := C
  refine va_newa (atype := .boolean) (a0 := (k, .inl (fun _ => 0))) hx hb (hts _ K) rfl hK.1 hW.1 hW.2.1 hW.2.2 hA (fun cA => rfl) hz hk hbytes hcells hslots hdg (fun q cA H h0 h1 h2 h3 => ?_)
  have e := cA_bool h0 hK
  subst e
  exact kk q H ⟨h1, h2, h3⟩
theorem newqW {k idx : Nat} {z : Int32} (C : Cx p s m av meth c own bytes n ret G cI cZ cO A) (K : Cond.classLink own idx RX4 ∈ Tb) (hW : HW G A s ws H locs) (hz : ¬ z < 0) (hk : z.toNatClampNeg = k) (hbytes : k * 4 ≤ 536870912) (hcells : cells + 1 ≤ R.cells) (hslots : slots + k ≤ R.slots) (hdg : decode bytes pc = .ok (.anewarray idx, 3))
    (kk : ∀ (q : Nat) (H : Heap), HW G A s (ws ++ [(q, .inl (cO, k, .inr (.inr (.inr (.inr (fun _ => none))))))]) H locs → W p l e R s m av below meth c H locs (cells + 1) (slots + k) Q (F0 m (pc + 3) ls (.ref q :: rest))) : W p l e R s m av below meth c H locs cells slots Q (F0 m pc ls (.int z :: rest)) := by
  obtain ⟨hx, hb, hr, hlk, hts, hown, hml, hK, hA⟩ := C
  refine va_newq hx hb hown (hts _ K) hK.2.2 hK.1 hW.1 hW.2.1 hW.2.2 hA hz hk hbytes hcells hslots hdg (fun q cA H h0 h1 h2 h3 => ?_)
  have e := cA_ref h0 hK
  subst e
  exact kk q H ⟨h1, h2, h3⟩
/-- a constructor's call: its object is the world's last cell -/
theorem callIN {y : MethodName} {b2 : ByteArray} {n2 idx : Nat} {rm2 : Room} {b : Addr} {cb : va_E} {w1 : (Nat → Nat) → va_W} {mc ms : Nat} (k : Nat)
    (C : Cx p s m av meth c own bytes n ret G cI cZ cO A) (L : LkI own idx y b2 n2 0) (hM : MN l G cI cZ cO y b2 n2 rm2 [.ref b] [(b, cb)] w1 mc ms) (hW : HW G A s (ws ++ [(b, cb)]) H locs) (hl : lv_has ls n lv) (hk : ws.length = k)
    (hrm : rm2.cells = mc ∧ rm2.slots = ms) (hroom : rm2.frames + 1 ≤ R.frames ∧ 8 + (n2 + 11) + rm2.locals ≤ R.locals) (hcs : cells + mc ≤ R.cells ∧ slots + ms ≤ R.slots) (hcat : (rest.map fun v => v.category).sum ≤ 8) (hdg : decode bytes pc = .ok (.invokespecial idx, 3))
    (kk : ∀ (u : Nat → Nat) (H1 : Heap) (locs1 : List Loc), HW G A s (ws ++ w1 u) H1 locs1 → W p l e R s m av below meth c H1 locs1 (cells + mc) (slots + ms) Q (F0 m (pc + 3) ls rest)) : W p l e R s m av below meth c H locs cells slots Q (F0 m pc ls (.ref b :: rest)) := by
  obtain ⟨hx, hb, hr, hlk, hts, hown, hml, hK, hA⟩ := C
  obtain ⟨l1, l2, l4, l5, l9, l6, l7, l8⟩ := L
  obtain ⟨hP, hD, hS⟩ := hW
  subst hk
  have hC : [ws.length].map (fun i => (ws ++ [(b, cb)])[i]?) = [(b, cb)].map some := by simp
  have hR : (List.range ws.length).map (fun i => (ws ++ [(b, cb)])[i]?) = ws.map some := by
    apply List.ext_getElem?
    intro i
    by_cases hi : i < ws.length
    · simp [List.getElem?_append_left hi, hi]
    · simp [hi]
  have hnd : va_nd (List.range ws.length) = true := by
    have key : ∀ (l : List Nat), l.Nodup → va_nd l = true := by
      intro l hl
      induction l with
      | nil => rfl
      | cons a t ih =>
        rw [List.nodup_cons] at hl
        simp only [va_nd, Bool.and_eq_true]
        refine ⟨?_, ih hl.2⟩
        first | (simp; exact hl.1) | (simpa using hl.1)
    exact key _ List.nodup_range
  have hPc : va_P G vwCl [(b, cb)] H := hP.sub _ (fm_of hC)
  have hDc : va_D A [(b, cb)] := hD.sub _ rfl hC
  have hFc := va_free (wc := [(b, cb)]) hD hS hA _ hC
  refine va_callv (va_runI (As := []) (rest := rest) ⟨hx, hb, hml, hown, hts⟩ (hM H.size) (cwI 0 hts (gTb (codeTb l5)) rfl hrm.1 hrm.2 (hts _ l4) (hts _ l1) (hts _ l2) l9 ⟨l6, l7, l8⟩ hroom) ⟨PreW.blind, fun U hU hW1 => ⟨rfl, by rw [hU], by rw [hU]; exact hPc, UK.warm hW1 hK, hDc.weaken (fun _ _ _ _ => trivial)⟩⟩ rfl rfl hl.1 rfl (lv_room hcat) hdg hcs) hS (fun q _ h => hFc q h) hFc (fun u t H1 locs1 ht hvm hw hB hz1 hk1 hS1 => ?_)
  obtain ⟨hP1, hD1⟩ := hB
  rw [ht] at hP1
  obtain ⟨g1, g2⟩ := va_join (wr := ws) (w1 := w1 u) hP hD [ws.length] (List.range ws.length) hC hR hnd (fun i hi h => by simp only [List.mem_range, List.mem_singleton] at hi h; omega) hk1 hFc hP1 hD1
  exact kk u H1 locs1 ⟨g1, g2, hS1⟩
end

section
variable {p : Program} {l : Launch} {e : Env} {R : Room} {s : State} {m : MethodId} {av : Array Value} {below : List Frame} {meth : Method} {c : Code} {H : Heap} {locs : List Loc} {cells slots : Nat} {Q : State → Prop} {own : String} {bytes : ByteArray} {n : Nat} {ret : Option FieldType} {G : va_G} {cI cZ cO : ClassId} {A : Nat → Prop} {ws : va_W} {pc : Nat} {ls : Array Slot} {rest st : List Value} {lv : List (Nat × Value)}
def MIN (l : Launch) (G : va_G) (cI cZ cO : ClassId) (y : MethodName) (b : ByteArray) (n : Nat) (ty : FieldType) (rm : Room) (av : List Value) (w0 : va_W) (r : Int32) (w1 : (Nat → Nat) → va_W) (mc ms : Nat) : Prop := ∀ sz : Nat, Met l y (.code y b n (some ty) :: Tb) rm (va_Pc av (PreW G cI cZ cO w0 sz)) (va_Qi (fun (x : Int32) (_ : Nat → Nat) => x = r) (fun u t => PosW G (va_A w0 sz) (w1 u) t) (va_A w0 sz)) mc ms (va_A w0 sz)
def RIN (p : Program) (l : Launch) (e : Env) (R : Room) (s : State) (m : MethodId) (av : Array Value) (below : List Frame) (meth : Method) (c : Code) (G : va_G) (A : Nat → Prop) (bytes : ByteArray) (Q : State → Prop) (mc ms : Nat) (r : Int32) (w1 : (Nat → Nat) → va_W) : Prop := ∀ (u : Nat → Nat) (H : Heap) (locs : List Loc) (pc : Nat) (ls : Array Slot), decode bytes pc = .ok (.ireturn, 1) → HW G A s (w1 u) H locs → W p l e R s m av below meth c H locs mc ms Q (F0 m pc ls [.int r])
theorem MIN.of {y : MethodName} {rm : Room} {av : List Value} {w0 : va_W} {r : Int32} {w1 : (Nat → Nat) → va_W} {mc ms : Nat} (hy : plainName y.cls = true) (hn : (lg_sl av).length ≤ n)
    (body : ∀ (p : Program) (e : Env) (s : State) (m : MethodId) (below : List Frame) (meth : Method) (c : Code) (A : Nat → Prop) (Q : State → Prop), Cx p s m av.toArray meth c y.cls bytes n (some .int) G cI cZ cO A → HW G A s w0 s.heap [] → RIN p l e rm s m av.toArray below meth c G A bytes Q mc ms r w1 → ∀ ls : Array Slot, lv_has ls n (lv_args 0 av) → W p l e rm s m av.toArray below meth c s.heap [] 0 0 Q (F0 m 0 ls [])) :
    MIN l G cI cZ cO y bytes n .int rm av w0 r w1 mc ms := by
  intro sz
  refine Met.ofW (cc := bytes) (maxL := n) (ret := some .int) hy rfl ?_
  intro p e s m args below meth c s₁ B hml hv
  obtain ⟨rfl, hsz, hP, hK, hD0⟩ := hv
  have hx := B.exec
  have hb := B.bytes
  have hr := B.returns
  have hts := atoms_spec (ws := .code y bytes n (some .int) :: Tb) B.pre
  have hown : s.vm.findClass y.cls = some m.cls := findClass_of_methodNamed B.named
  subst hsz
  have hl := lv_entry av (n := n) hn
  rw [lg_entry_eq]
  exact body p e s m below meth c (va_A w0 s.heap.size) _ ⟨hx, hb, hr, B.notSynchronized, fun w hw => hts w (List.mem_cons_of_mem _ hw), hown, hml, hK, fun q h => Or.inr h⟩ ⟨hP, hD0.self, va_S.rf⟩ (fun u H locs pc ls hd hW => W.iret hx hb hr (fun t ht hw => ⟨⟨r, u, rfl, rfl, ⟨by rw [ht]; exact hW.1, hW.2.1⟩⟩, hW.2.2.F ht⟩) hW.2.2.2.2 hd B.notSynchronized) _ hl
theorem aldqW {a k : Nat} {f : Nat → Option Nat} {i : Int32} (C : Cx p s m av meth c own bytes n ret G cI cZ cO A) (hW : HW G A s ws H locs) (q0 : Nat) (ha : ws[q0]? = some (a, .inl (cO, k, .inr (.inr (.inr (.inr f)))))) (hin : vp_in i k) (hdg : decode bytes pc = .ok (.aaload, 1))
    (kk : W p l e R s m av below meth c H locs cells slots Q (F0 m (pc + 1) ls (va_rf (f i.toNatClampNeg) :: rest))) : W p l e R s m av below meth c H locs cells slots Q (F0 m pc ls (.int i :: .ref a :: rest)) := by
  obtain ⟨hx, hb, hr, hlk, hts, hown, hml, hK, hA⟩ := C
  exact va_aldq hx hb hK.1 hW.1 q0 2 ha rfl hin hdg kk
theorem astqW {a k v : Nat} {vs : List Value} {f : Nat → Option Nat} {i : Int32} (C : Cx p s m av meth c own bytes n ret G cI cZ cO A) (hW : HW G A s ws H locs) (q0 qk : Nat) (ha : ws[q0]? = some (a, .inl (cO, k, .inr (.inr (.inr (.inr f)))))) (hv : ws[qk]? = some (v, .inr (4, vs))) (hin : vp_in i k) (hdg : decode bytes pc = .ok (.aastore, 1))
    (kk : ∀ (H : Heap) (locs : List Loc), HW G A s (ws.set q0 (a, .inl (cO, k, .inr (.inr (.inr (.inr (va_up f i.toNatClampNeg (some v)))))))) H locs → W p l e R s m av below meth c H locs cells slots Q (F0 m (pc + 1) ls rest)) : W p l e R s m av below meth c H locs cells slots Q (F0 m pc ls (.ref v :: .int i :: .ref a :: rest)) := by
  obtain ⟨hx, hb, hr, hlk, hts, hown, hml, hK, hA⟩ := C
  exact va_astq hx hb hK.1 hW.1 hW.2.1 hW.2.2 q0 2 qk 4 (r := (RX4, TX4, 3)) ha rfl hv rfl hin hdg (fun H locs h1 h2 h3 => kk H locs ⟨h1, h2, h3⟩)
end
