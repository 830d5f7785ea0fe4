/-! methods that may throw: what they stand on, their ends, the making of an exception, calls of them, the catch -/
def rs_xn (k : Nat) : String := match k with
  | 1 => "java/lang/IllegalArgumentException"
  | 2 => "java/lang/IllegalStateException"
  | _ => "java/util/NoSuchElementException"
def rs_xs : List String := ["java/lang/RuntimeException", "java/lang/Exception"]
/-- words that are said of the tables' face: they are carried from state to state -/
def rs_FW : List Cond := lw_tbl.filter (fun w => w.faceAtom && w.onTables)
def rs_NC : List (String × String) := [("java/lang/IllegalStateException", "java/lang/IllegalArgumentException"), ("java/util/NoSuchElementException", "java/lang/IllegalArgumentException")]
def rs_X (Bm : Nat) (U : State) : Prop := (∀ w ∈ rs_FW, va_Nw w U) ∧ (∀ q ∈ rs_NC, va_Nc q.1 q.2 U) ∧ va_Zq "java/lang/Throwable" "UNASSIGNED_STACK" "[Ljava/lang/StackTraceElement;" (rs_A Bm) U U.heap ∧ va_Zq "java/lang/Throwable" "SUPPRESSED_SENTINEL" "Ljava/util/List;" (rs_A Bm) U U.heap ∧ Bm < U.heap.size ∧ (Cond.laysStatic "java/lang/Throwable" "UNASSIGNED_STACK" "[Ljava/lang/StackTraceElement;").before #[] U = true ∧ (Cond.laysStatic "java/lang/Throwable" "SUPPRESSED_SENTINEL" "Ljava/util/List;").before #[] U = true
theorem rs_lays_moved {C n d : String} {Bm : Nat} {u U : State} {args : Array Value} (hvm : u.vm.Alike U.vm) (hq : ∀ a : Nat, a < u.heap.size → ¬ rs_A Bm a → U.heap[a]? = u.heap[a]?) (hZ : va_Zq C n d (rs_A Bm) u u.heap) (h : (Cond.laysStatic C n d).before #[] u = true) : (Cond.laysStatic C n d).before args U = true := by
  obtain ⟨c, k, i, f, a, cell, hc, hi, hst, ha, hcell, hs, hcls, hlt, hty⟩ := Cond.laysStatic_spec h
  have hna : ¬ rs_A Bm a := by
    rcases hZ with ⟨cf', kf', fi', f', b', ce', i1, -, -, i2, -, -, -, i3⟩ | ⟨t, cf', kf', fi', f', b', ce', i1, -, -, i2, -, -, -, i3⟩ <;>
    · have e0 := hi.symm.trans i1
      simp only [Option.some.injEq, Prod.mk.injEq] at e0
      obtain ⟨-, e1, -, -⟩ := e0
      subst e1
      have e2 := Option.some.inj (ha.symm.trans i2)
      subst e2
      exact i3
  obtain ⟨k', hi', hek⟩ := State.fieldFound?_setVm hvm hi
  exact Cond.laysStatic_of (s := U) (by rw [hvm.findClass]; exact hc) hi' hst (by rw [hek]; exact ha) (by rw [hq a (Array.getElem?_eq_some_iff.mp hcell).1 hna]; exact hcell) hs hcls hlt (by rw [hek]; exact hty)
theorem rs_face_moved {w : Cond} (hw : w ∈ rs_FW) {s U : State} (hW : s.WarmedH U.vm) (h : va_Nw w s) : va_Nw w U := by
  have h2 := (List.mem_filter.mp hw).2
  simp only [Bool.and_eq_true] at h2
  have hk : w.keepsFace = true := by
    cases w <;> first | rfl | (simp [Cond.faceAtom] at h2; done) | (simp [Cond.keepsFace, Cond.keeps, Cond.steady, Cond.faceAtom] at h2 ⊢; first | exact h2 | exact h2.1)
  have h1 : w.before #[] (s.setVm U.vm) = true := Cond.before_shiftedFace (State.Shifted.of_warmed hW) w hk h
  exact va_tabs h2.2 (rfl : (s.setVm U.vm).vm = U.vm) h1
theorem rs_X.moved {Bm : Nat} {u U : State} (hW : u.WarmedH U.vm) (hz : u.heap.size ≤ U.heap.size) (hq : ∀ a : Nat, a < u.heap.size → ¬ rs_A Bm a → U.heap[a]? = u.heap[a]?) (h : rs_X Bm u) : rs_X Bm U :=
  ⟨fun w hw => rs_face_moved hw hW (h.1 w hw), fun q hm => va_Nc.moved hW.alike (h.2.1 q hm), (va_Zq.moved hW.alike h.2.2.1).kept hq, (va_Zq.moved hW.alike h.2.2.2.1).kept hq, Nat.lt_of_lt_of_le h.2.2.2.2.1 hz, rs_lays_moved hW.alike hq h.2.2.1 h.2.2.2.2.2.1, rs_lays_moved hW.alike hq h.2.2.2.1 h.2.2.2.2.2.2⟩
theorem rs_X.same {Bm : Nat} {u U : State} (hvm : u.vm = U.vm) (hh : U.heap = u.heap) (h : rs_X Bm u) : rs_X Bm U := by
  have a : u.vm.Alike U.vm := hvm ▸ Vm.Alike.refl u.vm
  have hq : ∀ b : Nat, b < u.heap.size → ¬ rs_A Bm b → U.heap[b]? = u.heap[b]? := fun b _ _ => by rw [hh]
  refine ⟨fun w hw => ?_, fun q hm => va_Nc.moved a (h.2.1 q hm), ?_, ?_, ?_, rs_lays_moved a hq h.2.2.1 h.2.2.2.2.2.1, rs_lays_moved a hq h.2.2.2.1 h.2.2.2.2.2.2⟩
  · have h2 := (List.mem_filter.mp hw).2
    simp only [Bool.and_eq_true] at h2
    exact va_Nw.same h2.2 hvm (h.1 w hw)
  · rw [hh]; exact va_Zq.moved a h.2.2.1
  · rw [hh]; exact va_Zq.moved a h.2.2.2.1
  · rw [hh]; exact h.2.2.2.2.1
theorem rs_Zref {C n d : String} {A : Nat → Prop} {args : Array Value} {U : State} (h : va_Zq C n d A U U.heap) : (Cond.isRef (.static C n d)).before args U = true := by
  have key : ∀ v : Value, v.isRef = true → va_Z C n d v A U U.heap → (Cond.isRef (.static C n d)).before args U = true := by
    intro v hv hz
    obtain ⟨cf, kf, fi, f, a, cell, h1, h2, -, h4, h5, h6, h7, -⟩ := hz
    have e : (Term.static C n d).eval args U none [] U = some v := by
      simp [Term.eval, State.fieldNamed?, h1, h2, h4, h5, h6, h7]
    simp only [Cond.before, Cond.holds, Cond.value, e]
    cases v <;> simp_all [Value.isRef]
  rcases h with h | ⟨t, h⟩
  · exact key _ rfl h
  · exact key _ rfl h
/-- what the making of an exception wants of the tables, by program -/
def rs_thw (own : String) (idx ic k : Nat) : Bool :=
  (Bundle.ownAtoms0 own ic (rs_xn k) rs_xs).all (fun a => decide (a ∈ rs_W) || decide (a ∈ rs_FW) || decide (a = Cond.isRef (.static "java/lang/Throwable" "UNASSIGNED_STACK" "[Ljava/lang/StackTraceElement;")) || decide (a = Cond.isRef (.static "java/lang/Throwable" "SUPPRESSED_SENTINEL" "Ljava/util/List;")) || decide (a = Cond.laysStatic "java/lang/Throwable" "UNASSIGNED_STACK" "[Ljava/lang/StackTraceElement;") || decide (a = Cond.laysStatic "java/lang/Throwable" "SUPPRESSED_SENTINEL" "Ljava/util/List;")) &&
  decide (Cond.classLink own idx (rs_xn k) ∈ rs_W) && decide (Cond.instantiable (rs_xn k) 6 ∈ rs_W) && decide (Cond.initialized (rs_xn k) ∈ rs_W) && Bundle.fit (rs_xn k)
theorem rs_thw_at {own : String} {idx ic k : Nat} (hw : rs_thw own idx ic k = true) {Bm : Nat} {args : Array Value} {s : State} (hts : ∀ w ∈ rs_W, w.before args s = true) (hX : rs_X Bm s) : ∀ a ∈ Bundle.ownAtoms0 own ic (rs_xn k) rs_xs, a.before args s = true := by
  intro a ha
  simp only [rs_thw, Bool.and_eq_true] at hw
  have h := List.all_eq_true.mp hw.1.1.1.1 a ha
  simp only [Bool.or_eq_true, decide_eq_true_eq] at h
  rcases h with ((((h | h) | h) | h) | h) | h
  · exact hts a h
  · have h2 := (List.mem_filter.mp h).2
    simp only [Bool.and_eq_true] at h2
    exact va_Nw.use h2.2 (hX.1 a h)
  · rw [h]; exact rs_Zref hX.2.2.1
  · rw [h]; exact rs_Zref hX.2.2.2.1
  · rw [h]; exact rs_lays_moved (Vm.Alike.refl s.vm) (fun _ _ _ => rfl) hX.2.2.1 hX.2.2.2.2.2.1
  · rw [h]; exact rs_lays_moved (Vm.Alike.refl s.vm) (fun _ _ _ => rfl) hX.2.2.2.1 hX.2.2.2.2.2.2
/-- the ends of a method that may throw: it returns, or throws a new exception of the kind k -/
def rs_ET (G : rs_G) (Bm : Nat) (S : rs_Shp) (Qc : Array Value → State → Outcome → State → Prop) (QT : Nat → rs_Mem → Prop) : Array Value → State → Outcome → State → Prop := fun a st o t =>
  (((∃ v, o = .returned v) ∧ Qc a st o t) ∨ (∃ (x k : Nat) (σ : rs_Mem) (ce : Cell), o = .threw x ∧ QT k σ ∧ rs_B G Bm S σ t ∧ va_F (rs_A Bm) st t ∧ t.heap[x]? = some ce ∧ st.vm.findClass (rs_xn k) = some ce.cls ∧ ce.vm = .none)) ∧
  ∃ L : List Loc, st.WarmedH t.vm ∧ st.sameButNew ({ t with vm := st.vm } : State) L 1 6 ∧ ∀ q ∈ L, rs_A Bm q.base
def rs_MQ (below : List Frame) (E : Array Value → State → Outcome → State → Prop) (a : Array Value) (s : State) : State → Prop := fun t => ∃ o, t.status = .running ∧ Ended t below o ∧ E a s o t
def rs_PT (G : rs_G) (Bm : Nat) (S : rs_Shp) (σ : rs_Mem) (vs : List Value) : Array Value → State → Prop := va_Pc vs (fun U => (rs_B G Bm S σ U ∧ rs_K G U) ∧ rs_X Bm U)
def rs_MetT (l : Launch) (y : MethodName) (bytes : ByteArray) (maxL : Nat) (ret : Option FieldType) (rm : Room) (G : rs_G) (Bm : Nat) (S : rs_Shp) (σ : rs_Mem) (vs : List Value) (Qc : Array Value → State → Outcome → State → Prop) (QT : Nat → rs_Mem → Prop) : Prop :=
  MetFree l y (headSpec (rs_ws y bytes maxL ret) rm) (rs_PT G Bm S σ vs) (fun _ _ _ _ _ => True) (rs_ET G Bm S Qc QT)
def rs_XC (l : Launch) (Bm : Nat) (s : State) (c : Code) : Prop := l.flags = flags0 ∧ rs_X Bm s ∧ c.exceptionTable.isEmpty = true
theorem rs_metT {own : String} {cc : ByteArray} {nL : Nat} {ret : Option FieldType} {G : rs_G} {Bm : Nat} {S : rs_Shp} {σ : rs_Mem} {vs : List Value} {Qc : Array Value → State → Outcome → State → Prop} {QT : Nat → rs_Mem → Prop} {rm : Room} {y : MethodName} {l : Launch}
    (hfl : l.flags = flags0) (hy : plainName y.cls = true) (hown : y.cls = own) (hlen : (lg_sl vs).length ≤ nL)
    (body : ∀ (p : Program) (e : Env) (s : State) (m : MethodId) (below : List Frame) (meth : Method) (c : Code) (ls : Array Slot), rs_C own cc nL ret G p s m meth c vs.toArray → rs_XC l Bm s c → lv_has ls nL (lv_args 0 vs) → rs_H G Bm S σ s.heap → rs_T S σ → va_S (rs_A Bm) s.heap s.heap [] →
      W p l e rm s m vs.toArray below meth c s.heap [] 0 0 (rs_MQ below (rs_ET G Bm S Qc QT) vs.toArray s) (F0 m 0 ls [])) : rs_MetT l y cc nL ret rm G Bm S σ vs Qc QT := by
  refine MetFree.of_bodyS (code := cc) (maxLocals := nL) (ret := ret) hy ?_ ?_
  · intro args s m h hn
    obtain ⟨meth, c, h1, h2, h3, h4, h5, h6, -, -⟩ := Cond.code_spec hn (atoms_spec (ws := rs_ws y cc nL ret) h _ List.mem_cons_self)
    exact ⟨meth, c, h1, h2, h3, h4, h5, h6⟩
  · intro p e s m args below meth c s₁ B hml hP _
    obtain ⟨rfl, ⟨⟨hH, hT⟩, hK⟩, hX⟩ := hP
    have hts := atoms_spec (ws := rs_ws y cc nL ret) B.pre
    have ho : s.vm.findClass own = some m.cls := by rw [← hown]; exact findClass_of_methodNamed B.named
    have hl := lv_entry vs (n := nL) hlen
    have hh0 : s₁.heap = s.heap := by rw [B.state]; rfl
    have hno := BodyLoose.noHandlers B (hts _ List.mem_cons_self)
    obtain ⟨t, a1, o, b1, b2, b3⟩ := body p e s m below meth c _ ⟨B.exec, B.bytes, hml, B.returns, ho, fun w hw => hts w (List.mem_cons_of_mem _ hw), hK, B.notSynchronized⟩ ⟨hfl, hX, hno⟩ hl hH hT va_S.rf s₁ hh0 (Stand.of_body B)
    refine ⟨t, o, ?_, b1, b2, b3⟩
    rw [lg_entry_eq]
    exact a1
section RTH
variable {p : Program} {l : Launch} {e : Env} {R : Room} {s : State} {m : MethodId} {args : Array Value} {below : List Frame} {meth : Method} {c : Code} {H : Heap} {locs : List Loc} {cells slots : Nat} {Q : State → Prop}
variable {cc : ByteArray} {pc : Nat} {ls : Array Slot} {rest st0 : List Value} {G : rs_G} {Bm : Nat} {S : rs_Shp} {σ : rs_Mem} {own : String} {nL : Nat} {ret : Option FieldType} {H0 : Heap}
theorem rs_toT {Qc : Array Value → State → Outcome → State → Prop} {QT : Nat → rs_Mem → Prop} {g : JFrame} (k : W p l e R s m args below meth c H locs 0 0 (MQ below Qc args s 0 0 (rs_A Bm)) g) : W p l e R s m args below meth c H locs 0 0 (rs_MQ below (rs_ET G Bm S Qc QT) args s) g := by
  intro T hT X
  obtain ⟨t, a, o, b1, b2, b3, L, hF, hL⟩ := k T hT X
  exact ⟨t, a, o, b1, b2, Or.inl ⟨hF.1, b3⟩, L, hF.2.1, hF.2.2.mono (Nat.zero_le _) (Nat.zero_le _), hL⟩
/-- the constructor of an exception, from its call to behind it: nothing changes but the new object -/
theorem rs_ctor {T : State} (X : Stand p l e R s m args below meth c T locs cells slots) (hexec : p.tables.exec = Jvm.exec) (htr : e.platform.stackTraces = false) {cls : String} {names : List String} {ic : Nat}
    (hown : s.vm.findClass own = some m.cls) (hcls : Bundle.fit cls = true) (hnames : ∀ n ∈ names, Bundle.fit n = true) (h : ∀ a ∈ Bundle.ownAtoms0 own ic cls names, a.before args s = true)
    (hlocs : ∀ (cf fi : Nat) (kf : Class) (f : Field) (b : Nat), s.fieldFound? "java/lang/Throwable" "UNASSIGNED_STACK" "[Ljava/lang/StackTraceElement;" = some (cf, kf, fi, f) → kf.statics = some b → ∀ x ∈ locs, x.base ≠ b)
    {a : Addr} {cX : ClassId} {kX : Class} (hfX : s.vm.findClass cls = some cX) (hkX : s.vm.classes[cX]? = some kX) (hcell : T.heap[a]? = some (freshCell cX kX)) (hnew : s.heap.size ≤ a)
    {g : JFrame} (hg : g.method = m) (hsize : g.locals.size = c.maxLocals) (hstack : g.stack = .ref a :: .ref a :: rest) (hdg : decode c.code g.pc = .ok (.invokespecial ic, 3))
    (hRf : names.length + 3 < R.frames) (hRl : 2 * g.monitorRoom + ((Value.ref a :: rest).map fun v => v.category).sum + (13 * (names.length + 1) + 41) ≤ R.locals) :
    ∃ (vm' : Vm) (ce : Cell) (L : List Loc), ce.cls = cX ∧ ce.vm = .none ∧ (∀ q ∈ L, q.base = a) ∧ Stand p l e R s m args below meth c ((T.setVm vm').setCell a ce) (locs ++ L) cells slots ∧
      ∀ target, Steps p.tables e below (((T.setVm vm').setCell a ce).setTop { g with pc := g.pc + 3, stack := .ref a :: rest }) target → Steps p.tables e below (T.setTop g) target := by
  have howns : e.platform.frameOwnsMonitors = true := by rw [X.admits.platform]
  have hfin : e.platform.finalization = false := by rw [X.admits.platform]
  have hpl : e.platform.magicAccessors = ({} : Platform).magicAccessors := by rw [X.admits.platform]
  have hall : ∀ x, x ∈ Bundle.ownAtoms0 own ic cls names → x.holds args s none s [] = true := fun x hx => h x hx
  obtain ⟨Th, Z, L, LZ, Y⟩ := ThrowableC.of_atoms (args := args) howns hfin hpl (fun x hx => h x (by simp [Bundle.ownAtoms0, hx]))
  obtain ⟨P1, Ps, hlen, L1, hLs, hP1, hlk1, hlk⟩ := Bundle.chain0 (args := args) hpl Y.init0 names cls hcls hnames (fun x hx => h x (by simp [Bundle.ownAtoms0, hx]))
  have hf1 : s.vm.findClass cls = some P1.m.cls := findClass_of_methodNamed hP1
  have ecX : cX = P1.m.cls := Option.some.inj (hfX.symm.trans hf1)
  subst ecX
  obtain ⟨c1, kX', hc1, hk1, hord, -, -, hn6⟩ := Cond.instantiable_spec (hall (.instantiable cls 6) (by simp [Bundle.ownAtoms0]))
  have ec1 : c1 = P1.m.cls := Option.some.inj (hc1.symm.trans hf1)
  subst ec1
  have ekX : kX = kX' := Option.some.inj (hkX.symm.trans hk1)
  subst ekX
  have sel : ∀ (y : MethodName) (mi : MethodId), (Cond.selects cls y y).holds args s none s [] = true → y.cls ≠ "java/lang/invoke/MethodHandle" ∧ y.cls ≠ "java/lang/invoke/VarHandle" → s.methodNamed? y = some mi → selectMethod e.platform s.vm P1.m.cls mi = .method mi := by
    intro y mi hy hne hnm
    obtain ⟨c2, r2, m2, q1, q2, q3, q4, -⟩ := Cond.selects_spec hy
    have e1 : c2 = P1.m.cls := Option.some.inj (q1.symm.trans hf1)
    subst e1
    have e2 := Option.some.inj (q2.symm.trans (State.methodFound?_of_named hnm hne))
    have e3 := Option.some.inj (q3.symm.trans hnm)
    subst e2; subst e3
    rw [Launch.admits_selectMethod X.admits]; exact q4
  have hsel0 := sel Bundle.tFill0 Th.fill0 (hall _ (by simp [Bundle.ownAtoms0])) (by decide) Y.fill0
  have hselF := sel Bundle.tFill Th.fill (hall _ (by simp [Bundle.ownAtoms0])) (by decide) Y.fill
  obtain ⟨cS0, hcS0, hiss⟩ := Y.statics
  obtain ⟨u0, hu0⟩ := Cond.staticRefV Y.unassigned L.unassignedStatic L.statics hcS0 hiss (hall (.isRef (.static Bundle.tN "UNASSIGNED_STACK" Bundle.steD)) (by simp [Bundle.ownAtoms0]))
  obtain ⟨sen, hsen⟩ := Cond.staticRefV Y.sentinel L.sentinelStatic L.statics hcS0 hiss (hall (.isRef (.static Bundle.tN "SUPPRESSED_SENTINEL" Bundle.listD)) (by simp [Bundle.ownAtoms0]))
  obtain ⟨ci, i198, fB, hk198, hg198, ha198, hsB, -, hnB, htB, hffB⟩ := Cond.ownField (t := .object "java/lang/Object") Y.found L.cls (by decide +kernel) (hall (.fieldLink Bundle.tN 198 Bundle.tN "backtrace" "Ljava/lang/Object;") (by simp [Bundle.ownAtoms0])) (hall (.lays Bundle.tN Bundle.tN "backtrace" "Ljava/lang/Object;") (by simp [Bundle.ownAtoms0])) e.platform hpl
  obtain ⟨cS, hcS, heS, -, hkeep⟩ := X.same.2.2.2.2.2 Th.aS cS0 hcS0
  have hfar : ∀ i, (⟨Th.aS, i⟩ : Loc) ∉ locs := fun i hmem => hlocs _ _ _ _ _ Y.unassigned L.statics _ hmem rfl
  have hknown : cS.vm ≠ .unknown := by
    rw [heS]; intro hu
    rw [show cS0.vm = .unknown from hu] at hiss
    cases hiss
  have hneS : Th.aS ≠ a := Nat.ne_of_lt (Nat.lt_of_lt_of_le (Array.getElem?_eq_some_iff.mp hcS0).1 hnew)
  obtain ⟨tyC, dC, hdC, hdnC⟩ := Cond.laysAt hf1 hk1 Y.cause (hall (.lays cls Bundle.tN "cause" "Ljava/lang/Throwable;") (by simp [Bundle.ownAtoms0]))
  obtain ⟨tyS, dS, hdS, hdnS⟩ := Cond.laysAt hf1 hk1 Y.stack (hall (.lays cls Bundle.tN "stackTrace" Bundle.steD) (by simp [Bundle.ownAtoms0]))
  obtain ⟨tyP, dP, hdP, hdnP⟩ := Cond.laysAt hf1 hk1 Y.supp (hall (.lays cls Bundle.tN "suppressedExceptions" Bundle.listD) (by simp [Bundle.ownAtoms0]))
  obtain ⟨tyB, dB, hdB, hdnB⟩ := Cond.laysAt hf1 hk1 hffB (hall (.lays cls Bundle.tN "backtrace" "Ljava/lang/Object;") (by simp [Bundle.ownAtoms0]))
  have bC := Cond.laysApart hdB hdC hdnB hdnC (by rw [hnB, Y.causeName]; decide)
  have bS := Cond.laysApart hdB hdS hdnB hdnS (by rw [hnB, Y.stackName]; decide)
  have bP := Cond.laysApart hdB hdP hdnB hdnP (by rw [hnB, Y.suppName]; decide)
  have hskip : SkipFacts Th e.platform s (fun u => u) u0 ((preparedCellV Th.toThrowableT (freshCell P1.m.cls kX) a u0 sen).withEntry T.cur) :=
    ⟨{ ci198 := ci, i198 := i198, fBack := fB }, ⟨hk198, hg198, ha198, hsB⟩, by
      have := fresh_default (c := P1.m.cls) tyB
      rw [htB] at this
      simpa [preparedCellV, Cell.setSlot, Cell.withEntry, Array.getElem?_setIfInBounds, bC, bS, bP, bC.symm, bS.symm, bP.symm, defaultValue] using this, fun _ _ => rfl⟩
  obtain ⟨tm, methC, cdC, kC, vm₁, hnC, -, -, -, -, -, -, -, hW₁, st1⟩ := Steps.initCold (tb := p.tables) (e := e) (below := below) (s := s) (U := T) X.here hexec X.warmed hpl hown (t := Bundle.init0 cls) rfl rfl (Bundle.fit_spec hcls).2
    (hall (.methodLink own ic (Bundle.init0 cls)) (by simp [Bundle.ownAtoms0])) (h (.instanceMethod (Bundle.init0 cls)) (by cases names <;> simp [Bundle.ownAtoms0, Bundle.chain0Atoms, Bundle.passAtoms])) (bytes := Bundle.five) (maxL := 1) (h (.code (Bundle.init0 cls) Bundle.five 1 none) (by cases names <;> simp [Bundle.ownAtoms0, Bundle.chain0Atoms, Bundle.passAtoms]))
    (f := g) hg (a := a) (rest := .ref a :: rest) hstack hdg
  have etm := Option.some.inj (hnC.symm.trans hP1)
  subst etm
  have X₁ := X.noted hW₁
  obtain ⟨vm₂, X₂, st2⟩ := X₁.ctorPlainOffV hexec (g := { g with stack := .ref a :: rest }) hg hsize Th L Z LZ (P1 :: Ps)
    (fun P hP => by rcases List.mem_cons.mp hP with rfl | hP; exact L1; exact hLs P hP) ⟨hlk1, hlk⟩ (u0 := u0) (sen := sen) (self := a) (cell := freshCell P1.m.cls kX) (cellS := cS)
    hcell (fun _ => by simp) (by simp) rfl rfl hsel0 hselF hcS hneS hknown (by rw [hkeep _ (hfar _)]; exact hu0) (by rw [hkeep _ (hfar _)]; exact hsen)
    (Takes.of_laid hk1 hord tyC (by rw [Y.causeType]; rfl)) (Takes.of_laid hk1 hord tyS (by rw [Y.stackType]; exact fits_refV_array _ u0)) (Takes.of_laid hk1 hord tyP (by rw [Y.suppType]; exact fits_refV_object _ sen)) Y.objLocals hskip htr [] hdg
    (by simp only [List.length_cons, hlen]; omega) (by simp only [List.length_cons, hlen]; exact hRl)
  refine ⟨vm₂, _, _, ?_, ?_, ?_, X₂, fun target ht => st1 _ (fun acts => ?_)⟩
  · rfl
  · rfl
  · intro q hq
    simp only [List.mem_cons, List.not_mem_nil, or_false] at hq
    rcases hq with rfl | rfl | rfl | rfl <;> rfl
  · rw [doInvoke_state]
    exact st2 _ ht
/-- new X(); dup; X.<init>(); athrow: the method throws -/
theorem rs_throw {Qc : Array Value → State → Outcome → State → Prop} {QT : Nat → rs_Mem → Prop} (C : rs_C own cc nL ret G p s m meth c args) (hXC : rs_XC l Bm s c) (hH : rs_H G Bm S σ H) (hT : rs_T S σ) (hS : va_S (rs_A Bm) s.heap H locs)
    {k idx ic : Nat} (hw : rs_thw own idx ic k = true) (hR : (1 ≤ R.cells ∧ 6 ≤ R.slots) ∧ 5 < R.frames ∧ (rest.map fun v => v.category).sum + 100 ≤ R.locals) (hsz : ls.size = nL)
    (d1 : decode cc pc = .ok (.new idx, 3)) (d2 : decode cc (pc + 3) = .ok (.dup, 1)) (d3 : decode cc (pc + 3 + 1) = .ok (.invokespecial ic, 3)) (d4 : decode cc (pc + 3 + 1 + 3) = .ok (.athrow, 1)) (hF : QT k σ) :
    W p l e R s m args below meth c H locs 0 0 (rs_MQ below (rs_ET G Bm S Qc QT) args s) (F0 m pc ls rest) := by
  obtain ⟨hx, hb, hml, -, hown, hts, hK, hlk⟩ := C
  obtain ⟨hfl, hX, hno⟩ := hXC
  have hat := rs_thw_at hw (args := args) hts hX
  have hw' := hw
  simp only [rs_thw, Bool.and_eq_true, decide_eq_true_eq] at hw'
  obtain ⟨⟨⟨⟨-, hcl⟩, hin⟩, hini⟩, hfit⟩ := hw'
  refine W.newc hx hb hown (hts _ hcl) (hts _ hin) (hts _ hini) rfl d1 (by have := hR.1.1; omega) (by have := hR.1.2; omega) (fun cC kC h1 h2 h3 h4 => ?_)
  refine lv_dup hx hb d2 rfl ?_
  intro T hT' X
  have htr : e.platform.stackTraces = false := Launch.traces_off (by rw [hfl]; rfl) X.admits
  have hcell : T.heap[H.size]? = some (freshCell cC kC) := by rw [hT']; simp [freshCell]
  have hzs : s.heap.size ≤ H.size := hS.1
  have hnew : Bm < H.size := by have := hX.2.2.2.2.1; omega
  have hlocs : ∀ (cf fi : Nat) (kf : Class) (f : Field) (b : Nat), s.fieldFound? "java/lang/Throwable" "UNASSIGNED_STACK" "[Ljava/lang/StackTraceElement;" = some (cf, kf, fi, f) → kf.statics = some b → ∀ x ∈ locs, x.base ≠ b := by
    intro cf fi kf f b g1 g2 x hx2 he
    have hb2 : rs_A Bm x.base := hS.2.2 x hx2
    rcases hX.2.2.1 with ⟨cf', kf', fi', f', b', ce', i1, -, -, i2, -, -, -, i3⟩ | ⟨t, cf', kf', fi', f', b', ce', i1, -, -, i2, -, -, -, i3⟩ <;>
    · have e0 := g1.symm.trans i1
      simp only [Option.some.injEq, Prod.mk.injEq] at e0
      obtain ⟨-, e1, -, -⟩ := e0
      subst e1
      have e2 := Option.some.inj (g2.symm.trans i2)
      subst e2
      exact i3 (he ▸ hb2)
  obtain ⟨vm', ce, L, e1, e2, e3, X2, st⟩ := rs_ctor (rest := rest) X hx htr hown hfit (names := rs_xs) (by decide) hat hlocs h1 h2 hcell hzs (g := F0 m (pc + 3 + 1) ls (.ref H.size :: .ref H.size :: rest)) rfl (by rw [hml]; exact hsz) rfl (by rw [hb]; exact d3)
    (by show 2 + 3 < _; omega) (by show 2 * 0 + (1 + (rest.map fun v => v.category).sum) + (13 * (2 + 1) + 41) ≤ R.locals; have := hR.2.2; omega)
  have hout : ∀ x ∈ c.exceptionTable.toList, covers x (pc + 3 + 1 + 3) = false := by
    intro x hx2
    rw [Array.isEmpty_iff] at hno
    rw [hno] at hx2
    cases hx2
  obtain ⟨w1, w2, w3, w4, w5⟩ := X2.athrowLeaves hx (g := F0 m (pc + 3 + 1 + 3) ls (.ref H.size :: rest)) rfl rfl rfl hout rfl (by rw [hb]; exact d4) hlk
  have hh : ((T.setVm vm').setCell H.size ce).heap = (H.push { cls := cC, slots := kC.instanceTypes.map defaultValue, vm := .none }).setIfInBounds H.size ce := by rw [← hT']; rfl
  have hq : ∀ q : Nat, q < H.size → ((T.setVm vm').setCell H.size ce).heap[q]? = H[q]? := fun q hq => by
    rw [hh]
    simp [Array.getElem?_setIfInBounds, Array.getElem?_push, Nat.ne_of_gt hq, Nat.ne_of_lt hq]
  have hzz : ((T.setVm vm').setCell H.size ce).heap.size = H.size + 1 := by rw [hh]; simp
  refine ⟨_, (st _ w1), .threw H.size, w2, w3, Or.inr ⟨H.size, k, σ, ce, rfl, hF, ⟨?_, hT⟩, ?_, ?_, ?_, e2⟩, locs ++ L, w4, w5.mono (by omega) (by omega), ?_⟩
  · show rs_H G Bm S σ ((T.setVm vm').setCell H.size ce).heap
    refine ⟨by rw [hzz]; have := hH.1; omega, fun v h0 hn => ?_⟩
    have hlt : Bm + v < H.size := by have := hH.1; omega
    have hc := hH.2 v h0 hn
    exact ⟨fun a b => (hc.1 a b).kept (hq _ hlt), fun a b => by rw [hq _ hlt]; exact hc.2 a b⟩
  · show va_F (rs_A Bm) s _
    refine ⟨by show s.heap.size ≤ ((T.setVm vm').setCell H.size ce).heap.size; omega, fun q h1 h2 => ?_⟩
    show ((T.setVm vm').setCell H.size ce).heap[q]? = _
    rw [hq q (by omega)]
    exact hS.2.1 q h1 h2
  · show ((T.setVm vm').setCell H.size ce).heap[H.size]? = some ce
    rw [hh]
    simp [Array.getElem?_setIfInBounds]
  · rw [e1]; exact h1
  · intro q hq2
    rcases List.mem_append.mp hq2 with h | h
    · exact hS.2.2 q h
    · rw [e3 q h]; exact hnew
end RTH
