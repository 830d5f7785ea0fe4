/-! rows of the law's own small methods: they call what may throw, and catch; and of the calls of them -/
def rs_wsW (y : MethodName) (bytes : ByteArray) (maxL : Nat) (ret : Option FieldType) (hs : List (Nat × Nat × Nat × Nat)) : List Cond := .codeWith y bytes maxL ret hs :: rs_W
def rs_hs (c : Code) (hs : List (Nat × Nat × Nat × Nat)) : Prop := c.exceptionTable.toList.map (fun h => (h.startPc, h.endPc, h.handlerPc, h.catchType)) = hs
theorem rs_pay {s : State} {args : Array Value} {ws : List Cond} (hts : ∀ w ∈ rs_W, w.before args s = true) (hw : ∀ w ∈ ws, w ∈ rs_W) : ∀ w ∈ ws, ∀ (a' : Array Value) (U : State), s.WarmedH U.vm → w.before a' U = true := by
  intro w hm a' U hW
  exact word_at hW (good_of_word (List.mem_filter.mp (hw w hm)).2) (hts w (hw w hm))
theorem rs_metW {own : String} {cc : ByteArray} {nL : Nat} {ret : Option FieldType} {G : rs_G} {Bm : Nat} {S : rs_Shp} {σ : rs_Mem} {vs : List Value} {Qc : Array Value → State → Outcome → State → Prop} {rm : Room} {y : MethodName} {l : Launch} {hs : List (Nat × Nat × Nat × Nat)}
    (hy : plainName y.cls = true) (hown : y.cls = own) (hlen : (lg_sl vs).length ≤ nL)
    (body : ∀ (p : Program) (e : Env) (s : State) (m : MethodId) (below : List Frame) (meth : Method) (c : Code) (ls : Array Slot), rs_C own cc nL ret G p s m meth c vs.toArray → rs_X Bm s → rs_hs c hs → lv_has ls nL (lv_args 0 vs) → rs_H G Bm S σ s.heap → rs_T S σ → va_S (rs_A Bm) s.heap s.heap [] →
      W p l e rm s m vs.toArray below meth c s.heap [] 0 0 (MQ below Qc vs.toArray s 1 6 (rs_A Bm)) (F0 m 0 ls [])) : Met l y (rs_wsW y cc nL ret hs) rm (rs_PT G Bm S σ vs) Qc 1 6 (rs_A Bm) := by
  refine MetFree.of_bodyS (code := cc) (maxLocals := nL) (ret := ret) hy ?_ ?_
  · intro args s m h hn
    obtain ⟨m', meth, c, h0, h1, h2, h3, h4, -, h5, h6, -⟩ := Cond.codeWith_spec (atoms_spec (ws := rs_wsW y cc nL ret hs) h _ List.mem_cons_self)
    have e : m' = m := Option.some.inj (h0.symm.trans hn)
    subst e
    exact ⟨meth, c, h1, h2, h3, h4, h5, h6⟩
  · intro p e s m args below meth c s₁ B hml hP _
    obtain ⟨rfl, ⟨⟨hH, hT⟩, hK⟩, hX⟩ := hP
    have hts := atoms_spec (ws := rs_wsW y cc nL ret hs) B.pre
    have ho : s.vm.findClass own = some m.cls := by rw [← hown]; exact findClass_of_methodNamed B.named
    have hl := lv_entry vs (n := nL) hlen
    have hh0 : s₁.heap = s.heap := by rw [B.state]; rfl
    have hex : rs_hs c hs := by
      obtain ⟨m', meth', c', h0, h1, h2, -, -, h5, -⟩ := Cond.codeWith_spec (hts _ List.mem_cons_self)
      have e : m' = m := Option.some.inj (h0.symm.trans B.named)
      subst e
      have e2 : meth' = meth := Option.some.inj (h1.symm.trans B.method)
      subst e2
      have e3 : c' = c := Option.some.inj (h2.symm.trans (Stand.of_body B).code)
      subst e3
      exact h5
    obtain ⟨t, a1, o, b1, b2, b3, b4⟩ := body p e s m below meth c _ ⟨B.exec, B.bytes, hml, B.returns, ho, fun w hw => hts w (List.mem_cons_of_mem _ hw), hK, B.notSynchronized⟩ hX hex hl hH hT va_S.rf s₁ hh0 (Stand.of_body B)
    refine ⟨t, o, ?_, b1, b2, b3, b4⟩
    rw [lg_entry_eq]
    exact a1
section RWR
variable {p : Program} {l : Launch} {e : Env} {R : Room} {s : State} {m : MethodId} {args : Array Value} {below : List Frame} {meth : Method} {c : Code} {H : Heap} {locs : List Loc} {cells slots : Nat} {Q : State → Prop}
variable {cc : ByteArray} {pc : Nat} {ls : Array Slot} {rest st0 : List Value} {G : rs_G} {Bm : Nat} {S : rs_Shp} {σ : rs_Mem} {own : String} {nL : Nat} {ret : Option FieldType} {H0 : Heap}
/-- an exception is on its way in the frame g -/
def rs_WT (p : Program) (l : Launch) (e : Env) (R : Room) (s : State) (m : MethodId) (args : Array Value) (below : List Frame) (meth : Method) (c : Code) (H : Heap) (locs : List Loc) (cells slots : Nat) (Q : State → Prop) (x : Nat) (g : JFrame) : Prop :=
  ∀ T : State, T.heap = H → Stand p l e R s m args below meth c T locs cells slots → ∃ t, Steps p.tables e below ((T.setTop g).pushFrame (.throwing x)) t ∧ Q t
def rs_RunT (p : Program) (l : Launch) (e : Env) (R : Room) (s : State) (m : MethodId) (args : Array Value) (below : List Frame) (meth : Method) (c : Code) (H : Heap) (locs : List Loc) (cells slots : Nat) (pc : Nat) (ls : Array Slot) (st0 rest : List Value) (G : rs_G) (Bm : Nat) (S : rs_Shp) (Qa : State → Outcome → State → Prop) (QT : Nat → rs_Mem → Prop) : Prop :=
  ∀ T : State, T.heap = H → Stand p l e R s m args below meth c T locs cells slots → ∃ (st₀ t T' : State) (L : List Loc), st₀.heap = H ∧ Stand p l e R s m args below meth c T' (locs ++ L) (cells + 1) (slots + 6) ∧ (∀ q ∈ L, rs_A Bm q.base) ∧ T'.heap = t.heap ∧
    ((∃ v : Option Value, Qa st₀ (.returned v) t ∧ ∀ tg, Steps p.tables e below (T'.setTop (F0 m (pc + 3) ls (v.toList ++ rest))) tg → Steps p.tables e below (T.setTop (F0 m pc ls st0)) tg) ∨
     (∃ (x k : Nat) (σ1 : rs_Mem) (ce : Cell), QT k σ1 ∧ rs_B G Bm S σ1 t ∧ va_F (rs_A Bm) st₀ t ∧ t.heap[x]? = some ce ∧ s.vm.findClass (rs_xn k) = some ce.cls ∧ ce.vm = .none ∧ ∀ tg, Steps p.tables e below ((T'.setTop (F0 m pc ls rest)).pushFrame (.throwing x)) tg → Steps p.tables e below (T.setTop (F0 m pc ls st0)) tg))
theorem rs_runVT {y : MethodName} {bytes : ByteArray} {maxL n index kd v : Nat} {rt : Option FieldType} {rm : Room} {As : List Value} {Qc : Array Value → State → Outcome → State → Prop} {QT : Nat → rs_Mem → Prop} {lv : List (Nat × Value)}
    (C : rs_C own cc nL ret G p s m meth c args) (hX : rs_X Bm s) (hH : rs_H G Bm S σ H) (hT : rs_T S σ) (hS : va_S (rs_A Bm) s.heap H locs) (hl : lv_has ls nL lv) (hM : rs_MetT l y bytes maxL rt rm G Bm S σ (.ref (Bm + v) :: As) Qc QT) (hc : rs_Cal y bytes maxL rt n)
    (hlink : Cond.methodLink own index y ∈ rs_W) (hinst : Cond.instanceMethod y ∈ rs_W) (hsel : Cond.selects y.cls y y ∈ rs_W) (hv : rs_Ok S kd v) (hkd : y.cls = rs_cn kd ∧ 1 ≤ kd ∧ kd ≤ 11) (hn : As.length = n)
    (hR : (rm.cells = 1 ∧ rm.slots = 6) ∧ (rm.frames + 1 ≤ R.frames ∧ 8 + (maxL + 11) + rm.locals ≤ R.locals) ∧ cells + 1 ≤ R.cells ∧ slots + 6 ≤ R.slots) (hW : (rest.map fun v => v.category).sum ≤ 8) (hst : st0 = As.reverse ++ .ref (Bm + v) :: rest) (hdg : decode cc pc = .ok (.invokevirtual index, 3)) :
    rs_RunT p l e R s m args below meth c H locs cells slots pc ls st0 rest G Bm S (Qc (Value.ref (Bm + v) :: As).toArray) QT := by
  obtain ⟨hx, hb, hml, -, hown, hts, hK, -⟩ := C
  obtain ⟨cell, q1, q2, q3, -⟩ := rs_obj hH hv hkd.2.1 hkd.2.2
  have hfc : s.vm.findClass y.cls = some cell.cls := by rw [hkd.1, q2]; exact (hK.1.1 kd _ (rs_cl_at hkd.2.2)).2.1
  intro T hT' X
  obtain ⟨mk, methM, hnamed, hmethM, hstM, habM⟩ := Cond.instanceMethod_spec (hts _ hinst)
  obtain ⟨methM', cM, hmethM', hcodeM, -, hlocM, -, -, -, hsigM⟩ := Cond.code_spec hnamed (hts _ hc.1)
  have eM : methM = methM' := Option.some.inj (hmethM.symm.trans hmethM')
  subst eM
  obtain ⟨c2, r2, m2, i1, i2, i3, i4, kP, hkP, hkPi⟩ := Cond.selects_spec (hts _ hsel)
  have e1 : c2 = cell.cls := Option.some.inj (i1.symm.trans hfc)
  subst e1
  have e2 := Option.some.inj (i2.symm.trans (State.methodFound?_of_named hnamed ⟨hc.2.2.1, hc.2.2.2.1⟩))
  subst e2
  have e3 := Option.some.inj (i3.symm.trans hnamed)
  subst e3
  have hselP : selectMethod e.platform s.vm cell.cls m2 = .method m2 := by rw [Launch.admits_selectMethod X.admits]; exact i4
  have hlenA : ∀ sig, parseMethodDescriptor y.desc = some sig → As.length = sig.parameters.length := fun sig h => by
    have h2 := hc.2.2.2.2
    rw [h] at h2
    rw [hn]
    exact (Option.some.inj h2).symm
  obtain ⟨vm₁, X₁, step₁⟩ := X.invokevirtual hx hown (hts _ hlink) hnamed hmethM hstM hkP hkPi ⟨hc.2.2.1, hc.2.2.2.1⟩ (a := Bm + v) (cell := cell) (by rw [hT']; exact q1)
    (fun z h => by rw [q3] at h; cases h) hselP hmethM habM hkP hkPi (g := F0 m pc ls st0) rfl (argsL := As) (rest := rest) (hlenA _ hsigM) hst (by rw [hb]; exact hdg)
  have hU : (T.setVm vm₁).heap = H := hT'
  have hpre : (headSpec (rs_ws y bytes maxL rt) rm).pre.before (Value.ref (Bm + v) :: As).toArray (T.setVm vm₁) = true :=
    atoms_intro fun w hw => rs_pay hts (fun w hw => (rs_good hc.1 w hw).1) w hw _ _ X₁.warmed
  have hini : (Cond.initialized y.cls).before (Value.ref (Bm + v) :: As).toArray (T.setVm vm₁) = true := rs_pay hts (ws := [Cond.initialized y.cls]) (fun w hw => by rw [List.mem_singleton.mp hw]; exact hc.2.1) _ List.mem_cons_self _ _ X₁.warmed
  have hmz : (F0 m pc ls rest).monitorRoom = 0 := rfl
  have hP : rs_PT G Bm S σ (.ref (Bm + v) :: As) (Value.ref (Bm + v) :: As).toArray ((T.setVm vm₁).calling (F0 m pc ls rest) m2 (Value.ref (Bm + v) :: As).toArray) := by
    refine ⟨rfl, ⟨⟨?_, hT⟩, ?_⟩, ?_⟩
    · show rs_H G Bm S σ (T.setVm vm₁).heap
      rw [hU]; exact hH
    · exact rs_K.same (u := T.setVm vm₁) rfl (hK.moved X₁.warmed)
    · refine rs_X.same (u := T.setVm vm₁) rfl rfl (hX.moved X₁.warmed ?_ ?_)
      · rw [hU]; exact hS.1
      · intro a h1 h2; rw [hU]; exact hS.2.1 a h1 h2
  obtain ⟨o, t, h1, h2, hE, L, hW2, hsame, hL⟩ := rs_callE X₁ hM (g := F0 m pc ls rest) rfl (by rw [hml]; exact hl.1) (ig := .invokevirtual index) (len := 3) (by rw [hb]; exact hdg) (X₁.named hnamed) (by rw [X₁.warmed.alike.method?]; exact hmethM) hcodeM hini hR.2.1.1
    (by rw [hlocM]; show 2 * 0 + _ + _ + rm.locals ≤ _; have := hR.2.1.2; show 2 * 0 + (rest.map fun v => v.category).sum + (maxL + 11) + rm.locals ≤ R.locals; omega) (by show cells + rm.cells ≤ _; rw [hR.1.1]; exact hR.2.2.1) (by show slots + rm.slots ≤ _; rw [hR.1.2]; exact hR.2.2.2) hpre hP
  rcases hE with ⟨⟨v', rfl⟩, hQ⟩ | ⟨x, k, σ1, ce, rfl, hq, hB, hF, hce, hfk, hvm⟩
  · obtain ⟨T', X', -, -, e5⟩ := X₁.outOf (g := F0 m pc ls rest) rfl (ig := .invokevirtual index) (len := 3) (by rw [hb]; exact hdg) h2 hW2 hsame
    refine ⟨_, t, T', L, ?_, X', hL, by rw [e5]; rfl, Or.inl ⟨v', hQ, fun tg ht => step₁ _ fun acts => ?_⟩⟩
    · exact hU
    · rw [doInvoke_state]
      refine h1.trans ?_
      rw [e5]
      exact ht
  · obtain ⟨T', X', -, -, e5⟩ := X₁.outOfThrown (g := F0 m pc ls rest) rfl h2 hW2 hsame
    refine ⟨_, t, T', L, ?_, X', hL, by rw [e5]; rfl, Or.inr ⟨x, k, σ1, ce, hq, hB, hF, hce, ?_, hvm, fun tg ht => step₁ _ fun acts => ?_⟩⟩
    · exact hU
    · have h9 : (T.setVm vm₁).vm.findClass (rs_xn k) = some ce.cls := hfk
      rw [X₁.warmed.alike.findClass] at h9
      exact h9
    · rw [doInvoke_state]
      refine h1.trans ?_
      rw [e5]
      exact ht
theorem rs_cTi {Q' : Int32 → rs_Mem → Prop} {QT : Nat → rs_Mem → Prop} {a : Array Value} (hr : rs_RunT p l e R s m args below meth c H locs cells slots pc ls st0 rest G Bm S (rs_Qi G Bm S Q' a) QT) (hS : va_S (rs_A Bm) H0 H locs)
    (kk : ∀ (r : Int32) (σ1 : rs_Mem) (H1 : Heap) (locs1 : List Loc), rs_H G Bm S σ1 H1 → rs_T S σ1 → va_S (rs_A Bm) H0 H1 locs1 → Q' r σ1 → W p l e R s m args below meth c H1 locs1 (cells + 1) (slots + 6) Q (F0 m (pc + 3) ls (.int r :: rest)))
    (kt : ∀ (x k : Nat) (σ1 : rs_Mem) (ce : Cell) (H1 : Heap) (locs1 : List Loc), rs_H G Bm S σ1 H1 → rs_T S σ1 → va_S (rs_A Bm) H0 H1 locs1 → QT k σ1 → H1[x]? = some ce ∧ s.vm.findClass (rs_xn k) = some ce.cls ∧ ce.vm = .none → rs_WT p l e R s m args below meth c H1 locs1 (cells + 1) (slots + 6) Q x (F0 m pc ls rest)) : W p l e R s m args below meth c H locs cells slots Q (F0 m pc ls st0) := by
  intro T hT X
  obtain ⟨st₀, t, T', L, h0, X', hL, e1, hE⟩ := hr T hT X
  have hS2 : va_F (rs_A Bm) st₀ t → va_S (rs_A Bm) H0 T'.heap (locs ++ L) := fun hF => ⟨by have h1 := hS.1; have h2 := hF.1; rw [e1]; rw [h0] at h2; omega, fun q h1 h2 => by
      rw [e1, hF.2 q (by rw [h0]; have := hS.1; omega) h2, h0]; exact hS.2.1 q h1 h2, fun q hq => by
      rcases List.mem_append.mp hq with h | h
      · exact hS.2.2 q h
      · exact hL q h⟩
  rcases hE with ⟨v, ⟨⟨r, σ1, hv, hp, hB⟩, hF⟩, st⟩ | ⟨x, k, σ1, ce, hq, hB, hF, h1, h2, h3, st⟩
  · cases hv
    obtain ⟨t2, a1, b1⟩ := kk r σ1 T'.heap (locs ++ L) (by rw [e1]; exact hB.1) hB.2 (hS2 hF) hp T' rfl X'
    exact ⟨t2, st t2 a1, b1⟩
  · obtain ⟨t2, a1, b1⟩ := kt x k σ1 ce T'.heap (locs ++ L) (by rw [e1]; exact hB.1) hB.2 (hS2 hF) hq ⟨by rw [e1]; exact h1, h2, h3⟩ T' rfl X'
    exact ⟨t2, st t2 a1, b1⟩
theorem rs_cTd {Q' : UInt64 → rs_Mem → Prop} {QT : Nat → rs_Mem → Prop} {a : Array Value} (hr : rs_RunT p l e R s m args below meth c H locs cells slots pc ls st0 rest G Bm S (rs_Qd G Bm S Q' a) QT) (hS : va_S (rs_A Bm) H0 H locs)
    (kk : ∀ (r : UInt64) (σ1 : rs_Mem) (H1 : Heap) (locs1 : List Loc), rs_H G Bm S σ1 H1 → rs_T S σ1 → va_S (rs_A Bm) H0 H1 locs1 → Q' r σ1 → W p l e R s m args below meth c H1 locs1 (cells + 1) (slots + 6) Q (F0 m (pc + 3) ls (.double r :: rest)))
    (kt : ∀ (x k : Nat) (σ1 : rs_Mem) (ce : Cell) (H1 : Heap) (locs1 : List Loc), rs_H G Bm S σ1 H1 → rs_T S σ1 → va_S (rs_A Bm) H0 H1 locs1 → QT k σ1 → H1[x]? = some ce ∧ s.vm.findClass (rs_xn k) = some ce.cls ∧ ce.vm = .none → rs_WT p l e R s m args below meth c H1 locs1 (cells + 1) (slots + 6) Q x (F0 m pc ls rest)) : W p l e R s m args below meth c H locs cells slots Q (F0 m pc ls st0) := by
  intro T hT X
  obtain ⟨st₀, t, T', L, h0, X', hL, e1, hE⟩ := hr T hT X
  have hS2 : va_F (rs_A Bm) st₀ t → va_S (rs_A Bm) H0 T'.heap (locs ++ L) := fun hF => ⟨by have h1 := hS.1; have h2 := hF.1; rw [e1]; rw [h0] at h2; omega, fun q h1 h2 => by
      rw [e1, hF.2 q (by rw [h0]; have := hS.1; omega) h2, h0]; exact hS.2.1 q h1 h2, fun q hq => by
      rcases List.mem_append.mp hq with h | h
      · exact hS.2.2 q h
      · exact hL q h⟩
  rcases hE with ⟨v, ⟨⟨r, σ1, hv, hp, hB⟩, hF⟩, st⟩ | ⟨x, k, σ1, ce, hq, hB, hF, h1, h2, h3, st⟩
  · cases hv
    obtain ⟨t2, a1, b1⟩ := kk r σ1 T'.heap (locs ++ L) (by rw [e1]; exact hB.1) hB.2 (hS2 hF) hp T' rfl X'
    exact ⟨t2, st t2 a1, b1⟩
  · obtain ⟨t2, a1, b1⟩ := kt x k σ1 ce T'.heap (locs ++ L) (by rw [e1]; exact hB.1) hB.2 (hS2 hF) hq ⟨by rw [e1]; exact h1, h2, h3⟩ T' rfl X'
    exact ⟨t2, st t2 a1, b1⟩
theorem rs_cTv {Q' : rs_Mem → Prop} {QT : Nat → rs_Mem → Prop} {a : Array Value} (hr : rs_RunT p l e R s m args below meth c H locs cells slots pc ls st0 rest G Bm S (rs_Qv G Bm S Q' a) QT) (hS : va_S (rs_A Bm) H0 H locs)
    (kk : ∀ (σ1 : rs_Mem) (H1 : Heap) (locs1 : List Loc), rs_H G Bm S σ1 H1 → rs_T S σ1 → va_S (rs_A Bm) H0 H1 locs1 → Q' σ1 → W p l e R s m args below meth c H1 locs1 (cells + 1) (slots + 6) Q (F0 m (pc + 3) ls rest))
    (kt : ∀ (x k : Nat) (σ1 : rs_Mem) (ce : Cell) (H1 : Heap) (locs1 : List Loc), rs_H G Bm S σ1 H1 → rs_T S σ1 → va_S (rs_A Bm) H0 H1 locs1 → QT k σ1 → H1[x]? = some ce ∧ s.vm.findClass (rs_xn k) = some ce.cls ∧ ce.vm = .none → rs_WT p l e R s m args below meth c H1 locs1 (cells + 1) (slots + 6) Q x (F0 m pc ls rest)) : W p l e R s m args below meth c H locs cells slots Q (F0 m pc ls st0) := by
  intro T hT X
  obtain ⟨st₀, t, T', L, h0, X', hL, e1, hE⟩ := hr T hT X
  have hS2 : va_F (rs_A Bm) st₀ t → va_S (rs_A Bm) H0 T'.heap (locs ++ L) := fun hF => ⟨by have h1 := hS.1; have h2 := hF.1; rw [e1]; rw [h0] at h2; omega, fun q h1 h2 => by
      rw [e1, hF.2 q (by rw [h0]; have := hS.1; omega) h2, h0]; exact hS.2.1 q h1 h2, fun q hq => by
      rcases List.mem_append.mp hq with h | h
      · exact hS.2.2 q h
      · exact hL q h⟩
  rcases hE with ⟨v, ⟨⟨σ1, hv, hp, hB⟩, hF⟩, st⟩ | ⟨x, k, σ1, ce, hq, hB, hF, h1, h2, h3, st⟩
  · cases hv
    obtain ⟨t2, a1, b1⟩ := kk σ1 T'.heap (locs ++ L) (by rw [e1]; exact hB.1) hB.2 (hS2 hF) hp T' rfl X'
    exact ⟨t2, st t2 a1, b1⟩
  · obtain ⟨t2, a1, b1⟩ := kt x k σ1 ce T'.heap (locs ++ L) (by rw [e1]; exact hB.1) hB.2 (hS2 hF) hq ⟨by rw [e1]; exact h1, h2, h3⟩ T' rfl X'
    exact ⟨t2, st t2 a1, b1⟩
theorem rs_self {k : Nat} (hX : rs_X Bm s) {ce : Cell} (hf : s.vm.findClass (rs_xn k) = some ce.cls) (hw : Cond.castable (rs_xn k) (rs_xn k) ∈ rs_FW) : s.vm.assignable ce.cls ce.cls = true := by
  obtain ⟨c3, c4, h3, h4, ha⟩ := Cond.castable_spec (hX.1 _ hw)
  have e1 : c3 = ce.cls := Option.some.inj (h3.symm.trans hf)
  have e2 : c4 = ce.cls := Option.some.inj (h4.symm.trans hf)
  subst e1
  rw [e2] at ha
  exact ha
/-- the first entry of the table catches -/
theorem rs_k1 {x k s1 e1 h1 t1 : Nat} {hr : List (Nat × Nat × Nat × Nat)} {ce : Cell} (C : rs_C own cc nL ret G p s m meth c args) (hX : rs_X Bm s) (hh : rs_hs c ((s1, e1, h1, t1) :: hr)) (hco : s1 ≤ pc ∧ pc < e1) (ht : t1 ≠ 0) (hlink : Cond.classLink own t1 (rs_xn k) ∈ rs_W) (hw : Cond.castable (rs_xn k) (rs_xn k) ∈ rs_FW)
    (hce : H[x]? = some ce ∧ s.vm.findClass (rs_xn k) = some ce.cls ∧ ce.vm = .none) (kk : W p l e R s m args below meth c H locs cells slots Q (F0 m h1 ls [.ref x])) : rs_WT p l e R s m args below meth c H locs cells slots Q x (F0 m pc ls rest) := by
  obtain ⟨hx, hb, hml, -, hown, hts, hK, -⟩ := C
  obtain ⟨E, r, hE, hf, -⟩ := List.map_eq_cons_iff.mp hh
  simp only [Prod.mk.injEq] at hf
  obtain ⟨rfl, rfl, rfl, rfl⟩ := hf
  intro T hT X
  obtain ⟨vm', X', st⟩ := rs_catch1 X x (g := F0 m pc ls rest) rfl hown E r hE (by simp [covers, hco.1, hco.2]) ht (hts _ hlink) hce.2.1 (by rw [hT]; exact hce.1) hce.2.2 (rs_self hX hce.2.1 hw)
  obtain ⟨t2, a1, b1⟩ := kk (T.setVm vm') hT X'
  exact ⟨t2, st t2 a1, b1⟩
/-- the second entry catches; the first names a class that doesn't take it -/
theorem rs_k2 {x k k0 s1 e1 h1 t1 s2 e2 h2 t2 : Nat} {hr : List (Nat × Nat × Nat × Nat)} {ce : Cell} (C : rs_C own cc nL ret G p s m meth c args) (hX : rs_X Bm s) (hh : rs_hs c ((s1, e1, h1, t1) :: (s2, e2, h2, t2) :: hr)) (hco : (s1 ≤ pc ∧ pc < e1) ∧ s2 ≤ pc ∧ pc < e2) (ht : t1 ≠ 0 ∧ t2 ≠ 0) (hlink1 : Cond.classLink own t1 (rs_xn k0) ∈ rs_W) (hlink : Cond.classLink own t2 (rs_xn k) ∈ rs_W) (hw : Cond.castable (rs_xn k) (rs_xn k) ∈ rs_FW) (hn : (rs_xn k, rs_xn k0) ∈ rs_NC)
    (hce : H[x]? = some ce ∧ s.vm.findClass (rs_xn k) = some ce.cls ∧ ce.vm = .none) (kk : W p l e R s m args below meth c H locs cells slots Q (F0 m h2 ls [.ref x])) : rs_WT p l e R s m args below meth c H locs cells slots Q x (F0 m pc ls rest) := by
  obtain ⟨hx, hb, hml, -, hown, hts, hK, -⟩ := C
  obtain ⟨E, r, hE, hf, hh2⟩ := List.map_eq_cons_iff.mp hh
  obtain ⟨E2, r2, hE2, hf2, -⟩ := List.map_eq_cons_iff.mp hh2
  simp only [Prod.mk.injEq] at hf hf2
  obtain ⟨rfl, rfl, rfl, rfl⟩ := hf
  obtain ⟨rfl, rfl, rfl, rfl⟩ := hf2
  obtain ⟨cx, c0, g1, g2, g3⟩ := hX.2.1 _ hn
  have ex : cx = ce.cls := Option.some.inj (g1.symm.trans hce.2.1)
  subst ex
  intro T hT X
  obtain ⟨vm', X', st⟩ := rs_catch2 X x (g := F0 m pc ls rest) rfl hown E E2 r2 (by rw [hE, hE2]) (by simp [covers, hco.1.1, hco.1.2]) (by simp [covers, hco.2.1, hco.2.2]) ht.1 ht.2 (hts _ hlink1) (hts _ hlink) g2 hce.2.1 (by rw [hT]; exact hce.1) hce.2.2 g3 (rs_self hX hce.2.1 hw)
  obtain ⟨t2, a1, b1⟩ := kk (T.setVm vm') hT X'
  exact ⟨t2, st t2 a1, b1⟩
/-- the law calls one of its small methods -/
theorem rs_runSW {y : MethodName} {bytes : ByteArray} {maxL n index : Nat} {rt : Option FieldType} {hs : List (Nat × Nat × Nat × Nat)} {rm : Room} {As : List Value} {Qc : Array Value → State → Outcome → State → Prop} {lv : List (Nat × Value)}
    (C : rs_C own cc nL ret G p s m meth c args) (hX : rs_X Bm s) (hH : rs_H G Bm S σ H) (hT : rs_T S σ) (hS : va_S (rs_A Bm) s.heap H locs) (hl : lv_has ls nL lv) (hM : Met l y (rs_wsW y bytes maxL rt hs) rm (rs_PT G Bm S σ As) Qc 1 6 (rs_A Bm))
    (hcw : Cond.codeWith y bytes maxL rt hs ∈ rs_W) (hini : Cond.initialized y.cls ∈ rs_W) (hne : y.cls ≠ "java/lang/invoke/MethodHandle" ∧ y.cls ≠ "java/lang/invoke/VarHandle") (hpa : (parseMethodDescriptor y.desc).map (fun d => d.parameters.length) = some n)
    (hlink : Cond.methodLink own index y ∈ rs_W) (hstat : Cond.static y ∈ rs_W) (hn : As.length = n)
    (hR : (rm.cells = 1 ∧ rm.slots = 6) ∧ (rm.frames + 1 ≤ R.frames ∧ 8 + (maxL + 11) + rm.locals ≤ R.locals) ∧ cells + 1 ≤ R.cells ∧ slots + 6 ≤ R.slots) (hW : (rest.map fun v => v.category).sum ≤ 8) (hst : st0 = As.reverse ++ rest) (hdg : decode cc pc = .ok (.invokestatic index, 3)) :
    va_Run p l e R s m args below meth c H locs cells slots 1 6 (F0 m pc ls st0) rest (Qc As.toArray) (rs_A Bm) := by
  obtain ⟨hx, hb, hml, -, hown, hts, hK, -⟩ := C
  intro T hT' X
  obtain ⟨mk, methM, cM, hnamed, hmethM, hcodeM, -, hlocM, -, -, -, hsigM⟩ := Cond.codeWith_spec (hts _ hcw)
  have hstatic : methM.isStatic = true := Cond.static_spec hnamed hmethM (hts _ hstat)
  obtain ⟨kP, hkP, -⟩ := className_of_methodNamed hnamed
  have hinitP : kP.init = .initialized := Cond.initialized_spec (findClass_of_methodNamed hnamed) hkP (hts _ hini)
  have hlenA : ∀ sig, parseMethodDescriptor y.desc = some sig → As.length = sig.parameters.length := fun sig h => by
    rw [h] at hpa
    rw [hn]
    exact (Option.some.inj hpa).symm
  obtain ⟨vm₁, X₁, step₁⟩ := X.invokestatic hx hown (hts _ hlink) hnamed hmethM hstatic hkP hinitP hne (g := F0 m pc ls st0) rfl (argsL := As) (rest := rest) (hlenA _ hsigM) hst (by rw [hb]; exact hdg)
  have hU : (T.setVm vm₁).heap = H := hT'
  have hpre : (headSpec (rs_wsW y bytes maxL rt hs) rm).pre.before As.toArray (T.setVm vm₁) = true :=
    atoms_intro fun w hw => rs_pay hts (fun w hw => by rcases List.mem_cons.mp hw with rfl | h; exact hcw; exact h) w hw _ _ X₁.warmed
  have hini2 : (Cond.initialized y.cls).before As.toArray (T.setVm vm₁) = true := rs_pay hts (ws := [Cond.initialized y.cls]) (fun w hw => by rw [List.mem_singleton.mp hw]; exact hini) _ List.mem_cons_self _ _ X₁.warmed
  have hP : rs_PT G Bm S σ As As.toArray ((T.setVm vm₁).calling (F0 m pc ls rest) mk As.toArray) := by
    refine ⟨rfl, ⟨⟨?_, hT⟩, ?_⟩, ?_⟩
    · show rs_H G Bm S σ (T.setVm vm₁).heap
      rw [hU]; exact hH
    · exact rs_K.same (u := T.setVm vm₁) rfl (hK.moved X₁.warmed)
    · refine rs_X.same (u := T.setVm vm₁) rfl rfl (hX.moved X₁.warmed ?_ ?_)
      · rw [hU]; exact hS.1
      · intro a h1 h2; rw [hU]; exact hS.2.1 a h1 h2
  obtain ⟨o, t, h1, h2, hQ, L, hFE, hL⟩ := rs_callE X₁ hM (g := F0 m pc ls rest) rfl (by rw [hml]; exact hl.1) (ig := .invokestatic index) (len := 3) (by rw [hb]; exact hdg) (X₁.named hnamed) (by rw [X₁.warmed.alike.method?]; exact hmethM) hcodeM hini2 hR.2.1.1
    (by rw [hlocM]; show 2 * 0 + (rest.map fun v => v.category).sum + (maxL + 11) + rm.locals ≤ R.locals; have := hR.2.1.2; omega) (by show cells + rm.cells ≤ _; rw [hR.1.1]; exact hR.2.2.1) (by show slots + rm.slots ≤ _; rw [hR.1.2]; exact hR.2.2.2) hpre hP
  obtain ⟨⟨v', rfl⟩, hW2, hsame⟩ := hFE
  obtain ⟨T', X', -, -, e5⟩ := X₁.outOf (g := F0 m pc ls rest) rfl (ig := .invokestatic index) (len := 3) (by rw [hb]; exact hdg) h2 hW2 hsame
  refine ⟨v', (T.setVm vm₁).calling (F0 m pc ls rest) mk As.toArray, t, T', L, hU, X', hL, by rw [e5]; rfl, by rw [e5]; rfl, hQ, fun tg ht => step₁ _ fun acts => ?_⟩
  rw [doInvoke_state]
  refine h1.trans ?_
  rw [e5]
  exact ht
theorem rs_ci1 {Q' : Int32 → rs_Mem → Prop} {a : Array Value} (hr : va_Run p l e R s m args below meth c H locs cells slots 1 6 (F0 m pc ls st0) rest (rs_Qi G Bm S Q' a) (rs_A Bm)) (hS : va_S (rs_A Bm) H0 H locs)
    (kk : ∀ (r : Int32) (σ1 : rs_Mem) (H1 : Heap) (locs1 : List Loc), rs_H G Bm S σ1 H1 → rs_T S σ1 → va_S (rs_A Bm) H0 H1 locs1 → Q' r σ1 → W p l e R s m args below meth c H1 locs1 (cells + 1) (slots + 6) Q (F0 m (pc + 3) ls (.int r :: rest))) : W p l e R s m args below meth c H locs cells slots Q (F0 m pc ls st0) :=
  va_calli hr hS (fun _ _ h => h) (fun _ h => h) fun r u t H1 locs1 ht _ hp hB _ _ hS1 => kk r u H1 locs1 (by rw [← ht]; exact hB.1) hB.2 hS1 hp
end RWR
