/-! rows over the memory: arrays, answers, calls -/
theorem rs_good {y : MethodName} {bytes : ByteArray} {maxL : Nat} {ret : Option FieldType} (h : Cond.code y bytes maxL ret ∈ rs_W) : GoodIn rs_W (rs_ws y bytes maxL ret) := by
  intro w hw
  have hm : w ∈ rs_W := by
    rcases List.mem_cons.mp hw with rfl | hw
    · exact h
    · exact hw
  exact ⟨hm, good_of_word (List.mem_filter.mp hm).2⟩
/-- what the tables say of a method that is called -/
def rs_Cal (y : MethodName) (bytes : ByteArray) (maxL : Nat) (ret : Option FieldType) (n : Nat) : Prop :=
  Cond.code y bytes maxL ret ∈ rs_W ∧ Cond.initialized y.cls ∈ rs_W ∧ y.cls ≠ "java/lang/invoke/MethodHandle" ∧ y.cls ≠ "java/lang/invoke/VarHandle" ∧ (parseMethodDescriptor y.desc).map (fun d => d.parameters.length) = some n
def rs_Qr (G : rs_G) (Bm : Nat) (S : rs_Shp) (kd : Nat) (Q : Nat → rs_Mem → Prop) : Array Value → State → Outcome → State → Prop := va_Qr (S := Nat × rs_Mem) (fun u => Q u.1 u.2) (fun u a t => a = Bm + u.1 ∧ rs_Ok S kd u.1 ∧ rs_B G Bm S u.2 t) (rs_A Bm)
section RSR
variable {p : Program} {l : Launch} {e : Env} {R : Room} {s : State} {m : MethodId} {args : Array Value} {below : List Frame} {meth : Method} {c : Code} {H : Heap} {locs : List Loc} {cells slots : Nat} {Q : State → Prop}
variable {cc : ByteArray} {pc : Nat} {ls : Array Slot} {rest st0 : List Value} {G : rs_G} {Bm : Nat} {S : rs_Shp} {σ : rs_Mem} {own : String} {nL : Nat} {ret : Option FieldType} {H0 : Heap}
theorem rs_iald (C : rs_C own cc nL ret G p s m meth c args) (hH : rs_H G Bm S σ H) {v : Nat} (hv : rs_Ok S 20 v) {i : Int32} (hin : vp_in i (S.2.2 v)) (hdg : decode cc pc = .ok (.iaload, 1))
    (kk : W p l e R s m args below meth c H locs cells slots Q (F0 m (pc + 1) ls (.int (rs_I σ v i.toNatClampNeg) :: rest))) : W p l e R s m args below meth c H locs cells slots Q (F0 m pc ls (.int i :: .ref (Bm + v) :: rest)) := by
  obtain ⟨hx, hb, -, -, -, -, hK, -⟩ := C
  have hlt : i.toNatClampNeg < S.2.2 v := Nat.not_le.mp fun q => hin (Or.inr q)
  exact W.iald (v := .int (rs_I σ v i.toNatClampNeg)) hx hb (rs_arr hH hv (by omega) (by omega)) ((hK.2.1 20 (by omega) (by omega)).1 _ _) (fun q => by cases q) (by rw [arrV_size]; exact hin) (by rw [arrV_read _ _ hlt]; rfl) rfl rfl hdg kk
theorem rs_zald (C : rs_C own cc nL ret G p s m meth c args) (hH : rs_H G Bm S σ H) {v : Nat} (hv : rs_Ok S 21 v) {i : Int32} (hin : vp_in i (S.2.2 v)) (hdg : decode cc pc = .ok (.baload, 1))
    (kk : W p l e R s m args below meth c H locs cells slots Q (F0 m (pc + 1) ls (.int (rs_I σ v i.toNatClampNeg) :: rest))) : W p l e R s m args below meth c H locs cells slots Q (F0 m pc ls (.int i :: .ref (Bm + v) :: rest)) := by
  obtain ⟨hx, hb, -, -, -, -, hK, -⟩ := C
  have hlt : i.toNatClampNeg < S.2.2 v := Nat.not_le.mp fun q => hin (Or.inr q)
  exact W.zald (v := .int (rs_I σ v i.toNatClampNeg)) hx hb (rs_arr hH hv (by omega) (by omega)) ((hK.2.1 21 (by omega) (by omega)).1 _ _) (fun q => by cases q) (by rw [arrV_size]; exact hin) (by rw [arrV_read _ _ hlt]; rfl) rfl rfl hdg kk
theorem rs_lald (C : rs_C own cc nL ret G p s m meth c args) (hH : rs_H G Bm S σ H) {v : Nat} (hv : rs_Ok S 22 v) {i : Int32} (hin : vp_in i (S.2.2 v)) (hdg : decode cc pc = .ok (.laload, 1))
    (kk : W p l e R s m args below meth c H locs cells slots Q (F0 m (pc + 1) ls (.long (rs_L σ v i.toNatClampNeg) :: rest))) : W p l e R s m args below meth c H locs cells slots Q (F0 m pc ls (.int i :: .ref (Bm + v) :: rest)) := by
  obtain ⟨hx, hb, -, -, -, -, hK, -⟩ := C
  have hlt : i.toNatClampNeg < S.2.2 v := Nat.not_le.mp fun q => hin (Or.inr q)
  exact W.lald (v := .long (rs_L σ v i.toNatClampNeg)) hx hb (rs_arr hH hv (by omega) (by omega)) ((hK.2.1 22 (by omega) (by omega)).1 _ _) (fun q => by cases q) (by rw [arrV_size]; exact hin) (by rw [arrV_read _ _ hlt]; rfl) rfl rfl hdg kk
theorem rs_dald (C : rs_C own cc nL ret G p s m meth c args) (hH : rs_H G Bm S σ H) {v : Nat} (hv : rs_Ok S 23 v) {i : Int32} (hin : vp_in i (S.2.2 v)) (hdg : decode cc pc = .ok (.daload, 1))
    (kk : W p l e R s m args below meth c H locs cells slots Q (F0 m (pc + 1) ls (.double (rs_D σ v i.toNatClampNeg) :: rest))) : W p l e R s m args below meth c H locs cells slots Q (F0 m pc ls (.int i :: .ref (Bm + v) :: rest)) := by
  obtain ⟨hx, hb, -, -, -, -, hK, -⟩ := C
  have hlt : i.toNatClampNeg < S.2.2 v := Nat.not_le.mp fun q => hin (Or.inr q)
  exact W.dald (v := .double (rs_D σ v i.toNatClampNeg)) hx hb (rs_arr hH hv (by omega) (by omega)) ((hK.2.1 23 (by omega) (by omega)).1 _ _) (fun q => by cases q) (by rw [arrV_size]; exact hin) (by rw [arrV_read _ _ hlt]; rfl) rfl rfl hdg kk
theorem rs_aald (C : rs_C own cc nL ret G p s m meth c args) (hH : rs_H G Bm S σ H) (hT : rs_T S σ) {v kd kr : Nat} (hv : rs_Ok S kd v) (h0 : (24 ≤ kd ∧ kd ≤ 26) ∧ rs_ae kd = kr ∧ (rs_et kd).isReference = true) {i : Int32} (hin : vp_in i (S.2.2 v)) (hdg : decode cc pc = .ok (.aaload, 1))
    (kk : rs_Ok S kr (rs_R σ v i.toNatClampNeg) → W p l e R s m args below meth c H locs cells slots Q (F0 m (pc + 1) ls (.ref (Bm + rs_R σ v i.toNatClampNeg) :: rest))) : W p l e R s m args below meth c H locs cells slots Q (F0 m pc ls (.int i :: .ref (Bm + v) :: rest)) := by
  obtain ⟨hx, hb, -, -, -, -, hK, -⟩ := C
  obtain ⟨⟨h1, h2⟩, rfl, h3⟩ := h0
  have hlt : i.toNatClampNeg < S.2.2 v := Nat.not_le.mp fun q => hin (Or.inr q)
  have ok := hT.2 kd v _ hv h1 h2 hlt
  have ev : rs_av Bm σ v kd i.toNatClampNeg = .ref (Bm + rs_R σ v i.toNatClampNeg) := by
    unfold rs_av
    rw [if_neg (by omega), if_neg (by omega), if_neg (by omega)]
    exact rs_rv_ok ok
  exact W.aald (v := .ref (Bm + rs_R σ v i.toNatClampNeg)) hx hb (rs_arr hH hv (by omega) (by omega)) ((hK.2.1 kd (by omega) (by omega)).1 _ _) h3 (fun q => by cases q) (by rw [arrV_size]; exact hin) (by rw [arrV_read _ _ hlt, ev]) rfl rfl hdg (kk ok)
theorem rs_cell_arr {σ' : rs_Mem} {H1 : Heap} {kd v k : Nat} {w : Value} (hv : rs_Ok S kd v) (h1 : 20 ≤ kd) (e1 : H1[Bm + v]? = some ((arrV (G.2 kd) (S.2.2 v) (rs_av Bm σ v kd)).setSlot k w)) (hn : ∀ j, updV (rs_av Bm σ v kd) k w j = rs_av Bm σ' v kd j) : rs_cell G Bm S σ' H1 v := by
  obtain ⟨a, b, rfl⟩ := hv
  refine ⟨fun _ h => by omega, fun _ _ => ?_⟩
  rw [e1, arrV_store]
  exact congrArg some (congrArg _ (funext hn))
theorem rs_iast (C : rs_C own cc nL ret G p s m meth c args) (hH : rs_H G Bm S σ H) (hT : rs_T S σ) (hS : va_S (rs_A Bm) H0 H locs) {v : Nat} {x : Int32} (hv : rs_Ok S 20 v) {i : Int32} (hin : vp_in i (S.2.2 v)) (hdg : decode cc pc = .ok (.iastore, 1))
    (kk : ∀ (σ1 : rs_Mem) (H1 : Heap) (locs1 : List Loc), σ1 = rs_sI σ v i.toNatClampNeg x → rs_H G Bm S σ1 H1 → rs_T S σ1 → va_S (rs_A Bm) H0 H1 locs1 → W p l e R s m args below meth c H1 locs1 cells slots Q (F0 m (pc + 1) ls rest)) : W p l e R s m args below meth c H locs cells slots Q (F0 m pc ls (.int x :: .int i :: .ref (Bm + v) :: rest)) := by
  obtain ⟨hx, hb, -, -, -, -, hK, -⟩ := C
  refine W.iast hx hb (rs_arr hH hv (by omega) (by omega)) ((hK.2.1 20 (by omega) (by omega)).1 _ _) (fun q => by cases q) (by rw [arrV_size]; exact hin) rfl rfl hdg fun H1 e1 z oq => ?_
  refine kk _ H1 _ rfl (hH.put rs_off_I z oq (rs_cell_arr hv (by omega) e1 fun j => ?_)) (rs_T_I hT) (hS.put z oq (by show Bm < Bm + v; have := hv.1; omega))
  by_cases hj : j = i.toNatClampNeg
  · subst hj; simp [updV, rs_av, rs_I, rs_sI, rs_up]
  · simp [updV, rs_av, rs_I, rs_sI, rs_up, hj]
theorem rs_zast (C : rs_C own cc nL ret G p s m meth c args) (hH : rs_H G Bm S σ H) (hT : rs_T S σ) (hS : va_S (rs_A Bm) H0 H locs) {v : Nat} {x : Int32} (hz : x &&& 1 = x) (hv : rs_Ok S 21 v) {i : Int32} (hin : vp_in i (S.2.2 v)) (hdg : decode cc pc = .ok (.bastore, 1))
    (kk : ∀ (σ1 : rs_Mem) (H1 : Heap) (locs1 : List Loc), σ1 = rs_sI σ v i.toNatClampNeg x → rs_H G Bm S σ1 H1 → rs_T S σ1 → va_S (rs_A Bm) H0 H1 locs1 → W p l e R s m args below meth c H1 locs1 cells slots Q (F0 m (pc + 1) ls rest)) : W p l e R s m args below meth c H locs cells slots Q (F0 m pc ls (.int x :: .int i :: .ref (Bm + v) :: rest)) := by
  obtain ⟨hx, hb, -, -, -, -, hK, -⟩ := C
  refine W.zast hx hb (rs_arr hH hv (by omega) (by omega)) ((hK.2.1 21 (by omega) (by omega)).1 _ _) (fun q => by cases q) (by rw [arrV_size]; exact hin) rfl rfl hdg fun H1 e1 z oq => ?_
  refine kk _ H1 _ rfl (hH.put rs_off_I z oq (rs_cell_arr hv (by omega) e1 fun j => ?_)) (rs_T_I hT) (hS.put z oq (by show Bm < Bm + v; have := hv.1; omega))
  have e : narrow .boolean (.int x) = .int x := congrArg Value.int hz
  rw [e]
  by_cases hj : j = i.toNatClampNeg
  · subst hj; simp [updV, rs_av, rs_I, rs_sI, rs_up]
  · simp [updV, rs_av, rs_I, rs_sI, rs_up, hj]
theorem rs_last (C : rs_C own cc nL ret G p s m meth c args) (hH : rs_H G Bm S σ H) (hT : rs_T S σ) (hS : va_S (rs_A Bm) H0 H locs) {v : Nat} {x : Int64} (hv : rs_Ok S 22 v) {i : Int32} (hin : vp_in i (S.2.2 v)) (hdg : decode cc pc = .ok (.lastore, 1))
    (kk : ∀ (σ1 : rs_Mem) (H1 : Heap) (locs1 : List Loc), σ1 = rs_sL σ v i.toNatClampNeg x → rs_H G Bm S σ1 H1 → rs_T S σ1 → va_S (rs_A Bm) H0 H1 locs1 → W p l e R s m args below meth c H1 locs1 cells slots Q (F0 m (pc + 1) ls rest)) : W p l e R s m args below meth c H locs cells slots Q (F0 m pc ls (.long x :: .int i :: .ref (Bm + v) :: rest)) := by
  obtain ⟨hx, hb, -, -, -, -, hK, -⟩ := C
  refine W.last hx hb (rs_arr hH hv (by omega) (by omega)) ((hK.2.1 22 (by omega) (by omega)).1 _ _) (fun q => by cases q) (by rw [arrV_size]; exact hin) rfl rfl hdg fun H1 e1 z oq => ?_
  refine kk _ H1 _ rfl (hH.put rs_off_L z oq (rs_cell_arr hv (by omega) e1 fun j => ?_)) (rs_T_L hT) (hS.put z oq (by show Bm < Bm + v; have := hv.1; omega))
  by_cases hj : j = i.toNatClampNeg
  · subst hj; simp [updV, rs_av, rs_L, rs_sL, rs_up]
  · simp [updV, rs_av, rs_L, rs_sL, rs_up, hj]
theorem rs_dast (C : rs_C own cc nL ret G p s m meth c args) (hH : rs_H G Bm S σ H) (hT : rs_T S σ) (hS : va_S (rs_A Bm) H0 H locs) {v : Nat} {x : UInt64} (hv : rs_Ok S 23 v) {i : Int32} (hin : vp_in i (S.2.2 v)) (hdg : decode cc pc = .ok (.dastore, 1))
    (kk : ∀ (σ1 : rs_Mem) (H1 : Heap) (locs1 : List Loc), σ1 = rs_sD σ v i.toNatClampNeg x → rs_H G Bm S σ1 H1 → rs_T S σ1 → va_S (rs_A Bm) H0 H1 locs1 → W p l e R s m args below meth c H1 locs1 cells slots Q (F0 m (pc + 1) ls rest)) : W p l e R s m args below meth c H locs cells slots Q (F0 m pc ls (.double x :: .int i :: .ref (Bm + v) :: rest)) := by
  obtain ⟨hx, hb, -, -, -, -, hK, -⟩ := C
  refine W.dast hx hb (rs_arr hH hv (by omega) (by omega)) ((hK.2.1 23 (by omega) (by omega)).1 _ _) (fun q => by cases q) (by rw [arrV_size]; exact hin) rfl rfl hdg fun H1 e1 z oq => ?_
  refine kk _ H1 _ rfl (hH.put rs_off_D z oq (rs_cell_arr hv (by omega) e1 fun j => ?_)) (rs_T_D hT) (hS.put z oq (by show Bm < Bm + v; have := hv.1; omega))
  by_cases hj : j = i.toNatClampNeg
  · subst hj; simp [updV, rs_av, rs_D, rs_sD, rs_up]
  · simp [updV, rs_av, rs_D, rs_sD, rs_up, hj]
theorem rs_alen (C : rs_C own cc nL ret G p s m meth c args) (hH : rs_H G Bm S σ H) {v kd : Nat} (hv : rs_Ok S kd v) (h0 : 20 ≤ kd ∧ kd ≤ 26) (hdg : decode cc pc = .ok (.arraylength, 1))
    (kk : W p l e R s m args below meth c H locs cells slots Q (F0 m (pc + 1) ls (.int (nI (S.2.2 v)) :: rest))) : W p l e R s m args below meth c H locs cells slots Q (F0 m pc ls (.ref (Bm + v) :: rest)) := by
  obtain ⟨hx, hb, -, -, -, -, hK, -⟩ := C
  exact W.alen (n := nI (S.2.2 v)) hx hb (rs_arr hH hv h0.1 h0.2) ((hK.2.1 kd h0.1 h0.2).1 _ _) (by rw [arrV_size]; rfl) rfl rfl hdg kk
-- answers
theorem rs_iret {Q' : Int32 → rs_Mem → Prop} (C : rs_C own cc nL (some .int) G p s m meth c args) (hH : rs_H G Bm S σ H) (hT : rs_T S σ) (hS : va_S (rs_A Bm) s.heap H locs) {v : Int32} (hF : Q' v σ) (hdg : decode cc pc = .ok (.ireturn, 1)) :
    W p l e R s m args below meth c H locs cells slots (MQ below (rs_Qi G Bm S Q') args s cells slots (rs_A Bm)) (F0 m pc ls [.int v]) := by
  obtain ⟨hx, hb, -, hr, -, -, hK, hlk⟩ := C
  exact W.iret hx hb hr (fun t ht hW => ⟨⟨v, σ, rfl, hF, by rw [ht]; exact hH, hT⟩, hS.F ht⟩) hS.2.2 hdg hlk
theorem rs_zret {Q' : Int32 → rs_Mem → Prop} (C : rs_C own cc nL (some .boolean) G p s m meth c args) (hH : rs_H G Bm S σ H) (hT : rs_T S σ) (hS : va_S (rs_A Bm) s.heap H locs) {v : Int32} (hz : v &&& 1 = v) (hF : Q' v σ) (hdg : decode cc pc = .ok (.ireturn, 1)) :
    W p l e R s m args below meth c H locs cells slots (MQ below (rs_Qi G Bm S Q') args s cells slots (rs_A Bm)) (F0 m pc ls [.int v]) := by
  obtain ⟨hx, hb, -, hr, -, -, hK, hlk⟩ := C
  exact W.zret hx hb hr (congrArg Value.int hz) (fun t ht hW => ⟨⟨v, σ, rfl, hF, by rw [ht]; exact hH, hT⟩, hS.F ht⟩) hS.2.2 hdg hlk
theorem rs_vret {Q' : rs_Mem → Prop} (C : rs_C own cc nL none G p s m meth c args) (hH : rs_H G Bm S σ H) (hT : rs_T S σ) (hS : va_S (rs_A Bm) s.heap H locs) (hF : Q' σ) (hdg : decode cc pc = .ok (.return_, 1)) :
    W p l e R s m args below meth c H locs cells slots (MQ below (rs_Qv G Bm S Q') args s cells slots (rs_A Bm)) (F0 m pc ls []) := by
  obtain ⟨hx, hb, -, hr, -, -, hK, hlk⟩ := C
  exact W.vret hx hb hr (fun t ht hW => ⟨⟨σ, rfl, hF, by rw [ht]; exact hH, hT⟩, hS.F ht⟩) hS.2.2 hdg hlk
theorem rs_dret {Q' : UInt64 → rs_Mem → Prop} (C : rs_C own cc nL (some .double) G p s m meth c args) (hH : rs_H G Bm S σ H) (hT : rs_T S σ) (hS : va_S (rs_A Bm) s.heap H locs) {v : UInt64} (hF : Q' v σ) (hdg : decode cc pc = .ok (.dreturn, 1)) :
    W p l e R s m args below meth c H locs cells slots (MQ below (rs_Qd G Bm S Q') args s cells slots (rs_A Bm)) (F0 m pc ls [.double v]) := by
  obtain ⟨hx, hb, -, hr, -, -, hK, hlk⟩ := C
  exact W.dret hx hb hr (fun t ht hW => ⟨⟨v, σ, rfl, hF, by rw [ht]; exact hH, hT⟩, hS.F ht⟩) hS.2.2 hdg hlk
theorem rs_aret {Q' : Nat → rs_Mem → Prop} {kd : Nat} {n : String} (C : rs_C own cc nL (some (.object n)) G p s m meth c args) (hH : rs_H G Bm S σ H) (hT : rs_T S σ) (hS : va_S (rs_A Bm) s.heap H locs) {v : Nat} (hv : rs_Ok S kd v) (hF : Q' v σ) (hdg : decode cc pc = .ok (.areturn, 1)) :
    W p l e R s m args below meth c H locs cells slots (MQ below (rs_Qr G Bm S kd Q') args s cells slots (rs_A Bm)) (F0 m pc ls [.ref (Bm + v)]) := by
  obtain ⟨hx, hb, -, hr, -, -, hK, hlk⟩ := C
  exact W.aret hx hb hr (Or.inl ⟨n, rfl⟩) (Or.inr ⟨_, rfl⟩) (fun t ht hW => ⟨⟨(v, σ), Bm + v, rfl, hF, rfl, hv, by rw [ht]; exact hH, hT⟩, hS.F ht⟩) hS.2.2 hdg hlk
-- calls
theorem rs_runV {y : MethodName} {bytes : ByteArray} {maxL n index kd v : Nat} {rt : Option FieldType} {rm : Room} {As : List Value} {Qc : Array Value → State → Outcome → State → Prop} {lv : List (Nat × Value)}
    (C : rs_C own cc nL ret G p s m meth c args) (hH : rs_H G Bm S σ H) (hT : rs_T S σ) (hl : lv_has ls nL lv) (hM : Met l y (rs_ws y bytes maxL rt) rm (rs_P G Bm S σ (.ref (Bm + v) :: As)) Qc 0 0 (rs_A Bm)) (hc : rs_Cal y bytes maxL rt n)
    (hlink : Cond.methodLink own index y ∈ rs_W) (hinst : Cond.instanceMethod y ∈ rs_W) (hsel : Cond.selects y.cls y y ∈ rs_W) (hv : rs_Ok S kd v) (hkd : y.cls = rs_cn kd ∧ 1 ≤ kd ∧ kd ≤ 11) (hn : As.length = n)
    (hR : (rm.cells = 0 ∧ rm.slots = 0) ∧ (rm.frames + 1 ≤ R.frames ∧ 8 + (maxL + 11) + rm.locals ≤ R.locals) ∧ cells ≤ R.cells ∧ slots ≤ R.slots) (hW : (rest.map fun v => v.category).sum ≤ 8) (hst : st0 = As.reverse ++ .ref (Bm + v) :: rest) (hdg : decode cc pc = .ok (.invokevirtual index, 3)) :
    va_Run p l e R s m args below meth c H locs cells slots 0 0 (F0 m pc ls st0) rest (Qc (Value.ref (Bm + v) :: As).toArray) (rs_A Bm) := by
  obtain ⟨hx, hb, hml, -, hown, hts, hK, -⟩ := C
  obtain ⟨cell, q1, q2, q3, -⟩ := rs_obj hH hv hkd.2.1 hkd.2.2
  have hfc := (hK.1.1 kd _ (rs_cl_at hkd.2.2)).2.1
  refine va_runV (C := y.cls) ⟨hx, hb, hml, hown, hts⟩ hM ⟨callB_of n hts (rs_good hc.1) rfl hR.1.1 hR.1.2 (hts _ hc.2.1) (hts _ hlink) hc.2.2 hR.2.1, hts _ hinst, hts _ hsel⟩ ⟨rs_blind, ⟨cell, q1, by rw [q3]; rfl, by rw [hkd.1, q2]; exact hfc⟩, fun U hU hWm => ⟨rfl, ⟨by rw [hU]; exact hH, hT⟩, hK.moved hWm⟩⟩ rfl hn hl.1 hst (lv_room (rest := st0) hW) hdg hR.2.2
theorem rs_runS {y : MethodName} {bytes : ByteArray} {maxL n index : Nat} {rt : Option FieldType} {rm : Room} {As : List Value} {Qc : Array Value → State → Outcome → State → Prop} {lv : List (Nat × Value)}
    (C : rs_C own cc nL ret G p s m meth c args) (hH : rs_H G Bm S σ H) (hT : rs_T S σ) (hl : lv_has ls nL lv) (hM : Met l y (rs_ws y bytes maxL rt) rm (rs_P G Bm S σ As) Qc 0 0 (rs_A Bm)) (hc : rs_Cal y bytes maxL rt n)
    (hlink : Cond.methodLink own index y ∈ rs_W) (hstat : Cond.static y ∈ rs_W) (hn : As.length = n)
    (hR : (rm.cells = 0 ∧ rm.slots = 0) ∧ (rm.frames + 1 ≤ R.frames ∧ 8 + (maxL + 11) + rm.locals ≤ R.locals) ∧ cells ≤ R.cells ∧ slots ≤ R.slots) (hW : (rest.map fun v => v.category).sum ≤ 8) (hst : st0 = As.reverse ++ rest) (hdg : decode cc pc = .ok (.invokestatic index, 3)) :
    va_Run p l e R s m args below meth c H locs cells slots 0 0 (F0 m pc ls st0) rest (Qc As.toArray) (rs_A Bm) := by
  obtain ⟨hx, hb, hml, -, hown, hts, hK, -⟩ := C
  refine va_runS ⟨hx, hb, hml, hown, hts⟩ hM ⟨callB_of n hts (rs_good hc.1) rfl hR.1.1 hR.1.2 (hts _ hc.2.1) (hts _ hlink) hc.2.2 hR.2.1, hts _ hstat⟩ ⟨rs_blind, fun U hU hWm => ⟨rfl, ⟨by rw [hU]; exact hH, hT⟩, hK.moved hWm⟩⟩ rfl hn hl.1 hst (lv_room (rest := st0) hW) hdg hR.2.2
theorem rs_runSN {y : MethodName} {host : String} {bytes : ByteArray} {maxL n index : Nat} {rt : Option FieldType} {rm : Room} {As : List Value} {Qc : Array Value → State → Outcome → State → Prop} {lv : List (Nat × Value)}
    (C : rs_C own cc nL ret G p s m meth c args) (hH : rs_H G Bm S σ H) (hT : rs_T S σ) (hl : lv_has ls nL lv) (hM : Met l y (rs_ws y bytes maxL rt) rm (rs_P G Bm S σ As) Qc 0 0 (rs_A Bm)) (hc : rs_Cal y bytes maxL rt n)
    (hlink : (own, index, y, host) ∈ rs_NW) (hstat : Cond.static y ∈ rs_W) (hn : As.length = n)
    (hR : (rm.cells = 0 ∧ rm.slots = 0) ∧ (rm.frames + 1 ≤ R.frames ∧ 8 + (maxL + 11) + rm.locals ≤ R.locals) ∧ cells ≤ R.cells ∧ slots ≤ R.slots) (hW : (rest.map fun v => v.category).sum ≤ 8) (hst : st0 = As.reverse ++ rest) (hdg : decode cc pc = .ok (.invokestatic index, 3)) :
    va_Run p l e R s m args below meth c H locs cells slots 0 0 (F0 m pc ls st0) rest (Qc As.toArray) (rs_A Bm) := by
  obtain ⟨hx, hb, hml, -, hown, hts, hK, -⟩ := C
  refine va_runSN (host := host) ⟨hx, hb, hml, hown, hts⟩ hM ⟨va_cnB n hts (rs_good hc.1) rfl hR.1.1 hR.1.2 (hK.2.2 _ hlink) (hts _ hc.2.1) hc.2.2 hR.2.1, hts _ hstat, trivial⟩ ⟨rs_blind, fun U hU hWm => ⟨rfl, ⟨by rw [hU]; exact hH, hT⟩, hK.moved hWm⟩⟩ rfl hn hl.1 hst (lv_room (rest := st0) hW) hdg hR.2.2
theorem rs_ci {Q' : Int32 → rs_Mem → Prop} {a : Array Value} (hr : va_Run p l e R s m args below meth c H locs cells slots 0 0 (F0 m pc ls st0) rest (rs_Qi G Bm S Q' a) (rs_A Bm)) (hS : va_S (rs_A Bm) H0 H locs)
    (kk : ∀ (r : Int32) (σ1 : rs_Mem) (H1 : Heap) (locs1 : List Loc), rs_H G Bm S σ1 H1 → rs_T S σ1 → va_S (rs_A Bm) H0 H1 locs1 → Q' r σ1 → W p l e R s m args below meth c H1 locs1 cells slots Q (F0 m (pc + 3) ls (.int r :: rest))) : W p l e R s m args below meth c H locs cells slots Q (F0 m pc ls st0) :=
  va_calli hr hS (fun _ _ h => h) (fun _ h => h) fun r u t H1 locs1 ht _ hp hB _ _ hS1 => kk r u H1 locs1 (by rw [← ht]; exact hB.1) hB.2 hS1 hp
theorem rs_cd {Q' : UInt64 → rs_Mem → Prop} {a : Array Value} (hr : va_Run p l e R s m args below meth c H locs cells slots 0 0 (F0 m pc ls st0) rest (rs_Qd G Bm S Q' a) (rs_A Bm)) (hS : va_S (rs_A Bm) H0 H locs)
    (kk : ∀ (r : UInt64) (σ1 : rs_Mem) (H1 : Heap) (locs1 : List Loc), rs_H G Bm S σ1 H1 → rs_T S σ1 → va_S (rs_A Bm) H0 H1 locs1 → Q' r σ1 → W p l e R s m args below meth c H1 locs1 cells slots Q (F0 m (pc + 3) ls (.double r :: rest))) : W p l e R s m args below meth c H locs cells slots Q (F0 m pc ls st0) :=
  va_calld hr hS (fun _ _ h => h) (fun _ h => h) fun r u t H1 locs1 ht _ hp hB _ _ hS1 => kk r u H1 locs1 (by rw [← ht]; exact hB.1) hB.2 hS1 hp
theorem rs_cv {Q' : rs_Mem → Prop} {a : Array Value} (hr : va_Run p l e R s m args below meth c H locs cells slots 0 0 (F0 m pc ls st0) rest (rs_Qv G Bm S Q' a) (rs_A Bm)) (hS : va_S (rs_A Bm) H0 H locs)
    (kk : ∀ (σ1 : rs_Mem) (H1 : Heap) (locs1 : List Loc), rs_H G Bm S σ1 H1 → rs_T S σ1 → va_S (rs_A Bm) H0 H1 locs1 → Q' σ1 → W p l e R s m args below meth c H1 locs1 cells slots Q (F0 m (pc + 3) ls rest)) : W p l e R s m args below meth c H locs cells slots Q (F0 m pc ls st0) :=
  va_callv hr hS (fun _ _ h => h) (fun _ h => h) fun u t H1 locs1 ht _ hp hB _ _ hS1 => kk u H1 locs1 (by rw [← ht]; exact hB.1) hB.2 hS1 hp
theorem rs_cr {Q' : Nat → rs_Mem → Prop} {kd : Nat} {a : Array Value} (hr : va_Run p l e R s m args below meth c H locs cells slots 0 0 (F0 m pc ls st0) rest (rs_Qr G Bm S kd Q' a) (rs_A Bm)) (hS : va_S (rs_A Bm) H0 H locs)
    (kk : ∀ (r : Nat) (σ1 : rs_Mem) (H1 : Heap) (locs1 : List Loc), rs_Ok S kd r → rs_H G Bm S σ1 H1 → rs_T S σ1 → va_S (rs_A Bm) H0 H1 locs1 → Q' r σ1 → W p l e R s m args below meth c H1 locs1 cells slots Q (F0 m (pc + 3) ls (.ref (Bm + r) :: rest))) : W p l e R s m args below meth c H locs cells slots Q (F0 m pc ls st0) :=
  va_callr hr hS (fun _ _ h => h) (fun _ h => h) fun u ra t H1 locs1 ht _ hp hB _ _ hS1 => by
    obtain ⟨rfl, hk, hB1, hB2⟩ := hB
    exact kk u.1 u.2 H1 locs1 hk (by rw [← ht]; exact hB1) hB2 hS1 hp
/-- Math.min -/
theorem rs_min (C : rs_C own cc nL ret G p s m meth c args) {lv : List (Nat × Value)} (hl : lv_has ls nL lv) {index : Nat} (hlink : Cond.methodLink own index Lib.Math.min.name ∈ rs_W) (hstat : Cond.static Lib.Math.min.name ∈ rs_W) (hini : Cond.initialized "java/lang/Math" ∈ rs_W) (hcode : Cond.code Lib.Math.min.name Lib.Math.min.code 2 (some .int) ∈ rs_W)
    (hR : 1 ≤ R.frames ∧ (rest.map fun v => v.category).sum + 13 ≤ R.locals ∧ cells ≤ R.cells ∧ slots ≤ R.slots) {x y : Int32} (hdg : decode cc pc = .ok (.invokestatic index, 3))
    (kk : W p l e R s m args below meth c H locs cells slots Q (F0 m (pc + 3) ls (.int (if y < x then y else x) :: rest))) : W p l e R s m args below meth c H locs cells slots Q (F0 m pc ls (.int y :: .int x :: rest)) := by
  obtain ⟨hx, hb, hml, -, hown, hts, hK, -⟩ := C
  exact va_mmin hx hb (by rw [hml]; exact hl.1.symm) hown (hts _ hlink) (hts _ hstat) (hts _ hini) (hts _ hcode) hR.1 hR.2.1 hR.2.2.1 hR.2.2.2 hdg kk
end RSR
