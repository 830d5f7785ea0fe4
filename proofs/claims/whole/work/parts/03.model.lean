/-! THE MEMORY: what the cells hold that the class, the reference and the law have made: ints, longs, doubles and references, by the number of the cell and the place in it. Reference 0 is null, v is the cell at Bm + v. A shape: how many cells, the kind of each, the length of each array. -/
abbrev rs_Mem : Type := (Nat → Nat → Int32) × (Nat → Nat → Int64) × (Nat → Nat → UInt64) × (Nat → Nat → Nat)
def rs_up {α : Type} (f : Nat → Nat → α) (a k : Nat) (v : α) : Nat → Nat → α := fun b j => if b = a ∧ j = k then v else f b j
def rs_I (σ : rs_Mem) : Nat → Nat → Int32 := σ.1
def rs_L (σ : rs_Mem) : Nat → Nat → Int64 := σ.2.1
def rs_D (σ : rs_Mem) : Nat → Nat → UInt64 := σ.2.2.1
def rs_R (σ : rs_Mem) : Nat → Nat → Nat := σ.2.2.2
def rs_sI (σ : rs_Mem) (a k : Nat) (v : Int32) : rs_Mem := (rs_up σ.1 a k v, σ.2)
def rs_sL (σ : rs_Mem) (a k : Nat) (v : Int64) : rs_Mem := (σ.1, rs_up σ.2.1 a k v, σ.2.2)
def rs_sD (σ : rs_Mem) (a k : Nat) (v : UInt64) : rs_Mem := (σ.1, σ.2.1, rs_up σ.2.2.1 a k v, σ.2.2.2)
def rs_sR (σ : rs_Mem) (a k : Nat) (v : Nat) : rs_Mem := (σ.1, σ.2.1, σ.2.2.1, rs_up σ.2.2.2 a k v)
abbrev rs_Shp : Type := Nat × (Nat → Nat) × (Nat → Nat)
def rs_Ok (S : rs_Shp) (kd v : Nat) : Prop := 0 < v ∧ v ≤ S.1 ∧ S.2.1 v = kd
def rs_rv (Bm r : Nat) : Value := if r = 0 then .null else .ref (Bm + r)
def rs_fv (Bm : Nat) (σ : rs_Mem) (v kd : Nat) (k : Nat) : Value := if rs_rf kd k = 0 then .int (rs_I σ v k) else rs_rv Bm (rs_R σ v k)
def rs_av (Bm : Nat) (σ : rs_Mem) (v kd : Nat) (j : Nat) : Value := if kd = 22 then .long (rs_L σ v j) else if kd = 23 then .double (rs_D σ v j) else if kd ≤ 21 then .int (rs_I σ v j) else rs_rv Bm (rs_R σ v j)
abbrev rs_G : Type := va_G × (Nat → ClassId)
def rs_cell (G : rs_G) (Bm : Nat) (S : rs_Shp) (σ : rs_Mem) (H : Heap) (v : Nat) : Prop :=
  (1 ≤ S.2.1 v → S.2.1 v ≤ 11 → t_OB (Bm + v) (G.1.1 (S.2.1 v)) (rs_nf (S.2.1 v)) (G.1.2 (S.2.1 v)) H (rs_fv Bm σ v (S.2.1 v))) ∧
  (20 ≤ S.2.1 v → S.2.1 v ≤ 26 → H[Bm + v]? = some (arrV (G.2 (S.2.1 v)) (S.2.2 v) (rs_av Bm σ v (S.2.1 v))))
def rs_H (G : rs_G) (Bm : Nat) (S : rs_Shp) (σ : rs_Mem) (H : Heap) : Prop := Bm + S.1 < H.size ∧ ∀ v, 0 < v → v ≤ S.1 → rs_cell G Bm S σ H v
def rs_T (S : rs_Shp) (σ : rs_Mem) : Prop :=
  (∀ kd v k, rs_Ok S kd v → 1 ≤ kd → kd ≤ 11 → k < rs_nf kd → rs_rf kd k ≠ 0 → rs_Ok S (rs_rf kd k) (rs_R σ v k)) ∧
  (∀ kd v j, rs_Ok S kd v → 24 ≤ kd → kd ≤ 26 → j < S.2.2 v → rs_Ok S (rs_ae kd) (rs_R σ v j))
def rs_K (G : rs_G) (U : State) : Prop := va_K G.1 rs_cl [] U ∧ (∀ kd, 20 ≤ kd → kd ≤ 26 → ArrOfT U (G.2 kd) (rs_et kd) ∧ va_RA U (G.2 kd) (rs_et kd)) ∧ ∀ q ∈ rs_NW, va_Nw (.methodLinkNest q.1 q.2.1 q.2.2.1 q.2.2.2) U
def rs_B (G : rs_G) (Bm : Nat) (S : rs_Shp) (σ : rs_Mem) (U : State) : Prop := rs_H G Bm S σ U.heap ∧ rs_T S σ
/-- the places that a method may write -/
def rs_A (Bm : Nat) : Nat → Prop := fun q => Bm < q
theorem rs_K.moved {G : rs_G} {u U : State} (hW : u.WarmedH U.vm) (h : rs_K G u) : rs_K G U :=
  ⟨h.1.moved hW.alike, fun kd a b => ⟨arrOfT_moved hW.alike (h.2.1 kd a b).1, (h.2.1 kd a b).2.moved hW.alike⟩, fun q hq => va_Nw.warmM hW (h.2.2 q hq)⟩
theorem rs_K.same {G : rs_G} {u U : State} (hvm : u.vm = U.vm) (h : rs_K G u) : rs_K G U := by
  have a : u.vm.Alike U.vm := hvm ▸ Vm.Alike.refl u.vm
  exact ⟨h.1.moved a, fun kd a1 b => ⟨arrOfT_moved a (h.2.1 kd a1 b).1, (h.2.1 kd a1 b).2.moved a⟩, fun q hq => va_Nw.same rfl hvm (h.2.2 q hq)⟩
/-- a method's words: its own code, and the tables' -/
def rs_ws (y : MethodName) (bytes : ByteArray) (maxL : Nat) (ret : Option FieldType) : List Cond := .code y bytes maxL ret :: rs_W
def rs_P (G : rs_G) (Bm : Nat) (S : rs_Shp) (σ : rs_Mem) (vs : List Value) : Array Value → State → Prop := va_Pc vs (fun U => rs_B G Bm S σ U ∧ rs_K G U)
def rs_Qi (G : rs_G) (Bm : Nat) (S : rs_Shp) (Q : Int32 → rs_Mem → Prop) : Array Value → State → Outcome → State → Prop := va_Qi Q (rs_B G Bm S) (rs_A Bm)
def rs_Qd (G : rs_G) (Bm : Nat) (S : rs_Shp) (Q : UInt64 → rs_Mem → Prop) : Array Value → State → Outcome → State → Prop := va_Qd Q (rs_B G Bm S) (rs_A Bm)
def rs_Qv (G : rs_G) (Bm : Nat) (S : rs_Shp) (Q : rs_Mem → Prop) : Array Value → State → Outcome → State → Prop := va_Qv Q (rs_B G Bm S) (rs_A Bm)
/-- what a method's body stands on -/
def rs_C (own : String) (cc : ByteArray) (nL : Nat) (ret : Option FieldType) (G : rs_G) (p : Program) (s : State) (m : MethodId) (meth : Method) (c : Code) (args : Array Value) : Prop :=
  p.tables.exec = Jvm.exec ∧ c.code = cc ∧ c.maxLocals = nL ∧ meth.sig.returnType = ret ∧ s.vm.findClass own = some m.cls ∧ (∀ w ∈ rs_W, w.before args s = true) ∧ rs_K G s ∧ meth.locks = false
theorem rs_blind {G : rs_G} {Bm : Nat} {S : rs_Shp} {σ : rs_Mem} {vs : List Value} : FrameBlind (rs_P G Bm S σ vs) := fun a U g mk q => by
  obtain ⟨q0, q1, q3⟩ := q
  exact ⟨q0, q1, rs_K.same (u := U) (U := U.calling g mk a) rfl q3⟩
theorem rs_met {own : String} {cc : ByteArray} {nL : Nat} {ret : Option FieldType} {G : rs_G} {Bm : Nat} {S : rs_Shp} {σ : rs_Mem} {vs : List Value} {Qc : Array Value → State → Outcome → State → Prop} {rm : Room} {y : MethodName} {l : Launch}
    (hy : plainName y.cls = true) (hown : y.cls = own) (hlen : (lg_sl vs).length ≤ nL)
    (body : ∀ (p : Program) (e : Env) (s : State) (m : MethodId) (below : List Frame) (meth : Method) (c : Code) (ls : Array Slot), rs_C own cc nL ret G p s m meth c vs.toArray → lv_has ls nL (lv_args 0 vs) → rs_H G Bm S σ s.heap → rs_T S σ → va_S (rs_A Bm) s.heap s.heap [] →
      W p l e rm s m vs.toArray below meth c s.heap [] 0 0 (MQ below Qc vs.toArray s 0 0 (rs_A Bm)) (F0 m 0 ls [])) : Met l y (rs_ws y cc nL ret) rm (rs_P G Bm S σ vs) Qc 0 0 (rs_A Bm) := by
  refine Met.ofW (cc := cc) (maxL := nL) (ret := ret) hy rfl ?_
  intro p e s m args below meth c s₁ B hml hv
  obtain ⟨rfl, ⟨hH, hT⟩, hK⟩ := hv
  have hts := atoms_spec (ws := rs_ws y cc nL ret) B.pre
  have ho : s.vm.findClass own = some m.cls := by rw [← hown]; exact findClass_of_methodNamed B.named
  have hl := lv_entry vs (n := nL) hlen
  rw [lg_entry_eq]
  exact body p e s m below meth c _ ⟨B.exec, B.bytes, hml, B.returns, ho, fun w hw => hts w (List.mem_cons_of_mem _ hw), hK, B.notSynchronized⟩ hl hH hT va_S.rf
-- what the tables say of the fields
theorem rs_cl_at {kd : Nat} (h2 : kd ≤ 11) : rs_cl[kd]? = some (rs_cn kd, rs_ft kd, rs_nf kd) := by
  have : kd < 12 := by omega
  simp [rs_cl, this]
theorem rs_lays : ∀ kd, 1 ≤ kd → kd ≤ 11 → ∀ w ∈ u_ws (rs_cn kd) (rs_ft kd) (rs_nf kd), w ∈ rs_W := by
  intro kd h1 h2 w hw
  have key : ∀ kd, kd < 12 → ∀ w ∈ u_ws (rs_cn kd) (rs_ft kd) (rs_nf kd), w ∈ rs_W := by decide +kernel
  exact key kd (by omega) w hw
theorem rs_own : ∀ kd, kd < 12 → ∀ k, k < rs_nf kd → (rs_ft kd k).1 = rs_cn kd := by decide +kernel
theorem rs_pd : ∀ kd, kd < 12 → ∀ k, k < rs_nf kd → parseFieldDescriptor (rs_ft kd k).2.2.1 = some (rs_ty kd k) := by decide +kernel
theorem rs_nm : ∀ kd, kd < 12 → ∀ a, a < rs_nf kd → ∀ b, b < rs_nf kd → a ≠ b → (rs_ft kd a).2.1 ≠ (rs_ft kd b).2.1 := by decide +kernel
theorem rs_kty : ∀ kd, kd < 12 → ∀ k, k < rs_nf kd → rs_rf kd k = 0 → rs_ty kd k = .int := by decide +kernel
section RSM
variable {p : Program} {l : Launch} {e : Env} {R : Room} {s : State} {m : MethodId} {args : Array Value} {below : List Frame} {meth : Method} {c : Code} {H : Heap} {locs : List Loc} {cells slots : Nat} {Q : State → Prop}
variable {cc : ByteArray} {pc : Nat} {ls : Array Slot} {rest : List Value} {G : rs_G} {Bm : Nat} {S : rs_Shp} {σ : rs_Mem} {own : String} {nL : Nat} {ret : Option FieldType} {H0 : Heap}
theorem rs_obj (hH : rs_H G Bm S σ H) {kd v : Nat} (hv : rs_Ok S kd v) (h1 : 1 ≤ kd) (h2 : kd ≤ 11) : t_OB (Bm + v) (G.1.1 kd) (rs_nf kd) (G.1.2 kd) H (rs_fv Bm σ v kd) := by
  obtain ⟨a, b, rfl⟩ := hv
  exact (hH.2 v a b).1 h1 h2
theorem rs_arr (hH : rs_H G Bm S σ H) {kd v : Nat} (hv : rs_Ok S kd v) (h1 : 20 ≤ kd) (h2 : kd ≤ 26) : H[Bm + v]? = some (arrV (G.2 kd) (S.2.2 v) (rs_av Bm σ v kd)) := by
  obtain ⟨a, b, rfl⟩ := hv
  exact (hH.2 v a b).2 h1 h2
/-- memories that differ at one cell alone -/
def rs_off (σ σ' : rs_Mem) (v : Nat) : Prop := ∀ u, u ≠ v → ∀ k, rs_I σ' u k = rs_I σ u k ∧ rs_L σ' u k = rs_L σ u k ∧ rs_D σ' u k = rs_D σ u k ∧ rs_R σ' u k = rs_R σ u k
theorem rs_H.put {σ' : rs_Mem} {H1 : Heap} {v : Nat} (hH : rs_H G Bm S σ H) (ho : rs_off σ σ' v) (hz : H1.size = H.size) (hq : ∀ q : Nat, q ≠ Bm + v → H1[q]? = H[q]?) (hv : rs_cell G Bm S σ' H1 v) : rs_H G Bm S σ' H1 := by
  refine ⟨by rw [hz]; exact hH.1, fun u h0 hn => ?_⟩
  by_cases hu : u = v
  · subst hu; exact hv
  · have e1 : ∀ kd, rs_fv Bm σ' u kd = rs_fv Bm σ u kd := fun kd => by
      funext k; unfold rs_fv; rw [(ho u hu k).1, (ho u hu k).2.2.2]
    have e2 : ∀ kd, rs_av Bm σ' u kd = rs_av Bm σ u kd := fun kd => by
      funext k; unfold rs_av; rw [(ho u hu k).1, (ho u hu k).2.1, (ho u hu k).2.2.1, (ho u hu k).2.2.2]
    have hne : Bm + u ≠ Bm + v := by omega
    have h := hH.2 u h0 hn
    refine ⟨fun a b => ?_, fun a b => ?_⟩
    · rw [e1]; exact (h.1 a b).kept (hq _ hne)
    · rw [e2, hq _ hne]; exact h.2 a b
theorem rs_off_I {a k : Nat} {x : Int32} : rs_off σ (rs_sI σ a k x) a := fun u hu j => ⟨by simp [rs_I, rs_sI, rs_up, hu], rfl, rfl, rfl⟩
theorem rs_off_L {a k : Nat} {x : Int64} : rs_off σ (rs_sL σ a k x) a := fun u hu j => ⟨rfl, by simp [rs_L, rs_sL, rs_up, hu], rfl, rfl⟩
theorem rs_off_D {a k : Nat} {x : UInt64} : rs_off σ (rs_sD σ a k x) a := fun u hu j => ⟨rfl, rfl, by simp [rs_D, rs_sD, rs_up, hu], rfl⟩
theorem rs_off_R {a k : Nat} {x : Nat} : rs_off σ (rs_sR σ a k x) a := fun u hu j => ⟨rfl, rfl, rfl, by simp [rs_R, rs_sR, rs_up, hu]⟩
theorem rs_T_I {a k : Nat} {x : Int32} (h : rs_T S σ) : rs_T S (rs_sI σ a k x) := h
theorem rs_T_L {a k : Nat} {x : Int64} (h : rs_T S σ) : rs_T S (rs_sL σ a k x) := h
theorem rs_T_D {a k : Nat} {x : UInt64} (h : rs_T S σ) : rs_T S (rs_sD σ a k x) := h
theorem rs_fld (hts : ∀ w ∈ rs_W, w.before args s = true) (hK : rs_K G s) {kd k : Nat} (h1 : 1 ≤ kd) (h2 : kd ≤ 11) (hk : k < rs_nf kd) :
    ∃ (cC : ClassId) (kC : Class) (cf fi : Nat) (kf : Class) (f : Field), s.vm.findClass (rs_cn kd) = some cC ∧ cC = G.1.1 kd ∧ s.vm.classes[cC]? = some kC ∧ kC.kind = .ordinary ∧ s.fieldFound? (rs_cn kd) (rs_ft kd k).2.1 (rs_ft kd k).2.2.1 = some (cf, kf, fi, f) ∧ f.isStatic = false ∧ f.slot = G.1.2 kd k := by
  obtain ⟨hS, hfc, kC, hkC, hkind⟩ := hK.1.1 kd _ (rs_cl_at h2)
  obtain ⟨cf, kf, fi, f, hi, hsl⟩ := hS k hk
  have hst := (u_facts hfc hkC (u_lays hts (rs_lays kd h1 h2) hk) hi).1
  have e := rs_own kd (by omega) k hk
  dsimp only at hi hfc hkC
  rw [e] at hi
  exact ⟨_, kC, cf, fi, kf, f, hfc, rfl, hkC, hkind, hi, hst, hsl⟩
theorem rs_get (C : rs_C own cc nL ret G p s m meth c args) (hH : rs_H G Bm S σ H) {kd v k index : Nat} (hv : rs_Ok S kd v) (h1 : 1 ≤ kd) (h2 : kd ≤ 11) (hk : k < rs_nf kd)
    (hlink : Cond.fieldLink own index (rs_cn kd) (rs_ft kd k).2.1 (rs_ft kd k).2.2.1 ∈ rs_W) (hdg : decode cc pc = .ok (.getfield index, 3))
    (kk : W p l e R s m args below meth c H locs cells slots Q (F0 m (pc + 3) ls (rs_fv Bm σ v kd k :: rest))) : W p l e R s m args below meth c H locs cells slots Q (F0 m pc ls (.ref (Bm + v) :: rest)) := by
  obtain ⟨hx, hb, -, -, hown, hts, hK, -⟩ := C
  obtain ⟨cell, q1, q2, q3, q4⟩ := rs_obj hH hv h1 h2
  obtain ⟨cC, kC, cf, fi, kf, f, -, -, -, -, hi, hst, hsl⟩ := rs_fld hts hK h1 h2 hk
  exact W.getf hx hb hown (hts _ hlink) hi hst q1 (by rw [q3]; exact fun h => by cases h) (v := rs_fv Bm σ v kd k) (by rw [hsl]; exact q4 k hk) rfl rfl hdg kk
theorem rs_getI (C : rs_C own cc nL ret G p s m meth c args) (hH : rs_H G Bm S σ H) {kd v k index : Nat} (hv : rs_Ok S kd v) (h0 : (1 ≤ kd ∧ kd ≤ 11) ∧ k < rs_nf kd ∧ rs_rf kd k = 0)
    (hlink : Cond.fieldLink own index (rs_cn kd) (rs_ft kd k).2.1 (rs_ft kd k).2.2.1 ∈ rs_W) (hdg : decode cc pc = .ok (.getfield index, 3))
    (kk : W p l e R s m args below meth c H locs cells slots Q (F0 m (pc + 3) ls (.int (rs_I σ v k) :: rest))) : W p l e R s m args below meth c H locs cells slots Q (F0 m pc ls (.ref (Bm + v) :: rest)) := by
  refine rs_get C hH hv h0.1.1 h0.1.2 h0.2.1 hlink hdg ?_
  have e : rs_fv Bm σ v kd k = .int (rs_I σ v k) := if_pos h0.2.2
  rw [e]; exact kk
theorem rs_rv_ok {kd r : Nat} (h : rs_Ok S kd r) : rs_rv Bm r = .ref (Bm + r) := if_neg (by have := h.1; omega)
theorem rs_getR (C : rs_C own cc nL ret G p s m meth c args) (hH : rs_H G Bm S σ H) (hT : rs_T S σ) {kd v k kr index : Nat} (hv : rs_Ok S kd v) (h0 : (1 ≤ kd ∧ kd ≤ 11) ∧ k < rs_nf kd ∧ rs_rf kd k = kr ∧ kr ≠ 0)
    (hlink : Cond.fieldLink own index (rs_cn kd) (rs_ft kd k).2.1 (rs_ft kd k).2.2.1 ∈ rs_W) (hdg : decode cc pc = .ok (.getfield index, 3))
    (kk : rs_Ok S kr (rs_R σ v k) → W p l e R s m args below meth c H locs cells slots Q (F0 m (pc + 3) ls (.ref (Bm + rs_R σ v k) :: rest))) : W p l e R s m args below meth c H locs cells slots Q (F0 m pc ls (.ref (Bm + v) :: rest)) := by
  refine rs_get C hH hv h0.1.1 h0.1.2 h0.2.1 hlink hdg ?_
  obtain ⟨⟨a1, a2⟩, a3, rfl, a5⟩ := h0
  have ok := hT.1 kd v k hv a1 a2 a3 a5
  have e : rs_fv Bm σ v kd k = .ref (Bm + rs_R σ v k) := by unfold rs_fv; rw [if_neg a5]; exact rs_rv_ok ok
  rw [e]; exact kk ok
theorem rs_apart (hts : ∀ w ∈ rs_W, w.before args s = true) (hK : rs_K G s) {kd : Nat} (h1 : 1 ≤ kd) (h2 : kd ≤ 11) : ∀ x y, x < rs_nf kd → y < rs_nf kd → x ≠ y → G.1.2 kd x ≠ G.1.2 kd y :=
  va_apart (own := "") hts (rs_lays kd h1 h2) (rs_ty kd) (fun k hk => rs_pd kd (by omega) k hk) (rs_nm kd (by omega)) hK.1 (rs_cl_at h2)
theorem rs_cell_fld {σ' : rs_Mem} {H1 : Heap} {kd v k : Nat} {w : Value} {cell : Cell} (hv : rs_Ok S kd v) (h2 : kd ≤ 11) (q2 : cell.cls = G.1.1 kd) (q3 : cell.vm = .none) (q4 : ∀ j, j < rs_nf kd → cell.slots[G.1.2 kd j]? = some (rs_fv Bm σ v kd j))
    (hap : ∀ x y, x < rs_nf kd → y < rs_nf kd → x ≠ y → G.1.2 kd x ≠ G.1.2 kd y) (hk : k < rs_nf kd) (e1 : H1[Bm + v]? = some (cell.setSlot (G.1.2 kd k) w)) (hn : ∀ j, j < rs_nf kd → updV (rs_fv Bm σ v kd) k w j = rs_fv Bm σ' v kd j) : rs_cell G Bm S σ' H1 v := by
  obtain ⟨a, b, rfl⟩ := hv
  refine ⟨fun _ _ => t_OB.to (V := updV (rs_fv Bm σ v (S.2.1 v)) k w) ⟨_, e1, q2, q3, t_set q4 hap hk w⟩ hn, fun h _ => by omega⟩
theorem rs_put (C : rs_C own cc nL ret G p s m meth c args) (hH : rs_H G Bm S σ H) (hS : va_S (rs_A Bm) H0 H locs) {kd v k index : Nat} {w : Value} {σ' : rs_Mem} (hv : rs_Ok S kd v) (h1 : 1 ≤ kd) (h2 : kd ≤ 11) (hk : k < rs_nf kd) (hfin : (rs_ft kd k).2.2.2 = false)
    (hn : narrow (rs_ty kd k) w = w) (hfit : fits (rs_ty kd k) w = true) (ho : rs_off σ σ' v) (hw : ∀ j, j < rs_nf kd → updV (rs_fv Bm σ v kd) k w j = rs_fv Bm σ' v kd j)
    (hlink : Cond.fieldLink own index (rs_cn kd) (rs_ft kd k).2.1 (rs_ft kd k).2.2.1 ∈ rs_W) (hdg : decode cc pc = .ok (.putfield index, 3))
    (kk : ∀ (H1 : Heap) (locs1 : List Loc), rs_H G Bm S σ' H1 → va_S (rs_A Bm) H0 H1 locs1 → W p l e R s m args below meth c H1 locs1 cells slots Q (F0 m (pc + 3) ls rest)) : W p l e R s m args below meth c H locs cells slots Q (F0 m pc ls (w :: .ref (Bm + v) :: rest)) := by
  obtain ⟨hx, hb, -, -, hown, hts, hK, -⟩ := C
  obtain ⟨cell, q1, q2, q3, q4⟩ := rs_obj hH hv h1 h2
  obtain ⟨cC, kC, cf, fi, kf, f, hfc, hcC, hkC, hkind, hi, hst, hsl⟩ := rs_fld hts hK h1 h2 hk
  have hlay := hts _ (rs_lays kd h1 h2 _ (u_in_lay hk))
  unfold u_lay at hlay
  rw [if_neg (by rw [hfin]; decide), rs_own kd (by omega) k hk] at hlay
  have h6 := u_store hfc hkC hkind hlay hi (rs_pd kd (by omega) k hk) hn hfit
  refine W.putK hx hb (f := f) ⟨hown, hts _ hlink, ⟨_, _, _, hi⟩, hst⟩ (by rw [q2, ← hcC]; exact h6) q1 q3 (by rw [hsl]; exact k2_hasslot (q4 k hk)) rfl rfl hdg fun H' e1 e2 e3 => ?_
  rw [hsl] at e1 ⊢
  exact kk H' _ (hH.put ho e2 e3 (rs_cell_fld hv h2 q2 q3 q4 (rs_apart hts hK h1 h2) hk e1 hw)) (hS.put e2 e3 (by show Bm < Bm + v; have := hv.1; omega))
theorem rs_fvI {kd v k : Nat} {x : Int32} (h : rs_rf kd k = 0) (j : Nat) : updV (rs_fv Bm σ v kd) k (.int x) j = rs_fv Bm (rs_sI σ v k x) v kd j := by
  unfold updV rs_fv
  by_cases hj : j = k
  · subst hj; simp [h, rs_I, rs_sI, rs_up]
  · rw [if_neg hj]; simp [rs_I, rs_sI, rs_up, hj, rs_R]
theorem rs_fvR {kd v k : Nat} {x : Nat} (h : rs_rf kd k ≠ 0) (hx : x ≠ 0) (j : Nat) : updV (rs_fv Bm σ v kd) k (.ref (Bm + x)) j = rs_fv Bm (rs_sR σ v k x) v kd j := by
  unfold updV rs_fv
  by_cases hj : j = k
  · subst hj; simp [h, rs_R, rs_sR, rs_up, rs_rv, hx]
  · rw [if_neg hj]; simp [rs_I, rs_sR, rs_up, hj, rs_R]
theorem rs_putI (C : rs_C own cc nL ret G p s m meth c args) (hH : rs_H G Bm S σ H) (hT : rs_T S σ) (hS : va_S (rs_A Bm) H0 H locs) {kd v k index : Nat} {x : Int32} (hv : rs_Ok S kd v) (h0 : (1 ≤ kd ∧ kd ≤ 11) ∧ k < rs_nf kd ∧ rs_rf kd k = 0) (hfin : (rs_ft kd k).2.2.2 = false)
    (hlink : Cond.fieldLink own index (rs_cn kd) (rs_ft kd k).2.1 (rs_ft kd k).2.2.1 ∈ rs_W) (hdg : decode cc pc = .ok (.putfield index, 3))
    (kk : ∀ (σ1 : rs_Mem) (H1 : Heap) (locs1 : List Loc), σ1 = rs_sI σ v k x → rs_H G Bm S σ1 H1 → rs_T S σ1 → va_S (rs_A Bm) H0 H1 locs1 → W p l e R s m args below meth c H1 locs1 cells slots Q (F0 m (pc + 3) ls rest)) : W p l e R s m args below meth c H locs cells slots Q (F0 m pc ls (.int x :: .ref (Bm + v) :: rest)) := by
  have ht := rs_kty kd (by omega) k h0.2.1 h0.2.2
  exact rs_put C hH hS hv h0.1.1 h0.1.2 h0.2.1 hfin (by rw [ht]; rfl) (by rw [ht]; rfl) rs_off_I (fun j _ => rs_fvI h0.2.2 j) hlink hdg fun H1 locs1 g1 g2 => kk _ H1 locs1 rfl g1 (rs_T_I hT) g2
theorem rs_putR (C : rs_C own cc nL ret G p s m meth c args) (hH : rs_H G Bm S σ H) (hT : rs_T S σ) (hS : va_S (rs_A Bm) H0 H locs) {kd v k kr index : Nat} {x : Nat} (hv : rs_Ok S kd v) (h0 : (1 ≤ kd ∧ kd ≤ 11) ∧ k < rs_nf kd ∧ rs_rf kd k = kr ∧ kr ≠ 0) (hfin : (rs_ft kd k).2.2.2 = false)
    (hn : narrow (rs_ty kd k) (.ref (Bm + x)) = .ref (Bm + x)) (hfit : fits (rs_ty kd k) (.ref (Bm + x)) = true) (hr : rs_Ok S kr x)
    (hlink : Cond.fieldLink own index (rs_cn kd) (rs_ft kd k).2.1 (rs_ft kd k).2.2.1 ∈ rs_W) (hdg : decode cc pc = .ok (.putfield index, 3))
    (kk : ∀ (σ1 : rs_Mem) (H1 : Heap) (locs1 : List Loc), σ1 = rs_sR σ v k x → rs_H G Bm S σ1 H1 → rs_T S σ1 → va_S (rs_A Bm) H0 H1 locs1 → W p l e R s m args below meth c H1 locs1 cells slots Q (F0 m (pc + 3) ls rest)) : W p l e R s m args below meth c H locs cells slots Q (F0 m pc ls (.ref (Bm + x) :: .ref (Bm + v) :: rest)) := by
  obtain ⟨⟨a1, a2⟩, a3, a4, a5⟩ := h0
  have hx0 : x ≠ 0 := by have := hr.1; omega
  refine rs_put C hH hS hv a1 a2 a3 hfin hn hfit rs_off_R (fun j _ => rs_fvR (by rw [a4]; exact a5) hx0 j) hlink hdg fun H1 locs1 g1 g2 => kk _ H1 locs1 rfl g1 ⟨?_, ?_⟩ g2
  · intro kd' v' k' hv' b1 b2 b3 b4
    by_cases h : v' = v ∧ k' = k
    · obtain ⟨rfl, rfl⟩ := h
      have : kd' = kd := hv'.2.2.symm.trans hv.2.2
      subst this
      rw [a4]
      simpa [rs_R, rs_sR, rs_up] using hr
    · have := hT.1 kd' v' k' hv' b1 b2 b3 b4
      simpa [rs_R, rs_sR, rs_up, h] using this
  · intro kd' v' j hv' b1 b2 b3
    have hne : ¬ (v' = v ∧ j = k) := fun h => by
      obtain ⟨rfl, rfl⟩ := h
      have : kd' = kd := hv'.2.2.symm.trans hv.2.2
      omega
    have := hT.2 kd' v' j hv' b1 b2 b3
    simpa [rs_R, rs_sR, rs_up, hne] using this
theorem rs_topr {r : Nat} (k : ∀ y : Nat, y = r → W p l e R s m args below meth c H locs cells slots Q (F0 m pc ls (.ref (Bm + y) :: rest))) : W p l e R s m args below meth c H locs cells slots Q (F0 m pc ls (.ref (Bm + r) :: rest)) := k r rfl
end RSM
